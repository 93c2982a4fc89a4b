-- the pure side: a rule is put
def zput8 (R : Nat → Int32) (r : Nat) (x q t : Int32) : Nat → Int32 := upd (upd (upd R (55 + 3 * r) x) (55 + 3 * r + 1) q) (55 + 3 * r + 2) t
theorem zput8_at (R : Nat → Int32) (r k w : Nat) (x q t : Int32) (hw : w < 3) : zput8 R r x q t (55 + 3 * k + w) = if k = r then (if w = 0 then x else if w = 1 then q else t) else R (55 + 3 * k + w) := by
  unfold zput8
  by_cases e : k = r
  · subst e
    rw [if_pos rfl]
    match w, hw with
    | 0, _ => rw [if_pos rfl, pk_un (by omega), pk_un (by omega)]; exact pk_us
    | 1, _ => rw [if_neg (by omega), if_pos rfl, pk_un (by omega), pk_us]
    | 2, _ => rw [if_neg (by omega), if_neg (by omega), pk_us]
  · rw [if_neg e, pk_un (by omega), pk_un (by omega), pk_un (by omega)]
theorem zputR_13 (c : Nat → Int32) (f j : Nat) (q t : Int32) (hf : f < 24) (hj : j < 24) : zputR c f q t (13 * 24 + j) = if j = f then q else c (13 * 24 + j) := by
  unfold zputR
  rw [pk_un (by omega)]
  by_cases e : j = f
  · subst e; rw [if_pos rfl, pk_us]
  · rw [if_neg e, pk_un (by omega)]
theorem zputR_14 (c : Nat → Int32) (f j : Nat) (q t : Int32) (hf : f < 24) (hj : j < 24) : zputR c f q t (14 * 24 + j) = if j = f then t else c (14 * 24 + j) := by
  unfold zputR
  by_cases e : j = f
  · subst e; rw [if_pos rfl, pk_us]
  · rw [if_neg e, pk_un (by omega), pk_un (by omega)]
theorem rRel_put {n nr r f : Nat} {c R : Nat → Int32} {q t : Int32} (hn : n ≤ 24) (h : rRel n c R nr) (hr : r < nr) (hf : f < n) (hq : ¬ q = -1) (e : R (55 + 3 * r) = nI f) : rRel n (zputR c f q t) (zput8 R r (nI f) q t) nr := by
  obtain ⟨h1, h2, h3, h4, h5, h6⟩ := h
  obtain ⟨g, g1, g2, g3, -, -⟩ := h4 r hr
  have gf : g = f := (nI_eq (by omega) (by omega)).mp (g2.symm.trans e)
  subst gf
  have key : ∀ k, k < nr → zput8 R r (nI g) q t (55 + 3 * k) = R (55 + 3 * k) := by
    intro k hk
    have := zput8_at R r k 0 (nI g) q t (by omega)
    rw [Nat.add_zero] at this
    rw [this]
    by_cases z : k = r
    · subst z; rw [if_pos rfl, if_pos rfl, e]
    · rw [if_neg z]
  have hh : ∀ j, j < n → zhasR (zputR c g q t) j = zhasR c j := by
    intro j hj
    rw [zhasR_put _ _ _ _ _ (by omega) (by omega) hq]
    by_cases z : j = g
    · rw [if_pos z, z, g3]
    · rw [if_neg z]
  refine ⟨h1, ?_, ?_, ?_, ?_, ?_⟩
  · unfold zput8
    rw [pk_un (by omega), pk_un (by omega), pk_un (by omega)]; exact h2
  · rw [zct_eq hh]; exact h3
  · intro k hk
    obtain ⟨a, a1, a2, a3, a4, a5⟩ := h4 k hk
    refine ⟨a, a1, by rw [key k hk]; exact a2, by rw [hh a a1]; exact a3, ?_, ?_⟩
    · rw [zput8_at _ _ _ _ _ _ _ (by omega), zputR_13 _ _ _ _ _ (by omega) (by omega)]
      by_cases z : k = r
      · have : a = g := (nI_eq (by omega) (by omega)).mp (a2.symm.trans (by rw [z]; exact g2))
        rw [if_pos z, if_pos this, if_neg (by omega), if_pos rfl]
      · have : a ≠ g := by
          intro y
          rw [y] at a2
          rcases Nat.lt_or_ge k r with p | p
          · exact h6 k r p hr (a2.trans g2.symm)
          · exact h6 r k (by omega) hk (g2.trans a2.symm)
        rw [if_neg z, if_neg this]; exact a4
    · rw [zput8_at _ _ _ _ _ _ _ (by omega), zputR_14 _ _ _ _ _ (by omega) (by omega)]
      by_cases z : k = r
      · have : a = g := (nI_eq (by omega) (by omega)).mp (a2.symm.trans (by rw [z]; exact g2))
        rw [if_pos z, if_pos this, if_neg (by omega), if_neg (by omega)]
      · have : a ≠ g := by
          intro y
          rw [y] at a2
          rcases Nat.lt_or_ge k r with p | p
          · exact h6 k r p hr (a2.trans g2.symm)
          · exact h6 r k (by omega) hk (g2.trans a2.symm)
        rw [if_neg z, if_neg this]; exact a5
  · intro a ha hb
    rw [hh a ha] at hb
    obtain ⟨k, k1, k2⟩ := h5 a ha hb
    exact ⟨k, k1, by rw [key k k1]; exact k2⟩
  · intro k s hks hs
    rw [key k (by omega), key s hs]
    exact h6 k s hks hs
theorem rRel_new {n nr f : Nat} {c R : Nat → Int32} {q t : Int32} (hn : n ≤ 24) (h : rRel n c R nr) (hr : nr < 6) (hf : f < n) (hq : ¬ q = -1) (hz : zhasR c f = false) : rRel n (zputR c f q t) (zput8 (upd R 5 (nI (nr + 1))) nr (nI f) q t) (nr + 1) := by
  obtain ⟨h1, h2, h3, h4, h5, h6⟩ := h
  have old : ∀ k w, k < nr → w < 3 → zput8 (upd R 5 (nI (nr + 1))) nr (nI f) q t (55 + 3 * k + w) = R (55 + 3 * k + w) := by
    intro k w hk hw
    rw [zput8_at _ _ _ _ _ _ _ hw, if_neg (by omega), pk_un (by omega)]
  have old0 : ∀ k, k < nr → zput8 (upd R 5 (nI (nr + 1))) nr (nI f) q t (55 + 3 * k) = R (55 + 3 * k) := fun k hk => old k 0 hk (by omega)
  have new0 : zput8 (upd R 5 (nI (nr + 1))) nr (nI f) q t (55 + 3 * nr) = nI f := by
    have := zput8_at (upd R 5 (nI (nr + 1))) nr nr 0 (nI f) q t (by omega)
    rw [Nat.add_zero, if_pos rfl, if_pos rfl] at this
    exact this
  have nof : ∀ k, k < nr → ¬ R (55 + 3 * k) = nI f := by
    intro k hk z
    obtain ⟨a, a1, a2, a3, -, -⟩ := h4 k hk
    have : a = f := (nI_eq (by omega) (by omega)).mp (a2.symm.trans z)
    rw [this, hz] at a3
    cases a3
  refine ⟨by omega, ?_, ?_, ?_, ?_, ?_⟩
  · unfold zput8
    rw [pk_un (by omega), pk_un (by omega), pk_un (by omega), pk_us]
  · have := zct_off (p := zhasR (zputR c f q t)) (q := zhasR c) (k := f) (by rw [zhasR_put _ _ _ _ _ (by omega) (by omega) hq, if_pos rfl]) hz (n := n) hf (fun i hi hne => by rw [zhasR_put _ _ _ _ _ (by omega) (by omega) hq, if_neg hne])
    omega
  · intro k hk
    by_cases z : k = nr
    · subst z
      refine ⟨f, hf, new0, by rw [zhasR_put _ _ _ _ _ (by omega) (by omega) hq, if_pos rfl], ?_, ?_⟩
      · rw [zput8_at _ _ _ _ _ _ _ (by omega), if_pos rfl, if_neg (by omega), if_pos rfl, zputR_13 _ _ _ _ _ (by omega) (by omega), if_pos rfl]
      · rw [zput8_at _ _ _ _ _ _ _ (by omega), if_pos rfl, if_neg (by omega), if_neg (by omega), zputR_14 _ _ _ _ _ (by omega) (by omega), if_pos rfl]
    · have hk : k < nr := by omega
      obtain ⟨a, a1, a2, a3, a4, a5⟩ := h4 k hk
      have af : a ≠ f := by
        intro y
        rw [y] at a2
        exact nof k hk a2
      refine ⟨a, a1, by rw [old0 k hk]; exact a2, by rw [zhasR_put _ _ _ _ _ (by omega) (by omega) hq, if_neg af]; exact a3, ?_, ?_⟩
      · rw [old k 1 hk (by omega), a4, zputR_13 _ _ _ _ _ (by omega) (by omega), if_neg af]
      · rw [old k 2 hk (by omega), a5, zputR_14 _ _ _ _ _ (by omega) (by omega), if_neg af]
  · intro a ha hb
    by_cases z : a = f
    · exact ⟨nr, by omega, by rw [z]; exact new0⟩
    · rw [zhasR_put _ _ _ _ _ (by omega) (by omega) hq, if_neg z] at hb
      obtain ⟨k, k1, k2⟩ := h5 a ha hb
      exact ⟨k, by omega, by rw [old0 k k1]; exact k2⟩
  · intro k s hks hs
    by_cases z : s = nr
    · rw [z, new0, old0 k (by omega)]
      exact nof k (by omega)
    · rw [old0 k (by omega), old0 s (by omega)]
      exact h6 k s hks (by omega)
theorem q8_st166 {u : RS} {x1 x2 x3 x4 : Int32} {Q : Int32 → RS → Prop} (r : Nat) (e3 : x3 = nI r) (hr : r < 6) (h : Q x4 (rI u 3 (zput8 (u.1 3) r x1 x2 (u.1 3 6)))) : wp_X8_steers_166 Q u x1 x2 x3 x4 := by
  unfold wp_X8_steers_166
  refine q8_ruleAt r e3 ⟨in_nI (by omega) (by decide), fun v ev => q8_ruleAt r e3 ?_⟩
  rw [nI_addl, zn_nI (by omega)]
  refine ⟨in_nI (by omega) (by decide), fun v2 ev2 => q8_ruleAt r e3 ?_⟩
  rw [nI_addl, zn_nI (by omega)]
  refine ⟨in_nI (by omega) (by decide), fun v3 ev3 => ?_⟩
  have : v3 = rI u 3 (zput8 (u.1 3) r x1 x2 (u.1 3 6)) := by
    rw [ev3, ev2, ev, zn_nI (by omega), rI_rI, rI_s, rI_rI, rI_s, pk_un (by omega), pk_un (by omega)]
    rfl
  rw [this]
  exact h
def zframe (R R1 : Nat → Int32) : Prop := ∀ j, j ≠ 5 → ¬ (55 ≤ j ∧ j < 73) → R1 j = R j
theorem zframe_put {R R0 : Nat → Int32} {r : Nat} {x q t : Int32} (hr : r < 6) (h : zframe R R0) : zframe R (zput8 R0 r x q t) := by
  intro j h5 hj
  unfold zput8
  rw [pk_un (by omega), pk_un (by omega), pk_un (by omega)]
  exact h j h5 hj
theorem zframe_5 {R R0 : Nat → Int32} {x : Int32} (h : zframe R R0) : zframe R (upd R0 5 x) := by
  intro j h5 hj
  rw [pk_un h5]
  exact h j h5 hj
theorem zframe_drop {R R0 : Nat → Int32} {r nr : Nat} (hn : nr ≤ 6) (h : zframe R R0) : zframe R (zdrop8 R0 r nr) := by
  intro j h5 hj
  unfold zdrop8 zsh
  rw [if_neg (by omega), pk_un h5]
  exact h j h5 hj
theorem nI_nm1 {n : Nat} (h : n < 2147483648) : ¬ nI n = -1 := by
  intro z
  have := nI_pos (n := n) h
  rw [z] at this
  exact absurd (by decide) this
theorem q8_st144 {u : RS} {x1 x2 x4 : Int32} {Q : Int32 → RS → Prop} (nr : Nat) (hr : nr < 6) (h5 : u.1 3 5 = nI nr) (h : Q x4 (rI u 3 (zput8 (upd (u.1 3) 5 (nI (nr + 1))) nr x1 x2 (u.1 3 6)))) : wp_X8_steers_144 Q u x1 x2 (-1) x4 := by
  unfold wp_X8_steers_144
  refine ⟨fun z => absurd rfl z, fun _ y ey v ev => ?_⟩
  rw [h5] at ey
  have ev : v = rI u 3 (upd (u.1 3) 5 (nI (nr + 1))) := by rw [ev, h5, nI_1]
  refine q8_st166 nr ey hr ?_
  rw [ev, rI_rI, rI_s, pk_un (by omega)]
  exact h
theorem q8_steers {u : RS} {x1 q w : Int32} {Q : Int32 → RS → Prop} (n nr f : Nat) (hn : n ≤ 24) (c c1 : Nat → Int32) (e1 : x1 = nI f) (hf : f < n) (hq : ¬ q = -1) (h : rRel n c (u.1 3) nr) (hz : zruled c n f q (u.1 3 6) w c1) (hQ : ∀ (R1 : Nat → Int32) (nr1 : Nat), rRel n c1 R1 nr1 → zframe (u.1 3) R1 → Q w (rI u 3 R1)) : wp_X8_steers u x1 q Q := by
  subst e1
  have h0 := h
  obtain ⟨h1, h2, h3, h4, h5, h6⟩ := h
  unfold wp_X8_steers
  refine q8_ruleOf nr h2 h1 (fun r hr er => ?_) (fun hno => ?_)
  · refine ⟨fun _ => ?_, fun z => absurd z (nI_nm1 (by omega))⟩
    obtain ⟨g, g1, g2, g3, -, -⟩ := h4 r hr
    have gf : g = f := (nI_eq (by omega) (by omega)).mp (g2.symm.trans er)
    subst gf
    rcases hz with ⟨-, rfl, rfl⟩ | ⟨z, -⟩
    · unfold wp_X8_steers_144
      refine ⟨fun _ => ?_, fun z => absurd z (nI_nm1 (by omega))⟩
      exact q8_st166 r rfl (by omega) (hQ _ nr (rRel_put hn h0 hr g1 hq er) (zframe_put (by omega) (fun _ _ _ => rfl)))
    · rw [g3] at z; cases z
  · refine ⟨fun z => absurd rfl z, fun _ => ?_⟩
    have hz0 : zhasR c f = false := by
      cases hb : zhasR c f with
      | false => rfl
      | true => obtain ⟨r, r1, r2⟩ := h5 f hf hb; exact absurd r2 (hno r r1)
    rw [h2]
    refine ⟨fun hc => ?_, fun hc => ?_⟩
    · have hlt : nr < 6 := by
        rcases Nat.lt_or_ge nr 6 with z | z
        · exact z
        · exact absurd (show nI nr = nI 6 by rw [show nr = 6 by omega]) hc
      rcases hz with ⟨-, rfl, rfl⟩ | ⟨-, z, -⟩
      · exact q8_st144 nr hlt h2 (hQ _ (nr + 1) (rRel_new hn h0 hlt hf hq hz0) (zframe_put hlt (zframe_5 (fun _ _ _ => rfl))))
      · omega
    · have e6 : nr = 6 := (nI_eq (by omega) (by omega)).mp (show nI nr = nI 6 from hc)
      subst e6
      rcases hz with ⟨z, -⟩ | ⟨-, -, g, rfl, gn, hl, rfl⟩
      · rcases z with z | z
        · rw [hz0] at z; cases z
        · omega
      · refine zl6 (wp_X8_steers_31 Q) 5 (fun i v y1 y2 y3 y5 y6 => v = u ∧ y1 = nI f ∧ y2 = q ∧ y3 = -1 ∧ y6 = nI (i + 1) ∧ ∃ k, k < i + 1 ∧ y5 = nI k ∧ ∀ r, r < i + 1 → u.1 3 (55 + 3 * k + 2) < u.1 3 (55 + 3 * r + 2) ∨ (u.1 3 (55 + 3 * k + 2) = u.1 3 (55 + 3 * r + 2) ∧ u.1 3 (55 + 3 * k) ≤ u.1 3 (55 + 3 * r))) ?_ 0 (Nat.zero_le _) u (nI f) q (-1) 0 1 ⟨rfl, rfl, rfl, rfl, rfl, 0, by omega, rfl, fun r hr => by rw [show r = 0 by omega]; exact Or.inr ⟨rfl, Int32.le_refl _⟩⟩
        rintro i B v y1 y2 y3 y5 y6 hi ⟨rfl, rfl, rfl, rfl, rfl, k, hk, rfl, hb⟩ hB
        unfold wp_X8_steers_31
        refine ⟨fun hc => ?_, fun hc => ?_⟩
        · have : 6 ≤ i + 1 := (nI_leI (by omega) (by omega)).mp (show nI 6 ≤ nI (i + 1) from hc)
          have hi5 : i = 5 := by omega
          subst hi5
          refine q8_ruleAt k rfl ?_
          rw [zn_nI (by omega)]
          refine ⟨in_nI (by omega) (by decide), fun y ey => ?_⟩
          obtain ⟨a, a1, a2, a3, a4, a5⟩ := h4 k hk
          rcases hl with ⟨z, -⟩ | ⟨b, b1, b2, b3, b4⟩
          · exact absurd z (nI_nm1 (by omega))
          · have bg : b = g := ((nI_eq (by omega) (by omega)).mp b2).symm
            subst bg
            obtain ⟨s, s1, s2⟩ := h5 b b1 b3
            obtain ⟨s3, t1, t2, t3, t4, t5⟩ := h4 s s1
            have sb : s3 = b := (nI_eq (by omega) (by omega)).mp (t2.symm.trans s2)
            subst sb
            have w1 := b4 a a1 a3
            have w2 := hb s s1
            rw [a5, t5, a2, t2] at w2
            have ab : a = s3 := by
              rcases w2 with w2 | ⟨w2, w3⟩
              · exact absurd w1.1 (Int32.not_le.mpr w2)
              · have w3 := (nI_leI (by omega) (by omega)).mp w3
                rcases Nat.lt_or_ge a s3 with z | z
                · have := w1.2 z
                  rw [w2] at this
                  exact absurd this (Int32.lt_irrefl)
                · omega
            subst ab
            rw [a2] at ey
            subst ey
            refine q8_dropRule k 6 rfl hk (by omega) h2 ?_
            have hd := rRel_drop hn h0 hk a1 a2
            have hd5 : (rI v 3 (zdrop8 (v.1 3) k 6)).1 3 5 = nI 5 := by rw [rI_s]; exact hd.2.1
            have hd6 : zdrop8 (v.1 3) k 6 6 = v.1 3 6 := zframe_drop (by omega) (fun _ _ _ => rfl) 6 (by omega) (by omega)
            refine q8_st144 5 (by omega) hd5 ?_
            rw [rI_rI, rI_s, hd6]
            have hfa : f ≠ a := by
              intro z
              rw [z, a3] at hz0; cases hz0
            refine hQ _ 6 (rRel_new hn hd (by omega) hf hq (by rw [zhasR_drop _ _ _ (by omega) (by omega), if_neg hfa]; exact hz0)) (zframe_put (by omega) (zframe_5 (zframe_drop (by omega) (fun _ _ _ => rfl))))
        · have hlt : i < 5 := by
            rcases Nat.lt_or_ge i 5 with z | z
            · exact z
            · exact absurd (show nI 6 ≤ nI (i + 1) from nI_le (by omega) (by omega)) hc
          refine q8_ruleAt (i + 1) rfl (q8_ruleAt k rfl ?_)
          rw [nI_addl, nI_addl, zn_nI (by omega), zn_nI (by omega), zn_nI (by omega), zn_nI (by omega)]
          have take : (∀ r, r < i + 1 + 1 → v.1 3 (55 + 3 * (i + 1) + 2) < v.1 3 (55 + 3 * r + 2) ∨ (v.1 3 (55 + 3 * (i + 1) + 2) = v.1 3 (55 + 3 * r + 2) ∧ v.1 3 (55 + 3 * (i + 1)) ≤ v.1 3 (55 + 3 * r))) → wp_X8_steers_111 Q B v (nI f) y2 (-1) (nI (i + 1)) := by
            intro ha
            unfold wp_X8_steers_111 wp_X8_steers_118
            intro y ey
            exact hB _ _ _ _ _ _ hlt ⟨rfl, rfl, rfl, rfl, by rw [ey, nI_1], i + 1, by omega, rfl, ha⟩
          have keep : (v.1 3 (55 + 3 * k + 2) < v.1 3 (55 + 3 * (i + 1) + 2) ∨ (v.1 3 (55 + 3 * k + 2) = v.1 3 (55 + 3 * (i + 1) + 2) ∧ v.1 3 (55 + 3 * k) ≤ v.1 3 (55 + 3 * (i + 1)))) → wp_X8_steers_116 Q B v (nI f) y2 (-1) (nI k) (nI (i + 1)) := by
            intro ha
            unfold wp_X8_steers_116 wp_X8_steers_118
            intro y ey
            refine hB _ _ _ _ _ _ hlt ⟨rfl, rfl, rfl, rfl, by rw [ey, nI_1], k, by omega, rfl, fun r hr => ?_⟩
            rcases Nat.lt_or_ge r (i + 1) with z | z
            · exact hb r z
            · rw [show r = i + 1 by omega]; exact ha
          refine ⟨in_nI (by omega) (by decide), in_nI (by omega) (by decide), fun c1 => take (fun r hr => ?_), fun c1 => ⟨in_nI (by omega) (by decide), in_nI (by omega) (by decide), fun c2 => keep (Or.inl (Int32.lt_of_le_of_ne (Int32.not_lt.mp c1) (fun z => c2 z.symm))), fun c2 => ⟨in_nI (by omega) (by decide), in_nI (by omega) (by decide), fun c3 => keep (Or.inr ⟨c2.symm, c3⟩), fun c3 => take (fun r hr => ?_)⟩⟩⟩
          · rcases Nat.lt_or_ge r (i + 1) with z | z
            · rcases hb r z with y | ⟨y, -⟩
              · exact Or.inl (Int32.lt_trans c1 y)
              · rw [← y]; exact Or.inl c1
            · rw [show r = i + 1 by omega]; exact Or.inr ⟨rfl, Int32.le_refl _⟩
          · rcases Nat.lt_or_ge r (i + 1) with z | z
            · rcases hb r z with y | ⟨y, y2⟩
              · rw [c2]; exact Or.inl y
              · rw [c2]; exact Or.inr ⟨y, Int32.le_trans (Int32.le_of_lt (Int32.not_le.mp c3)) y2⟩
            · rw [show r = i + 1 by omega]; exact Or.inr ⟨rfl, Int32.le_refl _⟩
