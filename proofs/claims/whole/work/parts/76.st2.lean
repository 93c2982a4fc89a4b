-- the pure side: the row behind a rule put, exactly
def zsteerR (R : Nat → Int32) (nr f : Nat) (q w : Int32) (R1 : Nat → Int32) : Prop := (∃ r, r < nr ∧ R (55 + 3 * r) = nI f ∧ R1 = zput8 R r (nI f) q (R 6)) ∨ (nr < 6 ∧ (∀ r, r < nr → ¬ R (55 + 3 * r) = nI f) ∧ R1 = zput8 (upd R 5 (nI (nr + 1))) nr (nI f) q (R 6)) ∨ (nr = 6 ∧ (∀ r, r < nr → ¬ R (55 + 3 * r) = nI f) ∧ ∃ k, k < 6 ∧ R (55 + 3 * k) = w ∧ R1 = zput8 (upd (zdrop8 R k 6) 5 (nI 6)) 5 (nI f) q (R 6))
theorem zsteerR_u {R R1 R2 : Nat → Int32} {nr f : Nat} {q w : Int32} (h6 : ∀ r t, r < t → t < nr → ¬ R (55 + 3 * r) = R (55 + 3 * t)) (a : zsteerR R nr f q w R1) (b : zsteerR R nr f q w R2) : R1 = R2 := by
  have uniq : ∀ x y z, x < nr → y < nr → R (55 + 3 * x) = z → R (55 + 3 * y) = z → x = y := by
    intro x y z hx hy ex ey
    rcases Nat.lt_trichotomy x y with c | c | c
    · exact absurd (ex.trans ey.symm) (h6 x y c hy)
    · exact c
    · exact absurd (ey.trans ex.symm) (h6 y x c hx)
  rcases a with ⟨r, r1, r2, r3⟩ | ⟨a1, a2, a3⟩ | ⟨a1, a2, k, k1, k2, k3⟩
  · rcases b with ⟨s, s1, s2, s3⟩ | ⟨b1, b2, b3⟩ | ⟨b1, b2, -⟩
    · rw [r3, s3, uniq r s _ r1 s1 r2 s2]
    · exact absurd r2 (b2 r r1)
    · exact absurd r2 (b2 r r1)
  · rcases b with ⟨s, s1, s2, s3⟩ | ⟨b1, b2, b3⟩ | ⟨b1, b2, -⟩
    · exact absurd s2 (a2 s s1)
    · rw [a3, b3]
    · omega
  · rcases b with ⟨s, s1, s2, s3⟩ | ⟨b1, b2, b3⟩ | ⟨b1, b2, l, l1, l2, l3⟩
    · exact absurd s2 (a2 s s1)
    · omega
    · rw [k3, l3, uniq k l _ (by omega) (by omega) k2 l2]
theorem q8_steers2 {u : RS} {x1 q w : Int32} {Q : Int32 → RS → Prop} (n nr f : Nat) (hn : n ≤ 24) (c c1 : Nat → Int32) (e1 : x1 = nI f) (hf : f < n) (hq : ¬ q = -1) (h : rRel n c (u.1 3) nr) (hz : zruled c n f q (u.1 3 6) w c1) (hQ : ∀ (R1 : Nat → Int32) (nr1 : Nat), rRel n c1 R1 nr1 → zframe (u.1 3) R1 → zsteerR (u.1 3) nr f q w R1 → Q w (rI u 3 R1)) : wp_X8_steers u x1 q Q := by
  subst e1
  have h0 := h
  obtain ⟨h1, h2, h3, h4, h5, h6⟩ := h
  unfold wp_X8_steers
  refine q8_ruleOf nr h2 h1 (fun r hr er => ?_) (fun hno => ?_)
  · refine ⟨fun _ => ?_, fun z => absurd z (nI_nm1 (by omega))⟩
    obtain ⟨g, g1, g2, g3, -, -⟩ := h4 r hr
    have gf : g = f := (nI_eq (by omega) (by omega)).mp (g2.symm.trans er)
    subst gf
    rcases hz with ⟨-, rfl, rfl⟩ | ⟨z, -⟩
    · unfold wp_X8_steers_144
      refine ⟨fun _ => ?_, fun z => absurd z (nI_nm1 (by omega))⟩
      exact q8_st166 r rfl (by omega) (hQ _ nr (rRel_put hn h0 hr g1 hq er) (zframe_put (by omega) (fun _ _ _ => rfl)) (Or.inl ⟨r, hr, er, rfl⟩))
    · rw [g3] at z; cases z
  · refine ⟨fun z => absurd rfl z, fun _ => ?_⟩
    have hz0 : zhasR c f = false := by
      cases hb : zhasR c f with
      | false => rfl
      | true => obtain ⟨r, r1, r2⟩ := h5 f hf hb; exact absurd r2 (hno r r1)
    rw [h2]
    refine ⟨fun hc => ?_, fun hc => ?_⟩
    · have hlt : nr < 6 := by
        rcases Nat.lt_or_ge nr 6 with z | z
        · exact z
        · exact absurd (show nI nr = nI 6 by rw [show nr = 6 by omega]) hc
      rcases hz with ⟨-, rfl, rfl⟩ | ⟨-, z, -⟩
      · exact q8_st144 nr hlt h2 (hQ _ (nr + 1) (rRel_new hn h0 hlt hf hq hz0) (zframe_put hlt (zframe_5 (fun _ _ _ => rfl))) (Or.inr (Or.inl ⟨hlt, hno, rfl⟩)))
      · omega
    · have e6 : nr = 6 := (nI_eq (by omega) (by omega)).mp (show nI nr = nI 6 from hc)
      subst e6
      rcases hz with ⟨z, -⟩ | ⟨-, -, g, rfl, gn, hl, rfl⟩
      · rcases z with z | z
        · rw [hz0] at z; cases z
        · omega
      · refine zl6 (wp_X8_steers_31 Q) 5 (fun i v y1 y2 y3 y5 y6 => v = u ∧ y1 = nI f ∧ y2 = q ∧ y3 = -1 ∧ y6 = nI (i + 1) ∧ ∃ k, k < i + 1 ∧ y5 = nI k ∧ ∀ r, r < i + 1 → u.1 3 (55 + 3 * k + 2) < u.1 3 (55 + 3 * r + 2) ∨ (u.1 3 (55 + 3 * k + 2) = u.1 3 (55 + 3 * r + 2) ∧ u.1 3 (55 + 3 * k) ≤ u.1 3 (55 + 3 * r))) ?_ 0 (Nat.zero_le _) u (nI f) q (-1) 0 1 ⟨rfl, rfl, rfl, rfl, rfl, 0, by omega, rfl, fun r hr => by rw [show r = 0 by omega]; exact Or.inr ⟨rfl, Int32.le_refl _⟩⟩
        rintro i B v y1 y2 y3 y5 y6 hi ⟨rfl, rfl, rfl, rfl, rfl, k, hk, rfl, hb⟩ hB
        unfold wp_X8_steers_31
        refine ⟨fun hc => ?_, fun hc => ?_⟩
        · have : 6 ≤ i + 1 := (nI_leI (by omega) (by omega)).mp (show nI 6 ≤ nI (i + 1) from hc)
          have hi5 : i = 5 := by omega
          subst hi5
          refine q8_ruleAt k rfl ?_
          rw [zn_nI (by omega)]
          refine ⟨in_nI (by omega) (by decide), fun y ey => ?_⟩
          obtain ⟨a, a1, a2, a3, a4, a5⟩ := h4 k hk
          rcases hl with ⟨z, -⟩ | ⟨b, b1, b2, b3, b4⟩
          · exact absurd z (nI_nm1 (by omega))
          · have bg : b = g := ((nI_eq (by omega) (by omega)).mp b2).symm
            subst bg
            obtain ⟨s, s1, s2⟩ := h5 b b1 b3
            obtain ⟨s3, t1, t2, t3, t4, t5⟩ := h4 s s1
            have sb : s3 = b := (nI_eq (by omega) (by omega)).mp (t2.symm.trans s2)
            subst sb
            have w1 := b4 a a1 a3
            have w2 := hb s s1
            rw [a5, t5, a2, t2] at w2
            have ab : a = s3 := by
              rcases w2 with w2 | ⟨w2, w3⟩
              · exact absurd w1.1 (Int32.not_le.mpr w2)
              · have w3 := (nI_leI (by omega) (by omega)).mp w3
                rcases Nat.lt_or_ge a s3 with z | z
                · have := w1.2 z
                  rw [w2] at this
                  exact absurd this (Int32.lt_irrefl)
                · omega
            subst ab
            rw [a2] at ey
            subst ey
            refine q8_dropRule k 6 rfl hk (by omega) h2 ?_
            have hd := rRel_drop hn h0 hk a1 a2
            have hd5 : (rI v 3 (zdrop8 (v.1 3) k 6)).1 3 5 = nI 5 := by rw [rI_s]; exact hd.2.1
            have hd6 : zdrop8 (v.1 3) k 6 6 = v.1 3 6 := zframe_drop (by omega) (fun _ _ _ => rfl) 6 (by omega) (by omega)
            refine q8_st144 5 (by omega) hd5 ?_
            rw [rI_rI, rI_s, hd6]
            have hfa : f ≠ a := by
              intro z
              rw [z, a3] at hz0; cases hz0
            refine hQ _ 6 (rRel_new hn hd (by omega) hf hq (by rw [zhasR_drop _ _ _ (by omega) (by omega), if_neg hfa]; exact hz0)) (zframe_put (by omega) (zframe_5 (zframe_drop (by omega) (fun _ _ _ => rfl)))) (Or.inr (Or.inr ⟨rfl, hno, k, hk, a2, rfl⟩))
        · have hlt : i < 5 := by
            rcases Nat.lt_or_ge i 5 with z | z
            · exact z
            · exact absurd (show nI 6 ≤ nI (i + 1) from nI_le (by omega) (by omega)) hc
          refine q8_ruleAt (i + 1) rfl (q8_ruleAt k rfl ?_)
          rw [nI_addl, nI_addl, zn_nI (by omega), zn_nI (by omega), zn_nI (by omega), zn_nI (by omega)]
          have take : (∀ r, r < i + 1 + 1 → v.1 3 (55 + 3 * (i + 1) + 2) < v.1 3 (55 + 3 * r + 2) ∨ (v.1 3 (55 + 3 * (i + 1) + 2) = v.1 3 (55 + 3 * r + 2) ∧ v.1 3 (55 + 3 * (i + 1)) ≤ v.1 3 (55 + 3 * r))) → wp_X8_steers_111 Q B v (nI f) y2 (-1) (nI (i + 1)) := by
            intro ha
            unfold wp_X8_steers_111 wp_X8_steers_118
            intro y ey
            exact hB _ _ _ _ _ _ hlt ⟨rfl, rfl, rfl, rfl, by rw [ey, nI_1], i + 1, by omega, rfl, ha⟩
          have keep : (v.1 3 (55 + 3 * k + 2) < v.1 3 (55 + 3 * (i + 1) + 2) ∨ (v.1 3 (55 + 3 * k + 2) = v.1 3 (55 + 3 * (i + 1) + 2) ∧ v.1 3 (55 + 3 * k) ≤ v.1 3 (55 + 3 * (i + 1)))) → wp_X8_steers_116 Q B v (nI f) y2 (-1) (nI k) (nI (i + 1)) := by
            intro ha
            unfold wp_X8_steers_116 wp_X8_steers_118
            intro y ey
            refine hB _ _ _ _ _ _ hlt ⟨rfl, rfl, rfl, rfl, by rw [ey, nI_1], k, by omega, rfl, fun r hr => ?_⟩
            rcases Nat.lt_or_ge r (i + 1) with z | z
            · exact hb r z
            · rw [show r = i + 1 by omega]; exact ha
          refine ⟨in_nI (by omega) (by decide), in_nI (by omega) (by decide), fun c1 => take (fun r hr => ?_), fun c1 => ⟨in_nI (by omega) (by decide), in_nI (by omega) (by decide), fun c2 => keep (Or.inl (Int32.lt_of_le_of_ne (Int32.not_lt.mp c1) (fun z => c2 z.symm))), fun c2 => ⟨in_nI (by omega) (by decide), in_nI (by omega) (by decide), fun c3 => keep (Or.inr ⟨c2.symm, c3⟩), fun c3 => take (fun r hr => ?_)⟩⟩⟩
          · rcases Nat.lt_or_ge r (i + 1) with z | z
            · rcases hb r z with y | ⟨y, -⟩
              · exact Or.inl (Int32.lt_trans c1 y)
              · rw [← y]; exact Or.inl c1
            · rw [show r = i + 1 by omega]; exact Or.inr ⟨rfl, Int32.le_refl _⟩
          · rcases Nat.lt_or_ge r (i + 1) with z | z
            · rcases hb r z with y | ⟨y, y2⟩
              · rw [c2]; exact Or.inl y
              · rw [c2]; exact Or.inr ⟨y, Int32.le_trans (Int32.le_of_lt (Int32.not_le.mp c3)) y2⟩
            · rw [show r = i + 1 by omega]; exact Or.inr ⟨rfl, Int32.le_refl _⟩
theorem x8_steers {R c c1 : Nat → Int32} {q w : Int32} (n nr f : Nat) (hn : n ≤ 24) (hf : f < n) (hq : ¬ q = -1) (h : rRel n c R nr) (hz : zruled c n f q (R 6) w c1) : ∃ (R1 : Nat → Int32) (nr1 : Nat), rRel n c1 R1 nr1 ∧ zframe R R1 ∧ ∀ (r : RS) (Qb : Int32 → RS → Prop), r.1 3 = R → Qb w (rI r 3 R1) → wp_X8_steers r (nI f) q Qb := by
  have h0 := h
  obtain ⟨h1, h2, h3, h4, h5, h6⟩ := h0
  have run : ∀ R1, zsteerR R nr f q w R1 → ∀ (r : RS) (Qb : Int32 → RS → Prop), r.1 3 = R → Qb w (rI r 3 R1) → wp_X8_steers r (nI f) q Qb := by
    intro R1 hs r Qb hr hQb
    refine q8_steers2 n nr f hn c c1 rfl hf hq (by rw [hr]; exact h) (by rw [hr]; exact hz) (fun R2 nr2 _ _ hs2 => ?_)
    rw [hr] at hs2
    rw [← zsteerR_u h6 hs hs2]
    exact hQb
  cases e : zhasR c f with
  | true =>
    obtain ⟨r, r1, r2⟩ := h5 f hf e
    rcases hz with ⟨-, -, e3⟩ | ⟨z, -⟩
    · exact ⟨_, nr, by rw [e3]; exact rRel_put hn h r1 hf hq r2, zframe_put (by omega) (fun _ _ _ => rfl), run _ (Or.inl ⟨r, r1, r2, rfl⟩)⟩
    · rw [e] at z; cases z
  | false =>
    have hno : ∀ r, r < nr → ¬ R (55 + 3 * r) = nI f := by
      intro r hr er
      obtain ⟨g, g1, g2, g3, -⟩ := h4 r hr
      have gf : g = f := (nI_eq (by omega) (by omega)).mp (g2.symm.trans er)
      rw [gf, e] at g3
      cases g3
    rcases hz with ⟨z, -, e3⟩ | ⟨-, z6, g, e3, g1, hl, e4⟩
    · have hlt : nr < 6 := by
        rcases z with z | z
        · rw [e] at z; cases z
        · omega
      exact ⟨_, nr + 1, by rw [e3]; exact rRel_new hn h hlt hf hq e, zframe_put hlt (zframe_5 (fun _ _ _ => rfl)), run _ (Or.inr (Or.inl ⟨hlt, hno, rfl⟩))⟩
    · have e6 : nr = 6 := by omega
      subst e6
      rcases hl with ⟨y, -⟩ | ⟨b, b1, b2, b3, -⟩
      · rw [e3] at y; exact absurd y (nI_nm1 (by omega))
      · have bg : b = g := ((nI_eq (by omega) (by omega)).mp (e3.symm.trans b2)).symm
        subst bg
        obtain ⟨k, k1, k2⟩ := h5 b b1 b3
        have hd := rRel_drop hn h k1 b1 k2
        have hfb : f ≠ b := by
          intro y
          rw [y, b3] at e; cases e
        have hn2 := rRel_new (t := R 6) hn hd (by omega) hf hq (by rw [zhasR_drop _ _ _ (by omega) (by omega), if_neg hfb]; exact e)
        exact ⟨_, 6, by rw [e4]; exact hn2, zframe_put (by omega) (zframe_5 (zframe_drop (by omega) (fun _ _ _ => rfl))), run _ (Or.inr (Or.inr ⟨rfl, hno, k, k1, by rw [k2, e3], rfl⟩))⟩
