-- the pure side: a segment is given, both
theorem SimX.ruled {n nr nr1 : Nat} {m : Nat → Nat} {cs : Nat → RS} {R R1 : Nat → Int32} {S : Nat → Int64} {w : RS} (h : SimX n nr m cs R S) (w0 : w.1 0 = (cs 2).1 0) (w1 : ∀ a j, a < 20 → a ≠ 13 → a ≠ 14 → j < 24 → w.1 1 (a * 24 + j) = (cs 2).1 1 (a * 24 + j)) (w2 : ∀ j, n ≤ j → j < 24 → w.1 1 (13 * 24 + j) = 0 ∧ w.1 1 (14 * 24 + j) = 0) (hr : sR n nr1 (w.1 1) R1) (hz : zframe R R1) : SimX n nr1 m (va_up cs 2 w) R1 S := by
  obtain ⟨h0', hK, hF, hR, hT, hQ, hW, hG, hN, hO, hA⟩ := h
  have h24 : n ≤ 24 := hF.2.1
  have fr : ∀ i, i ≠ 5 → ¬ (55 ≤ i ∧ i < 73) → R1 i = R i := hz
  refine ⟨?_, ?_, ?_, ?_, ?_, ?_, ?_, ?_, ?_, ?_, ?_⟩
  · rw [vu_s, w0]; exact h0'
  · rw [vu_n _ _ (by decide)]; exact hK.fr (fun i hi => fr i (by omega) (by omega))
  · rw [vu_s]
    obtain ⟨f1, f2, f3, f4, f5, f6, f7, f8⟩ := hF.fr (R1 := R1) (fun i hi => fr i (by omega) (by omega))
    refine ⟨f1, f2, fun j k hj hk => ?_, f4, f5, f6, f7, fun j k g1 g2 g3 => ?_⟩
    · obtain ⟨z1, z2, z3, z4, z5⟩ := zrow_ne k hk
      rw [w1 _ _ z5 z1 z2 (by omega)]; exact f3 j k hj hk
    · by_cases e : k = 13
      · subst e; exact (w2 j g1 g2).1
      · by_cases e2 : k = 14
        · subst e2; exact (w2 j g1 g2).2
        · rw [w1 k j g3 e e2 g2]; exact f8 j k g1 g2 g3
  · rw [vu_s]; exact hr
  · rw [vu_n _ _ (by decide)]; exact hT.fr (fun i hi => fr i (by omega) (by omega))
  · intro p hp
    rw [vu_n _ _ (by omega)]; exact (hQ p hp).fr (fun i hi => fr i (by omega) (by omega))
  · rw [vu_s]; exact (hW.fr (fun p hp => (hQ p hp).1) (fun i hi => fr i (by omega) (by omega))).fc (fun g hg => w1 7 g (by omega) (by omega) (by omega) (by omega)) (fun g hg => w1 8 g (by omega) (by omega) (by omega) (by omega))
  · rw [vu_n _ _ (by decide)]; exact hG.fr (fun i hi => fr i (by omega) (by omega))
  · rw [vu_n _ _ (by decide)]; exact hN
  · rw [vu_n _ _ (by decide)]; exact hO.fr (fun i hi => fr i (by omega) (by omega))
  · rw [vu_s]; exact (hA.fr (fun i hi => fr i (by omega) (by omega))).fc (fun a g ha hg => w1 a g (by omega) (by omega) (by omega) (by omega))
theorem SimX.putRule {n nr nr1 : Nat} {m : Nat → Nat} {cs : Nat → RS} {R R1 : Nat → Int32} {S : Nat → Int64} {f q : Nat} {t r : Int32} {w : RS} (h : SimX n nr m cs R S) (hf : f < n) (hq : q < 4) (w0 : w.1 0 = (cs 2).1 0) (hz : zruled ((cs 2).1 1) n f (nI q) t r (w.1 1)) (hr : rRel n (w.1 1) R1 nr1) (hfr : zframe R R1) : SimX n nr1 m (va_up cs 2 w) R1 S := by
  have hF := h.2.2.1
  have hR := h.2.2.2.1
  have h24 : n ≤ 24 := hF.2.1
  obtain ⟨z1, z2, z3, z4⟩ := hz.facts h24 hf hq (hR.rng h24) hR.2.2
  refine h.ruled w0 z1 (fun j j1 j2 => ?_) (sR_of hr z3 z4) hfr
  obtain ⟨a, b⟩ := z2 j j1 j2
  rw [a, b]
  exact ⟨hF.2.2.2.2.2.2.2 j 13 j1 j2 (by omega), hF.2.2.2.2.2.2.2 j 14 j1 j2 (by omega)⟩
theorem SimX.follow {n nr : Nat} {m : Nat → Nat} {cs : Nat → RS} {R : Nat → Int32} {S : Nat → Int64} {x : Int32} (h : SimX n nr m cs R S) : SimX n nr m (va_up cs 0 (rN (cs 0) 7 x)) (upd R 11 x) S := by
  obtain ⟨h0, hK, hF, hR, hT, hQ, hW, hG, hN, hO, hA⟩ := h
  have fr : ∀ i, i ≠ 11 → upd R 11 x i = R i := fun i hi => pk_un hi
  refine ⟨?_, ?_, ?_, ?_, ?_, ?_, ?_, ?_, ?_, ?_, ?_⟩
  · rw [vu_n _ _ (by decide)]; exact h0
  · rw [vu_n _ _ (by decide)]; exact hK.fr (fun i hi => fr i (by omega))
  · rw [vu_n _ _ (by decide)]; exact hF.fr (fun i hi => fr i (by omega))
  · rw [vu_n _ _ (by decide)]; exact hR.fr (fun i hi => fr i (by omega))
  · rw [vu_n _ _ (by decide)]; exact hT.fr (fun i hi => fr i (by omega))
  · intro p hp
    rw [vu_n _ _ (by omega)]; exact (hQ p hp).fr (fun i hi => fr i (by omega))
  · rw [vu_n _ _ (by decide)]; exact hW.fr (fun p hp => (hQ p hp).1) (fun i hi => fr i (by omega))
  · rw [vu_n _ _ (by decide)]; exact hG.fr (fun i hi => fr i (by omega))
  · rw [vu_n _ _ (by decide)]; exact hN
  · rw [vu_s]
    obtain ⟨o1, o2, o3, o4, o5⟩ := hO
    exact ⟨fun i hi => by rw [rN_n _ _ (by decide), fr _ (by omega)]; exact o1 i hi, by rw [rN_n _ _ (by decide), fr _ (by omega)]; exact o2, by rw [rN_s, pk_us], by rw [fr _ (by omega)]; exact o4, fun i hi => by rw [fr _ (by omega)]; exact o5 i hi⟩
  · rw [vu_n _ _ (by decide)]; exact hA.fr (fun i hi => fr i (by omega))
/-- putRule looks at rules alone: the same on other cells with the same rules -/
theorem zruled.other {c c1 d : Nat → Int32} {n f : Nat} {q t r : Int32} (hn : n ≤ 24) (hf : f < n) (h : zruled c n f q t r c1) (h3 : ∀ j, j < 24 → d (13 * 24 + j) = c (13 * 24 + j)) (h4 : ∀ j, j < 24 → d (14 * 24 + j) = c (14 * 24 + j)) : ∃ d1, zruled d n f q t r d1 ∧ (∀ j, j < 24 → d1 (13 * 24 + j) = c1 (13 * 24 + j)) ∧ (∀ j, j < 24 → d1 (14 * 24 + j) = c1 (14 * 24 + j)) ∧ (∀ a j, a ≠ 13 → a ≠ 14 → j < 24 → d1 (a * 24 + j) = d (a * 24 + j)) ∧ ∀ a j, a ≠ 13 → a ≠ 14 → j < 24 → c1 (a * 24 + j) = c (a * 24 + j) := by
  have hz : ∀ j, j < n → zhasR d j = zhasR c j := fun j hj => by unfold zhasR; rw [h3 j (by omega)]
  have hct : zct (zhasR d) n = zct (zhasR c) n := zct_eq hz
  rcases h with ⟨e1, e2, e3⟩ | ⟨e1, e2, g, e3, e4, e5, e6⟩
  · refine ⟨zputR d f q t, Or.inl ⟨?_, e2, rfl⟩, fun j hj => ?_, fun j hj => ?_, fun a j a1 a2 hj => zputR_o _ _ _ _ _ _ (by omega) hj a1 a2, fun a j a1 a2 hj => ?_⟩
    · rw [hz f hf, hct]; exact e1
    · rw [e3, zputR_13 _ _ _ _ _ (by omega) hj, zputR_13 _ _ _ _ _ (by omega) hj, h3 j hj]
    · rw [e3, zputR_14 _ _ _ _ _ (by omega) hj, zputR_14 _ _ _ _ _ (by omega) hj, h4 j hj]
    · rw [e3]; exact zputR_o _ _ _ _ _ _ (by omega) hj a1 a2
  · have hl : zleast d n r := by
      rcases e5 with ⟨l1, l2⟩ | ⟨k, k1, k2, k3, k4⟩
      · exact Or.inl ⟨l1, fun j hj => by rw [hz j hj]; exact l2 j hj⟩
      · refine Or.inr ⟨k, k1, k2, by rw [hz k k1]; exact k3, fun j hj hr => ?_⟩
        rw [h4 k (by omega), h4 j (by omega)]
        exact k4 j hj (by rw [← hz j hj]; exact hr)
    refine ⟨zputR (zdropR d g) f q t, Or.inr ⟨by rw [hz f hf]; exact e1, by rw [hct]; exact e2, g, e3, e4, hl, rfl⟩, fun j hj => ?_, fun j hj => ?_, fun a j a1 a2 hj => ?_, fun a j a1 a2 hj => ?_⟩
    · rw [e6, zputR_13 _ _ _ _ _ (by omega) hj, zputR_13 _ _ _ _ _ (by omega) hj]
      by_cases z : j = g
      · rw [z, zdropR_13, zdropR_13]
      · rw [zdropR_o _ _ 13 _ (by omega) hj (Or.inl z), zdropR_o _ _ 13 _ (by omega) hj (Or.inl z), h3 j hj]
    · rw [e6, zputR_14 _ _ _ _ _ (by omega) hj, zputR_14 _ _ _ _ _ (by omega) hj]
      by_cases z : j = g
      · rw [z, zdropR_14, zdropR_14]
      · rw [zdropR_o _ _ 14 _ (by omega) hj (Or.inl z), zdropR_o _ _ 14 _ (by omega) hj (Or.inl z), h4 j hj]
    · rw [zputR_o _ _ _ _ _ _ (by omega) hj a1 a2]; exact zdropR_o _ _ _ _ (by omega) hj (Or.inr ⟨a1, a2⟩)
    · rw [e6, zputR_o _ _ _ _ _ _ (by omega) hj a1 a2]; exact zdropR_o _ _ _ _ (by omega) hj (Or.inr ⟨a1, a2⟩)
/-- how many packets of each flow wait, and where -/
def sWc (n : Nat) (cnt : Nat → Nat → Nat) (c : Nat → Int32) : Prop := (∀ f, f < n → c (8 * 24 + f) = nI (cnt 0 f + cnt 1 f + cnt 2 f + cnt 3 f) ∧ ((c (7 * 24 + f) = -1 ∧ ∀ q, q < 4 → cnt q f = 0) ∨ ∃ q, q < 4 ∧ c (7 * 24 + f) = nI q ∧ 0 < cnt q f ∧ ∀ p, p < 4 → p ≠ q → cnt p f = 0)) ∧ ∀ j, n ≤ j → j < 24 → c (7 * 24 + j) = 0 ∧ c (8 * 24 + j) = 0
/-- the segments at hand of both -/
def sP (n i : Nat) (s : RS) (o : Nat → Int32) : Prop := ∀ f, f < 24 → ∃ p, p ≤ i ∧ s.1 6 f = nI p ∧ o (3 * f + 2) = nI p ∧ (0 < p → f < n ∧ ∃ x, x ≤ 9999 ∧ s.1 5 f = nI x ∧ o (3 * f + 1) = nI x ∧ s.1 4 f = o (3 * f))
/-- in the midst of a batch: what stands, against what would stand if nothing had been taken yet -/
def Mid (n : Nat) (cnt : Nat → Nat → Nat) (i : Nat) (cs g : Nat → RS) (o : Nat → Int32) : Prop := (∀ k, k ≠ 2 → k ≠ 4 → g k = cs k) ∧ (g 2).1 0 = (cs 2).1 0 ∧ (∀ a j, a < 20 → a ≠ 7 → a ≠ 8 → j < 24 → (g 2).1 1 (a * 24 + j) = (cs 2).1 1 (a * 24 + j)) ∧ (g 4).1 0 = (cs 4).1 0 ∧ (g 4).1 2 = (cs 4).1 2 ∧ (g 4).1 3 = (cs 4).1 3 ∧ (g 4).2 1 = (cs 4).2 1 ∧ sWc n cnt ((cs 2).1 1) ∧ sP n i (cs 4) o
/-- the reference's state behind some steps -/
def zst (r r1 : RS) (R1 : Nat → Int32) (S1 : Nat → Int64) (o1 : Nat → Int32) : Prop := r1.1 3 = R1 ∧ r1.2 4 = S1 ∧ (∀ j, j < 72 → r1.1 17 j = o1 j) ∧ r1.1 18 0 - (r1.2 4 0).toInt32 = r.1 18 0 - (r.2 4 0).toInt32 ∧ r1.1 19 0 - r1.1 3 10 = r.1 19 0 - r.1 3 10 ∧ (∀ k, k ≠ 3 → k ≠ 17 → k ≠ 18 → k ≠ 19 → r1.1 k = r.1 k) ∧ ∀ k, k ≠ 4 → r1.2 k = r.2 k
theorem upd_pt {f g : Nat → Int32} {a : Nat} {x y : Int32} (h : ∀ j, j < 72 → f j = g j) (e : x = y) : ∀ j, j < 72 → upd f a x j = upd g a y j := by
  intro j hj
  by_cases z : j = a
  · subst z; rw [pk_us, pk_us, e]
  · rw [pk_un z, pk_un z]; exact h j hj
theorem zst.trans {r r1 r2 : RS} {R1 R2 : Nat → Int32} {S1 S2 : Nat → Int64} {o1 o2 : Nat → Int32} (h1 : zst r r1 R1 S1 o1) (h2 : zst r1 r2 R2 S2 o2) : zst r r2 R2 S2 o2 := by
  obtain ⟨a1, a2, a3, a4, a5, a6, a7⟩ := h1
  obtain ⟨b1, b2, b3, b4, b5, b6, b7⟩ := h2
  exact ⟨b1, b2, b3, b4.trans a4, b5.trans a5, fun k k1 k2 k3 k4 => (b6 k k1 k2 k3 k4).trans (a6 k k1 k2 k3 k4), fun k hk => (b7 k hk).trans (a7 k hk)⟩
theorem i64_succ (x : Int64) : (x + 1).toInt32 = x.toInt32 + 1 := by
  rw [Int64.toInt32_add]
  rfl
/-- what a given segment leaves as it was -/
def zgfr (R R1 : Nat → Int32) : Prop := ∀ j, (j < 5 ∨ j = 6 ∨ (7 ≤ j ∧ j < 11) ∨ j = 12 ∨ (14 ≤ j ∧ j < 55) ∨ (433 ≤ j ∧ j < 993)) → R1 j = R j
theorem nI_i64 {x : Nat} (h : x < 2147483648) : (nI x).toInt64 = nL x := by
  apply Int64.toInt_inj.mp
  rw [Int32.toInt_toInt64, nI_toInt h]
  exact (Int64.toInt_ofNat_of_lt (by omega)).symm
theorem nL_add (a b : Nat) : nL a + nL b = nL (a + b) := (Int64.ofNat_add a b).symm
theorem k_give {n nr : Nat} {m : Nat → Nat} {cnt : Nat → Nat → Nat} {i : Nat} {cs g : Nat → RS} {R o : Nat → Int32} {S : Nat → Int64} {f q B : Nat} {Q : (Nat → RS) → Prop} (h : SimX n nr m g R S) (hM : Mid n cnt i cs g o) (hb : Bd B R S) (hi : i ≤ 16) (hf : f < n) (hq : q < 4) (hop : ¬ (cs 4).1 6 f = 0) (hQ : ∀ (cs1 g1 : Nat → RS) (R1 o1 : Nat → Int32) (S1 : Nat → Int64) (nr1 : Nat), SimX n nr1 m g1 R1 S1 → Mid n cnt i cs1 g1 o1 → Bd (B + 1) R1 S1 → (cs1 4).1 6 = upd ((cs 4).1 6) f 0 → (cs1 4).1 4 = (cs 4).1 4 → (cs1 4).1 5 = (cs 4).1 5 → (∀ j, j ≠ 3 * f + 2 → o1 j = o j) → (∀ k, 5 ≤ k → cs1 k = cs k) → zgfr R R1 → (∀ (r : RS) (Qb : RS → Prop), r.1 3 = R → r.2 4 = S → (∀ j, j < 72 → r.1 17 j = o j) → (∀ r1, zst r r1 R1 S1 o1 → Qb r1) → wp_X8_gives r (nI f) (nI q) Qb) → Q cs1) : wp_X5_give cs (nI f) (nI q) Q := by
  have hh := h
  obtain ⟨h0, hK, hF, hR, hT, hQu, hW, hG, hN, hO, hA⟩ := hh
  have hn24 : n ≤ 24 := hF.2.1
  obtain ⟨mo, m20, m21, m40, m42, m43, m4L, mW, mP⟩ := hM
  obtain ⟨p, p1, p2, p3, p4⟩ := mP f (by omega)
  have ppos : 0 < p := by
    rcases Nat.eq_zero_or_pos p with z | z
    · rw [z] at p2; exact absurd p2 hop
    · exact z
  obtain ⟨-, x, x1, x2, x3, x4⟩ := p4 ppos
  obtain ⟨k, t, g1, g2, g3, g4, g5, g6, g7⟩ := hG
  have c0 : g 0 = cs 0 := mo 0 (by decide) (by decide)
  have hO' := hO
  rw [c0] at hO'
  have t4 : (cs 0).1 5 4 = R 18 := hO'.1 4 (by omega)
  have t5 : (cs 0).1 5 5 = R 19 := hO'.1 5 (by omega)
  have t6 : (cs 0).1 5 6 = R 20 := hO'.1 6 (by omega)
  have tt : (cs 0).1 6 0 = R 6 := hO'.2.1
  have tf : (cs 0).1 7 0 = R 11 := hO'.2.2.1
  obtain ⟨y5, y51, y52, y53⟩ := hO.2.2.2.2 5 (by omega)
  have y53' : R 19 = nI y5 := y53
  have y51' : 64 ≤ y5 := y51
  have y52' : y5 ≤ 4096 := y52
  have n19 : ¬ R 19 ≤ 0 := by rw [y53']; exact fun z => absurd ((nI_leI (by omega) (by decide)).mp (show nI y5 ≤ nI 0 from z)) (by omega)
  have n190 : ¬ R 19 = 0 := by rw [y53']; exact nI_ne0 (by omega) (by omega)
  have r9 : (g 2).1 1 (16 * 24 + f) = R (73 + 15 * f + 10) := hF.2.2.1 f 10 hf (by omega)
  have r13 : (g 2).1 1 (19 * 24 + f) = R (73 + 15 * f + 13) := hF.2.2.1 f 13 hf (by omega)
  have r11 : (g 2).1 1 (17 * 24 + f) = R (73 + 15 * f + 11) := hF.2.2.1 f 11 hf (by omega)
  have k9 : (cs 2).1 1 (16 * 24 + f) = R (73 + 15 * f + 10) := by rw [← m21 16 f (by omega) (by omega) (by omega) (by omega)]; exact r9
  have k13 : (cs 2).1 1 (19 * 24 + f) = R (73 + 15 * f + 13) := by rw [← m21 19 f (by omega) (by omega) (by omega) (by omega)]; exact r13
  have k11 : (cs 2).1 1 (17 * 24 + f) = R (73 + 15 * f + 11) := by rw [← m21 17 f (by omega) (by omega) (by omega) (by omega)]; exact r11
  have s0 : (cs 4).1 0 0 = nI k := by rw [← m40]; exact g3
  have s2 : (cs 4).1 2 0 = nI t := by rw [← m42]; exact g5
  have i24 : vp_in (nI f) 24 := in_nI (by omega) (by decide)
  have size5 : (cs 4).1 5 f = o (3 * f + 1) := x2.trans x3.symm
  have pk6 : (cs 4).1 6 f = o (3 * f + 2) := p2.trans p3.symm
  unfold wp_X5_give wp_X5_give_137 wp_X4_endOf
  rw [zn_nI (by omega)]
  refine ⟨i24, i24, fun u1 e1 => ?_⟩
  rw [va_up_id] at e1
  subst e1
  refine q0_put 15 f rfl rfl (by omega) (by omega) (fun w1 w10 w11 u2 e2 => ?_)
  have u22 : u2 2 = w1 := by rw [e2, vu_s]
  rw [u22]
  refine q0_add 16 f rfl rfl (by omega) (by omega) (fun w2 w20 w21 u3 e3 => ?_)
  have u34 : u3 4 = u1 4 := by rw [e3, vu_n _ _ (by decide), e2, vu_n _ _ (by decide)]
  unfold wp_X4_sizeOf
  rw [u34, zn_nI (by omega)]
  refine ⟨i24, fun u4 e4 => ?_⟩
  rw [← u34, va_up_id] at e4
  subst e4
  have u42 : u4 2 = w2 := by rw [e3, vu_s]
  rw [u42]
  refine q0_add 19 f rfl rfl (by omega) (by omega) (fun w3 w30 w31 u5 e5 => ?_)
  have u50 : u5 0 = u1 0 := by rw [e5, vu_n _ _ (by decide), e3, vu_n _ _ (by decide), e2, vu_n _ _ (by decide)]
  have u54 : u5 4 = u1 4 := by rw [e5, vu_n _ _ (by decide)]; exact u34
  have u52 : u5 2 = w3 := by rw [e5, vu_s]
  rw [u54, u50, t4, t5]
  refine q4_close f k t (by omega) g1 g2 s0 s2 n19 n190 (fun s1 hs1 u6 e6 => ?_)
  obtain ⟨z0, z2, z3, z4, z5, z6, zL⟩ := hs1
  rw [size5, pk6] at zL z3
  rw [x4] at z3
  have u62 : u6 2 = w3 := by rw [e6, vu_n _ _ (by decide)]; exact u52
  have u64 : u6 4 = s1 := by rw [e6, vu_s]
  have u60 : u6 0 = u1 0 := by rw [e6, vu_n _ _ (by decide)]; exact u50
  have u6o : ∀ j, j ≠ 2 → j ≠ 4 → u6 j = u1 j := fun j j2 j4 => by rw [e6, vu_n _ _ j4, e5, vu_n _ _ j2, e3, vu_n _ _ j2, e2, vu_n _ _ j2]
  have cw : w3.1 1 = upd (upd (upd ((u1 2).1 1) (15 * 24 + f) (o (3 * f) + o (3 * f + 1))) (16 * 24 + f) (R (73 + 15 * f + 10) + 1)) (19 * 24 + f) (R (73 + 15 * f + 13) + o (3 * f + 1)) := by
    rw [w31, w21, w11, pk_un (show 16 * 24 + f ≠ 15 * 24 + f by omega), pk_un (show 19 * 24 + f ≠ 16 * 24 + f by omega), pk_un (show 19 * 24 + f ≠ 15 * 24 + f by omega), k9, k13, x4, size5]
  -- the ghost
  obtain ⟨hd, ehd⟩ : ∃ hd, hd = zmin (R 18) (o (3 * f + 1)) := ⟨_, rfl⟩
  obtain ⟨mr, emr⟩ : ∃ mr, mr = o (3 * f + 1) - hd := ⟨_, rfl⟩
  obtain ⟨pg, epg⟩ : ∃ pg, pg = (mr + R 19 - 1) / R 19 := ⟨_, rfl⟩
  rw [← ehd] at zL z3
  rw [← emr] at zL z3
  rw [← epg] at zL z3
  have a1 := h.close (s1 := rI s1 6 ((g 4).1 6)) (x1 := nI f) (pl := o (3 * f)) (z := o (3 * f + 1)) (p := o (3 * f + 2)) (pg := pg) (hd := hd) (mo := mr) g3 g1 g5 g2 (by rw [rI_n _ _ (by decide)]; exact z0) (by rw [rI_n _ _ (by decide)]; exact z2) (by rw [rI_n _ _ (by decide), z3, m43]) (rI_s _ _ _) (by rw [rI_2, zL, m4L])
  have a2 := a1.fld (k := 9) (x := o (3 * f) + o (3 * f + 1)) (w := rI (g 2) 1 (upd ((g 2).1 1) (15 * 24 + f) (o (3 * f) + o (3 * f + 1)))) hf (by omega) (fun z => absurd z (by decide)) (fun z => absurd z (by decide)) (by rw [vu_n _ _ (by decide), rI_n _ _ (by decide)]) (by rw [vu_n _ _ (by decide), rI_s]; rfl)
  have a3 := a2.fld (k := 10) (x := R (73 + 15 * f + 10) + 1) (w := rI (g 2) 1 (upd (upd ((g 2).1 1) (15 * 24 + f) (o (3 * f) + o (3 * f + 1))) (16 * 24 + f) (R (73 + 15 * f + 10) + 1))) hf (by omega) (fun z => absurd z (by decide)) (fun z => absurd z (by decide)) (by rw [vu_s, rI_n _ _ (by decide), rI_n _ _ (by decide)]) (by rw [vu_s, rI_s, rI_s]; rfl)
  have a4 := a3.fld (k := 13) (x := R (73 + 15 * f + 13) + o (3 * f + 1)) (w := rI (g 2) 1 (upd (upd (upd ((g 2).1 1) (15 * 24 + f) (o (3 * f) + o (3 * f + 1))) (16 * 24 + f) (R (73 + 15 * f + 10) + 1)) (19 * 24 + f) (R (73 + 15 * f + 13) + o (3 * f + 1)))) hf (by omega) (fun z => absurd z (by decide)) (fun z => absurd z (by decide)) (by rw [vu_s, rI_n _ _ (by decide), rI_n _ _ (by decide)]) (by rw [vu_s, rI_s, rI_s]; rfl)
  obtain ⟨G, eG⟩ : ∃ G, G = va_up (va_up (va_up (va_up g 4 (rI s1 6 ((g 4).1 6))) 2 (rI (g 2) 1 (upd ((g 2).1 1) (15 * 24 + f) (o (3 * f) + o (3 * f + 1))))) 2 (rI (g 2) 1 (upd (upd ((g 2).1 1) (15 * 24 + f) (o (3 * f) + o (3 * f + 1))) (16 * 24 + f) (R (73 + 15 * f + 10) + 1)))) 2 (rI (g 2) 1 (upd (upd (upd ((g 2).1 1) (15 * 24 + f) (o (3 * f) + o (3 * f + 1))) (16 * 24 + f) (R (73 + 15 * f + 10) + 1)) (19 * 24 + f) (R (73 + 15 * f + 13) + o (3 * f + 1)))) := ⟨_, rfl⟩
  rw [← eG] at a4
  obtain ⟨RF, eRF⟩ : ∃ RF, RF = upd (upd (upd (zsegR R k (nI f) (o (3 * f)) (o (3 * f + 1)) (o (3 * f + 2)) pg hd) (73 + 15 * f + 9) (o (3 * f) + o (3 * f + 1))) (73 + 15 * f + 10) (R (73 + 15 * f + 10) + 1)) (73 + 15 * f + 13) (R (73 + 15 * f + 13) + o (3 * f + 1)) := ⟨_, rfl⟩
  rw [← eRF] at a4
  obtain ⟨S1, eS1⟩ : ∃ S1, S1 = zsm S (o (3 * f + 2)) (o (3 * f + 1)) hd mr pg := ⟨_, rfl⟩
  rw [← eS1] at a4
  have fF : ∀ j, j ≠ 13 → ¬ (73 ≤ j ∧ j < 433) → j < 993 → RF j = R j := by
    intro j j13 jf j9
    rw [eRF, pk_un (by omega), pk_un (by omega), pk_un (by omega), zsegR_o g1 j13 j9]
  have fF11 : RF (73 + 15 * f + 11) = R (73 + 15 * f + 11) := by
    rw [eRF, pk_un (by omega), pk_un (by omega), pk_un (by omega), zsegR_o g1 (by omega) (by omega)]
  have G2 : (G 2).1 1 = upd (upd (upd ((g 2).1 1) (15 * 24 + f) (o (3 * f) + o (3 * f + 1))) (16 * 24 + f) (R (73 + 15 * f + 10) + 1)) (19 * 24 + f) (R (73 + 15 * f + 13) + o (3 * f + 1)) := by rw [eG, vu_s, rI_s]
  have G20 : (G 2).1 0 = (g 2).1 0 := by rw [eG, vu_s, rI_n _ _ (by decide)]
  have G4 : G 4 = rI s1 6 ((g 4).1 6) := by rw [eG, vu_n _ _ (by decide), vu_n _ _ (by decide), vu_n _ _ (by decide), vu_s]
  have Go : ∀ j, j ≠ 2 → j ≠ 4 → G j = u1 j := fun j j2 j4 => by rw [eG, vu_n _ _ j2, vu_n _ _ j2, vu_n _ _ j2, vu_n _ _ j4]; exact mo j j2 j4
  have cells : ∀ a j, a < 20 → a ≠ 7 → a ≠ 8 → j < 24 → (G 2).1 1 (a * 24 + j) = w3.1 1 (a * 24 + j) := by
    intro a j ha h7 h8 hj
    rw [G2, cw]
    by_cases b1 : a * 24 + j = 19 * 24 + f
    · rw [b1, pk_us, pk_us]
    · rw [pk_un b1, pk_un b1]
      by_cases b2 : a * 24 + j = 16 * 24 + f
      · rw [b2, pk_us, pk_us]
      · rw [pk_un b2, pk_un b2]
        by_cases b3 : a * 24 + j = 15 * 24 + f
        · rw [b3, pk_us, pk_us]
        · rw [pk_un b3, pk_un b3]; exact m21 a j ha h7 h8 hj
  have w3n : w3.1 0 = (u1 2).1 0 := by rw [w30, w20, w10]
  have c78 : ∀ j, j < 24 → w3.1 1 (7 * 24 + j) = (u1 2).1 1 (7 * 24 + j) ∧ w3.1 1 (8 * 24 + j) = (u1 2).1 1 (8 * 24 + j) := by
    intro j hj
    rw [cw]
    exact ⟨by rw [pk_un (by omega), pk_un (by omega), pk_un (by omega)], by rw [pk_un (by omega), pk_un (by omega), pk_un (by omega)]⟩
  have pP : sP n i s1 (upd o (3 * f + 2) 0) := by
    intro j hj
    by_cases e : j = f
    · subst e
      exact ⟨0, by omega, by rw [z6, pk_us]; rfl, by rw [pk_us]; rfl, fun z => absurd z (by omega)⟩
    · obtain ⟨b, b1, b2, b3, b4⟩ := mP j hj
      refine ⟨b, b1, by rw [z6, pk_un e]; exact b2, by rw [pk_un (by omega)]; exact b3, fun z => ?_⟩
      obtain ⟨d1, y, d2, d3, d4, d5⟩ := b4 z
      exact ⟨d1, y, d2, by rw [z5]; exact d3, by rw [pk_un (by omega)]; exact d4, by rw [z4, pk_un (by omega)]; exact d5⟩
  have bdF : ∀ R1 : Nat → Int32, (∀ j, (39 ≤ j ∧ j < 55) ∨ (441 ≤ j ∧ j < 993) → R1 j = R j) → Bd (B + 1) R1 S1 := by
    intro R1 hR1
    obtain ⟨b1, ⟨GG, P, Y, v1, v2, v3, v4, v5, v6, v7⟩, b3⟩ := hb
    refine ⟨fun e he => ?_, ⟨GG + 1, P + p, Y + x, ?_, ?_, ?_, by omega, by omega, by omega, by omega⟩, fun a b ha hb' => by rw [hR1 _ (by omega)]; exact b3 a b ha hb'⟩
    · obtain ⟨y, y1, y2⟩ := b1 e he
      rw [hR1 _ (by omega)]
      exact ⟨y, by omega, y2⟩
    · rw [eS1, zsm_at _ _ _ _ _ _ 0 (by omega), v1]
      exact nL_add GG 1
    · rw [eS1, zsm_at _ _ _ _ _ _ 1 (by omega), v2, p3]
      show nL P + (nI p).toInt64 = _
      rw [nI_i64 (by omega), nL_add]
    · rw [eS1, zsm_at _ _ _ _ _ _ 2 (by omega), v3, x3]
      show nL Y + (nI x).toInt64 = _
      rw [nI_i64 (by omega), nL_add]
  have S10 : S1 0 = S 0 + 1 := by rw [eS1, zsm_at _ _ _ _ _ _ 0 (by omega)]; rfl
  -- the reference, as far as follows
  have ref : ∀ (R1 : Nat → Int32), (∀ (r1 : RS) (Qb : RS → Prop), r1.1 3 = RF → (∀ r2, r2 = rI r1 3 R1 → Qb r2) → wp_X8_follows r1 (nI f) (nI q) Qb) → R1 10 = R 10 → ∀ (r : RS) (Qb : RS → Prop), r.1 3 = R → r.2 4 = S → (∀ j, j < 72 → r.1 17 j = o j) → (∀ r1, zst r r1 R1 S1 (upd o (3 * f + 2) 0) → Qb r1) → wp_X8_gives r (nI f) (nI q) Qb := by
    intro R1 hfol h10 r Qb hr hS ho hQb
    refine q8_gives f k (by omega) g1 (by rw [hr]; exact g4) (by rw [hr]; exact n190) (fun r1 hg => ?_)
    obtain ⟨q1, q2, q3, q4, q5, q6⟩ := hg
    rw [hr, ho (3 * f) (by omega), ho (3 * f + 1) (by omega), ho (3 * f + 2) (by omega), ← ehd, ← emr, ← epg, ← eRF] at q1
    rw [hr, ho (3 * f + 1) (by omega), ho (3 * f + 2) (by omega), hS, ← ehd, ← emr, ← epg, ← eS1] at q2
    refine hfol r1 Qb q1 (fun r2 e2 => hQb r2 ⟨?_, ?_, ?_, ?_, ?_, fun j j3 j17 j18 j19 => ?_, fun j hj => ?_⟩)
    · rw [e2, rI_s]
    · rw [e2, rI_2, q2]
    · rw [e2, rI_n _ _ (by decide), q3]; exact upd_pt ho rfl
    · rw [e2, rI_n _ _ (by decide), rI_2, q2, q4, S10, hS, i64_succ]
      grind
    · rw [e2, rI_n _ _ (by decide), rI_s, q5 19 (by decide) (by decide) (by decide), hr, h10]
    · rw [e2, rI_n _ _ j3]; exact q5 j j3 j17 j18
    · rw [e2, rI_2]; exact q6 j hj
  have midA : Mid n cnt i u6 G (upd o (3 * f + 2) 0) := by
    refine ⟨fun j j2 j4 => by rw [u6o j j2 j4]; exact Go j j2 j4, ?_, ?_, ?_, ?_, ?_, ?_, ?_, ?_⟩
    · rw [u62, w3n, G20]; exact m20
    · rw [u62]; exact cells
    · rw [G4, u64, rI_n _ _ (by decide)]
    · rw [G4, u64, rI_n _ _ (by decide)]
    · rw [G4, u64, rI_n _ _ (by decide)]
    · rw [G4, u64, rI_2]
    · rw [u62]
      refine ⟨fun j hj => ?_, fun j j1 j2 => ?_⟩
      · rw [(c78 j (by omega)).1, (c78 j (by omega)).2]
        exact mW.1 j hj
      · rw [(c78 j j2).1, (c78 j j2).2]
        exact mW.2 j j1 j2
    · rw [u64]; exact pP
  have frF : zgfr R RF := fun j hj => fF j (by omega) (by omega) (by omega)
  have rF : sR n nr ((G 2).1 1) RF := a4.2.2.2.1
  have rd : w3.1 1 (17 * 24 + f) = R (73 + 15 * f + 11) := by rw [cw, pk_un (by omega), pk_un (by omega), pk_un (by omega)]; exact k11
  have ru : w3.1 1 (13 * 24 + f) = (G 2).1 1 (13 * 24 + f) := (cells 13 f (by omega) (by omega) (by omega) (by omega)).symm
  have g20' : RF 20 = R 20 := fF 20 (by omega) (by omega) (by omega)
  have g6' : RF 6 = R 6 := fF 6 (by omega) (by omega) (by omega)
  have g11' : RF 11 = R 11 := fF 11 (by omega) (by omega) (by omega)
  -- follows with nothing to do
  have none : (¬ R 20 = 1 ∨ R (73 + 15 * f + 11) = -1 ∨ R (73 + 15 * f + 11) = nI q ∨ (G 2).1 1 (13 * 24 + f) = R (73 + 15 * f + 11)) → Q u6 := by
    intro hno
    refine hQ u6 G RF (upd o (3 * f + 2) 0) S1 nr a4 midA (bdF RF (fun j hj => fF j (by omega) (by omega) (by omega))) (by rw [u64]; exact z6) (by rw [u64]; exact z4) (by rw [u64]; exact z5) (fun j hj => pk_un hj) (fun j hj => u6o j (by omega) (by omega)) frF (ref RF (fun r1 Qb q1 hQb => ?_) (fF 10 (by omega) (by omega) (by omega)))
    have hQ1 : Qb r1 := hQb r1 (by rw [← q1, rI_id])
    unfold wp_X8_follows wp_X8_follows_46
    refine q8_flowAt f rfl ?_
    rw [show nI (73 + 15 * f) + 11 = nI (73 + 15 * f + 11) from nI_addl _ _, zn_nI (by omega), q1, fF11]
    refine ⟨in_nI (by omega) (by decide), fun rdr er => ?_⟩
    have cond : ∀ t0 : Int32, (t0 = 0 → ¬ R (73 + 15 * f + 11) = -1 → ¬ (G 2).1 1 (13 * 24 + f) = R (73 + 15 * f + 11)) → wp_X8_follows_47 Qb r1 (nI f) (nI q) rdr t0 := by
      intro t0 ht0
      unfold wp_X8_follows_47 wp_X8_follows_93
      refine ⟨fun _ => hQ1, fun b1 => ⟨fun _ => hQ1, fun b2 => ⟨fun _ => hQ1, fun b3 => ⟨fun _ => hQ1, fun b4 => ?_⟩⟩⟩⟩
      rw [q1, g20'] at b1
      rw [er] at b2 b3
      rcases hno with y | y | y | y
      · exact absurd b1 y
      · exact absurd y b2
      · exact absurd y b3
      · exact absurd y (ht0 b4 b2)
    refine q8_ruleOf1 nr (by rw [q1]; exact rF.1.2.1) rF.1.1 (fun v hv => ?_)
    rcases hv with ⟨rr, v1, v2, v3⟩ | ⟨v1, v2⟩
    · refine ⟨fun y => absurd (v2.symm.trans y) (nI_nm1 (by have := rF.1.1; omega)), fun _ => q8_ruleAt rr v2 ?_⟩
      have rr6 : rr < 6 := by have := rF.1.1; omega
      rw [q1] at v3
      obtain ⟨gg, b1, b2, b3, b4, b5⟩ := rF.1.2.2.2.1 rr v1
      have gf : gg = f := (nI_eq (by omega) (by omega)).mp (b2.symm.trans v3)
      subst gf
      rw [show nI (55 + 3 * rr) + 1 = nI (55 + 3 * rr + 1) from nI_addl _ _, zn_nI (by omega), q1, b4]
      exact ⟨in_nI (by omega) (by decide), fun y => cond 0 (fun _ _ z => y (by rw [z, er])), fun y => cond 1 (fun z => absurd z (by decide))⟩
    · refine ⟨fun _ => cond 0 (fun _ y z => ?_), fun y => absurd v1 y⟩
      have hz : zhasR ((G 2).1 1) f = false := by
        cases e : zhasR ((G 2).1 1) f with
        | false => rfl
        | true =>
          obtain ⟨rr, c1, c2⟩ := rF.1.2.2.2.2.1 f hf e
          exact absurd (by rw [q1]; exact c2) (v2 rr c1)
      have hm1 : (G 2).1 1 (13 * 24 + f) = -1 := by simpa [zhasR] using hz
      rw [hm1] at z
      exact y z.symm
  -- the class's end
  rw [u62]
  refine q0_get 17 f rfl rfl (by omega) (by omega) (fun u7 e7 => ?_)
  rw [← u62, va_up_id] at e7
  subst e7
  rw [rd, u60, t6]
  refine ⟨fun b1 => none (Or.inl b1), fun b1 => ⟨fun b2 => none (Or.inr (Or.inl b2)), fun b2 => ⟨fun b3 => none (Or.inr (Or.inr (Or.inl b3))), fun b3 => ?_⟩⟩⟩
  rw [u62]
  refine q0_get 13 f rfl rfl (by omega) (by omega) (fun u8 e8 => ?_)
  rw [← u62, va_up_id] at e8
  subst e8
  rw [ru]
  refine ⟨fun b4 => none (Or.inr (Or.inr (Or.inr b4))), fun b4 => ?_⟩
  obtain ⟨rq, rq1, rq2⟩ : ∃ rq, rq < 4 ∧ R (73 + 15 * f + 11) = nI rq := by
    rcases hF.2.2.2.2.2.1 f hf with y | y
    · exact absurd y b2
    · exact y
  rw [u62, u60, tt, rq2]
  refine q0_putRule n f (by rw [w3n, ← m20]; exact h0) hn24 rfl (by omega) (fun went w4 w40 w4z u9 e9 u10 e10 => ?_)
  obtain ⟨d1, dz, d13, d14, do1, do2⟩ := w4z.other (d := (G 2).1 1) hn24 hf (fun j hj => cells 13 j (by omega) (by omega) (by omega) hj) (fun j hj => cells 14 j (by omega) (by omega) (by omega) hj)
  have nq : ¬ nI rq = -1 := nI_nm1 (by omega)
  have u92 : u9 2 = w4 := by rw [e9, vu_s]
  have u90 : u9 0 = u1 0 := by rw [e9, vu_n _ _ (by decide)]; exact u60
  have u10o : ∀ j, j ≠ 0 → j ≠ 2 → j ≠ 4 → u10 j = u1 j := fun j j0 j2 j4 => by rw [e10, vu_n _ _ j0, e9, vu_n _ _ j2]; exact u6o j j2 j4
  have u104 : u10 4 = s1 := by rw [e10, vu_n _ _ (by decide), e9, vu_n _ _ (by decide)]; exact u64
  have u102 : u10 2 = w4 := by rw [e10, vu_n _ _ (by decide)]; exact u92
  have u100 : u10 0 = rN (u1 0) 7 (R 11 + 1) := by rw [e10, vu_s, u90, tf]
  have G0 : G 0 = u1 0 := Go 0 (by decide) (by decide)
  have mid : ∀ G1 : Nat → RS, G1 = va_up (va_up G 2 (rI (G 2) 1 d1)) 0 (rN (G 0) 7 (R 11 + 1)) → Mid n cnt i u10 G1 (upd o (3 * f + 2) 0) := by
    intro G1 eG1
    have G12 : G1 2 = rI (G 2) 1 d1 := by rw [eG1, vu_n _ _ (by decide), vu_s]
    have G14 : G1 4 = rI s1 6 ((g 4).1 6) := by rw [eG1, vu_n _ _ (by decide), vu_n _ _ (by decide)]; exact G4
    refine ⟨fun j j2 j4 => ?_, ?_, fun a j ha h7 h8 hj => ?_, ?_, ?_, ?_, ?_, ?_, ?_⟩
    · by_cases j0 : j = 0
      · subst j0
        rw [eG1, vu_s, u100, G0]
      · rw [eG1, vu_n _ _ j0, vu_n _ _ j2, u10o j j0 j2 j4]; exact Go j j2 j4
    · rw [G12, rI_n _ _ (by decide), u102, w40, w3n, G20]; exact m20
    · rw [G12, rI_s, u102]
      by_cases a13 : a = 13
      · subst a13; exact d13 j hj
      · by_cases a14 : a = 14
        · subst a14; exact d14 j hj
        · rw [do1 a j a13 a14 hj, do2 a j a13 a14 hj]; exact cells a j ha h7 h8 hj
    · rw [G14, u104, rI_n _ _ (by decide)]
    · rw [G14, u104, rI_n _ _ (by decide)]
    · rw [G14, u104, rI_n _ _ (by decide)]
    · rw [G14, u104, rI_2]
    · rw [u102]
      refine ⟨fun j hj => ?_, fun j j1 j2 => ?_⟩
      · rw [do2 7 j (by omega) (by omega) (by omega), do2 8 j (by omega) (by omega) (by omega), (c78 j (by omega)).1, (c78 j (by omega)).2]
        exact mW.1 j hj
      · rw [do2 7 j (by omega) (by omega) j2, do2 8 j (by omega) (by omega) j2, (c78 j j2).1, (c78 j j2).2]
        exact mW.2 j j1 j2
    · rw [u104]; exact pP
  -- the row with the rule: found by running the reference's steers over any state with this row
  rw [← g6'] at dz
  obtain ⟨R1, nr1, rr1, rf1, rrun⟩ := x8_steers n nr f hn24 hf nq rF.1 dz
  have b5 := a4.putRule (w := rI (G 2) 1 d1) hf rq1 (rI_n _ _ (by decide)) (by rw [rI_s]; exact dz) (by rw [rI_s]; exact rr1) rf1
  have b6 := b5.follow (x := R 11 + 1)
  have eG0 : va_up G 2 (rI (G 2) 1 d1) 0 = G 0 := vu_n _ _ (by decide)
  rw [eG0] at b6
  have R111 : R1 11 = R 11 := by rw [rf1 11 (by omega) (by omega)]; exact g11'
  have frR : ∀ j, (j < 5 ∨ j = 6 ∨ (7 ≤ j ∧ j < 11) ∨ j = 12 ∨ (14 ≤ j ∧ j < 55) ∨ (433 ≤ j ∧ j < 993)) → upd R1 11 (R 11 + 1) j = R j := by
    intro j hj
    rw [pk_un (by omega), rf1 j (by omega) (by omega)]
    exact frF j hj
  refine hQ u10 _ (upd R1 11 (R 11 + 1)) (upd o (3 * f + 2) 0) S1 nr1 b6 (mid _ rfl) (bdF _ (fun j hj => frR j (by omega))) (by rw [u104]; exact z6) (by rw [u104]; exact z4) (by rw [u104]; exact z5) (fun j hj => pk_un hj) (fun j hj => u10o j (by omega) (by omega) (by omega)) frR (ref _ (fun r1 Qb q1 hQb => ?_) (frR 10 (by omega)))
  unfold wp_X8_follows wp_X8_follows_46
  refine q8_flowAt f rfl ?_
  rw [show nI (73 + 15 * f) + 11 = nI (73 + 15 * f + 11) from nI_addl _ _, zn_nI (by omega), q1, fF11]
  refine ⟨in_nI (by omega) (by decide), fun rdr er => ?_⟩
  have cond : wp_X8_follows_47 Qb r1 (nI f) (nI q) rdr 0 := by
    unfold wp_X8_follows_47 wp_X8_follows_93
    rw [q1, g20', er]
    refine ⟨fun y => absurd b1 y, fun _ => ⟨fun y => absurd y b2, fun _ => ⟨fun y => absurd y b3, fun _ => ⟨fun y => absurd rfl y, fun _ => ?_⟩⟩⟩⟩
    rw [rq2]
    refine rrun r1 _ q1 (fun r2 e2 => hQb r2 ?_)
    rw [e2, rI_rI, rI_s, R111]
  refine q8_ruleOf1 nr (by rw [q1]; exact rF.1.2.1) rF.1.1 (fun v hv => ?_)
  rcases hv with ⟨rr, v1, v2, v3⟩ | ⟨v1, v2⟩
  · refine ⟨fun y => absurd (v2.symm.trans y) (nI_nm1 (by have := rF.1.1; omega)), fun _ => q8_ruleAt rr v2 ?_⟩
    have rr6 : rr < 6 := by have := rF.1.1; omega
    rw [q1] at v3
    obtain ⟨gg, y1, y2, y3, y4, y5⟩ := rF.1.2.2.2.1 rr v1
    have gf : gg = f := (nI_eq (by omega) (by omega)).mp (y2.symm.trans v3)
    subst gf
    rw [show nI (55 + 3 * rr) + 1 = nI (55 + 3 * rr + 1) from nI_addl _ _, zn_nI (by omega), q1, y4]
    exact ⟨in_nI (by omega) (by decide), fun _ => cond, fun y => absurd (y.trans er) b4⟩
  · exact ⟨fun _ => cond, fun y => absurd v1 y⟩
