-- the pure side: a segment is given, one by one
theorem zl10 {A1 A2 A3 A4 A5 A6 A7 A8 A9 A10 : Type} (F : (A1 → A2 → A3 → A4 → A5 → A6 → A7 → A8 → A9 → A10 → Prop) → A1 → A2 → A3 → A4 → A5 → A6 → A7 → A8 → A9 → A10 → Prop) (N : Nat) (P : Nat → A1 → A2 → A3 → A4 → A5 → A6 → A7 → A8 → A9 → A10 → Prop) (hs : ∀ (i : Nat) (B : A1 → A2 → A3 → A4 → A5 → A6 → A7 → A8 → A9 → A10 → Prop) (a1 : A1) (a2 : A2) (a3 : A3) (a4 : A4) (a5 : A5) (a6 : A6) (a7 : A7) (a8 : A8) (a9 : A9) (a10 : A10), i ≤ N → P i a1 a2 a3 a4 a5 a6 a7 a8 a9 a10 → (∀ (b1 : A1) (b2 : A2) (b3 : A3) (b4 : A4) (b5 : A5) (b6 : A6) (b7 : A7) (b8 : A8) (b9 : A9) (b10 : A10), i < N → P (i + 1) b1 b2 b3 b4 b5 b6 b7 b8 b9 b10 → B b1 b2 b3 b4 b5 b6 b7 b8 b9 b10) → F B a1 a2 a3 a4 a5 a6 a7 a8 a9 a10) (i : Nat) (hi : i ≤ N) (a1 : A1) (a2 : A2) (a3 : A3) (a4 : A4) (a5 : A5) (a6 : A6) (a7 : A7) (a8 : A8) (a9 : A9) (a10 : A10) (h : P i a1 a2 a3 a4 a5 a6 a7 a8 a9 a10) : ∃ n, zit10 F n a1 a2 a3 a4 a5 a6 a7 a8 a9 a10 := by
  have key : ∀ (d i : Nat), i + d = N → ∀ (a1 : A1) (a2 : A2) (a3 : A3) (a4 : A4) (a5 : A5) (a6 : A6) (a7 : A7) (a8 : A8) (a9 : A9) (a10 : A10), P i a1 a2 a3 a4 a5 a6 a7 a8 a9 a10 → zit10 F (d + 1) a1 a2 a3 a4 a5 a6 a7 a8 a9 a10 := by
    intro d
    induction d with
    | zero => intro i e a1 a2 a3 a4 a5 a6 a7 a8 a9 a10 h; exact hs i _ a1 a2 a3 a4 a5 a6 a7 a8 a9 a10 (by omega) h (fun b1 b2 b3 b4 b5 b6 b7 b8 b9 b10 hlt _ => absurd hlt (by omega))
    | succ d ih => intro i e a1 a2 a3 a4 a5 a6 a7 a8 a9 a10 h; exact hs i _ a1 a2 a3 a4 a5 a6 a7 a8 a9 a10 (by omega) h (fun b1 b2 b3 b4 b5 b6 b7 b8 b9 b10 _ hb => ih (i + 1) (by omega) b1 b2 b3 b4 b5 b6 b7 b8 b9 b10 hb)
  exact ⟨N - i + 1, key (N - i) i (by omega) a1 a2 a3 a4 a5 a6 a7 a8 a9 a10 h⟩
/-- what is given in all, with one segment more -/
def zsm (S : Nat → Int64) (p z hd mo pg : Int32) : Nat → Int64 := vp_updL (vp_updL (vp_updL (vp_updL (vp_updL (vp_updL (vp_updL S 0 (S 0 + 1)) 1 (S 1 + p.toInt64)) 2 (S 2 + z.toInt64)) 3 (S 3 + if hd ≤ 0 then 0 else 1)) 4 (S 4 + hd.toInt64)) 5 (S 5 + mo.toInt64)) 6 (S 6 + pg.toInt64)
theorem zsm_at (S : Nat → Int64) (p z hd mo pg : Int32) : ∀ i, i < 7 → zsm S p z hd mo pg i = S i + [1, p.toInt64, z.toInt64, (if hd ≤ 0 then 0 else 1), hd.toInt64, mo.toInt64, pg.toInt64].getD i 0 := by
  intro i hi
  unfold zsm
  match i, hi with
  | 0, _ => rw [pk_uLn (by omega), pk_uLn (by omega), pk_uLn (by omega), pk_uLn (by omega), pk_uLn (by omega), pk_uLn (by omega), pk_uLs]; rfl
  | 1, _ => rw [pk_uLn (by omega), pk_uLn (by omega), pk_uLn (by omega), pk_uLn (by omega), pk_uLn (by omega), pk_uLs]; rfl
  | 2, _ => rw [pk_uLn (by omega), pk_uLn (by omega), pk_uLn (by omega), pk_uLn (by omega), pk_uLs]; rfl
  | 3, _ => rw [pk_uLn (by omega), pk_uLn (by omega), pk_uLn (by omega), pk_uLs]; rfl
  | 4, _ => rw [pk_uLn (by omega), pk_uLn (by omega), pk_uLs]; rfl
  | 5, _ => rw [pk_uLn (by omega), pk_uLs]; rfl
  | 6, _ => rw [pk_uLs]; rfl
theorem zring12 : ∀ t : Nat, t < 12 → nI t + 1 - (nI t + 1) / 12 * 12 = nI ((t + 1) % 12) := by decide +kernel
theorem zmin12 : ∀ k : Nat, k < 13 → zmin 12 (nI k + 1) = nI ((if k = 12 then 11 else k) + 1) := by decide +kernel
def zseg6 (g : Nat → Int32) (a : Nat) (x1 pl z p pg hd : Int32) : Nat → Int32 := upd (upd (upd (upd (upd (upd g a x1) (a + 1) pl) (a + 2) z) (a + 3) p) (a + 4) pg) (a + 5) hd
theorem zseg6_in (g : Nat → Int32) (a w : Nat) (x1 pl z p pg hd : Int32) (hw : w < 6) : zseg6 g a x1 pl z p pg hd (a + w) = [x1, pl, z, p, pg, hd].getD w 0 := by
  unfold zseg6
  match w, hw with
  | 0, _ => rw [pk_un (by omega), pk_un (by omega), pk_un (by omega), pk_un (by omega), pk_un (by omega)]; exact pk_us
  | 1, _ => rw [pk_un (by omega), pk_un (by omega), pk_un (by omega), pk_un (by omega), pk_us]; rfl
  | 2, _ => rw [pk_un (by omega), pk_un (by omega), pk_un (by omega), pk_us]; rfl
  | 3, _ => rw [pk_un (by omega), pk_un (by omega), pk_us]; rfl
  | 4, _ => rw [pk_un (by omega), pk_us]; rfl
  | 5, _ => rw [pk_us]; rfl
theorem zseg6_o (g : Nat → Int32) (a j : Nat) (x1 pl z p pg hd : Int32) (h : ¬ (a ≤ j ∧ j < a + 6)) : zseg6 g a x1 pl z p pg hd j = g j := by
  unfold zseg6
  rw [pk_un (by omega), pk_un (by omega), pk_un (by omega), pk_un (by omega), pk_un (by omega), pk_un (by omega)]
def zclo (s s1 : RS) (f k t : Nat) (hd mo pg : Int32) : Prop := s1.1 0 0 = nI ((if k = 12 then 11 else k) + 1) ∧ s1.1 2 0 = nI ((t + 1) % 12) ∧ s1.1 3 = zseg6 (s.1 3) (6 * ((t + 1) % 12)) (nI f) (s.1 4 f) (s.1 5 f) (s.1 6 f) pg hd ∧ s1.1 4 = s.1 4 ∧ s1.1 5 = s.1 5 ∧ s1.1 6 = upd (s.1 6) f 0 ∧ s1.2 1 = zsm (s.2 1) (s.1 6 f) (s.1 5 f) hd mo pg
theorem q4_close {s : RS} {x2 x3 : Int32} {Q : RS → Prop} (f k t : Nat) (hf : f < 24) (hk : k ≤ 12) (ht : t < 12) (s0 : s.1 0 0 = nI k) (s2 : s.1 2 0 = nI t) (h3 : ¬ x3 ≤ 0) (h30 : ¬ x3 = 0) (h : ∀ s1, zclo s s1 f k t (zmin x2 (s.1 5 f)) (s.1 5 f - zmin x2 (s.1 5 f)) ((s.1 5 f - zmin x2 (s.1 5 f) + x3 - 1) / x3) → Q s1) : wp_X4_close s (nI f) x2 x3 Q := by
  unfold wp_X4_close
  rw [zn_nI (by omega)]
  have i24 : vp_in (nI f) 24 := in_nI hf (by decide)
  refine ⟨i24, fun hd ehd => ⟨i24, fun mo emo => ⟨fun z => absurd z h3, fun _ => ⟨h30, ?_⟩⟩⟩⟩
  rw [← ehd, ← emo] at h
  generalize (mo + x3 - 1) / x3 = pg at h ⊢
  clear ehd emo
  have ht1 : (t + 1) % 12 < 12 := Nat.mod_lt _ (by decide)
  unfold wp_X4_close_39
  rw [s2, zring12 t ht, zn_nI (by omega)]
  intro a1 d1 a2 d2 x ex
  have a20 : a2.1 2 0 = nI ((t + 1) % 12) := by rw [d2, rN_n _ _ (by decide), d1, rN_s]
  rw [a20, nI_lmul] at ex
  subst ex
  obtain ⟨t1, et1⟩ : ∃ t1, t1 = (t + 1) % 12 := ⟨_, rfl⟩
  rw [← et1] at ht1 a20 d1 ⊢
  rw [show nI (6 * t1) + 1 = nI (6 * t1 + 1) from nI_addl _ _, show nI (6 * t1) + 2 = nI (6 * t1 + 2) from nI_addl _ _, show nI (6 * t1) + 3 = nI (6 * t1 + 3) from nI_addl _ _, show nI (6 * t1) + 4 = nI (6 * t1 + 4) from nI_addl _ _, show nI (6 * t1) + 5 = nI (6 * t1 + 5) from nI_addl _ _, zn_nI (by omega), zn_nI (by omega), zn_nI (by omega), zn_nI (by omega), zn_nI (by omega), zn_nI (by omega)]
  refine ⟨in_nI (by omega) (by decide), fun a3 d3 => ⟨i24, in_nI (by omega) (by decide), fun a4 d4 => ⟨i24, in_nI (by omega) (by decide), fun a5 d5 => ⟨i24, in_nI (by omega) (by decide), fun a6 d6 => ⟨in_nI (by omega) (by decide), fun a7 d7 => ⟨in_nI (by omega) (by decide), fun a8 d8 a9 d9 => ⟨i24, fun b1 c1 => ⟨i24, fun b2 c2 => ?_⟩⟩⟩⟩⟩⟩⟩⟩
  have o2 : ∀ j, j ≠ 0 → j ≠ 2 → a2.1 j = s.1 j := fun j j0 j2 => by rw [d2, rN_n _ _ j0, d1, rN_n _ _ j2]
  have o22 : a2.2 = s.2 := by rw [d2, d1]; rfl
  have a2k : a2.1 0 0 = nI ((if k = 12 then 11 else k) + 1) := by
    rw [d2, rN_s, d1, rN_n _ _ (by decide), s0]
    exact zmin12 k (by omega)
  have o8 : ∀ j, j ≠ 3 → a8.1 j = a2.1 j := fun j hj => by rw [d8, rI_n _ _ hj, d7, rI_n _ _ hj, d6, rI_n _ _ hj, d5, rI_n _ _ hj, d4, rI_n _ _ hj, d3, rI_n _ _ hj]
  have o6 : a5.1 6 = s.1 6 := by rw [d5, rI_n _ _ (by decide), d4, rI_n _ _ (by decide), d3, rI_n _ _ (by decide)]; exact o2 6 (by decide) (by decide)
  have o5 : a4.1 5 = s.1 5 := by rw [d4, rI_n _ _ (by decide), d3, rI_n _ _ (by decide)]; exact o2 5 (by decide) (by decide)
  have o4 : a3.1 4 = s.1 4 := by rw [d3, rI_n _ _ (by decide)]; exact o2 4 (by decide) (by decide)
  have e8 : a8.1 3 = zseg6 (s.1 3) (6 * t1) (nI f) (s.1 4 f) (s.1 5 f) (s.1 6 f) pg hd := by
    rw [d8, rI_s, d7, rI_s, d6, rI_s, o6, d5, rI_s, o5, d4, rI_s, o4, d3, rI_s, o2 3 (by decide) (by decide)]
    rfl
  have e82 : a8.2 = s.2 := by rw [d8, rI_2, d7, rI_2, d6, rI_2, d5, rI_2, d4, rI_2, d3, rI_2, o22]
  have f9 : a9.1 = a8.1 := by rw [d9]; rfl
  have f1 : b1.1 = a8.1 := by rw [c1]; exact f9
  have f2 : b2.1 = a8.1 := by rw [c2]; exact f1
  have p6 : a8.1 6 = s.1 6 := (o8 6 (by decide)).trans (o2 6 (by decide) (by decide))
  have p5 : a8.1 5 = s.1 5 := (o8 5 (by decide)).trans (o2 5 (by decide) (by decide))
  have p4 : a8.1 4 = s.1 4 := (o8 4 (by decide)).trans (o2 4 (by decide) (by decide))
  have g2 : b2.2 1 = vp_updL (vp_updL (vp_updL (s.2 1) 0 (s.2 1 0 + 1)) 1 (s.2 1 1 + (s.1 6 f).toInt64)) 2 (s.2 1 2 + (s.1 5 f).toInt64) := by
    rw [c2, rL_s, f1, p5, c1, rL_s, f9, p6, d9, rL_s, e82, pk_uLn (show (1 : Nat) ≠ 0 by omega), pk_uLn (show (2 : Nat) ≠ 1 by omega), pk_uLn (show (2 : Nat) ≠ 0 by omega)]
  have fin : ∀ t0 : Int64, t0 = (if hd ≤ 0 then 0 else 1) → wp_X4_close_212 Q b2 (nI f) hd mo pg t0 (b2.2 1 3) 3 := by
    intro t0 et0
    unfold wp_X4_close_212
    have z3 : zn 3 = 3 := by decide
    rw [zn_nI (by omega), z3]
    refine ⟨(show vp_in (nI 3) 7 from in_nI (by omega) (by decide)), fun v1 w1 v2 w2 v3 w3 v4 w4 => ⟨i24, fun v5 w5 => h v5 ?_⟩⟩
    have v41 : v4.1 = a8.1 := by rw [w4, rL_1, w3, rL_1, w2, rL_1, w1, rL_1]; exact f2
    have v42 : v4.2 1 = zsm (s.2 1) (s.1 6 f) (s.1 5 f) hd mo pg := by
      rw [w4, rL_s, w3, rL_s, w2, rL_s, w1, rL_s, g2, et0]
      unfold zsm
      rw [pk_uLn (show (3 : Nat) ≠ 2 by omega), pk_uLn (show (3 : Nat) ≠ 1 by omega), pk_uLn (show (3 : Nat) ≠ 0 by omega)]
      rw [pk_uLn (show (4 : Nat) ≠ 3 by omega), pk_uLn (show (4 : Nat) ≠ 2 by omega), pk_uLn (show (4 : Nat) ≠ 1 by omega), pk_uLn (show (4 : Nat) ≠ 0 by omega)]
      rw [pk_uLn (show (5 : Nat) ≠ 4 by omega), pk_uLn (show (5 : Nat) ≠ 3 by omega), pk_uLn (show (5 : Nat) ≠ 2 by omega), pk_uLn (show (5 : Nat) ≠ 1 by omega), pk_uLn (show (5 : Nat) ≠ 0 by omega)]
      rw [pk_uLn (show (6 : Nat) ≠ 5 by omega), pk_uLn (show (6 : Nat) ≠ 4 by omega), pk_uLn (show (6 : Nat) ≠ 3 by omega), pk_uLn (show (6 : Nat) ≠ 2 by omega), pk_uLn (show (6 : Nat) ≠ 1 by omega), pk_uLn (show (6 : Nat) ≠ 0 by omega)]
    refine ⟨?_, ?_, ?_, ?_, ?_, ?_, ?_⟩
    · rw [w5, rI_n _ _ (by decide), v41, o8 0 (by decide)]; exact a2k
    · rw [w5, rI_n _ _ (by decide), v41, o8 2 (by decide), ← et1]; exact a20
    · rw [w5, rI_n _ _ (by decide), v41, ← et1]; exact e8
    · rw [w5, rI_n _ _ (by decide), v41]; exact p4
    · rw [w5, rI_n _ _ (by decide), v41]; exact p5
    · rw [w5, rI_s, v41, p6]
    · rw [w5, rI_2]; exact v42
  exact ⟨fun z => fin _ (by rw [if_pos z]), fun z => fin _ (by rw [if_neg z])⟩
/-- the row's segments, with one more -/
def zsegR (R : Nat → Int32) (k : Nat) (x1 pl z p pg hd : Int32) : Nat → Int32 := upd (zseg6 (if k = 12 then upd (zsh R 993 1059 6) 13 (nI 11) else R) (993 + 6 * (if k = 12 then 11 else k)) x1 pl z p pg hd) 13 (nI ((if k = 12 then 11 else k) + 1))
theorem zsegR_o {R : Nat → Int32} {k j : Nat} {x1 pl z p pg hd : Int32} (hk : k ≤ 12) (h13 : j ≠ 13) (h : j < 993) : zsegR R k x1 pl z p pg hd j = R j := by
  unfold zsegR
  rw [pk_un h13, zseg6_o _ _ _ _ _ _ _ _ _ (by omega)]
  by_cases e : k = 12
  · rw [if_pos e, pk_un h13]
    unfold zsh
    rw [if_neg (by omega)]
  · rw [if_neg e]
theorem SimX.close {n nr : Nat} {m : Nat → Nat} {cs : Nat → RS} {R : Nat → Int32} {S : Nat → Int64} {k t : Nat} {x1 pl z p pg hd mo : Int32} {s1 : RS} (h : SimX n nr m cs R S) (hk : (cs 4).1 0 0 = nI k) (hk12 : k ≤ 12) (ht : (cs 4).1 2 0 = nI t) (ht12 : t < 12) (e0 : s1.1 0 0 = nI ((if k = 12 then 11 else k) + 1)) (e2 : s1.1 2 0 = nI ((t + 1) % 12)) (e3 : s1.1 3 = zseg6 ((cs 4).1 3) (6 * ((t + 1) % 12)) x1 pl z p pg hd) (e6 : s1.1 6 = (cs 4).1 6) (eL : s1.2 1 = zsm ((cs 4).2 1) p z hd mo pg) : SimX n nr m (va_up cs 4 s1) (zsegR R k x1 pl z p pg hd) (zsm S p z hd mo pg) := by
  obtain ⟨h0, hK, hF, hR, hT, hQ, hW, hG, hN, hO, hA⟩ := h
  have fr : ∀ i, i ≠ 13 → i < 993 → zsegR R k x1 pl z p pg hd i = R i := fun i h1 h2 => zsegR_o hk12 h1 h2
  have hQ32 : ∀ p, p < 4 → m p ≤ 32 := fun p hp => (hQ p hp).1
  refine ⟨?_, ?_, ?_, ?_, ?_, ?_, ?_, ?_, ?_, ?_, ?_⟩
  · rw [vu_n _ _ (by decide)]; exact h0
  · rw [vu_n _ _ (by decide)]; exact hK.fr (fun i hi => fr i (by omega) (by omega))
  · rw [vu_n _ _ (by decide)]; exact hF.fr (fun i hi => fr i (by omega) (by omega))
  · rw [vu_n _ _ (by decide)]; exact hR.fr (fun i hi => fr i (by omega) (by omega))
  · rw [vu_n _ _ (by decide)]; exact hT.fr (fun i hi => fr i (by omega) (by omega))
  · intro p hp
    rw [vu_n _ _ (by omega)]; exact (hQ p hp).fr (fun i hi => fr i (by omega) (by omega))
  · rw [vu_n _ _ (by decide)]; exact hW.fr hQ32 (fun i hi => fr i (by omega) (by omega))
  · rw [vu_s]
    obtain ⟨k', t', g1, g2, g3, g4, g5, g6, g7⟩ := hG
    have ek : k' = k := (nI_eq (by omega) (by omega)).mp (g3.symm.trans hk)
    have et : t' = t := (nI_eq (by omega) (by omega)).mp (g5.symm.trans ht)
    subst ek et
    refine ⟨(if k' = 12 then 11 else k') + 1, (t' + 1) % 12, by split <;> omega, Nat.mod_lt _ (by decide), e0, ?_, e2, fun a w ha hw => ?_, fun i hi => ?_⟩
    · unfold zsegR; rw [pk_us]
    · rw [e3]
      by_cases a0 : a = 0
      · subst a0
        rw [show ((t' + 1) % 12 + 12 - 0) % 12 = (t' + 1) % 12 by omega, zseg6_in _ _ _ _ _ _ _ _ _ hw]
        unfold zsegR
        rw [pk_un (by omega), show (if k' = 12 then 11 else k') + 1 - 1 - 0 = (if k' = 12 then 11 else k') by omega, zseg6_in _ _ _ _ _ _ _ _ _ hw]
      · have alt : a < 12 := by
          have : (if k' = 12 then 11 else k') + 1 ≤ 12 := by split <;> omega
          omega
        have hne : ¬ (6 * ((t' + 1) % 12) ≤ 6 * (((t' + 1) % 12 + 12 - a) % 12) + w ∧ 6 * (((t' + 1) % 12 + 12 - a) % 12) + w < 6 * ((t' + 1) % 12) + 6) := by
          have : ((t' + 1) % 12 + 12 - a) % 12 ≠ (t' + 1) % 12 := by omega
          omega
        rw [zseg6_o _ _ _ _ _ _ _ _ _ hne, show ((t' + 1) % 12 + 12 - a) % 12 = (t' + 12 - (a - 1)) % 12 by omega]
        have ak : a - 1 < k' := by
          have : (if k' = 12 then 11 else k') + 1 ≤ k' + 1 := by split <;> omega
          omega
        rw [g6 (a - 1) w ak hw]
        unfold zsegR
        rw [pk_un (by omega)]
        by_cases e12 : k' = 12
        · rw [if_pos e12, if_pos e12] at *
          rw [zseg6_o _ _ _ _ _ _ _ _ _ (by omega), pk_un (by omega)]
          unfold zsh
          rw [if_pos (by omega)]
          congr 1
          omega
        · rw [if_neg e12, if_neg e12] at *
          rw [zseg6_o _ _ _ _ _ _ _ _ _ (by omega)]
          congr 1
          omega
    · rw [eL, zsm_at _ _ _ _ _ _ i hi, zsm_at _ _ _ _ _ _ i hi, g7 i hi]
  · rw [vu_s]
    intro g hg
    rw [e6]; exact hN g hg
  · rw [vu_n _ _ (by decide)]; exact hO.fr (fun i hi => fr i (by omega) (by omega))
  · rw [vu_n _ _ (by decide)]; exact hA.fr (fun i hi => fr i (by omega) (by omega))
