-- the pure side: a segment is given, the reference
def zgiv (r r1 : RS) (f k : Nat) : Prop :=
  r1.1 3 = upd (upd (upd (zsegR (r.1 3) k (nI f) (r.1 17 (3 * f)) (r.1 17 (3 * f + 1)) (r.1 17 (3 * f + 2)) ((r.1 17 (3 * f + 1) - zmin (r.1 3 18) (r.1 17 (3 * f + 1)) + r.1 3 19 - 1) / r.1 3 19) (zmin (r.1 3 18) (r.1 17 (3 * f + 1)))) (73 + 15 * f + 9) (r.1 17 (3 * f) + r.1 17 (3 * f + 1))) (73 + 15 * f + 10) (r.1 3 (73 + 15 * f + 10) + 1)) (73 + 15 * f + 13) (r.1 3 (73 + 15 * f + 13) + r.1 17 (3 * f + 1)) ∧
  r1.2 4 = zsm (r.2 4) (r.1 17 (3 * f + 2)) (r.1 17 (3 * f + 1)) (zmin (r.1 3 18) (r.1 17 (3 * f + 1))) (r.1 17 (3 * f + 1) - zmin (r.1 3 18) (r.1 17 (3 * f + 1))) ((r.1 17 (3 * f + 1) - zmin (r.1 3 18) (r.1 17 (3 * f + 1)) + r.1 3 19 - 1) / r.1 3 19) ∧
  r1.1 17 = upd (r.1 17) (3 * f + 2) 0 ∧ r1.1 18 0 = r.1 18 0 + 1 ∧ (∀ j, j ≠ 3 → j ≠ 17 → j ≠ 18 → r1.1 j = r.1 j) ∧ ∀ j, j ≠ 4 → r1.2 j = r.2 j
theorem q8_lesser {x0 x1 : Int32} {Q : Int32 → Prop} (h : Q (zmin x0 x1)) : wp_X8_lesser x0 x1 Q := by
  unfold wp_X8_lesser wp_X8_lesser_10
  refine ⟨fun c => ?_, fun c => ?_⟩
  · by_cases e : x1 < x0
    · rw [zmin, if_pos e] at h; exact h
    · have : x0 = x1 := Int32.le_antisymm (Int32.not_lt.mp e) c
      rw [zmin, if_neg e] at h
      rw [← this]; exact h
  · have : ¬ x1 < x0 := fun e => c (Int32.le_of_lt e)
    rw [zmin, if_neg this] at h; exact h
theorem q8_gives {r : RS} {x2 : Int32} {Q : RS → Prop} (f k : Nat) (hf : f < 24) (hk12 : k ≤ 12) (hk : r.1 3 13 = nI k) (h19 : ¬ r.1 3 19 = 0) (h : ∀ r1, zgiv r r1 f k → wp_X8_follows r1 (nI f) x2 Q) : wp_X8_gives r (nI f) x2 Q := by
  unfold wp_X8_gives
  intro x ex
  rw [nI_lmul] at ex
  subst ex
  refine q8_flowAt f rfl ?_
  rw [show nI (3 * f) + 1 = nI (3 * f + 1) from nI_addl _ _, zn_nI (by omega)]
  refine ⟨in_nI (by omega) (by decide), fun z ez => q8_lesser (fun mo emo => ⟨h19, fun pg epg => ?_⟩)⟩
  obtain ⟨hd, ehd⟩ : ∃ hd, hd = zmin (r.1 3 18) z := ⟨_, rfl⟩
  rw [← ehd] at emo ⊢
  -- behind the shift
  have tail : ∀ v : RS, v.1 3 = (if k = 12 then upd (zsh (r.1 3) 993 1059 6) 13 (nI 11) else r.1 3) → (∀ j, j ≠ 3 → v.1 j = r.1 j) → v.2 = r.2 → wp_X8_gives_122 Q v (nI f) x2 (nI (3 * f)) (nI (73 + 15 * f)) z hd mo pg := by
    intro v v3 vo v2
    have v13 : v.1 3 13 = nI (if k = 12 then 11 else k) := by
      rw [v3]
      by_cases e : k = 12
      · rw [if_pos e, if_pos e, pk_us]
      · rw [if_neg e, if_neg e]; exact hk
    have k0 : (if k = 12 then 11 else k) < 12 := by split <;> omega
    have vf : ∀ j, j < 993 → j ≠ 13 → v.1 3 j = r.1 3 j := by
      intro j hj h13
      rw [v3]
      by_cases e : k = 12
      · rw [if_pos e, pk_un h13]
        unfold zsh
        rw [if_neg (by omega)]
      · rw [if_neg e]
    have hseg : ∀ x1 pl z p pg hd, upd (zseg6 (v.1 3) (993 + 6 * (if k = 12 then 11 else k)) x1 pl z p pg hd) 13 (nI ((if k = 12 then 11 else k) + 1)) = zsegR (r.1 3) k x1 pl z p pg hd := by
      intro x1 pl z p pg hd
      unfold zsegR
      rw [v3]
    generalize (if k = 12 then 11 else k) = kk at v13 k0 hseg
    unfold wp_X8_gives_122
    rw [v13, nI_lmul, nI_ladd]
    intro x ex
    subst ex
    rw [show nI (3 * f) + 2 = nI (3 * f + 2) from nI_addl _ _, show nI (993 + 6 * kk) + 1 = nI (993 + 6 * kk + 1) from nI_addl _ _, show nI (993 + 6 * kk) + 2 = nI (993 + 6 * kk + 2) from nI_addl _ _, show nI (993 + 6 * kk) + 3 = nI (993 + 6 * kk + 3) from nI_addl _ _, show nI (993 + 6 * kk) + 4 = nI (993 + 6 * kk + 4) from nI_addl _ _, show nI (993 + 6 * kk) + 5 = nI (993 + 6 * kk + 5) from nI_addl _ _, zn_nI (by omega), zn_nI (by omega), zn_nI (by omega), zn_nI (by omega), zn_nI (by omega), zn_nI (by omega), zn_nI (by omega), zn_nI (by omega)]
    refine ⟨in_nI (by omega) (by decide), fun a1 d1 => ⟨in_nI (by omega) (by decide), in_nI (by omega) (by decide), fun a2 d2 => ⟨in_nI (by omega) (by decide), fun a3 d3 => ⟨in_nI (by omega) (by decide), in_nI (by omega) (by decide), fun a4 d4 => ⟨in_nI (by omega) (by decide), fun a5 d5 => ⟨in_nI (by omega) (by decide), fun a6 d6 a7 d7 a8 d8 => ⟨in_nI (by omega) (by decide), fun b1 c1 b2 c2 => ?_⟩⟩⟩⟩⟩⟩⟩
    have a17 : ∀ w : RS, (∃ g, w = rI v 3 g) → w.1 17 = r.1 17 := by
      rintro w ⟨g, rfl⟩
      rw [rI_n _ _ (by decide)]; exact vo 17 (by decide)
    have f1 : a1 = rI v 3 (upd (v.1 3) (993 + 6 * kk) (nI f)) := d1
    have f2 : a2 = rI v 3 (upd (upd (v.1 3) (993 + 6 * kk) (nI f)) (993 + 6 * kk + 1) (r.1 17 (3 * f))) := by
      rw [d2, a17 a1 ⟨_, f1⟩, f1, rI_rI, rI_s]
    have f6 : a6 = rI v 3 (zseg6 (v.1 3) (993 + 6 * kk) (nI f) (r.1 17 (3 * f)) z (r.1 17 (3 * f + 2)) pg hd) := by
      have f3 : a3 = rI v 3 (upd (upd (upd (v.1 3) (993 + 6 * kk) (nI f)) (993 + 6 * kk + 1) (r.1 17 (3 * f))) (993 + 6 * kk + 2) z) := by rw [d3, f2, rI_rI, rI_s]
      have f4 : a4 = rI v 3 (upd (upd (upd (upd (v.1 3) (993 + 6 * kk) (nI f)) (993 + 6 * kk + 1) (r.1 17 (3 * f))) (993 + 6 * kk + 2) z) (993 + 6 * kk + 3) (r.1 17 (3 * f + 2))) := by rw [d4, a17 a3 ⟨_, f3⟩, f3, rI_rI, rI_s]
      rw [d6, d5, f4, rI_rI, rI_s, rI_rI, rI_s]
      rfl
    have f7 : a7 = rI v 3 (zsegR (r.1 3) k (nI f) (r.1 17 (3 * f)) z (r.1 17 (3 * f + 2)) pg hd) := by
      have : a6.1 3 13 = nI kk := by
        rw [f6, rI_s, zseg6_o _ _ _ _ _ _ _ _ _ (by omega)]; exact v13
      rw [d7, this, nI_1, f6, rI_rI, rI_s, hseg]
    have g8 : a8.1 = a7.1 := by rw [d8]; rfl
    have h17 : a8.1 17 = r.1 17 := by rw [g8]; exact a17 a7 ⟨_, f7⟩
    have l1 : b1.1 = a7.1 := by rw [c1]; exact g8
    have l2 : b2.1 = a7.1 := by rw [c2]; exact l1
    have a72 : a7.2 = r.2 := by rw [f7]; exact v2
    have s2 : b2.2 4 = vp_updL (vp_updL (vp_updL (r.2 4) 0 (r.2 4 0 + 1)) 1 (r.2 4 1 + (r.1 17 (3 * f + 2)).toInt64)) 2 (r.2 4 2 + z.toInt64) := by
      rw [c2, rL_s, c1, rL_s, h17, d8, rL_s, a72, pk_uLn (show (1 : Nat) ≠ 0 by omega), pk_uLn (show (2 : Nat) ≠ 1 by omega), pk_uLn (show (2 : Nat) ≠ 0 by omega)]
    have so : ∀ j, j ≠ 4 → b2.2 j = r.2 j := fun j hj => by rw [c2, rL_n _ _ hj, c1, rL_n _ _ hj, d8, rL_n _ _ hj, a72]
    have fin : ∀ t0 : Int64, t0 = (if hd ≤ 0 then 0 else 1) → wp_X8_gives_279 Q b2 (nI f) x2 (nI (3 * f)) (nI (73 + 15 * f)) z hd mo pg t0 (b2.2 4 3) 3 := by
      intro t0 et0
      unfold wp_X8_gives_279
      have z3 : zn 3 = 3 := by decide
      rw [show nI (3 * f) + 2 = nI (3 * f + 2) from nI_addl _ _, show nI (73 + 15 * f) + 9 = nI (73 + 15 * f + 9) from nI_addl _ _, show nI (73 + 15 * f) + 10 = nI (73 + 15 * f + 10) from nI_addl _ _, show nI (73 + 15 * f) + 13 = nI (73 + 15 * f + 13) from nI_addl _ _, zn_nI (by omega), zn_nI (by omega), zn_nI (by omega), zn_nI (by omega), zn_nI (by omega), z3]
      refine ⟨(show vp_in (nI 3) 7 from in_nI (by omega) (by decide)), fun v1 w1 v2' w2 v3' w3 v4 w4 => ⟨in_nI (by omega) (by decide), in_nI (by omega) (by decide), fun v5 w5 => ⟨in_nI (by omega) (by decide), in_nI (by omega) (by decide), fun v6 w6 => ⟨in_nI (by omega) (by decide), in_nI (by omega) (by decide), fun v7 w7 => ⟨in_nI (by omega) (by decide), fun v8 w8 v9 w9 => ?_⟩⟩⟩⟩⟩
      have v41 : v4.1 = a7.1 := by rw [w4, rL_1, w3, rL_1, w2, rL_1, w1, rL_1]; exact l2
      have v42 : v4.2 4 = zsm (r.2 4) (r.1 17 (3 * f + 2)) z hd mo pg := by
        rw [w4, rL_s, w3, rL_s, w2, rL_s, w1, rL_s, s2, et0]
        unfold zsm
        rw [pk_uLn (show (3 : Nat) ≠ 2 by omega), pk_uLn (show (3 : Nat) ≠ 1 by omega), pk_uLn (show (3 : Nat) ≠ 0 by omega)]
        rw [pk_uLn (show (4 : Nat) ≠ 3 by omega), pk_uLn (show (4 : Nat) ≠ 2 by omega), pk_uLn (show (4 : Nat) ≠ 1 by omega), pk_uLn (show (4 : Nat) ≠ 0 by omega)]
        rw [pk_uLn (show (5 : Nat) ≠ 4 by omega), pk_uLn (show (5 : Nat) ≠ 3 by omega), pk_uLn (show (5 : Nat) ≠ 2 by omega), pk_uLn (show (5 : Nat) ≠ 1 by omega), pk_uLn (show (5 : Nat) ≠ 0 by omega)]
        rw [pk_uLn (show (6 : Nat) ≠ 5 by omega), pk_uLn (show (6 : Nat) ≠ 4 by omega), pk_uLn (show (6 : Nat) ≠ 3 by omega), pk_uLn (show (6 : Nat) ≠ 2 by omega), pk_uLn (show (6 : Nat) ≠ 1 by omega), pk_uLn (show (6 : Nat) ≠ 0 by omega)]
      have v4o : ∀ j, j ≠ 4 → v4.2 j = r.2 j := fun j hj => by rw [w4, rL_n _ _ hj, w3, rL_n _ _ hj, w2, rL_n _ _ hj, w1, rL_n _ _ hj]; exact so j hj
      have q3 : v4.1 3 = zsegR (r.1 3) k (nI f) (r.1 17 (3 * f)) z (r.1 17 (3 * f + 2)) pg hd := by rw [v41, f7, rI_s]
      have q17 : v4.1 17 = r.1 17 := by rw [v41, ← g8]; exact h17
      have qo : ∀ j, j ≠ 3 → v4.1 j = r.1 j := fun j hj => by rw [v41, f7, rI_n _ _ hj]; exact vo j hj
      have t5 : v5.1 3 = upd (zsegR (r.1 3) k (nI f) (r.1 17 (3 * f)) z (r.1 17 (3 * f + 2)) pg hd) (73 + 15 * f + 9) (r.1 17 (3 * f) + z) := by rw [w5, rI_s, q3, q17]
      have t6 : v6.1 3 = upd (upd (zsegR (r.1 3) k (nI f) (r.1 17 (3 * f)) z (r.1 17 (3 * f + 2)) pg hd) (73 + 15 * f + 9) (r.1 17 (3 * f) + z)) (73 + 15 * f + 10) (r.1 3 (73 + 15 * f + 10) + 1) := by
        rw [w6, rI_s, t5, pk_un (show 73 + 15 * f + 10 ≠ 73 + 15 * f + 9 by omega), zsegR_o hk12 (show 73 + 15 * f + 10 ≠ 13 by omega) (by omega)]
      have t7 : v7.1 3 = upd (upd (upd (zsegR (r.1 3) k (nI f) (r.1 17 (3 * f)) z (r.1 17 (3 * f + 2)) pg hd) (73 + 15 * f + 9) (r.1 17 (3 * f) + z)) (73 + 15 * f + 10) (r.1 3 (73 + 15 * f + 10) + 1)) (73 + 15 * f + 13) (r.1 3 (73 + 15 * f + 13) + z) := by
        rw [w7, rI_s, t6, pk_un (show 73 + 15 * f + 13 ≠ 73 + 15 * f + 10 by omega), pk_un (show 73 + 15 * f + 13 ≠ 73 + 15 * f + 9 by omega), zsegR_o hk12 (show 73 + 15 * f + 13 ≠ 13 by omega) (by omega)]
      have o7 : ∀ j, j ≠ 3 → v7.1 j = r.1 j := fun j hj => by rw [w7, rI_n _ _ hj, w6, rI_n _ _ hj, w5, rI_n _ _ hj]; exact qo j hj
      have l7 : v7.2 = v4.2 := by rw [w7, rI_2, w6, rI_2, w5, rI_2]
      refine h v9 ⟨?_, ?_, ?_, ?_, fun j j3 j17 j18 => ?_, fun j hj => ?_⟩
      · rw [w9, rN_n _ _ (by decide), w8, rI_n _ _ (by decide), t7, ← ez, ← ehd, ← emo, ← epg]
      · rw [w9, rN_2, w8, rI_2, l7, v42, ← ez, ← ehd, ← emo, ← epg]
      · rw [w9, rN_n _ _ (by decide), w8, rI_s, o7 17 (by decide)]
      · rw [w9, rN_s, w8, rI_n _ _ (by decide), o7 18 (by decide)]
      · rw [w9, rN_n _ _ j18, w8, rI_n _ _ j17]; exact o7 j j3
      · rw [w9, rN_2, w8, rI_2, l7]; exact v4o j hj
    exact ⟨fun y => fin _ (by rw [if_pos y]), fun y => fin _ (by rw [if_neg y])⟩
  rw [hk]
  refine ⟨fun c => tail r ?_ (fun _ _ => rfl) rfl, fun c => ?_⟩
  · rw [if_neg (fun y => c (by rw [y]; rfl))]
  · have e12 : k = 12 := (nI_eq (by omega) (by decide)).mp (show nI k = nI 12 from c)
    refine zl10 (wp_X8_gives_80 Q) 66 (fun i v y1 y2 y3 y4 y5 y6 y7 y8 y9 => v = rI r 3 (zsh (r.1 3) 993 (993 + i) 6) ∧ y1 = nI f ∧ y2 = x2 ∧ y3 = nI (3 * f) ∧ y4 = nI (73 + 15 * f) ∧ y5 = z ∧ y6 = hd ∧ y7 = mo ∧ y8 = pg ∧ y9 = nI (993 + i)) ?_ 0 (Nat.zero_le _) r _ _ _ _ _ _ _ _ _ ⟨by rw [Nat.add_zero, zsh_0, rI_id], rfl, rfl, rfl, rfl, rfl, rfl, rfl, rfl, rfl⟩
    rintro i A v y1 y2 y3 y4 y5 y6 y7 y8 y9 hi ⟨rfl, rfl, rfl, rfl, rfl, rfl, rfl, rfl, rfl, rfl⟩ hA
    unfold wp_X8_gives_80
    refine ⟨fun cc w dw => ?_, fun cc => ?_⟩
    · have : 1059 ≤ 993 + i := (nI_leI (by omega) (by omega)).mp (show nI 1059 ≤ nI (993 + i) from cc)
      have hi66 : i = 66 := by omega
      subst hi66
      refine tail w ?_ (fun j hj => ?_) ?_
      · have : (rI r 3 (zsh (r.1 3) 993 (993 + 66) 6)).1 3 13 = nI 12 := by
          rw [rI_s]
          unfold zsh
          rw [if_neg (by omega), hk, e12]
        rw [dw, rI_s, this, rI_s, if_pos e12]
        rfl
      · rw [dw, rI_n _ _ hj, rI_n _ _ hj]
      · rw [dw]; rfl
    · have hlt : i < 66 := by
        rcases Nat.lt_or_ge i 66 with q | q
        · exact q
        · exact absurd (show nI 1059 ≤ nI (993 + i) from nI_le (by omega) (by omega)) cc
      rw [show nI (993 + i) + 6 = nI (993 + i + 6) from nI_addl _ _, zn_nI (by omega), zn_nI (by omega)]
      refine ⟨in_nI (by omega) (by decide), in_nI (by omega) (by decide), fun w dw y ey => hA _ _ _ _ _ _ _ _ _ _ hlt ⟨?_, rfl, rfl, rfl, rfl, rfl, rfl, rfl, rfl, by rw [ey, nI_1]; rfl⟩⟩
      rw [dw, rI_rI, rI_s, zsh_s]
