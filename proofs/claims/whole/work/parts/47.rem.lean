-- the pure side: what is kept for undo by the reference
def zshL (R : Nat → Int64) (b d : Nat) : Nat → Int64 := fun j => if j < b then R (j + d) else R j
theorem zshL_0 (R : Nat → Int64) (d : Nat) : zshL R 0 d = R := by
  funext j
  unfold zshL
  rw [if_neg (by omega)]
theorem zshL_s (R : Nat → Int64) (i d : Nat) : vp_updL (zshL R i d) i (zshL R i d (i + d)) = zshL R (i + 1) d := by
  funext j
  by_cases e : j = i
  · subst e
    rw [pk_uLs]
    unfold zshL
    rw [if_neg (by omega), if_pos (by omega)]
  · rw [pk_uLn e]
    unfold zshL
    by_cases q : j < i
    · rw [if_pos q, if_pos (by omega)]
    · rw [if_neg q, if_neg (by omega)]
theorem zsh_s0 (R : Nat → Int32) (i d : Nat) : upd (zsh R 0 i d) i (zsh R 0 i d (i + d)) = zsh R 0 (i + 1) d := by
  have := zsh_s R 0 i d
  rw [Nat.zero_add, Nat.zero_add] at this
  exact this
/-- before m acts were kept (one goes if there are 8): now one more -/
def zrem (u : RS) (m : Nat) (x1 : Int32) (v : RS) : Prop := ∃ p d : Nat, ((m < 8 ∧ p = m ∧ d = 0) ∨ (m = 8 ∧ p = 7 ∧ d = 1)) ∧
  (∀ k, k ≠ 5 → k ≠ 7 → k ≠ 8 → v.1 k = u.1 k) ∧ (∀ k, k ≠ 6 → v.2 k = u.2 k) ∧ v.1 8 0 = nI (p + 1) ∧
  (∀ j i, j < p → i < 1065 → v.1 5 (1065 * j + i) = u.1 5 (1065 * (j + d) + i)) ∧ (∀ i, i < 1065 → v.1 5 (1065 * p + i) = u.1 3 i) ∧
  (∀ j i, j < p → i < 7 → v.2 6 (7 * j + i) = u.2 6 (7 * (j + d) + i)) ∧ (∀ i, i < 7 → v.2 6 (7 * p + i) = u.2 4 i) ∧
  (∀ j, j < p → v.1 7 j = u.1 7 (j + d)) ∧ v.1 7 p = x1
theorem q8_rem107 {u : RS} {x1 : Int32} {Q : RS → Prop} (m : Nat) (hm : u.1 8 0 = nI m) (h8 : m < 8) (h : ∀ v : RS, zrem u m x1 v → Q v) : wp_X8_remember_107 Q u x1 := by
  unfold wp_X8_remember_107
  refine q8_lay_undos m hm h8 ?_
  have e8 : (zlay_undos u m).1 8 0 = nI m := by
    unfold zlay_undos
    rw [rL_1, rI_n _ _ (by decide)]; exact hm
  rw [e8, zn_nI (by omega)]
  refine ⟨in_nI (by omega) (by decide), fun w ew z ez => ?_⟩
  refine h z ⟨m, 0, Or.inl ⟨h8, rfl, rfl⟩, ?_, ?_, ?_, ?_, ?_, ?_, ?_, ?_, ?_⟩
  · intro k h5 h7 h8
    rw [ez, rN_n _ _ h8, ew, rI_n _ _ h7]
    unfold zlay_undos
    rw [rL_1, rI_n _ _ h5]
  · intro k h6
    rw [ez, rN_2, ew, rI_2]
    unfold zlay_undos
    rw [rL_n _ _ h6, rI_2]
  · rw [ez, rN_s, ew, rI_n _ _ (by decide), e8, nI_1]
  · intro j i hj hi
    rw [ez, rN_n _ _ (by decide), ew, rI_n _ _ (by decide)]
    unfold zlay_undos
    rw [rL_1, rI_s, zcpy_out _ _ (Or.inl (by omega))]
    rfl
  · intro i hi
    rw [ez, rN_n _ _ (by decide), ew, rI_n _ _ (by decide)]
    unfold zlay_undos
    rw [rL_1, rI_s, zcpy_in _ _ hi]
  · intro j i hj hi
    rw [ez, rN_2, ew, rI_2]
    unfold zlay_undos
    rw [rL_s, zcpy_out _ _ (Or.inl (by omega))]
    rfl
  · intro i hi
    rw [ez, rN_2, ew, rI_2]
    unfold zlay_undos
    rw [rL_s, zcpy_in _ _ hi]
  · intro j hj
    rw [ez, rN_n _ _ (by decide), ew, rI_s, pk_un (by omega)]
    unfold zlay_undos
    rw [rL_1, rI_n _ _ (by decide)]
    rfl
  · rw [ez, rN_n _ _ (by decide), ew, rI_s, pk_us]
theorem q8_remember {u : RS} {x1 : Int32} {Q : RS → Prop} (m : Nat) (hm : u.1 8 0 = nI m) (h8 : m ≤ 8) (h : ∀ v : RS, zrem u m x1 v → Q v) : wp_X8_remember u x1 Q := by
  unfold wp_X8_remember
  refine ⟨fun hc => ?_, fun hc => ?_⟩
  · have hlt : m < 8 := by
      rcases Nat.lt_or_ge m 8 with q | q
      · exact q
      · rw [show m = 8 by omega] at hm; exact absurd hm hc
    exact q8_rem107 m hm hlt h
  · have e8 : m = 8 := by
      rw [hm] at hc
      exact (nI_eq (by omega) (by omega)).mp (show nI m = nI 8 from hc)
    subst e8
    refine zl3 (wp_X8_remember_11 Q) 7455 (fun i v y1 y2 => v = rI u 5 (zsh (u.1 5) 0 i 1065) ∧ y1 = x1 ∧ y2 = nI i) ?_ 0 (Nat.zero_le _) u _ 0 ⟨by rw [zsh_0, rI_id], rfl, rfl⟩
    rintro i B v y1 y2 hi ⟨rfl, rfl, rfl⟩ hB
    unfold wp_X8_remember_11
    refine ⟨fun hc => ?_, fun hc => ?_⟩
    · have hi := nI_stop (N := 7455) (by decide) hi hc
      subst hi
      refine zl3 (wp_X8_remember_42 Q) 49 (fun i v z1 y2 => v = rL (rI u 5 (zsh (u.1 5) 0 7455 1065)) 6 (zshL (u.2 6) i 7) ∧ z1 = y1 ∧ y2 = nI i) ?_ 0 (Nat.zero_le _) _ _ 0 ⟨by rw [zshL_0]; exact (rL_id _ 6).symm, rfl, rfl⟩
      rintro i B v z1 y2 hi ⟨rfl, rfl, rfl⟩ hB
      unfold wp_X8_remember_42
      refine ⟨fun hc => ?_, fun hc => ?_⟩
      · have hi := nI_stop (N := 49) (by decide) hi hc
        subst hi
        refine zl3 (wp_X8_remember_71 Q) 7 (fun i v y1 y2 => v = rI (rL (rI u 5 (zsh (u.1 5) 0 7455 1065)) 6 (zshL (u.2 6) 49 7)) 7 (zsh (u.1 7) 0 i 1) ∧ y1 = z1 ∧ y2 = nI i) ?_ 0 (Nat.zero_le _) _ _ 0 ⟨by rw [zsh_0]; exact (rI_id _ 7).symm, rfl, rfl⟩
        rintro i B v y1 y2 hi ⟨rfl, rfl, rfl⟩ hB
        unfold wp_X8_remember_71
        refine ⟨fun hc => ?_, fun hc => ?_⟩
        · have hi := nI_stop (N := 7) (by decide) hi hc
          subst hi
          intro w ew
          have w8 : w.1 8 0 = nI 7 := by
            rw [ew, rN_s, rI_n _ _ (by decide), rL_1, rI_n _ _ (by decide), hm]
            rfl
          refine q8_rem107 7 w8 (by omega) (fun z hz => h z ?_)
          obtain ⟨p, d, hpd, h1, h2, h3, h4, h5, h6, h7, h9, h10⟩ := hz
          rcases hpd with ⟨-, rfl, rfl⟩ | ⟨q, -⟩
          · refine ⟨7, 1, Or.inr ⟨rfl, rfl, rfl⟩, ?_, ?_, h3, ?_, ?_, ?_, ?_, ?_, h10⟩
            · intro k k5 k7 k8
              rw [h1 k k5 k7 k8, ew, rN_n _ _ k8, rI_n _ _ k7, rL_1, rI_n _ _ k5]
            · intro k k6
              rw [h2 k k6, ew, rN_2, rI_2, rL_n _ _ k6, rI_2]
            · intro j i hj hi
              rw [h4 j i hj hi, ew, rN_n _ _ (by decide), rI_n _ _ (by decide), rL_1, rI_s]
              unfold zsh
              rw [if_pos (by omega)]
              exact congrArg (u.1 5) (by omega)
            · intro i hi
              rw [h5 i hi, ew, rN_n _ _ (by decide), rI_n _ _ (by decide), rL_1, rI_n _ _ (by decide)]
            · intro j i hj hi
              rw [h6 j i hj hi, ew, rN_2, rI_2, rL_s]
              unfold zshL
              rw [if_pos (by omega)]
              exact congrArg (u.2 6) (by omega)
            · intro i hi
              rw [h7 i hi, ew, rN_2, rI_2, rL_n _ _ (by decide), rI_2]
            · intro j hj
              rw [h9 j hj, ew, rN_n _ _ (by decide), rI_s]
              unfold zsh
              rw [if_pos (by omega)]
          · omega
        · have hlt := nI_go (N := 7) (by decide) hi hc
          rw [nI_addl, zn_nI (by omega), zn_nI (by omega)]
          refine ⟨in_nI (by omega) (by decide), in_nI (by omega) (by decide), fun w ew y ey => hB _ _ _ hlt ⟨?_, rfl, ey⟩⟩
          rw [ew, rI_rI, rI_s, zsh_s0]
      · have hlt := nI_go (N := 49) (by decide) hi hc
        rw [nI_addl, zn_nI (by omega), zn_nI (by omega)]
        refine ⟨in_nI (by omega) (by decide), in_nI (by omega) (by decide), fun w ew y ey => hB _ _ _ hlt ⟨?_, rfl, by rw [ey, nI_1]⟩⟩
        rw [ew, rL_rL, rL_s, zshL_s]
    · have hlt := nI_go (N := 7455) (by decide) hi hc
      rw [nI_addl, zn_nI (by omega), zn_nI (by omega)]
      refine ⟨in_nI (by omega) (by decide), in_nI (by omega) (by decide), fun w ew y ey => hB _ _ _ hlt ⟨?_, rfl, by rw [ey, nI_1]⟩⟩
      rw [ew, rI_rI, rI_s, zsh_s0]
