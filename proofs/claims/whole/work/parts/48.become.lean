-- the pure side: State.become
theorem cpy_in {α : Type} (f g : Nat → α) {n i : Nat} (h : i < n) : va_cpy f g (zn 0) (zn 0) n i = f i := by
  show (if 0 ≤ i ∧ i < 0 + n then f (0 + (i - 0)) else g i) = f i
  rw [if_pos (by omega), show 0 + (i - 0) = i by omega]
def bK (v w : RS) : Prop := w.1 0 0 = v.1 0 0 ∧ ∀ i, i < 41 → w.1 1 i = v.1 1 i
def bF (v w : RS) : Prop := w.1 0 0 = v.1 0 0 ∧ ∀ i, i < 480 → w.1 1 i = v.1 1 i
def bT (v w : RS) : Prop := ∀ i, i < 16 → w.1 0 i = v.1 0 i ∧ w.1 1 i = v.1 1 i
def bQ (m : Nat) (v w : RS) : Prop := (∀ k, k < 8 → w.1 k 0 = v.1 k 0) ∧ ∀ i, i < 4 * m → w.1 8 i = v.1 8 i
def bS (u v w : RS) : Prop := w.1 0 0 = v.1 0 0 ∧ w.1 2 0 = v.1 2 0 ∧ (∀ i, i < 7 → w.2 1 i = v.2 1 i) ∧ (∀ i, i < 72 → w.1 3 i = v.1 3 i) ∧ w.1 6 = u.1 6
def bO (v w : RS) : Prop := (∀ i, i < 9 → w.1 5 i = v.1 5 i) ∧ w.1 6 0 = v.1 6 0 ∧ w.1 7 0 = v.1 7 0
theorem q2_copy {u v : RS} {Q : RS → Prop} (h : ∀ w, bK v w → Q w) : wp_X2_copyFrom u v Q := by
  unfold wp_X2_copyFrom
  refine ⟨by unfold zcp; decide, fun a ea b eb => h b ⟨by rw [eb, rN_s], fun i hi => ?_⟩⟩
  rw [eb, rN_n _ _ (by decide), ea, rI_s]
  exact cpy_in _ _ hi
theorem q0_copy {u v : RS} {Q : RS → Prop} (h : ∀ w, bF v w → Q w) : wp_X0_copyFrom u v Q := by
  unfold wp_X0_copyFrom
  intro a ea
  refine ⟨by unfold zcp; decide, fun b eb => h b ⟨by rw [eb, rI_n _ _ (by decide), ea, rN_s], fun i hi => ?_⟩⟩
  rw [eb, rI_s]
  exact cpy_in _ _ hi
theorem q6_copy {u v : RS} {Q : RS → Prop} (h : ∀ w, bT v w → Q w) : wp_X6_copyFrom u v Q := by
  unfold wp_X6_copyFrom
  refine ⟨by unfold zcp; decide, fun a ea => ⟨by unfold zcp; decide, fun b eb => h b (fun i hi => ⟨?_, ?_⟩)⟩⟩
  · rw [eb, rI_n _ _ (by decide), ea, rI_s]
    exact cpy_in _ _ hi
  · rw [eb, rI_s]
    exact cpy_in _ _ hi
theorem q3_copy {u v : RS} {Q : RS → Prop} (m : Nat) (hm : v.1 0 0 = nI m) (h32 : m ≤ 32) (h : ∀ w, bQ m v w → Q w) : wp_X3_copyFrom u v Q := by
  unfold wp_X3_copyFrom
  intro a0 e0 a1 e1 a2 e2 a3 e3 a4 e4 a5 e5 a6 e6 a7 e7
  have en : a7.1 0 0 = nI m := by
    rw [e7, rN_n _ _ (by decide), e6, rN_n _ _ (by decide), e5, rN_n _ _ (by decide), e4, rN_n _ _ (by decide), e3, rN_n _ _ (by decide), e2, rN_n _ _ (by decide), e1, rN_n _ _ (by decide), e0, rN_s, hm]
  rw [en, nI_lmul, zn_nI (by omega)]
  refine ⟨⟨by decide, by decide, nI_pos (by omega), ?_, ?_⟩, fun b eb => h b ⟨fun k hk => ?_, fun i hi => ?_⟩⟩
  · rw [zn_nI (by omega)]; show 0 + 4 * m ≤ 128; omega
  · rw [zn_nI (by omega)]; show 0 + 4 * m ≤ 128; omega
  · rw [eb]
    match k, hk with
    | 0, _ => rw [rI_n _ _ (by decide), en, hm]
    | 1, _ => rw [rI_n _ _ (by decide), e7, rN_n _ _ (by decide), e6, rN_n _ _ (by decide), e5, rN_n _ _ (by decide), e4, rN_n _ _ (by decide), e3, rN_n _ _ (by decide), e2, rN_n _ _ (by decide), e1, rN_s]
    | 2, _ => rw [rI_n _ _ (by decide), e7, rN_n _ _ (by decide), e6, rN_n _ _ (by decide), e5, rN_n _ _ (by decide), e4, rN_n _ _ (by decide), e3, rN_n _ _ (by decide), e2, rN_s]
    | 3, _ => rw [rI_n _ _ (by decide), e7, rN_n _ _ (by decide), e6, rN_n _ _ (by decide), e5, rN_n _ _ (by decide), e4, rN_n _ _ (by decide), e3, rN_s]
    | 4, _ => rw [rI_n _ _ (by decide), e7, rN_n _ _ (by decide), e6, rN_n _ _ (by decide), e5, rN_n _ _ (by decide), e4, rN_s]
    | 5, _ => rw [rI_n _ _ (by decide), e7, rN_n _ _ (by decide), e6, rN_n _ _ (by decide), e5, rN_s]
    | 6, _ => rw [rI_n _ _ (by decide), e7, rN_n _ _ (by decide), e6, rN_s]
    | 7, _ => rw [rI_n _ _ (by decide), e7, rN_s]
    | k + 8, hk => omega
  · rw [eb, rI_s]
    exact cpy_in _ _ hi
theorem q4_copy {u v : RS} {Q : RS → Prop} (h : ∀ w, bS u v w → Q w) : wp_X4_copyFrom u v Q := by
  unfold wp_X4_copyFrom
  intro a ea b eb
  refine ⟨by unfold zcp; decide, fun c ec => ⟨by unfold zcp; decide, fun d ed => h d ⟨?_, ?_, fun i hi => ?_, fun i hi => ?_, ?_⟩⟩⟩
  · rw [ed, rI_n _ _ (by decide), ec, rL_1, eb, rN_n _ _ (by decide), ea, rN_s]
  · rw [ed, rI_n _ _ (by decide), ec, rL_1, eb, rN_s]
  · rw [ed, rI_2, ec, rL_s]
    exact cpy_in _ _ hi
  · rw [ed, rI_s]
    exact cpy_in _ _ hi
  · rw [ed, rI_n _ _ (by decide), ec, rL_1, eb, rN_n _ _ (by decide), ea, rN_n _ _ (by decide)]
/-- w is u become v -/
def zbec (u v w : Nat → RS) : Prop := bK (v 1) (w 1) ∧ bF (v 2) (w 2) ∧ bT (v 3) (w 3) ∧ (∀ q, q < 4 → ∃ m, m ≤ 32 ∧ (v (5 + q)).1 0 0 = nI m ∧ bQ m (v (5 + q)) (w (5 + q))) ∧ bS (u 4) (v 4) (w 4) ∧ bO (v 0) (w 0)
theorem q5_become {u v : Nat → RS} {Q : (Nat → RS) → Prop} (hq : ∀ q, q < 4 → ∃ m, m ≤ 32 ∧ (v (5 + q)).1 0 0 = nI m) (h : ∀ w, zbec u v w → Q w) : wp_X5_become u v Q := by
  unfold wp_X5_become
  refine q2_copy (fun k hk a ea => q0_copy (fun f hf b eb => q6_copy (fun t ht c ec => ?_)))
  refine zl2 (wp_X5_become_35 Q v) 4 (fun i w x => bK (v 1) (w 1) ∧ bF (v 2) (w 2) ∧ bT (v 3) (w 3) ∧ (∀ q, q < i → ∃ m, m ≤ 32 ∧ (v (5 + q)).1 0 0 = nI m ∧ bQ m (v (5 + q)) (w (5 + q))) ∧ w 4 = u 4 ∧ x = nI i) ?_ 0 (Nat.zero_le _) c 0 ⟨?_, ?_, ?_, fun q hq => absurd hq (Nat.not_lt_zero q), ?_, rfl⟩
  · rintro i B w x hi ⟨w1, w2, w3, w5, w4, rfl⟩ hB
    unfold wp_X5_become_35
    refine ⟨fun hc => ?_, fun hc => ?_⟩
    · have hi := nI_stop (N := 4) (by decide) hi hc
      subst hi
      refine q4_copy (fun s hs a ea => ⟨by unfold zcp; decide, fun b eb c ec d ed => h d ⟨?_, ?_, ?_, ?_, ?_, ?_⟩⟩)
      · rw [ed, vu_n _ _ (by decide), ec, vu_n _ _ (by decide), eb, vu_n _ _ (by decide), ea, vu_n _ _ (by decide)]; exact w1
      · rw [ed, vu_n _ _ (by decide), ec, vu_n _ _ (by decide), eb, vu_n _ _ (by decide), ea, vu_n _ _ (by decide)]; exact w2
      · rw [ed, vu_n _ _ (by decide), ec, vu_n _ _ (by decide), eb, vu_n _ _ (by decide), ea, vu_n _ _ (by decide)]; exact w3
      · intro q hq
        rw [ed, vu_n _ _ (by omega), ec, vu_n _ _ (by omega), eb, vu_n _ _ (by omega), ea, vu_n _ _ (by omega)]; exact w5 q hq
      · rw [ed, vu_n _ _ (by decide), ec, vu_n _ _ (by decide), eb, vu_n _ _ (by decide), ea, vu_s]
        rw [← w4]; exact hs
      · refine ⟨fun i hi => ?_, ?_, ?_⟩
        · rw [ed, vu_s, rN_n _ _ (by decide), ec, vu_s, rN_n _ _ (by decide), eb, vu_s, rI_s]
          exact cpy_in _ _ hi
        · rw [ed, vu_s, rN_n _ _ (by decide), ec, vu_s, rN_s]
        · rw [ed, vu_s, rN_s]
    · have hlt := nI_go (N := 4) (by decide) hi hc
      rw [zn_nI (by omega)]
      obtain ⟨m, m1, m2⟩ := hq i hlt
      refine ⟨in_nI (by omega) (by decide), in_nI (by omega) (by decide), in_nI (by omega) (by decide), q3_copy m m2 m1 (fun o ho a ea y ey => hB _ _ hlt ⟨?_, ?_, ?_, fun q hq => ?_, ?_, by rw [ey, nI_1]⟩)⟩
      · rw [ea, vu_n _ _ (by omega)]; exact w1
      · rw [ea, vu_n _ _ (by omega)]; exact w2
      · rw [ea, vu_n _ _ (by omega)]; exact w3
      · rw [ea]
        by_cases e : q = i
        · subst e; rw [vu_s]; exact ⟨m, m1, m2, ho⟩
        · rw [vu_n _ _ (by omega)]; exact w5 q (by omega)
      · rw [ea, vu_n _ _ (by omega)]; exact w4
  · rw [ec, vu_n _ _ (by decide), eb, vu_n _ _ (by decide), ea, vu_s]; exact hk
  · rw [ec, vu_n _ _ (by decide), eb, vu_s]; exact hf
  · rw [ec, vu_s]; exact ht
  · rw [ec, vu_n _ _ (by decide), eb, vu_n _ _ (by decide), ea, vu_n _ _ (by decide)]
