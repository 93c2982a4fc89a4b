-- the pure side: entries by their hits
def zbf (h : Nat → Int32) (a b : Nat) : Prop := (h b).toInt < (h a).toInt ∨ ((h a).toInt = (h b).toInt ∧ a < b)
def zord (h : Nat → Int32) (o : Nat → Nat) (n : Nat) : Prop := (∀ i, i < n → o i < n) ∧ (∀ i j, i < j → j < n → zbf h (o i) (o j)) ∧ ∀ e, e < n → ∃ i, i < n ∧ o i = e
theorem zord_in {h : Nat → Int32} {o : Nat → Nat} {x p : Nat} (ho : zord h o x) (hp : p ≤ x) (h1 : ∀ i, p ≤ i → i < x → (h (o i)).toInt < (h x).toInt) (h2 : 0 < p → (h x).toInt ≤ (h (o (p - 1))).toInt) : zord h (fun i => if i < p then o i else if i = p then x else o (i - 1)) (x + 1) := by
  obtain ⟨o1, o2, o3⟩ := ho
  refine ⟨fun i hi => ?_, fun i j hij hj => ?_, fun e he => ?_⟩
  · show (if i < p then o i else if i = p then x else o (i - 1)) < x + 1
    by_cases a : i < p
    · rw [if_pos a]; have := o1 i (by omega); omega
    · rw [if_neg a]
      by_cases b : i = p
      · rw [if_pos b]; omega
      · rw [if_neg b]; have := o1 (i - 1) (by omega); omega
  · show zbf h (if i < p then o i else if i = p then x else o (i - 1)) (if j < p then o j else if j = p then x else o (j - 1))
    by_cases a : j < p
    · rw [if_pos a, if_pos (show i < p by omega)]; exact o2 i j hij (by omega)
    · rw [if_neg a]
      by_cases b : j = p
      · rw [if_pos b, if_pos (show i < p by omega)]
        have h3 := h2 (by omega)
        have h4 := o1 i (by omega)
        have h5 : (h (o (p - 1))).toInt ≤ (h (o i)).toInt := by
          by_cases c : i = p - 1
          · rw [c]; exact Int.le_refl _
          · have := o2 i (p - 1) (by omega) (by omega)
            unfold zbf at this
            omega
        unfold zbf
        omega
      · rw [if_neg b]
        by_cases c : i < p
        · rw [if_pos c]; exact o2 i (j - 1) (by omega) (by omega)
        · rw [if_neg c]
          by_cases d : i = p
          · rw [if_pos d]
            exact Or.inl (h1 (j - 1) (by omega) (by omega))
          · rw [if_neg d]; exact o2 (i - 1) (j - 1) (by omega) (by omega)
  · show ∃ i, i < x + 1 ∧ (if i < p then o i else if i = p then x else o (i - 1)) = e
    by_cases a : e = x
    · exact ⟨p, by omega, by rw [if_neg (by omega), if_pos rfl, a]⟩
    · obtain ⟨i, i1, i2⟩ := o3 e (by omega)
      by_cases b : i < p
      · exact ⟨i, by omega, by rw [if_pos b]; exact i2⟩
      · exact ⟨i + 1, by omega, by rw [if_neg (by omega), if_neg (by omega), show i + 1 - 1 = i by omega]; exact i2⟩
theorem q6_order {u : RS} {Q : RS → Prop} (hQ : ∀ (w : RS) (o : Nat → Nat), zord (u.1 1) o 16 → (∀ i, i < 16 → w.1 2 i = nI (o i)) → w.1 0 = u.1 0 → w.1 1 = u.1 1 → Q w) : wp_X6_orderByHits u Q := by
  unfold wp_X6_orderByHits
  refine zl2 (wp_X6_orderByHits_2 Q) 16 (fun x v y => v.1 0 = u.1 0 ∧ v.1 1 = u.1 1 ∧ y = nI x ∧ ∃ o, zord (u.1 1) o x ∧ ∀ i, i < x → v.1 2 i = nI (o i)) ?_ 0 (Nat.zero_le _) u 0 ⟨rfl, rfl, rfl, fun _ => 0, ⟨fun i hi => absurd hi (by omega), fun i j _ hj => absurd hj (by omega), fun e he => absurd he (by omega)⟩, fun i hi => absurd hi (by omega)⟩
  rintro x B v y hx ⟨v0, v1, rfl, o, ho, hv⟩ hB
  unfold wp_X6_orderByHits_2
  refine ⟨fun c => ?_, fun c => ?_⟩
  · have hx := nI_stop (N := 16) (by decide) hx c
    subst hx
    exact hQ v o ho hv v0 v1
  · have hlt := nI_go (N := 16) (by decide) hx c
    refine zl3 (wp_X6_orderByHits_10 Q B) x (fun j w y1 y2 => w.1 0 = u.1 0 ∧ w.1 1 = u.1 1 ∧ y1 = nI x ∧ y2 = nI (x - j) ∧ (∀ i, i < x - j → w.1 2 i = nI (o i)) ∧ (∀ i, x - j < i → i ≤ x → w.1 2 i = nI (o (i - 1))) ∧ ∀ i, x - j ≤ i → i < x → (u.1 1 (o i)).toInt < (u.1 1 x).toInt) ?_ 0 (Nat.zero_le _) v _ _ ⟨v0, v1, rfl, rfl, fun i hi => hv i hi, fun i a b => absurd a (by omega), fun i a b => absurd a (by omega)⟩
    rintro j C w y1 y2 hj ⟨w0, w1, rfl, rfl, a1, a2, a3⟩ hC
    have put : ((0 < x - j) → (u.1 1 x).toInt ≤ (u.1 1 (o (x - j - 1))).toInt) → wp_X6_orderByHits_56 Q B w (nI x) (nI (x - j)) := by
      intro hp
      unfold wp_X6_orderByHits_56
      rw [zn_nI (by omega)]
      refine ⟨in_nI (by omega) (by decide), fun w2 d2 y ey => hB _ _ hlt ⟨by rw [d2, rI_n _ _ (by decide)]; exact w0, by rw [d2, rI_n _ _ (by decide)]; exact w1, by rw [ey, nI_1], _, zord_in ho (p := x - j) (by omega) a3 hp, fun i hi => ?_⟩⟩
      rw [d2, rI_s]
      show _ = nI (if i < x - j then o i else if i = x - j then x else o (i - 1))
      by_cases e : i = x - j
      · subst e
        rw [pk_us, if_neg (by omega), if_pos rfl]
      · rw [pk_un e]
        by_cases f : i < x - j
        · rw [if_pos f]; exact a1 i f
        · rw [if_neg f, if_neg e]; exact a2 i (by omega) (by omega)
    unfold wp_X6_orderByHits_10
    refine ⟨fun z => put (fun hp => ?_), fun z => ?_⟩
    · have := (nI_le0 (by omega)).mp z
      omega
    · have hp : 0 < x - j := by
        rcases Nat.eq_zero_or_pos (x - j) with e | e
        · exact absurd ((nI_le0 (by omega)).mpr e) z
        · exact e
      have oi := ho.1 (x - j - 1) (by omega)
      have e1 : nI (x - j) - 1 = nI (x - j - 1) := nI_sub hp
      rw [e1, zn_nI (by omega), zn_nI (by omega), zn_nI (by omega), a1 _ (by omega), zn_nI (by omega), w1]
      refine ⟨in_nI (by omega) (by decide), in_nI (by omega) (by decide), in_nI (by omega) (by decide), fun c1 => put (fun _ => Int32.le_iff_toInt_le.mp c1), fun c1 => ⟨in_nI (by omega) (by decide), in_nI (by omega) (by decide), fun w2 d2 y ey => ?_⟩⟩
      refine hC _ _ _ (by omega) ⟨by rw [d2, rI_n _ _ (by decide)]; exact w0, by rw [d2, rI_n _ _ (by decide)]; exact w1, rfl, ?_, fun i hi => ?_, fun i i1 i2 => ?_, fun i i1 i2 => ?_⟩
      · rw [ey, show x - j = (x - (j + 1)) + 1 by omega, nI_dn, nD_s]
      · rw [d2, rI_s, pk_un (by omega)]; exact a1 i (by omega)
      · rw [d2, rI_s]
        by_cases e : i = x - j
        · subst e; rw [pk_us]
        · rw [pk_un e]; exact a2 i (by omega) i2
      · by_cases e : i = x - j - 1
        · subst e
          rw [Int32.le_iff_toInt_le] at c1
          omega
        · exact a3 i (by omega) i2
def zmn (h : Nat → Int32) (L : Nat → Prop) (x : Int32) : Prop := (x = -1 ∧ ∀ j, j < 16 → L j) ∨ ∃ b, b < 16 ∧ x = nI b ∧ ¬ L b ∧ ∀ j, j < 16 → ¬ L j → j = b ∨ zbf h b j
theorem q8_nextEntry {u : RS} {Q : Int32 → RS → Prop} (hQ : ∀ x, zmn (fun e => u.1 3 (39 + e)) (fun e => ¬ u.1 16 e = 0) x → Q x u) : wp_X8_nextEntry u Q := by
  unfold wp_X8_nextEntry
  refine zl3 (wp_X8_nextEntry_4 Q) 16 (fun i v y1 y2 => v = u ∧ y2 = nI i ∧ ((y1 = -1 ∧ ∀ j, j < i → ¬ u.1 16 j = 0) ∨ ∃ b, b < i ∧ y1 = nI b ∧ u.1 16 b = 0 ∧ ∀ j, j < i → u.1 16 j = 0 → j = b ∨ zbf (fun e => u.1 3 (39 + e)) b j)) ?_ 0 (Nat.zero_le _) u _ 0 ⟨rfl, rfl, Or.inl ⟨rfl, fun j hj => absurd hj (by omega)⟩⟩
  rintro i C v y1 y2 hi ⟨rfl, rfl, hp⟩ hC
  unfold wp_X8_nextEntry_4 wp_X8_nextEntry_49 wp_X8_nextEntry_45 wp_X8_nextEntry_50
  refine ⟨fun c => ?_, fun c => ?_⟩
  · have hi := nI_stop (N := 16) (by decide) hi c
    subst hi
    refine hQ _ ?_
    rcases hp with ⟨a, b⟩ | ⟨b, b1, b2, b3, b4⟩
    · exact Or.inl ⟨a, b⟩
    · exact Or.inr ⟨b, b1, b2, fun z => z b3, fun j j1 j2 => b4 j j1 (Classical.not_not.mp j2)⟩
  · have hlt := nI_go (N := 16) (by decide) hi c
    rw [zn_nI (by omega), nI_ladd, zn_nI (by omega)]
    refine ⟨in_nI (by omega) (by decide), fun c1 x ex => ?_, fun c1 => ⟨fun c2 x ex => ?_, fun c2 => ?_⟩⟩
    · refine hC _ _ _ hlt ⟨rfl, by rw [ex, nI_1], ?_⟩
      rcases hp with ⟨a, b⟩ | ⟨b, b1, b2, b3, b4⟩
      · refine Or.inl ⟨a, fun j hj => ?_⟩
        by_cases e : j = i
        · rw [e]; exact c1
        · exact b j (by omega)
      · refine Or.inr ⟨b, by omega, b2, b3, fun j hj hz => ?_⟩
        by_cases e : j = i
        · rw [e] at hz; exact absurd hz c1
        · exact b4 j (by omega) hz
    · refine hC _ _ _ hlt ⟨rfl, by rw [ex, nI_1], Or.inr ⟨i, by omega, rfl, c1, fun j hj hz => ?_⟩⟩
      rcases hp with ⟨a, b⟩ | ⟨b, b1, b2, b3, b4⟩
      · by_cases e : j = i
        · exact Or.inl e
        · exact absurd hz (b j (by omega))
      · rw [b2] at c2
        exact absurd c2 (nI_nm1 (by omega))
    · rcases hp with ⟨a, b⟩ | ⟨b, b1, b2, b3, b4⟩
      · exact absurd a c2
      · subst b2
        rw [nI_ladd, zn_nI (by omega)]
        refine ⟨in_nI (by omega) (by decide), in_nI (by omega) (by decide), fun c3 x ex => ?_, fun c3 x ex => ?_⟩
        · refine hC _ _ _ hlt ⟨rfl, by rw [ex, nI_1], Or.inr ⟨b, by omega, rfl, b3, fun j hj hz => ?_⟩⟩
          by_cases e : j = i
          · right
            rw [Int32.le_iff_toInt_le] at c3
            show (v.1 3 (39 + j)).toInt < (v.1 3 (39 + b)).toInt ∨ ((v.1 3 (39 + b)).toInt = (v.1 3 (39 + j)).toInt ∧ b < j)
            subst e
            omega
          · exact b4 j (by omega) hz
        · refine hC _ _ _ hlt ⟨rfl, by rw [ex, nI_1], Or.inr ⟨i, by omega, rfl, c1, fun j hj hz => ?_⟩⟩
          by_cases e : j = i
          · exact Or.inl e
          · right
            rw [Int32.le_iff_toInt_le] at c3
            show (v.1 3 (39 + j)).toInt < (v.1 3 (39 + i)).toInt ∨ ((v.1 3 (39 + i)).toInt = (v.1 3 (39 + j)).toInt ∧ i < j)
            rcases b4 j (by omega) hz with q | q
            · subst q; omega
            · replace q : (v.1 3 (39 + j)).toInt < (v.1 3 (39 + b)).toInt ∨ ((v.1 3 (39 + b)).toInt = (v.1 3 (39 + j)).toInt ∧ b < j) := q
              omega
theorem zmn_at {h : Nat → Int32} {o : Nat → Nat} {L : Nat → Prop} {x : Int32} {i : Nat} (ho : zord h o 16) (hi : i < 16) (hx : zmn h L x) (h0 : ¬ L (o i)) (h1 : ∀ j, j < i → L (o j)) : x = nI (o i) := by
  obtain ⟨o1, o2, o3⟩ := ho
  rcases hx with ⟨-, a⟩ | ⟨b, b1, b2, b3, b4⟩
  · exact absurd (a _ (o1 i hi)) h0
  · obtain ⟨j, j1, j2⟩ := o3 b b1
    rcases b4 (o i) (o1 i hi) h0 with e | e
    · rw [b2, e]
    · rcases Nat.lt_trichotomy j i with q | q | q
      · exact absurd (by rw [← j2]; exact h1 j q) b3
      · rw [b2, ← j2, q]
      · have := o2 i j q j1
        rw [j2] at this
        unfold zbf at this e
        omega
theorem zmn_no {h : Nat → Int32} {o : Nat → Nat} {L : Nat → Prop} {x : Int32} (ho : zord h o 16) (hx : zmn h L x) (h1 : ∀ j, j < 16 → L (o j)) : x = -1 := by
  rcases hx with ⟨a, -⟩ | ⟨b, b1, b2, b3, b4⟩
  · exact a
  · obtain ⟨j, j1, j2⟩ := ho.2.2 b b1
    exact absurd (by rw [← j2]; exact h1 j j1) b3
/-- the least of the first i queues, but x -/
def zls (s : Nat → Int32) (x : Int32) : Nat → Int32
  | 0 => -1
  | i + 1 => if nI i = x then zls s x i else if zls s x i = -1 then nI i else if s (zn (zls s x i)) ≤ s i then zls s x i else nI i
theorem zls_rng (s : Nat → Int32) (x : Int32) : ∀ i, i ≤ 4 → zls s x i = -1 ∨ ∃ p, p < i ∧ zls s x i = nI p ∧ ¬ nI p = x
  | 0, _ => Or.inl rfl
  | i + 1, hi => by
    have ih := zls_rng s x i (by omega)
    show (if nI i = x then zls s x i else if zls s x i = -1 then nI i else if s (zn (zls s x i)) ≤ s i then zls s x i else nI i) = -1 ∨ ∃ p, p < i + 1 ∧ (if nI i = x then zls s x i else if zls s x i = -1 then nI i else if s (zn (zls s x i)) ≤ s i then zls s x i else nI i) = nI p ∧ ¬ nI p = x
    have ih' : zls s x i = -1 ∨ ∃ p, p < i + 1 ∧ zls s x i = nI p ∧ ¬ nI p = x := by
      rcases ih with a | ⟨p, p1, p2, p3⟩
      · exact Or.inl a
      · exact Or.inr ⟨p, by omega, p2, p3⟩
    by_cases c : nI i = x
    · rw [if_pos c]; exact ih'
    · rw [if_neg c]
      by_cases d : zls s x i = -1
      · rw [if_pos d]; exact Or.inr ⟨i, by omega, rfl, c⟩
      · rw [if_neg d]
        by_cases e : s (zn (zls s x i)) ≤ s i
        · rw [if_pos e]; exact ih'
        · rw [if_neg e]; exact Or.inr ⟨i, by omega, rfl, c⟩
theorem zls_eq {s t : Nat → Int32} (x : Int32) (h : ∀ p, p < 4 → s p = t p) : ∀ i, i ≤ 4 → zls s x i = zls t x i
  | 0, _ => rfl
  | i + 1, hi => by
    have ih := zls_eq x h i (by omega)
    show (if nI i = x then zls s x i else if zls s x i = -1 then nI i else if s (zn (zls s x i)) ≤ s i then zls s x i else nI i) = (if nI i = x then zls t x i else if zls t x i = -1 then nI i else if t (zn (zls t x i)) ≤ t i then zls t x i else nI i)
    rw [ih, h i (by omega)]
    rcases zls_rng t x i (by omega) with a | ⟨p, p1, p2, -⟩
    · rw [if_pos a, if_pos a]
    · rw [p2, zn_nI (by omega), h p (by omega)]
theorem zls_m1 {s : Nat → Int32} {x : Int32} {i : Nat} (h : zls s x (i + 1) = -1) (hi : i < 4) : nI i = x ∧ zls s x i = -1 := by
  replace h : (if nI i = x then zls s x i else if zls s x i = -1 then nI i else if s (zn (zls s x i)) ≤ s i then zls s x i else nI i) = -1 := h
  by_cases c : nI i = x
  · rw [if_pos c] at h; exact ⟨c, h⟩
  · rw [if_neg c] at h
    by_cases d : zls s x i = -1
    · rw [if_pos d] at h; exact absurd h (nI_nm1 (by omega))
    · rw [if_neg d] at h
      by_cases e : s (zn (zls s x i)) ≤ s i
      · rw [if_pos e] at h; exact absurd h d
      · rw [if_neg e] at h; exact absurd h (nI_nm1 (by omega))
theorem zls_4 (s : Nat → Int32) (x : Int32) : ∃ p, p < 4 ∧ zls s x 4 = nI p ∧ ¬ nI p = x := by
  rcases zls_rng s x 4 (by omega) with a | a
  · obtain ⟨c1, c2⟩ := zls_m1 a (by omega)
    obtain ⟨d1, d2⟩ := zls_m1 c2 (by omega)
    rw [← d1] at c1
    exact absurd c1 (by decide)
  · exact a
theorem zls_s (s : Nat → Int32) (x : Int32) (i : Nat) : zls s x (i + 1) = if nI i = x then zls s x i else if zls s x i = -1 then nI i else if s (zn (zls s x i)) ≤ s i then zls s x i else nI i := rfl
theorem q8_leastShare {u : RS} {x : Int32} {Q : Int32 → RS → Prop} (h : Q (zls (u.1 15) x 4) u) : wp_X8_leastShare u x Q := by
  unfold wp_X8_leastShare
  refine zl4 (wp_X8_leastShare_4 Q) 4 (fun i v y1 y2 y3 => v = u ∧ y1 = x ∧ y2 = zls (u.1 15) x i ∧ y3 = nI i) ?_ 0 (Nat.zero_le _) u _ _ 0 ⟨rfl, rfl, rfl, rfl⟩
  rintro i C v y1 y2 y3 hi ⟨rfl, rfl, rfl, rfl⟩ hC
  unfold wp_X8_leastShare_4 wp_X8_leastShare_38 wp_X8_leastShare_34 wp_X8_leastShare_39
  refine ⟨fun c => ?_, fun c => ?_⟩
  · have hi := nI_stop (N := 4) (by decide) hi c
    subst hi
    exact h
  · have hlt := nI_go (N := 4) (by decide) hi c
    have sl := zls_s (v.1 15) y1 i
    rw [zn_nI (by omega)]
    refine ⟨fun c1 z ez => hC _ _ _ _ hlt ⟨rfl, rfl, by rw [sl, if_pos c1], by rw [ez, nI_1]⟩, fun c1 => ⟨fun c2 z ez => hC _ _ _ _ hlt ⟨rfl, rfl, by rw [sl, if_neg c1, if_pos c2], by rw [ez, nI_1]⟩, fun c2 => ?_⟩⟩
    have hin : vp_in (zls (v.1 15) y1 i) 4 := by
      rcases zls_rng (v.1 15) y1 i (by omega) with a | ⟨p, p1, p2, -⟩
      · exact absurd a c2
      · rw [p2]; exact in_nI (by omega) (by decide)
    exact ⟨in_nI hlt (by decide), hin, fun c3 z ez => hC _ _ _ _ hlt ⟨rfl, rfl, by rw [sl, if_neg c1, if_neg c2, if_pos c3], by rw [ez, nI_1]⟩, fun c3 z ez => hC _ _ _ _ hlt ⟨rfl, rfl, by rw [sl, if_neg c1, if_neg c2, if_neg c3], by rw [ez, nI_1]⟩⟩
theorem q6_leastQueue {u : RS} {x : Int32} {Q : Int32 → RS → Prop} (h : Q (zls (u.1 3) x 4) u) : wp_X6_leastQueue u x Q := by
  have main : ∀ k, 1 ≤ k → k ≤ 2 → (¬ zls (u.1 3) x k = -1) → ∃ n, zit4 (wp_X6_leastQueue_14 Q) n u x (zls (u.1 3) x k) (nI k) := by
    intro k k1 k2 hk
    refine zl4 (wp_X6_leastQueue_14 Q) 4 (fun i v y1 y2 y3 => v = u ∧ y1 = x ∧ y2 = zls (u.1 3) x i ∧ y3 = nI i ∧ ¬ zls (u.1 3) x i = -1) ?_ k (by omega) u _ _ _ ⟨rfl, rfl, rfl, rfl, hk⟩
    rintro i C v y1 y2 y3 hi ⟨rfl, rfl, rfl, rfl, hn⟩ hC
    unfold wp_X6_leastQueue_14 wp_X6_leastQueue_41
    refine ⟨fun c => ?_, fun c => ?_⟩
    · have hi := nI_stop (N := 4) (by decide) hi c
      subst hi
      exact h
    · have hlt := nI_go (N := 4) (by decide) hi c
      have sl := zls_s (v.1 3) y1 i
      rw [zn_nI (by omega)]
      have nn : ¬ zls (v.1 3) y1 (i + 1) = -1 := fun z => hn (zls_m1 z hlt).2
      refine ⟨fun c1 z ez => hC _ _ _ _ hlt ⟨rfl, rfl, by rw [sl, if_pos c1], by rw [ez, nI_1], nn⟩, fun c1 => ?_⟩
      have hin : vp_in (zls (v.1 3) y1 i) 4 := by
        rcases zls_rng (v.1 3) y1 i (by omega) with a | ⟨p, p1, p2, -⟩
        · exact absurd a hn
        · rw [p2]; exact in_nI (by omega) (by decide)
      exact ⟨in_nI hlt (by decide), hin, fun c3 z ez => hC _ _ _ _ hlt ⟨rfl, rfl, by rw [sl, if_neg c1, if_neg hn, if_pos c3], by rw [ez, nI_1], nn⟩, fun c3 z ez => hC _ _ _ _ hlt ⟨rfl, rfl, by rw [sl, if_neg c1, if_neg hn, if_neg c3], by rw [ez, nI_1], nn⟩⟩
  unfold wp_X6_leastQueue wp_X6_leastQueue_9
  refine ⟨fun c z ez => ?_, fun c z ez => ?_⟩
  · have e : zls (u.1 3) x 1 = 0 := by
      rw [zls_s, if_neg (fun y => c y.symm)]
      rfl
    have := main 1 (by omega) (by omega) (by rw [e]; decide)
    rw [e] at this
    rw [ez]
    exact this
  · have e : zls (u.1 3) x 2 = 1 := by
      rw [zls_s, zls_s, c]
      rfl
    have := main 2 (by omega) (by omega) (by rw [e]; decide)
    rw [e] at this
    rw [ez]
    exact this
