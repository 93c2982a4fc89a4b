-- the pure side: entries dealt anew
abbrev DS : Type := (Nat → Int32) × (Nat → Int32) × Int32
def zdl (h : Nat → Int32) (t : DS) (e : Nat) : DS := (upd t.1 e (zls t.2.1 (-1) 4), upd t.2.1 (zn (zls t.2.1 (-1) 4)) (t.2.1 (zn (zls t.2.1 (-1) 4)) + h e), if t.1 e = zls t.2.1 (-1) 4 then t.2.2 else t.2.2 + 1)
def zdeal (h : Nat → Int32) (t : DS) (o : Nat → Nat) : Nat → DS
  | 0 => t
  | i + 1 => zdl h (zdeal h t o i) (o i)
def zem (h : Nat → Int32) (x : Int32) (t : DS) (e : Nat) : DS := if t.1 e = x then (upd t.1 e (zls t.2.1 x 4), upd t.2.1 (zn (zls t.2.1 x 4)) (t.2.1 (zn (zls t.2.1 x 4)) + h e), t.2.2 + 1) else t
def zempt (h : Nat → Int32) (x : Int32) (t : DS) (o : Nat → Nat) : Nat → DS
  | 0 => t
  | i + 1 => zem h x (zempt h x t o i) (o i)
theorem zdeal_rng {h : Nat → Int32} {t : DS} {o : Nat → Nat} (ht : ∀ e, e < 16 → ∃ q, q < 4 ∧ t.1 e = nI q) : ∀ i e, e < 16 → ∃ q, q < 4 ∧ (zdeal h t o i).1 e = nI q
  | 0, e, he => ht e he
  | i + 1, e, he => by
    show ∃ q, q < 4 ∧ upd (zdeal h t o i).1 (o i) (zls (zdeal h t o i).2.1 (-1) 4) e = nI q
    by_cases c : e = o i
    · rw [c, pk_us]
      obtain ⟨p, p1, p2, -⟩ := zls_4 (zdeal h t o i).2.1 (-1)
      exact ⟨p, p1, p2⟩
    · rw [pk_un c]; exact zdeal_rng ht i e he
theorem zempt_rng {h : Nat → Int32} {x : Int32} {t : DS} {o : Nat → Nat} (ht : ∀ e, e < 16 → ∃ q, q < 4 ∧ t.1 e = nI q) : ∀ i e, e < 16 → ∃ q, q < 4 ∧ (zempt h x t o i).1 e = nI q
  | 0, e, he => ht e he
  | i + 1, e, he => by
    show ∃ q, q < 4 ∧ (zem h x (zempt h x t o i) (o i)).1 e = nI q
    unfold zem
    by_cases d : (zempt h x t o i).1 (o i) = x
    · rw [if_pos d]
      show ∃ q, q < 4 ∧ upd (zempt h x t o i).1 (o i) (zls (zempt h x t o i).2.1 x 4) e = nI q
      by_cases c : e = o i
      · rw [c, pk_us]
        obtain ⟨p, p1, p2, -⟩ := zls_4 (zempt h x t o i).2.1 x
        exact ⟨p, p1, p2⟩
      · rw [pk_un c]; exact zempt_rng ht i e he
    · rw [if_neg d]; exact zempt_rng ht i e he
/-- the entries before i hold no x -/
theorem zempt_no {h : Nat → Int32} {x : Int32} {t : DS} {o : Nat → Nat} : ∀ i j, j < i → ¬ (zempt h x t o i).1 (o j) = x
  | i + 1, j, hj => by
    show ¬ (zem h x (zempt h x t o i) (o i)).1 (o j) = x
    unfold zem
    by_cases d : (zempt h x t o i).1 (o i) = x
    · rw [if_pos d]
      show ¬ upd (zempt h x t o i).1 (o i) (zls (zempt h x t o i).2.1 x 4) (o j) = x
      by_cases c : o j = o i
      · rw [c, pk_us]
        obtain ⟨p, p1, p2, p3⟩ := zls_4 (zempt h x t o i).2.1 x
        rw [p2]; exact p3
      · rw [pk_un c]
        by_cases e : j = i
        · exact absurd (by rw [e]) c
        · exact zempt_no i j (by omega)
    · rw [if_neg d]
      by_cases e : j = i
      · rw [e]; exact d
      · exact zempt_no i j (by omega)
/-- hits of a queue over the first i entries -/
def zhs (t h : Nat → Int32) (x : Int32) : Nat → Int32
  | 0 => 0
  | i + 1 => zhs t h x i + (if t i = x then h i else 0)
theorem q6_clearSums {u : RS} {Q : RS → Prop} (hQ : ∀ w : RS, (∀ p, p < 4 → w.1 3 p = 0) → (∀ k, k ≠ 3 → w.1 k = u.1 k) → Q w) : wp_X6_clearSums u Q := by
  unfold wp_X6_clearSums
  refine zl2 (wp_X6_clearSums_2 Q) 4 (fun i v y => y = nI i ∧ (∀ p, p < i → v.1 3 p = 0) ∧ ∀ k, k ≠ 3 → v.1 k = u.1 k) ?_ 0 (Nat.zero_le _) u 0 ⟨rfl, fun p hp => absurd hp (by omega), fun _ _ => rfl⟩
  rintro i C v y hi ⟨rfl, a, b⟩ hC
  unfold wp_X6_clearSums_2
  refine ⟨fun c => ?_, fun c => ?_⟩
  · have hi := nI_stop (N := 4) (by decide) hi c
    subst hi
    exact hQ v a b
  · have hlt := nI_go (N := 4) (by decide) hi c
    rw [zn_nI (by omega)]
    refine ⟨in_nI hlt (by decide), fun w d x ex => hC _ _ hlt ⟨by rw [ex, nI_1], fun p hp => ?_, fun k hk => by rw [d, rI_n _ _ hk]; exact b k hk⟩⟩
    rw [d, rI_s]
    by_cases e : p = i
    · rw [e, pk_us]
    · rw [pk_un e]; exact a p (by omega)
theorem q6_sumHits {u : RS} {Q : RS → Prop} (ht : ∀ e, e < 16 → ∃ q, q < 4 ∧ u.1 0 e = nI q) (hQ : ∀ w : RS, (∀ p, p < 4 → w.1 3 p = zhs (u.1 0) (u.1 1) (nI p) 16) → (∀ k, k ≠ 3 → w.1 k = u.1 k) → Q w) : wp_X6_sumHits u Q := by
  unfold wp_X6_sumHits
  refine q6_clearSums (fun w0 a0 b0 => ?_)
  refine zl2 (wp_X6_sumHits_6 Q) 16 (fun i v y => y = nI i ∧ (∀ p, p < 4 → v.1 3 p = zhs (u.1 0) (u.1 1) (nI p) i) ∧ ∀ k, k ≠ 3 → v.1 k = u.1 k) ?_ 0 (Nat.zero_le _) w0 0 ⟨rfl, a0, b0⟩
  rintro i C v y hi ⟨rfl, a, b⟩ hC
  unfold wp_X6_sumHits_6
  refine ⟨fun c => ?_, fun c => ?_⟩
  · have hi := nI_stop (N := 16) (by decide) hi c
    subst hi
    exact hQ v a b
  · have hlt := nI_go (N := 16) (by decide) hi c
    obtain ⟨q, q1, q2⟩ := ht i hlt
    rw [zn_nI (by omega), b 0 (by decide), b 1 (by decide), q2, zn_nI (by omega)]
    refine ⟨in_nI hlt (by decide), in_nI q1 (by decide), in_nI hlt (by decide), in_nI q1 (by decide), fun w d x ex => hC _ _ hlt ⟨by rw [ex, nI_1], fun p hp => ?_, fun k hk => by rw [d, rI_n _ _ hk]; exact b k hk⟩⟩
    show _ = zhs (u.1 0) (u.1 1) (nI p) i + (if u.1 0 i = nI p then u.1 1 i else 0)
    rw [d, rI_s]
    by_cases e : p = q
    · rw [e, pk_us, a q q1, if_pos q2]
    · rw [pk_un e, a p hp, if_neg (fun z => e ((nI_eq (by omega) (by omega)).mp (z.symm.trans q2)))]
      exact (Int32.add_zero _).symm
/-- class: dealt anew -/
theorem q6_deal {u : RS} {Q : Int32 → RS → Prop} {T H : Nat → Int32} (hT : ∀ e, e < 16 → u.1 0 e = T e) (hH : ∀ e, e < 16 → u.1 1 e = H e) (hQ : ∀ (w : RS) (o : Nat → Nat), zord H o 16 → (∀ e, e < 16 → w.1 0 e = (zdeal H (T, fun _ => 0, 0) o 16).1 e) → w.1 1 = u.1 1 → Q (zdeal H (T, fun _ => 0, 0) o 16).2.2 w) : wp_X6_deal u Q := by
  unfold wp_X6_deal
  refine q6_order (fun w o ho w2 w0 w1 => q6_clearSums (fun w' a0 b0 => ?_))
  have ho' : zord H o 16 := by
    obtain ⟨o1, o2, o3⟩ := ho
    refine ⟨o1, fun i j a b => ?_, o3⟩
    have := o2 i j a b
    unfold zbf at this ⊢
    rw [hH _ (o1 i (by omega)), hH _ (o1 j b)] at this
    exact this
  refine zl3 (wp_X6_deal_12 Q) 16 (fun i v y1 y2 => y2 = nI i ∧ y1 = (zdeal H (T, fun _ => 0, 0) o i).2.2 ∧ (∀ e, e < 16 → v.1 0 e = (zdeal H (T, fun _ => 0, 0) o i).1 e) ∧ (∀ p, p < 4 → v.1 3 p = (zdeal H (T, fun _ => 0, 0) o i).2.1 p) ∧ v.1 1 = u.1 1 ∧ ∀ k, k < 16 → v.1 2 k = nI (o k)) ?_ 0 (Nat.zero_le _) w' 0 0 ⟨rfl, rfl, fun e he => by rw [b0 0 (by decide), w0]; exact hT e he, a0, by rw [b0 1 (by decide), w1], fun k hk => by rw [b0 2 (by decide)]; exact w2 k hk⟩
  rintro i C v y1 y2 hi ⟨rfl, rfl, v0, v3, v1, v2⟩ hC
  unfold wp_X6_deal_12 wp_X6_deal_46
  refine ⟨fun c => ?_, fun c => ?_⟩
  · have hi := nI_stop (N := 16) (by decide) hi c
    subst hi
    exact hQ v o ho' v0 v1
  · have hlt := nI_go (N := 16) (by decide) hi c
    have oi := ho.1 i hlt
    rw [zn_nI (by omega), v2 i hlt]
    obtain ⟨t, et⟩ : ∃ t, t = zdeal H (T, fun _ => 0, 0) o i := ⟨_, rfl⟩
    have es : zdeal H (T, fun _ => 0, 0) o (i + 1) = zdl H t (o i) := by rw [et]; rfl
    rw [← et] at v0 v3 ⊢
    refine ⟨in_nI hlt (by decide), fun x ex => ?_⟩
    subst ex
    refine q6_leastQueue ?_
    obtain ⟨p, p1, p2, -⟩ := zls_4 t.2.1 (-1)
    rw [zls_eq (-1) v3 4 (by omega), p2, zn_nI (by omega), v0 _ oi, zn_nI (by omega)]
    have fin : ∀ (k : Int32) (w2 : RS) (y : Int32), k = (if t.1 (o i) = nI p then t.2.2 else t.2.2 + 1) → w2 = rI (rI v 0 (upd (v.1 0) (o i) (nI p))) 3 (upd (v.1 3) p (v.1 3 p + v.1 1 (o i))) → y = nI i + 1 → C w2 k y := by
      intro k w2 y ek ew ey
      refine hC _ _ _ hlt ⟨by rw [ey, nI_1], ?_, fun e he => ?_, fun p' hp' => ?_, ?_, fun k hk => ?_⟩
      · rw [es, ek]
        unfold zdl
        rw [p2]
      · rw [es, ew, rI_n _ _ (by decide), rI_s]
        show _ = upd t.1 (o i) (zls t.2.1 (-1) 4) e
        rw [p2]
        by_cases z : e = o i
        · rw [z, pk_us, pk_us]
        · rw [pk_un z, pk_un z]; exact v0 e he
      · rw [es, ew, rI_s]
        show _ = upd t.2.1 (zn (zls t.2.1 (-1) 4)) (t.2.1 (zn (zls t.2.1 (-1) 4)) + H (o i)) p'
        rw [p2, zn_nI (by omega)]
        by_cases z : p' = p
        · rw [z, pk_us, pk_us, v3 p p1, v1, hH _ oi]
        · rw [pk_un z, pk_un z]; exact v3 p' hp'
      · rw [ew, rI_n _ _ (by decide), rI_n _ _ (by decide)]; exact v1
      · rw [ew, rI_n _ _ (by decide), rI_n _ _ (by decide)]; exact v2 k hk
    refine ⟨in_nI oi (by decide), fun c1 => ⟨in_nI oi (by decide), fun a1 d1 => ⟨in_nI p1 (by decide), in_nI oi (by decide), in_nI p1 (by decide), fun a2 d2 y ey => ?_⟩⟩, fun c1 k ek => ⟨in_nI oi (by decide), fun a1 d1 => ⟨in_nI p1 (by decide), in_nI oi (by decide), in_nI p1 (by decide), fun a2 d2 y ey => ?_⟩⟩⟩
    · exact fin _ a2 y (by rw [if_pos c1]) (by rw [d2, d1, rI_n _ _ (by decide), rI_n _ _ (by decide)]) ey
    · exact fin _ a2 y (by rw [if_neg c1, ek]) (by rw [d2, d1, rI_n _ _ (by decide), rI_n _ _ (by decide)]) ey
theorem q6_clearHits {u : RS} {Q : RS → Prop} (hQ : ∀ w : RS, (∀ p, p < 16 → w.1 1 p = 0) → (∀ k, k ≠ 1 → w.1 k = u.1 k) → Q w) : wp_X6_clearHits u Q := by
  unfold wp_X6_clearHits
  refine zl2 (wp_X6_clearHits_2 Q) 16 (fun i v y => y = nI i ∧ (∀ p, p < i → v.1 1 p = 0) ∧ ∀ k, k ≠ 1 → v.1 k = u.1 k) ?_ 0 (Nat.zero_le _) u 0 ⟨rfl, fun p hp => absurd hp (by omega), fun _ _ => rfl⟩
  rintro i C v y hi ⟨rfl, a, b⟩ hC
  unfold wp_X6_clearHits_2
  refine ⟨fun c => ?_, fun c => ?_⟩
  · have hi := nI_stop (N := 16) (by decide) hi c
    subst hi
    exact hQ v a b
  · have hlt := nI_go (N := 16) (by decide) hi c
    rw [zn_nI (by omega)]
    refine ⟨in_nI hlt (by decide), fun w d x ex => hC _ _ hlt ⟨by rw [ex, nI_1], fun p hp => ?_, fun k hk => by rw [d, rI_n _ _ hk]; exact b k hk⟩⟩
    rw [d, rI_s]
    by_cases e : p = i
    · rw [e, pk_us]
    · rw [pk_un e]; exact a p (by omega)
/-- class: a queue's entries go -/
theorem q6_emptyOut {u : RS} {Q : Int32 → RS → Prop} {T H : Nat → Int32} {x : Int32} (hT : ∀ e, e < 16 → u.1 0 e = T e) (hr : ∀ e, e < 16 → ∃ q, q < 4 ∧ T e = nI q) (hH : ∀ e, e < 16 → u.1 1 e = H e) (hQ : ∀ (w : RS) (o : Nat → Nat), zord H o 16 → (∀ e, e < 16 → w.1 0 e = (zempt H x (T, fun p => zhs T H (nI p) 16, 0) o 16).1 e) → w.1 1 = u.1 1 → Q (zempt H x (T, fun p => zhs T H (nI p) 16, 0) o 16).2.2 w) : wp_X6_emptyOut u x Q := by
  have zh : ∀ p : Int32, ∀ i, i ≤ 16 → zhs (u.1 0) (u.1 1) p i = zhs T H p i := by
    intro p i
    induction i with
    | zero => intro _; rfl
    | succ i ih =>
      intro hi
      show zhs (u.1 0) (u.1 1) p i + (if u.1 0 i = p then u.1 1 i else 0) = zhs T H p i + (if T i = p then H i else 0)
      rw [ih (by omega), hT i (by omega), hH i (by omega)]
  unfold wp_X6_emptyOut
  refine q6_order (fun w o ho w2 w0 w1 => q6_sumHits (fun e he => by rw [w0, hT e he]; exact hr e he) (fun w' a0 b0 => ?_))
  rw [w0, w1] at a0
  have ho' : zord H o 16 := by
    obtain ⟨o1, o2, o3⟩ := ho
    refine ⟨o1, fun i j a b => ?_, o3⟩
    have := o2 i j a b
    unfold zbf at this ⊢
    rw [hH _ (o1 i (by omega)), hH _ (o1 j b)] at this
    exact this
  obtain ⟨t0, et0⟩ : ∃ t0 : DS, t0 = (T, fun p => zhs T H (nI p) 16, 0) := ⟨_, rfl⟩
  rw [← et0] at hQ
  refine zl4 (wp_X6_emptyOut_12 Q) 16 (fun i v y1 y2 y3 => y3 = nI i ∧ y1 = x ∧ y2 = (zempt H x t0 o i).2.2 ∧ (∀ e, e < 16 → v.1 0 e = (zempt H x t0 o i).1 e) ∧ (∀ p, p < 4 → v.1 3 p = (zempt H x t0 o i).2.1 p) ∧ v.1 1 = u.1 1 ∧ ∀ k, k < 16 → v.1 2 k = nI (o k)) ?_ 0 (Nat.zero_le _) w' _ 0 0 ⟨rfl, rfl, by rw [et0]; rfl, fun e he => by rw [b0 0 (by decide), w0, et0]; exact hT e he, fun p hp => by rw [a0 p hp, zh _ 16 (by omega), et0]; rfl, by rw [b0 1 (by decide), w1], fun k hk => by rw [b0 2 (by decide)]; exact w2 k hk⟩
  rintro i C v y1 y2 y3 hi ⟨rfl, rfl, rfl, v0, v3, v1, v2⟩ hC
  unfold wp_X6_emptyOut_12 wp_X6_emptyOut_73
  refine ⟨fun c => ?_, fun c => ?_⟩
  · have hi := nI_stop (N := 16) (by decide) hi c
    subst hi
    exact hQ v o ho' v0 v1
  · have hlt := nI_go (N := 16) (by decide) hi c
    have oi := ho.1 i hlt
    rw [zn_nI (by omega), v2 i hlt]
    obtain ⟨t, et⟩ : ∃ t, t = zempt H y1 t0 o i := ⟨_, rfl⟩
    have es : zempt H y1 t0 o (i + 1) = zem H y1 t (o i) := by rw [et]; rfl
    rw [← et] at v0 v3 ⊢
    refine ⟨in_nI hlt (by decide), fun z ez => ?_⟩
    subst ez
    rw [zn_nI (by omega), v0 _ oi]
    refine ⟨in_nI oi (by decide), fun c1 y ey => ?_, fun c1 => q6_leastQueue ?_⟩
    · have es' : zempt H y1 t0 o (i + 1) = t := by rw [es]; unfold zem; rw [if_neg c1]
      exact hC _ _ _ _ hlt ⟨by rw [ey, nI_1], rfl, by rw [es'], by rw [es']; exact v0, by rw [es']; exact v3, v1, v2⟩
    · obtain ⟨p, p1, p2, -⟩ := zls_4 t.2.1 y1
      rw [zls_eq y1 v3 4 (by omega), p2, zn_nI (by omega)]
      have es' : zempt H y1 t0 o (i + 1) = (upd t.1 (o i) (nI p), upd t.2.1 p (t.2.1 p + H (o i)), t.2.2 + 1) := by
        rw [es]
        unfold zem
        rw [if_pos c1, p2, zn_nI (by omega)]
      refine ⟨in_nI oi (by decide), fun a1 d1 => ⟨in_nI p1 (by decide), in_nI oi (by decide), in_nI p1 (by decide), fun a2 d2 k ek y ey => ?_⟩⟩
      have ew : a2 = rI (rI v 0 (upd (v.1 0) (o i) (nI p))) 3 (upd (v.1 3) p (v.1 3 p + v.1 1 (o i))) := by rw [d2, d1, rI_n _ _ (by decide), rI_n _ _ (by decide)]
      refine hC _ _ _ _ hlt ⟨by rw [ey, nI_1], rfl, by rw [es', ek], fun e he => ?_, fun p' hp' => ?_, ?_, fun k hk => ?_⟩
      · rw [es', ew, rI_n _ _ (by decide), rI_s]
        show _ = upd t.1 (o i) (nI p) e
        by_cases z : e = o i
        · rw [z, pk_us, pk_us]
        · rw [pk_un z, pk_un z]; exact v0 e he
      · rw [es', ew, rI_s]
        show _ = upd t.2.1 p (t.2.1 p + H (o i)) p'
        by_cases z : p' = p
        · rw [z, pk_us, pk_us, v3 p p1, v1, hH _ oi]
        · rw [pk_un z, pk_un z]; exact v3 p' hp'
      · rw [ew, rI_n _ _ (by decide), rI_n _ _ (by decide)]; exact v1
      · rw [ew, rI_n _ _ (by decide), rI_n _ _ (by decide)]; exact v2 k hk
