-- the pure side: entry, queue, waits, segment
/-- the numbers with p below n, as bits -/
def zor (p : Nat → Bool) : Nat → Int32
  | 0 => 0
  | n + 1 => if p n then zor p n ||| ((1 : Int32) <<< (nI n &&& 31)) else zor p n
theorem zor_eq {p q : Nat → Bool} : ∀ {n : Nat}, (∀ i, i < n → p i = q i) → zor p n = zor q n
  | 0, _ => rfl
  | n + 1, e => by
    show (if p n then zor p n ||| _ else zor p n) = if q n then zor q n ||| _ else zor q n
    rw [zor_eq (fun i hi => e i (by omega)), e n (by omega)]
theorem q5_flowsOfEntry {cs : Nat → RS} {R : Nat → Int32} {x1 : Int32} {Q : Int32 → (Nat → RS) → Prop} (n e : Nat) (ee : x1 = nI e) (h0 : (cs 2).1 0 0 = nI n) (hK : sK (cs 1) R) (hF : sF n ((cs 2).1 1) R) (h : Q (zor (fun f => nI (zent R f) == nI e) n) cs) : wp_X5_flowsOfEntry cs x1 Q := by
  subst ee
  have h24 : n ≤ 24 := hF.2.1
  unfold wp_X5_flowsOfEntry
  refine zl4 (wp_X5_flowsOfEntry_4 Q) n (fun i v y1 y2 y3 => v = cs ∧ y1 = nI e ∧ y2 = zor (fun f => nI (zent R f) == nI e) i ∧ y3 = nI i) ?_ 0 (Nat.zero_le _) cs _ 0 0 ⟨rfl, rfl, rfl, rfl⟩
  rintro i B v y1 y2 y3 hi ⟨rfl, rfl, rfl, rfl⟩ hB
  unfold wp_X5_flowsOfEntry_4 wp_X5_flowsOfEntry_30
  rw [h0]
  refine ⟨fun hc => ?_, fun hc => ?_⟩
  · have hi := nI_stop (by omega) hi hc
    subst hi; exact h
  · have hlt := nI_go (by omega) hi hc
    refine q5_entryOf n i rfl hK hF hlt ⟨fun hne y ey => ?_, fun he z ez y ey => ?_⟩
    · refine hB _ _ _ _ hlt ⟨rfl, rfl, ?_, by rw [ey, nI_1]⟩
      have hb : (nI (zent R i) == nI e) = false := by simpa using hne
      show _ = if (nI (zent R i) == nI e) = true then _ else _
      rw [hb]; rfl
    · refine hB _ _ _ _ hlt ⟨rfl, rfl, ?_, by rw [ey, nI_1]⟩
      have hb : (nI (zent R i) == nI e) = true := by simpa using he
      show _ = if (nI (zent R i) == nI e) = true then _ else _
      rw [hb, ez]; rfl
theorem q8_entry36 {u : RS} {x2 : Int32} {Q : Int32 → RS → Prop} (n e : Nat) (he : e < 16) (hn : u.1 3 4 = nI n) (h24 : n ≤ 24) (h : (¬ x2 = 0 → ((¬ x2 = 1 → Q (zor (fun f => nI (zent (u.1 3) f) == nI e) n) u) ∧ (x2 = 1 → Q (u.1 3 (39 + e)) u))) ∧ (x2 = 0 → Q (u.1 3 (23 + e)) u)) : ∃ k, zit5 (wp_X8_entry_36 Q) k u (nI e) x2 0 0 := by
  refine zl5 (wp_X8_entry_36 Q) n (fun i v y1 y2 y3 y4 => v = u ∧ y1 = nI e ∧ y2 = x2 ∧ y3 = zor (fun f => nI (zent (u.1 3) f) == nI e) i ∧ y4 = nI i) ?_ 0 (Nat.zero_le _) u _ _ 0 0 ⟨rfl, rfl, rfl, rfl, rfl⟩
  rintro i B v y1 y2 y3 y4 hi ⟨rfl, rfl, rfl, rfl, rfl⟩ hB
  unfold wp_X8_entry_36 wp_X8_entry_66 wp_X8_entry_108
  rw [hn, nI_ladd, nI_ladd, zn_nI (by omega), zn_nI (by omega)]
  refine ⟨fun hc => ?_, fun hc => ?_⟩
  · have hi := nI_stop (by omega) hi hc
    subst hi
    exact ⟨fun z => ⟨fun w => (h.1 z).1 w, fun w => ⟨in_nI (by omega) (by decide), (h.1 z).2 w⟩⟩, fun z => ⟨in_nI (by omega) (by decide), h.2 z⟩⟩
  · have hlt := nI_go (by omega) hi hc
    refine q8_entryOf i rfl (by omega) ⟨fun hne y ey z ez => ?_, fun hee y ey z ez => ?_⟩
    · refine hB _ _ _ _ _ hlt ⟨rfl, rfl, rfl, ?_, by rw [ez, nI_1]⟩
      have hb : (nI (zent (v.1 3) i) == nI e) = false := by simpa using hne
      show _ = if (nI (zent (v.1 3) i) == nI e) = true then _ else _
      rw [hb, ey, Int32.or_zero]; rfl
    · refine hB _ _ _ _ _ hlt ⟨rfl, rfl, rfl, ?_, by rw [ez, nI_1]⟩
      have hb : (nI (zent (v.1 3) i) == nI e) = true := by simpa using hee
      show _ = if (nI (zent (v.1 3) i) == nI e) = true then _ else _
      rw [hb, ey]; rfl
theorem p_entry {B : Nat} : pX_entry (Rel B) (Rel (B + 30000)) := by
  intro u r x1 x2 h
  replace h := h.up 30000
  have hs : Sim u.2.2.1 (r.1 3) (r.2 4) := h.2.2.1.1
  obtain ⟨n, nr, m, h0, hK, hF, hR, hT, -⟩ := hs
  have h24 : n ≤ 24 := hF.2.1
  have h4 : (rN r 0 0).1 3 4 = nI n := hF.1
  have no : ((∀ k, k ≤ 15 → ¬ x1 = nI k) ∨ (∀ k, k ≤ 2 → ¬ x2 = nI k)) → wp_X8_entry r x1 x2 (fun y r1 => (-1 : Int32) = y ∧ Rel (B + 30000) u r1) := by
    intro ho
    unfold wp_X8_entry wp_X8_entry_29
    intro r1 f1
    subst f1
    refine q8_in0 15 (by decide) (by decide) (fun k hk e => ⟨fun z => absurd z (by decide), fun _ => q8_in0 2 (by decide) (by decide) (fun j hj f => ?_) (fun _ => ⟨fun z => absurd rfl z, fun _ => ⟨rfl, Rel_0 h⟩⟩)⟩) (fun _ => ⟨fun _ => ⟨rfl, Rel_0 h⟩, fun z => absurd rfl z⟩)
    rcases ho with ho | ho
    · exact absurd e (ho k hk)
    · exact absurd f (ho j hj)
  have yes : ∀ (e k : Nat) (x : Int32), e ≤ 15 → k ≤ 2 → x1 = nI e → x2 = nI k → ((k = 0 → x = r.1 3 (23 + e)) ∧ (k = 1 → x = r.1 3 (39 + e)) ∧ (k = 2 → x = zor (fun f => nI (zent (r.1 3) f) == nI e) n)) → wp_X8_entry r x1 x2 (fun y r1 => x = y ∧ Rel (B + 30000) u r1) := by
    intro e k x he hk e1 e2 hx
    subst e1 e2
    unfold wp_X8_entry
    intro r1 f1
    subst f1
    refine q8_in0 15 (by decide) (by decide) (fun _ _ _ => ⟨fun z => absurd z (by decide), fun _ => q8_in0 2 (by decide) (by decide) (fun _ _ _ => ⟨fun _ => ?_, fun z => absurd z (by decide)⟩) (fun ho => absurd rfl (ho k hk))⟩) (fun ho => absurd rfl (ho e he))
    refine q8_entry36 n e (by omega) h4 h24 ⟨fun z => ⟨fun w => ⟨hx.2.2 ?_, Rel_0 h⟩, fun w => ⟨hx.2.1 ?_, Rel_0 h⟩⟩, fun z => ⟨hx.1 ?_, Rel_0 h⟩⟩
    · have w0 : k ≠ 0 := fun q => z (by rw [q]; rfl)
      have w1 : k ≠ 1 := fun q => w (by rw [q]; rfl)
      omega
    · exact (nI_eq (by omega) (by decide)).mp (show nI k = nI 1 from w)
    · exact (nI_eq (by omega) (by decide)).mp (show nI k = nI 0 from z)
  unfold wp_X7_entry
  refine q7_isEntry (fun e he ee => ⟨fun _ => ?_, fun z => absurd z (by decide)⟩) (fun ho => ⟨fun z => absurd rfl z, fun _ => no (Or.inl ho)⟩)
  subst ee
  obtain ⟨t1, t2, -⟩ := hT e (by omega)
  rw [zn_nI (by omega)]
  refine ⟨fun z => ⟨in_nI (by omega) (by decide), yes e 0 _ he (by omega) rfl z ⟨fun _ => t1, fun w => absurd w (by decide), fun w => absurd w (by decide)⟩⟩, fun z => ⟨in_nI (by omega) (by decide), yes e 1 _ he (by omega) rfl z ⟨fun w => absurd w (by decide), fun _ => t2, fun w => absurd w (by decide)⟩⟩, fun z => q5_flowsOfEntry n e rfl h0 hK hF (fun u1 e1 => ?_), fun a b c => no (Or.inr (fun k hk ek => ?_))⟩
  · have e1 : u1 = u := e1
    rw [e1]
    exact yes e 2 _ he (by omega) rfl z ⟨fun w => absurd w (by decide), fun w => absurd w (by decide), fun _ => rfl⟩
  · match k, hk, ek with
    | 0, _, ek => exact a ek
    | 1, _, ek => exact b ek
    | 2, _, ek => exact c ek
    | k + 3, hk, _ => omega
theorem q5_flowsWishing {cs : Nat → RS} {R : Nat → Int32} {x1 : Int32} {Q : Int32 → (Nat → RS) → Prop} (n : Nat) (h0 : (cs 2).1 0 0 = nI n) (hK : sK (cs 1) R) (hF : sF n ((cs 2).1 1) R) (hT : sT (cs 3) R) (h : Q (zor (fun f => zwish ((cs 2).1 1) R f == x1) n) cs) : wp_X5_flowsWishing cs x1 Q := by
  have h24 : n ≤ 24 := hF.2.1
  unfold wp_X5_flowsWishing
  refine zl4 (wp_X5_flowsWishing_4 Q) n (fun i v y1 y2 y3 => v = cs ∧ y1 = x1 ∧ y2 = zor (fun f => zwish ((cs 2).1 1) R f == x1) i ∧ y3 = nI i) ?_ 0 (Nat.zero_le _) cs _ 0 0 ⟨rfl, rfl, rfl, rfl⟩
  rintro i B v y1 y2 y3 hi ⟨rfl, rfl, rfl, rfl⟩ hB
  unfold wp_X5_flowsWishing_4 wp_X5_flowsWishing_30
  rw [h0]
  refine ⟨fun hc => ?_, fun hc => ?_⟩
  · have hi := nI_stop (by omega) hi hc
    subst hi; exact h
  · have hlt := nI_go (by omega) hi hc
    refine q5_wishOf n i rfl hK hF hT hlt ⟨fun hne y ey => ?_, fun he z ez y ey => ?_⟩
    · refine hB _ _ _ _ hlt ⟨rfl, rfl, ?_, by rw [ey, nI_1]⟩
      have hb : (zwish ((v 2).1 1) R i == y1) = false := by simpa using hne
      show _ = if (zwish ((v 2).1 1) R i == y1) = true then _ else _
      rw [hb]; rfl
    · refine hB _ _ _ _ hlt ⟨rfl, rfl, ?_, by rw [ey, nI_1]⟩
      have hb : (zwish ((v 2).1 1) R i == y1) = true := by simpa using he
      show _ = if (zwish ((v 2).1 1) R i == y1) = true then _ else _
      rw [hb, ez]; rfl
theorem q8_wishers {u : RS} {x1 : Int32} {c : Nat → Int32} {Q : Int32 → RS → Prop} (n nr : Nat) (hn : u.1 3 4 = nI n) (h24 : n ≤ 24) (hR : rRel n c (u.1 3) nr) (h : Q (zor (fun f => zwish c (u.1 3) f == x1) n) u) : wp_X8_wishers u x1 Q := by
  unfold wp_X8_wishers
  refine zl4 (wp_X8_wishers_4 Q) n (fun i v y1 y2 y3 => v = u ∧ y1 = x1 ∧ y2 = zor (fun f => zwish c (u.1 3) f == x1) i ∧ y3 = nI i) ?_ 0 (Nat.zero_le _) u _ 0 0 ⟨rfl, rfl, rfl, rfl⟩
  rintro i B v y1 y2 y3 hi ⟨rfl, rfl, rfl, rfl⟩ hB
  unfold wp_X8_wishers_4 wp_X8_wishers_31
  rw [hn]
  refine ⟨fun hc => ?_, fun hc => ?_⟩
  · have hi := nI_stop (by omega) hi hc
    subst hi; exact h
  · have hlt := nI_go (by omega) hi hc
    refine q8_wishOf n nr i c rfl h24 hlt hR ⟨fun hne z ez y ey => ?_, fun he z ez y ey => ?_⟩
    · refine hB _ _ _ _ hlt ⟨rfl, rfl, ?_, by rw [ey, nI_1]⟩
      have hb : (zwish c (v.1 3) i == y1) = false := by simpa using hne
      show _ = if (zwish c (v.1 3) i == y1) = true then _ else _
      rw [hb, ez, Int32.or_zero]; rfl
    · refine hB _ _ _ _ hlt ⟨rfl, rfl, ?_, by rw [ey, nI_1]⟩
      have hb : (zwish c (v.1 3) i == y1) = true := by simpa using he
      show _ = if (zwish c (v.1 3) i == y1) = true then _ else _
      rw [hb, ez]; rfl
theorem q6_entriesOf {t : RS} {x1 : Int32} {Q : Int32 → RS → Prop} (h : Q (zor (fun e => t.1 0 e == x1) 16) t) : wp_X6_entriesOf t x1 Q := by
  unfold wp_X6_entriesOf
  refine zl4 (wp_X6_entriesOf_4 Q) 16 (fun i v y1 y2 y3 => v = t ∧ y1 = x1 ∧ y2 = zor (fun e => t.1 0 e == x1) i ∧ y3 = nI i) ?_ 0 (Nat.zero_le _) t _ 0 0 ⟨rfl, rfl, rfl, rfl⟩
  rintro i B v y1 y2 y3 hi ⟨rfl, rfl, rfl, rfl⟩ hB
  unfold wp_X6_entriesOf_4 wp_X6_entriesOf_26
  refine ⟨fun hc => ?_, fun hc => ?_⟩
  · have hi := nI_stop (N := 16) (by omega) hi hc
    subst hi; exact h
  · have hlt := nI_go (N := 16) (by omega) hi hc
    rw [zn_nI (by omega)]
    refine ⟨in_nI (by omega) (by decide), fun hne y ey => ?_, fun he z ez y ey => ?_⟩
    · refine hB _ _ _ _ hlt ⟨rfl, rfl, ?_, by rw [ey, nI_1]⟩
      have hb : (v.1 0 i == y1) = false := by simpa using hne
      show _ = if (v.1 0 i == y1) = true then _ else _
      rw [hb]; rfl
    · refine hB _ _ _ _ hlt ⟨rfl, rfl, ?_, by rw [ey, nI_1]⟩
      have hb : (v.1 0 i == y1) = true := by simpa using he
      show _ = if (v.1 0 i == y1) = true then _ else _
      rw [hb, ez]; rfl
theorem q8_entriesOf {u : RS} {x1 : Int32} {Q : Int32 → RS → Prop} (h : Q (zor (fun e => u.1 3 (23 + e) == x1) 16) u) : wp_X8_entriesOf u x1 Q := by
  unfold wp_X8_entriesOf
  refine zl4 (wp_X8_entriesOf_4 Q) 16 (fun i v y1 y2 y3 => v = u ∧ y1 = x1 ∧ y2 = zor (fun e => u.1 3 (23 + e) == x1) i ∧ y3 = nI i) ?_ 0 (Nat.zero_le _) u _ 0 0 ⟨rfl, rfl, rfl, rfl⟩
  rintro i B v y1 y2 y3 hi ⟨rfl, rfl, rfl, rfl⟩ hB
  unfold wp_X8_entriesOf_4 wp_X8_entriesOf_31
  refine ⟨fun hc => ?_, fun hc => ?_⟩
  · have hi := nI_stop (N := 16) (by omega) hi hc
    subst hi; exact h
  · have hlt := nI_go (N := 16) (by omega) hi hc
    rw [nI_ladd, zn_nI (by omega)]
    refine ⟨in_nI (by omega) (by decide), fun hne z ez y ey => ?_, fun he z ez y ey => ?_⟩
    · refine hB _ _ _ _ hlt ⟨rfl, rfl, ?_, by rw [ey, nI_1]⟩
      have hb : (v.1 3 (23 + i) == y1) = false := by simpa using hne
      show _ = if (v.1 3 (23 + i) == y1) = true then _ else _
      rw [hb, ez, Int32.or_zero]; rfl
    · refine hB _ _ _ _ hlt ⟨rfl, rfl, ?_, by rw [ey, nI_1]⟩
      have hb : (v.1 3 (23 + i) == y1) = true := by simpa using he
      show _ = if (v.1 3 (23 + i) == y1) = true then _ else _
      rw [hb, ez]; rfl
theorem p_queue {B : Nat} : pX_queue (Rel B) (Rel (B + 30000)) := by
  intro u r x1 x2 h
  replace h := h.up 30000
  have hs : Sim u.2.2.1 (r.1 3) (r.2 4) := h.2.2.1.1
  obtain ⟨n, nr, m, h0, hK, hF, hR, hT, hQ, -⟩ := hs
  have h24 : n ≤ 24 := hF.2.1
  have h4 : (rN r 0 0).1 3 4 = nI n := hF.1
  unfold wp_X7_queue
  refine q7_isQueue (fun q hq eq => ⟨fun _ => ?_, fun z => absurd z (by decide)⟩) (fun ho => ⟨fun z => absurd rfl z, fun _ => ?_⟩)
  · subst eq
    obtain ⟨q1, q2, q3, -⟩ := hQ q (by omega)
    have ref : ∀ x : Int32, ((x2 = 6 → x = zor (fun f => zwish ((u.2.2.1 2).1 1) (r.1 3) f == nI q) n) ∧ (x2 = 7 → x = r.1 3 (433 + 140 * q + 6)) ∧ (x2 = 8 → x = r.1 3 (433 + 140 * q + 7)) ∧ (x2 = 9 → x = zor (fun e => r.1 3 (23 + e) == nI q) 16) ∧ (∀ k, k ≤ 5 → x2 = nI k → x = r.1 3 (433 + 140 * q + k)) ∧ ((∀ k, k ≤ 9 → ¬ x2 = nI k) → x = -1)) → wp_X8_queue r (nI q) x2 (fun y r1 => x = y ∧ Rel (B + 30000) u r1) := by
      intro x ⟨a6, a7, a8, a9, a5, an⟩
      unfold wp_X8_queue wp_X8_queue_108
      intro r1 f1
      subst f1
      refine q8_isQueue (fun _ _ _ => ⟨fun _ => q8_queueAt q rfl ?_, fun z => absurd z (by decide)⟩) (fun ho => absurd rfl (ho q hq))
      rw [nI_addl, nI_addl, zn_nI (by omega), zn_nI (by omega)]
      refine ⟨fun z => q8_wishers (c := (u.2.2.1 2).1 1) n nr h4 h24 hR.1 ⟨a6 z, Rel_0 h⟩, fun z => ⟨in_nI (by omega) (by decide), a7 z, Rel_0 h⟩, fun z => ⟨in_nI (by omega) (by decide), a8 z, Rel_0 h⟩, fun z => q8_entriesOf ⟨a9 z, Rel_0 h⟩, fun z6 z7 z8 z9 => ?_⟩
      refine q8_in0 5 (by decide) (by decide) (fun k hk e => ⟨fun z => absurd z (by decide), fun _ => ?_⟩) (fun ho => ⟨fun _ => ⟨an (fun k hk e => ?_), Rel_0 h⟩, fun z => absurd rfl z⟩)
      · have hx := a5 k hk e
        rw [e, nI_add, zn_nI (by omega)]
        exact ⟨in_nI (by omega) (by decide), hx, Rel_0 h⟩
      · rcases Nat.lt_or_ge 5 k with w | w
        · match k, hk, w, e with
          | 6, _, _, e => exact z6 e
          | 7, _, _, e => exact z7 e
          | 8, _, _, e => exact z8 e
          | 9, _, _, e => exact z9 e
          | k + 10, hk, _, _ => omega
        · exact ho k w e
    have d : ∀ a b : Nat, a < 100 → b < 100 → a ≠ b → ¬ nI a = nI b := fun a b ha hb hab z => hab ((nI_eq (by omega) (by omega)).mp z)
    have dk : ∀ (k : Nat) {P : Prop}, k ≤ 5 → x2 = nI k → ∀ j, 6 ≤ j → j < 100 → x2 = nI j → P := fun k P hk e j j6 j9 z => absurd (e.symm.trans z) (d k j (by omega) j9 (by omega))
    rw [zn_nI (by omega)]
    refine ⟨fun z => q5_flowsWishing n h0 hK hF hT (fun u1 e1 => ?_), fun z => q6_entriesOf (fun u1 e1 => ?_), fun z6 z9 => ⟨in_nI (by omega) (by decide), in_nI (by omega) (by decide), ?_⟩⟩
    · have e1 : u1 = u := e1
      rw [e1]
      exact ref _ ⟨fun _ => rfl, fun w => absurd (z.symm.trans w) (by decide), fun w => absurd (z.symm.trans w) (by decide), fun w => absurd (z.symm.trans w) (by decide), fun k hk e => dk k hk e 6 (by omega) (by omega) z, fun w => absurd z (w 6 (by omega))⟩
    · rw [tN_id] at e1
      rw [e1]
      exact ref _ ⟨fun w => absurd (z.symm.trans w) (by decide), fun w => absurd (z.symm.trans w) (by decide), fun w => absurd (z.symm.trans w) (by decide), fun _ => zor_eq (fun e he => by rw [(hT e he).1]), fun k hk e => dk k hk e 9 (by omega) (by omega) z, fun w => absurd z (w 9 (by omega))⟩
    · have lo : ∀ (k : Nat) (x : Int32), k ≤ 5 → x2 = nI k → x = r.1 3 (433 + 140 * q + k) → ∀ u1 : TS, u1 = tN u (va_up u.2.2.1 (5 + q) (u.2.2.1 (5 + q))) → wp_X8_queue r (nI q) x2 (fun y r1 => x = y ∧ Rel (B + 30000) u1 r1) := by
        intro k x hk e ex u1 e1
        rw [tN_id] at e1
        rw [e1]
        refine ref x ⟨fun w => dk k hk e 6 (by omega) (by omega) w, fun w => dk k hk e 7 (by omega) (by omega) w, fun w => dk k hk e 8 (by omega) (by omega) w, fun w => dk k hk e 9 (by omega) (by omega) w, fun j hj f => ?_, fun w => absurd e (w k (by omega))⟩
        have : k = j := (nI_eq (by omega) (by omega)).mp (e.symm.trans f)
        rw [← this]; exact ex
      have hi : ∀ (x : Int32), (x2 = 7 → x = r.1 3 (433 + 140 * q + 6)) → (x2 = 8 → x = r.1 3 (433 + 140 * q + 7)) → (∀ k, k ≤ 5 → ¬ x2 = nI k) → ((∀ k, k ≤ 9 → ¬ x2 = nI k) → x = -1) → ∀ u1 : TS, u1 = tN u (va_up u.2.2.1 (5 + q) (u.2.2.1 (5 + q))) → wp_X8_queue r (nI q) x2 (fun y r1 => x = y ∧ Rel (B + 30000) u1 r1) := by
        intro x e7 e8 e5 en u1 e1
        rw [tN_id] at e1
        rw [e1]
        exact ref x ⟨fun w => absurd w z6, e7, e8, fun w => absurd w z9, fun j hj f => absurd f (e5 j hj), en⟩
      unfold wp_X3_tell wp_X3_tell_92
      refine ⟨fun e => lo 0 _ (by omega) e (q3 0 (by omega)), fun e => lo 1 _ (by omega) e (q3 1 (by omega)), fun e => lo 2 _ (by omega) e (q3 2 (by omega)), fun e => lo 3 _ (by omega) e (q3 3 (by omega)), fun e => lo 4 _ (by omega) e (q3 4 (by omega)), fun e => lo 5 _ (by omega) e (q3 5 (by omega)), fun e => absurd e z6, fun e => ?_, fun e => ?_, fun e0 e1 e2 e3 e4 e5 _ e7 e8 => ?_⟩
      · exact hi _ (fun _ => q3 6 (by omega)) (fun w => absurd (e.symm.trans w) (by decide)) (fun k hk f => dk k hk f 7 (by omega) (by omega) e) (fun w => absurd e (w 7 (by omega)))
      · exact hi _ (fun w => absurd (e.symm.trans w) (by decide)) (fun _ => q3 7 (by omega)) (fun k hk f => dk k hk f 8 (by omega) (by omega) e) (fun w => absurd e (w 8 (by omega)))
      · refine hi _ (fun w => absurd w e7) (fun w => absurd w e8) (fun k hk f => ?_) (fun _ => rfl)
        match k, hk, f with
        | 0, _, f => exact e0 f
        | 1, _, f => exact e1 f
        | 2, _, f => exact e2 f
        | 3, _, f => exact e3 f
        | 4, _, f => exact e4 f
        | 5, _, f => exact e5 f
        | k + 6, hk, _ => omega
  · unfold wp_X8_queue
    intro r1 f1
    subst f1
    exact q8_isQueue (fun q hq e => absurd e (ho q hq)) (fun _ => ⟨fun z => absurd rfl z, fun _ => ⟨rfl, Rel_0 h⟩⟩)
theorem l_pred1 : ∀ n : Nat, n < 40 → ((nI n).toInt64 - 1).toInt = (n : Int) - 1 := by decide +kernel
theorem q8_inlt {x : Int32} {Q : Int32 → Prop} (n : Nat) (hn : n < 40) (h1 : ∀ f, f < n → x = nI f → Q 1) (h2 : (∀ f, f < n → ¬ x = nI f) → Q 0) : wp_X8_in x.toInt64 0 ((nI n).toInt64 - 1) Q := by
  have w0 : (0 : Int64).toInt = 0 := by decide
  refine q8_in (fun a b => ?_) (fun a => h2 (fun f hf z => a ?_))
  · rw [i64_toInt, w0] at a
    rw [i64_toInt, l_pred1 n (by omega)] at b
    obtain ⟨k, hk, ek⟩ := i32_of (x := x) (n := n) a (by omega) (by omega)
    rw [ek, nI_toInt (by omega)] at b
    exact h1 k (by omega) ek
  · rw [i64_toInt, l_pred1 n (by omega), w0, z, nI_toInt (by omega)]
    omega
/-- a number below n, or not -/
theorem lt_or_out (x : Int32) (n : Nat) : (∃ k, k < n ∧ x = nI k) ∨ ∀ k, k < n → ¬ x = nI k := by
  by_cases h : ∃ k, k < n ∧ x = nI k
  · exact Or.inl h
  · exact Or.inr (fun k hk e => h ⟨k, hk, e⟩)
theorem out_ge {x : Int32} {n : Nat} (hn : n < 2147483648) (h : ∀ k, k < n → ¬ x = nI k) (h0 : ¬ x < 0) : nI n ≤ x := by
  obtain ⟨k, k31, e⟩ := nI_of h0
  rw [e]
  rcases Nat.lt_or_ge k n with q | q
  · exact absurd e (h k q)
  · exact nI_le q k31
theorem p_segment {B : Nat} : pX_segment (Rel B) (Rel (B + 30000)) := by
  intro u r x1 x2 h
  replace h := h.up 30000
  have hs : Sim u.2.2.1 (r.1 3) (r.2 4) := h.2.2.1.1
  obtain ⟨n, nr, m, -, -, -, -, -, -, -, hG, -⟩ := hs
  obtain ⟨k, t, g1, g2, g3, g4, g5, g6, g7⟩ := hG
  have n13 : (rN r 0 0).1 3 13 = nI k := g4
  have no : ((∀ j, j < k → ¬ x1 = nI j) ∨ (∀ j, j ≤ 5 → ¬ x2 = nI j)) → wp_X8_segment r x1 x2 (fun y r1 => (-1 : Int32) = y ∧ Rel (B + 30000) u r1) := by
    intro ho
    unfold wp_X8_segment wp_X8_segment_64 wp_X8_segment_65
    intro r1 f1
    subst f1
    rw [n13]
    refine q8_inlt k (by omega) (fun a ha e => ⟨fun z => absurd z (by decide), fun _ => q8_in0 5 (by decide) (by decide) (fun j hj f => ?_) (fun _ => ⟨fun _ => ⟨rfl, Rel_0 h⟩, fun z => absurd rfl z⟩)⟩) (fun _ => ⟨fun _ => ⟨rfl, Rel_0 h⟩, fun z => absurd rfl z⟩)
    rcases ho with ho | ho
    · exact absurd e (ho a ha)
    · exact absurd f (ho j hj)
  unfold wp_X7_segment wp_X7_segment_28
  rcases lt_or_out x1 k with ⟨a, ha, rfl⟩ | ho
  · rcases in_or_out x2 5 with ⟨w, hw, rfl⟩ | ho
    · rw [g3]
      refine ⟨fun c => absurd c (nI_pos (by omega)), fun _ => ⟨fun c => absurd c (nI_ge ha (by omega)), fun _ => ⟨fun c => absurd c (nI_pos (by omega)), fun _ => ⟨fun _ => ?_, fun c => absurd (show nI w < nI 6 from nI_lt (by omega) (by decide)) c⟩⟩⟩⟩
      unfold wp_X4_lately
      have er : ∀ t : Nat, t < 12 → ∀ a : Nat, a < 12 → (nI t + 12 - nI a) - (nI t + 12 - nI a) / 12 * 12 = nI ((t + 12 - a) % 12) := by decide +kernel
      rw [g5, er t g2 a (by omega), nI_lmul, nI_add, zn_nI (by omega)]
      refine ⟨in_nI (by omega) (by decide), fun u1 e1 => ?_⟩
      rw [tN_id] at e1
      rw [e1]
      unfold wp_X8_segment wp_X8_segment_65
      intro r1 f1
      subst f1
      rw [n13]
      refine q8_inlt k (by omega) (fun _ _ _ => ⟨fun z => absurd z (by decide), fun _ => q8_in0 5 (by decide) (by decide) (fun _ _ _ => ⟨fun z => absurd z (by decide), fun _ => ?_⟩) (fun ho => absurd rfl (ho w hw))⟩) (fun ho => absurd rfl (ho a ha))
      rw [nI_subl (by omega), nI_sub (by omega), nI_lmul, nI_ladd, nI_add, zn_nI (by omega)]
      exact ⟨in_nI (by omega) (by decide), g6 a w ha (by omega), Rel_0 h⟩
    · have key := no (Or.inr ho)
      exact ⟨fun _ => key, fun _ => ⟨fun _ => key, fun _ => ⟨fun _ => key, fun c => ⟨fun d => absurd d (out_lt (n := 5) (by decide) ho c), fun _ => key⟩⟩⟩⟩
  · have key := no (Or.inl ho)
    refine ⟨fun _ => key, fun c => ⟨fun _ => key, fun d => ?_⟩⟩
    rw [g3] at d
    exact absurd (out_ge (by omega) ho c) d
theorem p_waits {B : Nat} : pX_waits (Rel B) (Rel (B + 30000)) := by
  intro u r x1 x2 x3 h
  replace h := h.up 30000
  have hs : Sim u.2.2.1 (r.1 3) (r.2 4) := h.2.2.1.1
  obtain ⟨n, nr, m, -, -, -, -, -, hQ, -⟩ := hs
  have no : ((∀ j, j ≤ 3 → ¬ x1 = nI j) ∨ (∃ q, q ≤ 3 ∧ x1 = nI q ∧ ∀ j, j < m q → ¬ x2 = nI j) ∨ (∀ j, j ≤ 3 → ¬ x3 = nI j)) → wp_X8_waits r x1 x2 x3 (fun y r1 => (-1 : Int32) = y ∧ Rel (B + 30000) u r1) := by
    intro ho
    unfold wp_X8_waits wp_X8_waits_60 wp_X8_waits_61
    intro r1 f1
    subst f1
    refine q8_isQueue (fun q hq e => ⟨fun z => absurd z (by decide), fun _ => q8_queueAt q e ?_⟩) (fun _ => ⟨fun _ => ⟨rfl, Rel_0 h⟩, fun z => absurd rfl z⟩)
    obtain ⟨q1, q2, -⟩ := hQ q (by omega)
    have n1 : (rN r 0 0).1 3 (433 + 140 * q) = nI (m q) := q2
    rw [zn_nI (by omega), n1]
    refine ⟨in_nI (by omega) (by decide), q8_inlt (m q) (by omega) (fun a ha ea => ⟨fun z => absurd z (by decide), fun _ => q8_in0 3 (by decide) (by decide) (fun j hj f => ?_) (fun _ => ⟨fun _ => ⟨rfl, Rel_0 h⟩, fun z => absurd rfl z⟩)⟩) (fun _ => ⟨fun _ => ⟨rfl, Rel_0 h⟩, fun z => absurd rfl z⟩)⟩
    rcases ho with ho | ⟨p, p1, p2, ho⟩ | ho
    · exact absurd e (ho q hq)
    · have : p = q := (nI_eq (by omega) (by omega)).mp (p2.symm.trans e)
      subst this
      exact absurd ea (ho a ha)
    · exact absurd f (ho j hj)
  unfold wp_X7_waits wp_X7_waits_36
  refine q7_isQueue (fun q hq e => ⟨fun z => absurd z (by decide), fun _ => ?_⟩) (fun ho => ⟨fun _ => no (Or.inl ho), fun z => absurd rfl z⟩)
  obtain ⟨q1, q2, q3, q4, -⟩ := hQ q (by omega)
  have qm : (u.2.2.1 (5 + q)).1 0 0 = nI (m q) := (q3 0 (by omega)).trans q2
  have ez : zn x1 = q := by rw [e]; exact zn_nI (by omega)
  have ei : vp_in x1 4 := by rw [e]; exact in_nI (by omega) (by decide)
  rw [ez, qm]
  rcases lt_or_out x2 (m q) with ⟨i, hi, rfl⟩ | ho
  · refine ⟨fun c => absurd c (nI_pos (by omega)), fun _ => ⟨ei, ei, fun c => absurd c (nI_ge hi (by omega)), fun _ => ?_⟩⟩
    rcases in_or_out x3 3 with ⟨w, hw, rfl⟩ | ho
    · refine ⟨fun c => absurd c (nI_pos (by omega)), fun _ => ⟨fun _ => ⟨ei, ei, ?_⟩, fun c => absurd (show nI w < nI 4 from nI_lt (by omega) (by decide)) c⟩⟩
      unfold wp_X3_at
      rw [nI_lmul, nI_add, zn_nI (by omega)]
      refine ⟨in_nI (by omega) (by decide), fun u1 e1 => ?_⟩
      rw [tN_id] at e1
      rw [e1]
      unfold wp_X8_waits wp_X8_waits_61
      intro r1 f1
      subst f1
      refine q8_isQueue (fun _ _ _ => ⟨fun z => absurd z (by decide), fun _ => q8_queueAt q e ?_⟩) (fun ho => absurd e (ho q hq))
      have n1 : (rN r 0 0).1 3 (433 + 140 * q) = nI (m q) := q2
      rw [zn_nI (by omega), n1]
      refine ⟨in_nI (by omega) (by decide), q8_inlt (m q) (by omega) (fun _ _ _ => ⟨fun z => absurd z (by decide), fun _ => q8_in0 3 (by decide) (by decide) (fun _ _ _ => ⟨fun z => absurd z (by decide), fun _ => q8_packetAt q i e rfl ?_⟩) (fun ho => absurd rfl (ho w hw))⟩) (fun ho => absurd rfl (ho i hi))⟩
      rw [nI_add, zn_nI (by omega)]
      exact ⟨in_nI (by omega) (by decide), q4 i w hi (by omega), Rel_0 h⟩
    · have key := no (Or.inr (Or.inr ho))
      exact ⟨fun _ => key, fun c => ⟨fun d => absurd d (out_lt (n := 3) (by decide) ho c), fun _ => key⟩⟩
  · have key := no (Or.inr (Or.inl ⟨q, hq, e, ho⟩))
    exact ⟨fun _ => key, fun c => ⟨ei, ei, fun _ => key, fun d => absurd (out_ge (by omega) ho c) d⟩⟩
