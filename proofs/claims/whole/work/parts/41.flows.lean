-- the pure side: Flows
theorem q0_get {u : RS} {x1 x2 : Int32} {Q : Int32 → RS → Prop} (k f : Nat) (e1 : x1 = nI k) (e2 : x2 = nI f) (hk : k < 20) (hf : f < 24) (h : Q (u.1 1 (k * 24 + f)) u) : wp_X0_get u x1 x2 Q := by
  subst e1 e2
  unfold wp_X0_get
  rw [nI_mull, nI_add, zn_nI (by omega)]
  exact ⟨in_nI (by omega) (by decide), h⟩
theorem q0_put {u : RS} {x1 x2 x : Int32} {Q : RS → Prop} (k f : Nat) (e1 : x1 = nI k) (e2 : x2 = nI f) (hk : k < 20) (hf : f < 24) (h : ∀ w : RS, w.1 0 = u.1 0 → w.1 1 = upd (u.1 1) (k * 24 + f) x → Q w) : wp_X0_put u x1 x2 x Q := by
  subst e1 e2
  unfold wp_X0_put
  rw [nI_mull, nI_add, zn_nI (by omega)]
  exact ⟨in_nI (by omega) (by decide), fun w e => h w (by rw [e]; rfl) (by rw [e]; rfl)⟩
theorem q0_add {u : RS} {x1 x2 x : Int32} {Q : RS → Prop} (k f : Nat) (e1 : x1 = nI k) (e2 : x2 = nI f) (hk : k < 20) (hf : f < 24) (h : ∀ w : RS, w.1 0 = u.1 0 → w.1 1 = upd (u.1 1) (k * 24 + f) (u.1 1 (k * 24 + f) + x) → Q w) : wp_X0_add u x1 x2 x Q := by
  subst e1 e2
  unfold wp_X0_add
  rw [nI_mull, nI_add, zn_nI (by omega)]
  exact ⟨in_nI (by omega) (by decide), in_nI (by omega) (by decide), fun w e => h w (by rw [e]; rfl) (by rw [e]; rfl)⟩
theorem q0_sum {u : RS} {x1 : Int32} {Q : Int32 → RS → Prop} (k n : Nat) (e1 : x1 = nI k) (hk : k < 20) (hn : u.1 0 0 = nI n) (h24 : n ≤ 24) (h : Q (zsum (fun f => u.1 1 (k * 24 + f)) n) u) : wp_X0_sum u x1 Q := by
  unfold wp_X0_sum
  refine zl4 (wp_X0_sum_4 Q) n (fun i v y1 y2 y3 => v = u ∧ y1 = x1 ∧ y2 = zsum (fun f => u.1 1 (k * 24 + f)) i ∧ y3 = nI i) ?_ 0 (Nat.zero_le _) u x1 0 0 ⟨rfl, rfl, rfl, rfl⟩
  rintro i B v y1 y2 y3 hi ⟨rfl, rfl, rfl, rfl⟩ hB
  unfold wp_X0_sum_4
  rw [hn]
  refine ⟨fun hc => ?_, fun hc => ?_⟩
  · have : i = n := by have := (nI_leI (by omega) (by omega)).mp hc; omega
    subst this; exact h
  · have hlt : i < n := by rcases Nat.lt_or_ge i n with q | q; exact q; exact absurd (nI_le q (by omega)) hc
    refine q0_get k i e1 rfl hk (by omega) (fun z ez y ey => hB _ _ _ _ hlt ⟨rfl, rfl, by rw [ez]; rfl, by rw [ey, nI_1]⟩)
/-- the first of the n with p; none -/
def zfst (p : Nat → Bool) (n : Nat) : Int32 := match (List.range n).find? p with | some i => nI i | none => -1
def zisF (c : Nat → Int32) (a1 a2 a3 a4 a5 : Int32) (f : Nat) : Bool := c f == a1 && (c (24 + f) == a2 && (c (48 + f) == a3 && (c (72 + f) == a4 && c (96 + f) == a5)))
theorem q0_numberOf {u : RS} {a1 a2 a3 a4 a5 : Int32} {Q : Int32 → RS → Prop} (n : Nat) (hn : u.1 0 0 = nI n) (h24 : n ≤ 24) (h1 : ∀ f, f < n → (∀ j, j < f → zisF (u.1 1) a1 a2 a3 a4 a5 j = false) → zisF (u.1 1) a1 a2 a3 a4 a5 f = true → Q (nI f) u) (h2 : (∀ j, j < n → zisF (u.1 1) a1 a2 a3 a4 a5 j = false) → Q (-1) u) : wp_X0_numberOf u a1 a2 a3 a4 a5 Q := by
  unfold wp_X0_numberOf
  refine zl7 (wp_X0_numberOf_3 Q) n (fun i v y1 y2 y3 y4 y5 y6 => v = u ∧ y1 = a1 ∧ y2 = a2 ∧ y3 = a3 ∧ y4 = a4 ∧ y5 = a5 ∧ y6 = nI i ∧ ∀ j, j < i → zisF (u.1 1) a1 a2 a3 a4 a5 j = false) ?_ 0 (Nat.zero_le _) u a1 a2 a3 a4 a5 0 ⟨rfl, rfl, rfl, rfl, rfl, rfl, rfl, fun j hj => absurd hj (Nat.not_lt_zero j)⟩
  rintro i B v y1 y2 y3 y4 y5 y6 hi ⟨rfl, rfl, rfl, rfl, rfl, rfl, rfl, hp⟩ hB
  unfold wp_X0_numberOf_3
  rw [hn]
  refine ⟨fun hc => ?_, fun hc => ?_⟩
  · have : i = n := by have := (nI_leI (by omega) (by omega)).mp hc; omega
    subst this; exact h2 hp
  · have hlt : i < n := by rcases Nat.lt_or_ge i n with q | q; exact q; exact absurd (nI_le q (by omega)) hc
    have no : zisF (v.1 1) y1 y2 y3 y4 y5 i = false → wp_X0_numberOf_72 Q B v y1 y2 y3 y4 y5 (nI i) := by
      intro hz
      unfold wp_X0_numberOf_72
      intro y ey
      refine hB _ _ _ _ _ _ _ hlt ⟨rfl, rfl, rfl, rfl, rfl, rfl, by rw [ey, nI_1], fun j hj => ?_⟩
      rcases Nat.lt_or_ge j i with q | q
      · exact hp j q
      · have : j = i := by omega
        rw [this]; exact hz
    have g : ∀ k, k < 5 → ∀ {x1 : Int32} {Q1 : Int32 → RS → Prop}, x1 = nI k → Q1 (v.1 1 (k * 24 + i)) v → wp_X0_get v x1 (nI i) Q1 := fun k hk x1 Q1 e h => q0_get k i e rfl (by omega) (by omega) h
    refine g 0 (by omega) rfl ⟨fun hc => no ?_, fun c1 => g 1 (by omega) rfl ⟨fun hc => no ?_, fun c2 => g 2 (by omega) rfl ⟨fun hc => no ?_, fun c3 => g 3 (by omega) rfl ⟨fun hc => no ?_, fun c4 => g 4 (by omega) rfl ⟨fun hc => no ?_, fun c5 => h1 i hlt hp ?_⟩⟩⟩⟩⟩
    all_goals (simp only [Nat.zero_mul, Nat.zero_add, Nat.one_mul, Nat.reduceMul] at *)
    · simp [zisF, hc]
    · simp [zisF, c1, hc]
    · simp [zisF, c1, c2, hc]
    · simp [zisF, c1, c2, c3, hc]
    · simp [zisF, c1, c2, c3, c4, hc]
    · simp [zisF, c1, c2, c3, c4, c5]
def zenter (c : Nat → Int32) (n : Nat) (a1 a2 a3 a4 a5 : Int32) : Nat → Int32 := upd (upd (upd (upd (upd (upd (upd (upd (upd c (0 * 24 + n) a1) (1 * 24 + n) a2) (2 * 24 + n) a3) (3 * 24 + n) a4) (4 * 24 + n) a5) (7 * 24 + n) (-1)) (13 * 24 + n) (-1)) (14 * 24 + n) (-1)) (17 * 24 + n) (-1)
theorem q0_enter {u : RS} {a1 a2 a3 a4 a5 : Int32} {Q : Int32 → RS → Prop} (n : Nat) (hn : u.1 0 0 = nI n) (h24 : n < 24) (h : ∀ w : RS, w.1 0 0 = nI (n + 1) → w.1 1 = zenter (u.1 1) n a1 a2 a3 a4 a5 → Q (nI n) w) : wp_X0_enter u a1 a2 a3 a4 a5 Q := by
  unfold wp_X0_enter
  intro x ex
  rw [hn] at ex
  refine q0_put 0 n rfl ex (by omega) h24 (fun w1 d1 c1 => ?_)
  refine q0_put 1 n rfl ex (by omega) h24 (fun w2 d2 c2 => ?_)
  refine q0_put 2 n rfl ex (by omega) h24 (fun w3 d3 c3 => ?_)
  refine q0_put 3 n rfl ex (by omega) h24 (fun w4 d4 c4 => ?_)
  refine q0_put 4 n rfl ex (by omega) h24 (fun w5 d5 c5 => ?_)
  refine q0_put 7 n rfl ex (by omega) h24 (fun w6 d6 c6 => ?_)
  refine q0_put 13 n rfl ex (by omega) h24 (fun w7 d7 c7 => ?_)
  refine q0_put 14 n rfl ex (by omega) h24 (fun w8 d8 c8 => ?_)
  refine q0_put 17 n rfl ex (by omega) h24 (fun w9 d9 c9 => ?_)
  intro w ew
  rw [ex]
  refine h w ?_ ?_
  · rw [ew, rN_s, d9, d8, d7, d6, d5, d4, d3, d2, d1, hn, nI_1]
  · rw [ew, rN_n _ _ (by decide), c9, c8, c7, c6, c5, c4, c3, c2, c1]; rfl
theorem q0_nowWaits {u : RS} {x1 x2 : Int32} {Q : RS → Prop} (f : Nat) (e1 : x1 = nI f) (hf : f < 24) (h : ∀ w : RS, w.1 0 = u.1 0 → w.1 1 = upd (upd (u.1 1) (7 * 24 + f) x2) (8 * 24 + f) (u.1 1 (8 * 24 + f) + 1) → Q w) : wp_X0_nowWaits u x1 x2 Q := by
  unfold wp_X0_nowWaits
  refine q0_put 7 f rfl e1 (by omega) hf (fun w1 d1 c1 => ?_)
  refine q0_add 8 f rfl e1 (by omega) hf (fun w2 d2 c2 => ?_)
  refine h w2 (d2.trans d1) ?_
  rw [c2, c1, pk_un (by omega)]
theorem q0_nowTaken {u : RS} {x1 : Int32} {Q : RS → Prop} (f : Nat) (e1 : x1 = nI f) (hf : f < 24) (h : ∀ w : RS, w.1 0 = u.1 0 → w.1 1 = (if u.1 1 (8 * 24 + f) + (-1) = 0 then upd (upd (u.1 1) (8 * 24 + f) (u.1 1 (8 * 24 + f) + (-1))) (7 * 24 + f) (-1) else upd (u.1 1) (8 * 24 + f) (u.1 1 (8 * 24 + f) + (-1))) → Q w) : wp_X0_nowTaken u x1 Q := by
  unfold wp_X0_nowTaken
  refine q0_add 8 f rfl e1 (by omega) hf (fun w1 d1 c1 => ?_)
  refine q0_get 8 f rfl e1 (by omega) hf ?_
  rw [c1, pk_us]
  refine ⟨fun hc => ?_, fun hc => ?_⟩
  · refine h w1 d1 ?_
    rw [if_neg hc, c1]
  · refine q0_put 7 f rfl e1 (by omega) hf (fun w2 d2 c2 => ?_)
    refine h w2 (d2.trans d1) ?_
    rw [if_pos hc, c2, c1]
def zhasR (c : Nat → Int32) (f : Nat) : Bool := c (13 * 24 + f) != -1
theorem q0_ruleNumber {u : RS} {Q : Int32 → RS → Prop} (n : Nat) (hn : u.1 0 0 = nI n) (h24 : n ≤ 24) (h : Q (nI (zct (zhasR (u.1 1)) n)) u) : wp_X0_ruleNumber u Q := by
  unfold wp_X0_ruleNumber
  refine zl3 (wp_X0_ruleNumber_4 Q) n (fun i v y1 y2 => v = u ∧ y1 = nI (zct (zhasR (u.1 1)) i) ∧ y2 = nI i) ?_ 0 (Nat.zero_le _) u 0 0 ⟨rfl, rfl, rfl⟩
  rintro i B v y1 y2 hi ⟨rfl, rfl, rfl⟩ hB
  unfold wp_X0_ruleNumber_4
  rw [hn]
  refine ⟨fun hc => ?_, fun hc => ?_⟩
  · have : i = n := by have := (nI_leI (by omega) (by omega)).mp hc; omega
    subst this; exact h
  · have hlt : i < n := by rcases Nat.lt_or_ge i n with q | q; exact q; exact absurd (nI_le q (by omega)) hc
    refine q0_get 13 i rfl rfl (by omega) (by omega) ⟨fun hc => ?_, fun hc z ez => ?_⟩
    · unfold wp_X0_ruleNumber_26
      intro y ey
      refine hB _ _ _ hlt ⟨rfl, ?_, by rw [ey, nI_1]⟩
      have : zhasR (v.1 1) i = false := by simp [zhasR, hc]
      simp [zct, this]
    · unfold wp_X0_ruleNumber_26
      intro y ey
      refine hB _ _ _ hlt ⟨rfl, ?_, by rw [ey, nI_1]⟩
      have : zhasR (v.1 1) i = true := by simp [zhasR, hc]
      rw [ez, nI_1]
      simp [zct, this]
def zdropR (c : Nat → Int32) (f : Nat) : Nat → Int32 := upd (upd c (13 * 24 + f) (-1)) (14 * 24 + f) (-1)
theorem q0_dropRule {u : RS} {x1 : Int32} {Q : RS → Prop} (f : Nat) (e1 : x1 = nI f) (hf : f < 24) (h : ∀ w : RS, w.1 0 = u.1 0 → w.1 1 = zdropR (u.1 1) f → Q w) : wp_X0_dropRule u x1 Q := by
  unfold wp_X0_dropRule
  refine ⟨fun hc => ?_, fun _ => ?_⟩
  · rw [e1] at hc
    have := nI_pos (n := f) (by omega)
    rw [hc] at this
    exact absurd (by decide) this
  · refine q0_put 13 f rfl e1 (by omega) hf (fun w1 d1 c1 => ?_)
    refine q0_put 14 f rfl e1 (by omega) hf (fun w2 d2 c2 => ?_)
    refine h w2 (d2.trans d1) ?_
    rw [c2, c1]; rfl
/-- the rules with p go, of the first n -/
def zdropW (p : Nat → Bool) (c : Nat → Int32) : Nat → Nat → Int32
  | 0 => c
  | n + 1 => if p n then zdropR (zdropW p c n) n else zdropW p c n
theorem zdropW_at (p : Nat → Bool) (c : Nat → Int32) : ∀ (n j : Nat), n ≤ 24 → zdropW p c n j = if (312 ≤ j ∧ j < 312 + n ∧ p (j - 312) = true) ∨ (336 ≤ j ∧ j < 336 + n ∧ p (j - 336) = true) then -1 else c j
  | 0, j, _ => by
    rw [if_neg (by omega)]; rfl
  | n + 1, j, h => by
    have ih := zdropW_at p c n j (by omega)
    show (if p n then zdropR (zdropW p c n) n else zdropW p c n) j = _
    by_cases hp : p n = true
    · rw [if_pos hp]
      show upd (upd (zdropW p c n) (13 * 24 + n) (-1)) (14 * 24 + n) (-1) j = _
      by_cases e1 : j = 14 * 24 + n
      · subst e1
        rw [pk_us, if_pos]
        refine Or.inr ⟨by omega, by omega, ?_⟩
        rw [show 14 * 24 + n - 336 = n by omega]; exact hp
      · rw [pk_un e1]
        by_cases e2 : j = 13 * 24 + n
        · subst e2
          rw [pk_us, if_pos]
          refine Or.inl ⟨by omega, by omega, ?_⟩
          rw [show 13 * 24 + n - 312 = n by omega]; exact hp
        · rw [pk_un e2, ih]
          have : ((312 ≤ j ∧ j < 312 + n ∧ p (j - 312) = true) ∨ (336 ≤ j ∧ j < 336 + n ∧ p (j - 336) = true)) ↔ ((312 ≤ j ∧ j < 312 + (n + 1) ∧ p (j - 312) = true) ∨ (336 ≤ j ∧ j < 336 + (n + 1) ∧ p (j - 336) = true)) := by
            constructor
            · rintro (⟨q1, q2, q3⟩ | ⟨q1, q2, q3⟩)
              · exact Or.inl ⟨q1, by omega, q3⟩
              · exact Or.inr ⟨q1, by omega, q3⟩
            · rintro (⟨q1, q2, q3⟩ | ⟨q1, q2, q3⟩)
              · exact Or.inl ⟨q1, by omega, q3⟩
              · exact Or.inr ⟨q1, by omega, q3⟩
          simp only [this]
    · rw [if_neg hp, ih]
      have : ((312 ≤ j ∧ j < 312 + n ∧ p (j - 312) = true) ∨ (336 ≤ j ∧ j < 336 + n ∧ p (j - 336) = true)) ↔ ((312 ≤ j ∧ j < 312 + (n + 1) ∧ p (j - 312) = true) ∨ (336 ≤ j ∧ j < 336 + (n + 1) ∧ p (j - 336) = true)) := by
        constructor
        · rintro (⟨q1, q2, q3⟩ | ⟨q1, q2, q3⟩)
          · exact Or.inl ⟨q1, by omega, q3⟩
          · exact Or.inr ⟨q1, by omega, q3⟩
        · rintro (⟨q1, q2, q3⟩ | ⟨q1, q2, q3⟩)
          · refine Or.inl ⟨q1, ?_, q3⟩
            rcases Nat.lt_or_ge j (312 + n) with q | q
            · exact q
            · exact absurd (by rw [show j - 312 = n by omega] at q3; exact q3) hp
          · refine Or.inr ⟨q1, ?_, q3⟩
            rcases Nat.lt_or_ge j (336 + n) with q | q
            · exact q
            · exact absurd (by rw [show j - 336 = n by omega] at q3; exact q3) hp
      simp only [this]
theorem q0_dropRulesTo {u : RS} {x1 : Int32} {Q : RS → Prop} (n : Nat) (hn : u.1 0 0 = nI n) (h24 : n ≤ 24) (h : ∀ w : RS, w.1 0 = u.1 0 → w.1 1 = zdropW (fun f => u.1 1 (13 * 24 + f) == x1) (u.1 1) n → Q w) : wp_X0_dropRulesTo u x1 Q := by
  unfold wp_X0_dropRulesTo
  refine zl3 (wp_X0_dropRulesTo_2 Q) n (fun i v y1 y2 => v.1 0 = u.1 0 ∧ v.1 1 = zdropW (fun f => u.1 1 (13 * 24 + f) == x1) (u.1 1) i ∧ y1 = x1 ∧ y2 = nI i) ?_ 0 (Nat.zero_le _) u x1 0 ⟨rfl, rfl, rfl, rfl⟩
  rintro i B v y1 y2 hi ⟨d, hv, rfl, rfl⟩ hB
  unfold wp_X0_dropRulesTo_2
  rw [d, hn]
  refine ⟨fun hc => ?_, fun hc => ?_⟩
  · have : i = n := by have := (nI_leI (by omega) (by omega)).mp hc; omega
    subst this; exact h v d hv
  · have hlt : i < n := by rcases Nat.lt_or_ge i n with q | q; exact q; exact absurd (nI_le q (by omega)) hc
    refine q0_get 13 i rfl rfl (by omega) (by omega) ?_
    have e : v.1 1 (13 * 24 + i) = u.1 1 (13 * 24 + i) := by
      rw [hv, zdropW_at _ _ _ _ (by omega), if_neg (by omega)]
    rw [e]
    refine ⟨fun hc => ?_, fun hc => ?_⟩
    · unfold wp_X0_dropRulesTo_26
      intro y ey
      refine hB _ _ _ hlt ⟨d, ?_, rfl, by rw [ey, nI_1]⟩
      show v.1 1 = if _ then _ else _
      rw [if_neg (by simpa using hc)]; exact hv
    · refine q0_dropRule i rfl (by omega) (fun w d1 c1 => ?_)
      unfold wp_X0_dropRulesTo_26
      intro y ey
      refine hB _ _ _ hlt ⟨d1.trans d, ?_, rfl, by rw [ey, nI_1]⟩
      show w.1 1 = if _ then _ else _
      rw [if_pos (by simpa using hc), c1, hv]
theorem q0_dropOldRules {u : RS} {x1 x2 : Int32} {Q : RS → Prop} (n : Nat) (hn : u.1 0 0 = nI n) (h24 : n ≤ 24) (h : ∀ w : RS, w.1 0 = u.1 0 → w.1 1 = zdropW (fun f => u.1 1 (13 * 24 + f) != -1 && decide (¬ x1 ≤ u.1 1 (14 * 24 + f) + x2)) (u.1 1) n → Q w) : wp_X0_dropOldRules u x1 x2 Q := by
  unfold wp_X0_dropOldRules
  refine zl4 (wp_X0_dropOldRules_2 Q) n (fun i v y1 y3 y2 => v.1 0 = u.1 0 ∧ v.1 1 = zdropW (fun f => u.1 1 (13 * 24 + f) != -1 && decide (¬ x1 ≤ u.1 1 (14 * 24 + f) + x2)) (u.1 1) i ∧ y1 = x1 ∧ y3 = x2 ∧ y2 = nI i) ?_ 0 (Nat.zero_le _) u x1 x2 0 ⟨rfl, rfl, rfl, rfl, rfl⟩
  rintro i B v y1 y3 y2 hi ⟨d, hv, rfl, rfl, rfl⟩ hB
  unfold wp_X0_dropOldRules_2
  rw [d, hn]
  refine ⟨fun hc => ?_, fun hc => ?_⟩
  · have : i = n := by have := (nI_leI (by omega) (by omega)).mp hc; omega
    subst this; exact h v d hv
  · have hlt : i < n := by rcases Nat.lt_or_ge i n with q | q; exact q; exact absurd (nI_le q (by omega)) hc
    have no : (u.1 1 (13 * 24 + i) != -1 && decide (¬ y1 ≤ u.1 1 (14 * 24 + i) + y3)) = false → wp_X0_dropOldRules_39 Q B v y1 y3 (nI i) := by
      intro hz
      unfold wp_X0_dropOldRules_39
      intro y ey
      refine hB _ _ _ _ hlt ⟨d, ?_, rfl, rfl, by rw [ey, nI_1]⟩
      show v.1 1 = if _ then _ else _
      rw [if_neg (fun z => absurd (hz.symm.trans z) (by decide))]; exact hv
    refine q0_get 13 i rfl rfl (by omega) (by omega) ?_
    have e : v.1 1 (13 * 24 + i) = u.1 1 (13 * 24 + i) := by
      rw [hv, zdropW_at _ _ _ _ (by omega), if_neg (by omega)]
    have e2 : v.1 1 (14 * 24 + i) = u.1 1 (14 * 24 + i) := by
      rw [hv, zdropW_at _ _ _ _ (by omega), if_neg (by omega)]
    rw [e]
    refine ⟨fun hc => no (by simp [hc]), fun hc => ?_⟩
    refine q0_get 14 i rfl rfl (by omega) (by omega) ?_
    rw [e2]
    refine ⟨fun hd => no (by simp [hd]), fun hd => ?_⟩
    refine q0_dropRule i rfl (by omega) (fun w d1 c1 => ?_)
    unfold wp_X0_dropOldRules_39
    intro y ey
    refine hB _ _ _ _ hlt ⟨d1.trans d, ?_, rfl, rfl, by rw [ey, nI_1]⟩
    show w.1 1 = if _ then _ else _
    rw [if_pos (by simp [hc, hd]), c1, hv]
/-- the rule least lately used, the least flow of like ones; none -/
def zleast (c : Nat → Int32) (n : Nat) (r : Int32) : Prop := (r = -1 ∧ ∀ j, j < n → zhasR c j = false) ∨ ∃ f, f < n ∧ r = nI f ∧ zhasR c f = true ∧ ∀ j, j < n → zhasR c j = true → c (14 * 24 + f) ≤ c (14 * 24 + j) ∧ (j < f → c (14 * 24 + f) < c (14 * 24 + j))
theorem q0_leastUsed {u : RS} {Q : Int32 → RS → Prop} (n : Nat) (hn : u.1 0 0 = nI n) (h24 : n ≤ 24) (h : ∀ r, zleast (u.1 1) n r → Q r u) : wp_X0_leastUsed u Q := by
  unfold wp_X0_leastUsed
  refine zl3 (wp_X0_leastUsed_4 Q) n (fun i v y1 y2 => v = u ∧ zleast (u.1 1) i y1 ∧ y2 = nI i) ?_ 0 (Nat.zero_le _) u (-1) 0 ⟨rfl, Or.inl ⟨rfl, fun j hj => absurd hj (Nat.not_lt_zero j)⟩, rfl⟩
  rintro i B v y1 y2 hi ⟨rfl, hl, rfl⟩ hB
  unfold wp_X0_leastUsed_4
  rw [hn]
  refine ⟨fun hc => ?_, fun hc => ?_⟩
  · have : i = n := by have := (nI_leI (by omega) (by omega)).mp hc; omega
    subst this; exact h _ hl
  · have hlt : i < n := by rcases Nat.lt_or_ge i n with q | q; exact q; exact absurd (nI_le q (by omega)) hc
    refine q0_get 13 i rfl rfl (by omega) (by omega) ⟨fun hc => ?_, fun hc => ?_⟩
    · unfold wp_X0_leastUsed_47
      intro y ey
      refine hB _ _ _ hlt ⟨rfl, ?_, by rw [ey, nI_1]⟩
      have hz : zhasR (v.1 1) i = false := by simp [zhasR, hc]
      rcases hl with ⟨h1, h2⟩ | ⟨f, h1, h2, h3, h4⟩
      · refine Or.inl ⟨h1, fun j hj => ?_⟩
        rcases Nat.lt_or_ge j i with q | q
        · exact h2 j q
        · rw [show j = i by omega]; exact hz
      · refine Or.inr ⟨f, by omega, h2, h3, fun j hj hr => ?_⟩
        rcases Nat.lt_or_ge j i with q | q
        · exact h4 j q hr
        · rw [show j = i by omega, hz] at hr; cases hr
    · have hz : zhasR (v.1 1) i = true := by simp [zhasR, hc]
      rcases hl with ⟨h1, h2⟩ | ⟨f, h1, h2, h3, h4⟩
      · refine ⟨fun _ => ?_, fun q => absurd h1 q⟩
        unfold wp_X0_leastUsed_45 wp_X0_leastUsed_47
        intro y ey
        refine hB _ _ _ hlt ⟨rfl, Or.inr ⟨i, by omega, rfl, hz, fun j hj hr => ?_⟩, by rw [ey, nI_1]⟩
        rcases Nat.lt_or_ge j i with q | q
        · rw [h2 j q] at hr; cases hr
        · rw [show j = i by omega]; exact ⟨Int32.le_refl _, fun q => absurd q (by omega)⟩
      · refine ⟨fun q => ?_, fun _ => ?_⟩
        · have := nI_pos (n := f) (by omega)
          rw [← h2, q] at this
          exact absurd (by decide) this
        · refine q0_get 14 i rfl rfl (by omega) (by omega) ?_
          refine q0_get 14 f rfl h2 (by omega) (by omega) ⟨fun hle => ?_, fun hle => ?_⟩
          · unfold wp_X0_leastUsed_47
            intro y ey
            refine hB _ _ _ hlt ⟨rfl, Or.inr ⟨f, by omega, h2, h3, fun j hj hr => ?_⟩, by rw [ey, nI_1]⟩
            rcases Nat.lt_or_ge j i with q | q
            · exact h4 j q hr
            · rw [show j = i by omega]; exact ⟨hle, fun q => absurd q (by omega)⟩
          · unfold wp_X0_leastUsed_45 wp_X0_leastUsed_47
            intro y ey
            have hlt2 := Int32.not_le.mp hle
            refine hB _ _ _ hlt ⟨rfl, Or.inr ⟨i, by omega, rfl, hz, fun j hj hr => ?_⟩, by rw [ey, nI_1]⟩
            rcases Nat.lt_or_ge j i with q | q
            · have q1 := (h4 j q hr).1
              have q2 : v.1 1 (14 * 24 + i) < v.1 1 (14 * 24 + j) := Int32.lt_of_lt_of_le hlt2 q1
              exact ⟨Int32.le_of_lt q2, fun _ => q2⟩
            · rw [show j = i by omega]; exact ⟨Int32.le_refl _, fun q => absurd q (by omega)⟩
def zputR (c : Nat → Int32) (f : Nat) (q t : Int32) : Nat → Int32 := upd (upd c (13 * 24 + f) q) (14 * 24 + f) t
/-- putRule: whose rule went for it, and what stands then -/
def zruled (c : Nat → Int32) (n f : Nat) (q t r : Int32) (c1 : Nat → Int32) : Prop :=
  ((zhasR c f = true ∨ zct (zhasR c) n < 6) ∧ r = -1 ∧ c1 = zputR c f q t) ∨ (zhasR c f = false ∧ 6 ≤ zct (zhasR c) n ∧ ∃ g, r = nI g ∧ g < n ∧ zleast c n r ∧ c1 = zputR (zdropR c g) f q t)
theorem zct_pos {p : Nat → Bool} : ∀ {n : Nat}, 0 < zct p n → ∃ i, i < n ∧ p i = true
  | 0, h => absurd h (Nat.lt_irrefl 0)
  | n + 1, h => by
    by_cases e : p n = true
    · exact ⟨n, Nat.lt_succ_self n, e⟩
    · have : 0 < zct p n := by
        have h : 0 < zct p n + (if p n then 1 else 0) := h
        rw [if_neg e] at h
        exact h
      obtain ⟨i, h1, h2⟩ := zct_pos this
      exact ⟨i, by omega, h2⟩
theorem q0_putRule {u : RS} {x1 x2 x3 : Int32} {Q : Int32 → RS → Prop} (n f : Nat) (hn : u.1 0 0 = nI n) (h24 : n ≤ 24) (e1 : x1 = nI f) (hf : f < 24) (h : ∀ (r : Int32) (w : RS), w.1 0 = u.1 0 → zruled (u.1 1) n f x2 x3 r (w.1 1) → Q r w) : wp_X0_putRule u x1 x2 x3 Q := by
  unfold wp_X0_putRule
  have fin : ∀ (v : RS) (r : Int32), v.1 0 = u.1 0 → (∀ w : RS, w.1 1 = zputR (v.1 1) f x2 x3 → zruled (u.1 1) n f x2 x3 r (w.1 1)) → wp_X0_putRule_35 Q v x1 x2 x3 r := by
    intro v r d hr
    unfold wp_X0_putRule_35
    refine q0_put 13 f rfl e1 (by omega) hf (fun w1 d1 c1 => ?_)
    refine q0_put 14 f rfl e1 (by omega) hf (fun w2 d2 c2 => ?_)
    exact h r w2 (d2.trans (d1.trans d)) (hr w2 (by rw [c2, c1]; rfl))
  refine q0_get 13 f rfl e1 (by omega) hf ⟨fun hc => ?_, fun hc => ?_⟩
  · exact fin u _ rfl (fun w ew => Or.inl ⟨Or.inl (by simp [zhasR, hc]), rfl, ew⟩)
  · have hz : zhasR (u.1 1) f = false := by simp [zhasR, hc]
    refine q0_ruleNumber n hn h24 ?_
    have hm := zct_le (zhasR (u.1 1)) n
    refine ⟨fun hl => ?_, fun hl => ?_⟩
    · have hl : nI (zct (zhasR (u.1 1)) n) < nI 6 := hl
      exact fin u _ rfl (fun w ew => Or.inl ⟨Or.inr ((nI_ltI (by omega) (by omega)).mp hl), rfl, ew⟩)
    · have hge : 6 ≤ zct (zhasR (u.1 1)) n := by
        rcases Nat.lt_or_ge (zct (zhasR (u.1 1)) n) 6 with q | q
        · exact absurd (show nI (zct (zhasR (u.1 1)) n) < nI 6 from nI_lt q (by omega)) hl
        · exact q
      refine q0_leastUsed n hn h24 (fun r hr => ?_)
      have hr0 := hr
      rcases hr with ⟨h1, h2⟩ | ⟨g, h1, h2, h3, h4⟩
      · obtain ⟨i, i1, i2⟩ := zct_pos (p := zhasR (u.1 1)) (n := n) (by omega)
        rw [h2 i i1] at i2
        cases i2
      · refine q0_dropRule g h2 (by omega) (fun w1 d1 c1 => ?_)
        exact fin w1 r d1 (fun w ew => Or.inr ⟨hz, hge, g, h2, h1, hr0, by rw [ew, c1]⟩)
