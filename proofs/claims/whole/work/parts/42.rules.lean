-- the pure side: rules
theorem rI_rI (u : RS) (k : Nat) (f g : Nat → Int32) : rI (rI u k f) k g = rI u k g := by
  unfold rI
  show (va_up (va_up u.1 k f) k g, u.2) = (va_up u.1 k g, u.2)
  rw [va_up_up]
theorem rI_id (u : RS) (k : Nat) : rI u k (u.1 k) = u := by
  unfold rI
  have : va_up u.1 k (u.1 k) = u.1 := by
    funext j
    by_cases e : j = k
    · subst e; rw [va_up_self]
    · rw [va_up_ne _ _ e]
  rw [this]
/-- from a to b each takes what stood d behind it -/
def zsh (R : Nat → Int32) (a b d : Nat) : Nat → Int32 := fun j => if a ≤ j ∧ j < b then R (j + d) else R j
theorem zsh_0 (R : Nat → Int32) (a d : Nat) : zsh R a a d = R := by
  funext j
  unfold zsh
  rw [if_neg (by omega)]
theorem zsh_s (R : Nat → Int32) (a i d : Nat) : upd (zsh R a (a + i) d) (a + i) (zsh R a (a + i) d (a + i + d)) = zsh R a (a + (i + 1)) d := by
  funext j
  by_cases e : j = a + i
  · subst e
    rw [pk_us]
    unfold zsh
    rw [if_neg (by omega), if_pos (by omega)]
  · rw [pk_un e]
    unfold zsh
    by_cases q : a ≤ j ∧ j < a + i
    · rw [if_pos q, if_pos (by omega)]
    · rw [if_neg q, if_neg (by omega)]
theorem q8_ruleAt {x0 : Int32} {Q : Int32 → Prop} (r : Nat) (e : x0 = nI r) (h : Q (nI (55 + 3 * r))) : wp_X8_ruleAt x0 Q := by
  subst e
  unfold wp_X8_ruleAt
  rw [nI_lmul, nI_ladd]
  exact h
theorem q8_ruleOf {u : RS} {x1 : Int32} {Q : Int32 → RS → Prop} (nr : Nat) (h5 : u.1 3 5 = nI nr) (h6 : nr ≤ 6) (h1 : ∀ r, r < nr → u.1 3 (55 + 3 * r) = x1 → Q (nI r) u) (h2 : (∀ r, r < nr → ¬ u.1 3 (55 + 3 * r) = x1) → Q (-1) u) : wp_X8_ruleOf u x1 Q := by
  unfold wp_X8_ruleOf
  refine zl4 (wp_X8_ruleOf_4 Q) nr (fun i v y1 y2 y3 => v = u ∧ y1 = x1 ∧ y3 = nI i ∧ ((y2 = -1 ∧ ∀ r, r < i → ¬ u.1 3 (55 + 3 * r) = x1) ∨ ∃ r, r < i ∧ y2 = nI r ∧ u.1 3 (55 + 3 * r) = x1)) ?_ 0 (Nat.zero_le _) u x1 (-1) 0 ⟨rfl, rfl, rfl, Or.inl ⟨rfl, fun r hr => absurd hr (Nat.not_lt_zero r)⟩⟩
  rintro i B v y1 y2 y3 hi ⟨rfl, rfl, rfl, hp⟩ hB
  unfold wp_X8_ruleOf_4
  rw [h5]
  refine ⟨fun hc => ?_, fun hc => ?_⟩
  · have : i = nr := by have := (nI_leI (by omega) (by omega)).mp hc; omega
    subst this
    rcases hp with ⟨rfl, hp⟩ | ⟨r, q1, rfl, q3⟩
    · exact h2 hp
    · exact h1 r q1 q3
  · have hlt : i < nr := by rcases Nat.lt_or_ge i nr with q | q; exact q; exact absurd (nI_le q (by omega)) hc
    refine q8_ruleAt i rfl ?_
    rw [zn_nI (by omega)]
    refine ⟨in_nI (by omega) (by decide), fun hc => ?_, fun hc => ?_⟩
    · unfold wp_X8_ruleOf_32
      intro y ey
      refine hB _ _ _ _ hlt ⟨rfl, rfl, by rw [ey, nI_1], ?_⟩
      rcases hp with ⟨rfl, hp⟩ | ⟨r, q1, rfl, q3⟩
      · refine Or.inl ⟨rfl, fun r hr => ?_⟩
        rcases Nat.lt_or_ge r i with q | q
        · exact hp r q
        · rw [show r = i by omega]; exact hc
      · exact Or.inr ⟨r, by omega, rfl, q3⟩
    · unfold wp_X8_ruleOf_32
      intro y ey
      exact hB _ _ _ _ hlt ⟨rfl, rfl, by rw [ey, nI_1], Or.inr ⟨i, by omega, rfl, hc⟩⟩
def zdrop8 (R : Nat → Int32) (r nr : Nat) : Nat → Int32 := zsh (upd R 5 (nI (nr - 1))) (55 + 3 * r) (55 + 3 * (nr - 1)) 3
theorem q8_dropRule {u : RS} {x1 : Int32} {Q : RS → Prop} (r nr : Nat) (e1 : x1 = nI r) (hr : r < nr) (h6 : nr ≤ 6) (h5 : u.1 3 5 = nI nr) (h : Q (rI u 3 (zdrop8 (u.1 3) r nr))) : wp_X8_dropRule u x1 Q := by
  subst e1
  unfold wp_X8_dropRule
  intro v ev
  have ev : v = rI u 3 (upd (u.1 3) 5 (nI (nr - 1))) := by rw [ev, h5, nI_subl (by omega)]
  refine q8_ruleAt r rfl ?_
  refine zl2 (wp_X8_dropRule_15 Q) (3 * (nr - 1 - r)) (fun i w y => w = rI u 3 (zsh (upd (u.1 3) 5 (nI (nr - 1))) (55 + 3 * r) (55 + 3 * r + i) 3) ∧ y = nI (55 + 3 * r + i)) ?_ 0 (Nat.zero_le _) v _ ⟨by rw [Nat.add_zero, zsh_0]; exact ev, rfl⟩
  rintro i B w y hi ⟨rfl, rfl⟩ hB
  unfold wp_X8_dropRule_15
  have e5 : (rI u 3 (zsh (upd (u.1 3) 5 (nI (nr - 1))) (55 + 3 * r) (55 + 3 * r + i) 3)).1 3 5 = nI (nr - 1) := by
    rw [rI_s]
    unfold zsh
    rw [if_neg (by omega), pk_us]
  rw [e5]
  refine q8_ruleAt (nr - 1) rfl ⟨fun hc => ?_, fun hc => ?_⟩
  · have := (nI_leI (by omega) (by omega)).mp hc
    have e : 55 + 3 * r + i = 55 + 3 * (nr - 1) := by omega
    rw [e]; exact h
  · have hlt : i < 3 * (nr - 1 - r) := by
      rcases Nat.lt_or_ge i (3 * (nr - 1 - r)) with q | q
      · exact q
      · exact absurd (nI_le (by omega) (by omega)) hc
    rw [nI_addl, zn_nI (by omega), zn_nI (by omega)]
    refine ⟨in_nI (by omega) (by decide), in_nI (by omega) (by decide), fun w2 e2 y2 ey => hB _ _ hlt ⟨?_, by rw [ey, nI_1]; rfl⟩⟩
    rw [e2, rI_rI, rI_s, zsh_s]
/-- the rules of both sides are alike -/
def rRel (n : Nat) (c R : Nat → Int32) (nr : Nat) : Prop := nr ≤ 6 ∧ R 5 = nI nr ∧ zct (zhasR c) n = nr ∧
  (∀ r, r < nr → ∃ f, f < n ∧ R (55 + 3 * r) = nI f ∧ zhasR c f = true ∧ R (55 + 3 * r + 1) = c (13 * 24 + f) ∧ R (55 + 3 * r + 2) = c (14 * 24 + f)) ∧
  (∀ f, f < n → zhasR c f = true → ∃ r, r < nr ∧ R (55 + 3 * r) = nI f) ∧ ∀ r t, r < t → t < nr → ¬ R (55 + 3 * r) = R (55 + 3 * t)
theorem zct_off {p q : Nat → Bool} {k : Nat} (hp : p k = true) (hq : q k = false) : ∀ {n : Nat}, k < n → (∀ i, i < n → i ≠ k → q i = p i) → zct q n + 1 = zct p n
  | 0, h, _ => absurd h (Nat.not_lt_zero k)
  | n + 1, h, e => by
    show zct q n + (if q n then 1 else 0) + 1 = zct p n + (if p n then 1 else 0)
    by_cases en : k = n
    · subst en
      rw [hp, hq, zct_eq (fun i hi => e i (by omega) (by omega))]
      simp
    · have := zct_off hp hq (n := n) (by omega) (fun i hi => e i (by omega))
      rw [e n (by omega) (fun z => en z.symm)]
      omega
theorem zhasR_drop (c : Nat → Int32) (f j : Nat) (hf : f < 24) (hj : j < 24) : zhasR (zdropR c f) j = if j = f then false else zhasR c j := by
  unfold zhasR zdropR
  rw [pk_un (by omega)]
  by_cases e : j = f
  · subst e; rw [pk_us, if_pos rfl]; rfl
  · rw [pk_un (by omega), if_neg e]
theorem zhasR_put (c : Nat → Int32) (f j : Nat) (q t : Int32) (hf : f < 24) (hj : j < 24) (hq : ¬ q = -1) : zhasR (zputR c f q t) j = if j = f then true else zhasR c j := by
  unfold zhasR zputR
  rw [pk_un (by omega)]
  by_cases e : j = f
  · subst e; rw [pk_us, if_pos rfl]; simp [hq]
  · rw [pk_un (by omega), if_neg e]
theorem rRel_drop {n nr r f : Nat} {c R : Nat → Int32} (hn : n ≤ 24) (h : rRel n c R nr) (hr : r < nr) (hf : f < n) (e : R (55 + 3 * r) = nI f) : rRel n (zdropR c f) (zdrop8 R r nr) (nr - 1) := by
  obtain ⟨h1, h2, h3, h4, h5, h6⟩ := h
  have at0 : ∀ k w, k < nr - 1 → w < 3 → zdrop8 R r nr (55 + 3 * k + w) = R (55 + 3 * (if k < r then k else k + 1) + w) := by
    intro k w hk hw
    unfold zdrop8 zsh
    by_cases q : k < r
    · rw [if_neg (by omega), pk_un (by omega), if_pos q]
    · rw [if_pos (by omega), pk_un (by omega), if_neg q]
      congr 1
      omega
  have hne : ∀ k, k < nr → k ≠ r → ¬ R (55 + 3 * k) = nI f := by
    intro k hk hkr z
    rcases Nat.lt_or_ge k r with q | q
    · exact h6 k r q hr (z.trans e.symm)
    · exact h6 r k (by omega) hk (e.trans z.symm)
  obtain ⟨g, g1, g2, g3, -, -⟩ := h4 r hr
  have gf : g = f := (nI_eq (by omega) (by omega)).mp (g2.symm.trans e)
  subst gf
  refine ⟨by omega, ?_, ?_, ?_, ?_, ?_⟩
  · unfold zdrop8 zsh
    rw [if_neg (by omega), pk_us]
  · have := zct_off (p := zhasR c) (q := zhasR (zdropR c g)) (k := g) g3 (by rw [zhasR_drop _ _ _ (by omega) (by omega), if_pos rfl]) (n := n) g1 (fun i hi hne => by rw [zhasR_drop _ _ _ (by omega) (by omega), if_neg hne])
    omega
  · intro k hk
    obtain ⟨a, a1, a2, a3, a4, a5⟩ := h4 (if k < r then k else k + 1) (by split <;> omega)
    have ag : a ≠ g := by
      intro z
      rw [z] at a2
      refine hne (if k < r then k else k + 1) (by split <;> omega) (by split <;> omega) a2
    refine ⟨a, a1, ?_, ?_, ?_, ?_⟩
    · have := at0 k 0 hk (by omega)
      rw [Nat.add_zero] at this
      rw [this]; exact a2
    · rw [zhasR_drop _ _ _ (by omega) (by omega), if_neg ag]; exact a3
    · rw [at0 k 1 hk (by omega), a4]
      unfold zdropR
      rw [pk_un (by omega), pk_un (by omega)]
    · rw [at0 k 2 hk (by omega), a5]
      unfold zdropR
      rw [pk_un (by omega), pk_un (by omega)]
  · intro a ha hb
    rw [zhasR_drop _ _ _ (by omega) (by omega)] at hb
    by_cases ag : a = g
    · rw [if_pos ag] at hb; cases hb
    · rw [if_neg ag] at hb
      obtain ⟨k, k1, k2⟩ := h5 a ha hb
      have kr : k ≠ r := by
        intro z
        rw [z, e] at k2
        exact ag ((nI_eq (by omega) (by omega)).mp k2).symm
      by_cases q : k < r
      · refine ⟨k, by omega, ?_⟩
        have := at0 k 0 (by omega) (by omega)
        rw [Nat.add_zero, if_pos q] at this
        rw [this]; exact k2
      · refine ⟨k - 1, by omega, ?_⟩
        have := at0 (k - 1) 0 (by omega) (by omega)
        rw [Nat.add_zero, if_neg (by omega), show k - 1 + 1 = k by omega] at this
        rw [this]; exact k2
  · intro k t hkt ht
    have e1 := at0 k 0 (by omega) (by omega)
    have e2 := at0 t 0 ht (by omega)
    rw [Nat.add_zero] at e1 e2
    rw [e1, e2]
    exact h6 _ _ (by split <;> split <;> omega) (by split <;> omega)
