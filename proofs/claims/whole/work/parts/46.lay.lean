-- the pure side: rows laid aside and brought back
def zcpy {α : Type} (f g : Nat → α) (a n : Nat) : Nat → α := fun j => if a ≤ j ∧ j < a + n then g (j - a) else f j
theorem zcpy_0 {α : Type} (f g : Nat → α) (a : Nat) : zcpy f g a 0 = f := by
  funext j
  unfold zcpy
  rw [if_neg (by omega)]
theorem zcpy_in {α : Type} (f g : Nat → α) {a n i : Nat} (h : i < n) : zcpy f g a n (a + i) = g i := by
  unfold zcpy
  rw [if_pos (by omega), show a + i - a = i by omega]
theorem zcpy_out {α : Type} (f g : Nat → α) {a n j : Nat} (h : j < a ∨ a + n ≤ j) : zcpy f g a n j = f j := by
  unfold zcpy
  rw [if_neg (by omega)]
theorem zcpy_s (f g : Nat → Int32) (a n : Nat) : upd (zcpy f g a n) (a + n) (g n) = zcpy f g a (n + 1) := by
  funext j
  by_cases e : j = a + n
  · subst e; rw [pk_us, zcpy_in _ _ (by omega)]
  · rw [pk_un e]
    unfold zcpy
    by_cases q : a ≤ j ∧ j < a + n
    · rw [if_pos q, if_pos (by omega)]
    · rw [if_neg q, if_neg (by omega)]
theorem zcpy_sL (f g : Nat → Int64) (a n : Nat) : vp_updL (zcpy f g a n) (a + n) (g n) = zcpy f g a (n + 1) := by
  funext j
  by_cases e : j = a + n
  · subst e; rw [pk_uLs, zcpy_in _ _ (by omega)]
  · rw [pk_uLn e]
    unfold zcpy
    by_cases q : a ≤ j ∧ j < a + n
    · rw [if_pos q, if_pos (by omega)]
    · rw [if_neg q, if_neg (by omega)]
theorem rL_rL (u : RS) (k : Nat) (f g : Nat → Int64) : rL (rL u k f) k g = rL u k g := by
  unfold rL
  show (u.1, va_up (va_up u.2 k f) k g) = (u.1, va_up u.2 k g)
  rw [va_up_up]
theorem rL_id (u : RS) (k : Nat) : rL u k (u.2 k) = u := by
  unfold rL
  have : va_up u.2 k (u.2 k) = u.2 := by
    funext j
    by_cases e : j = k
    · subst e; rw [va_up_self]
    · rw [va_up_ne _ _ e]
  rw [this]
theorem nI_stop {N i : Nat} (hN : N < 2147483648) (hi : i ≤ N) (h : nI N ≤ nI i) : i = N := by
  have := (nI_leI (by omega) (by omega)).mp h
  omega
theorem nI_go {N i : Nat} (hN : N < 2147483648) (hi : i ≤ N) (h : ¬ nI N ≤ nI i) : i < N := by
  rcases Nat.lt_or_ge i N with q | q
  · exact q
  · exact absurd (nI_le q (by omega)) h
def zlay_undos (u : RS) (k : Nat) : RS := rL (rI u 5 (zcpy (u.1 5) (u.1 3) (1065 * k) 1065)) 6 (zcpy (u.2 6) (u.2 4) (7 * k) 7)
theorem q8_lay_undos {u : RS} {x3 : Int32} {Q : RS → Prop} (k : Nat) (e : x3 = nI k) (hk : k < 8) (h : Q (zlay_undos u k)) : wp_X8_lay_undos u x3 Q := by
  subst e
  unfold wp_X8_lay_undos
  refine zl3 (wp_X8_lay_undos_3 Q) 1065 (fun i v y3 y4 => v = rI u 5 (zcpy (u.1 5) (u.1 3) (1065 * k) i) ∧ y3 = nI k ∧ y4 = nI i) ?_ 0 (Nat.zero_le _) u _ 0 ⟨by rw [zcpy_0, rI_id], rfl, rfl⟩
  rintro i B v y3 y4 hi ⟨rfl, rfl, rfl⟩ hB
  unfold wp_X8_lay_undos_3
  refine ⟨fun hc => ?_, fun hc => ?_⟩
  · have hi := nI_stop (N := 1065) (by decide) hi hc
    subst hi
    refine zl3 (wp_X8_lay_undos_37 Q) 7 (fun i v y3 y4 => v = rL (rI u 5 (zcpy (u.1 5) (u.1 3) (1065 * k) 1065)) 6 (zcpy (u.2 6) (u.2 4) (7 * k) i) ∧ y3 = nI k ∧ y4 = nI i) ?_ 0 (Nat.zero_le _) _ _ 0 ⟨by rw [zcpy_0]; exact (rL_id _ 6).symm, rfl, rfl⟩
    rintro i B v y3 y4 hi ⟨rfl, rfl, rfl⟩ hB
    unfold wp_X8_lay_undos_37
    refine ⟨fun hc => ?_, fun hc => ?_⟩
    · have hi := nI_stop (N := 7) (by decide) hi hc
      subst hi
      exact h
    · have hlt := nI_go (N := 7) (by decide) hi hc
      rw [nI_lmul, nI_add, zn_nI (by omega), zn_nI (by omega)]
      refine ⟨in_nI (by omega) (by decide), in_nI (by omega) (by decide), fun w ew y ey => hB _ _ _ hlt ⟨?_, rfl, by rw [ey, nI_1]⟩⟩
      rw [ew, rL_rL, rL_s, rL_n _ _ (by decide), rI_2, zcpy_sL]
  · have hlt := nI_go (N := 1065) (by decide) hi hc
    rw [nI_lmul, nI_add, zn_nI (by omega), zn_nI (by omega)]
    refine ⟨in_nI (by omega) (by decide), in_nI (by omega) (by decide), fun w ew y ey => hB _ _ _ hlt ⟨?_, rfl, by rw [ey, nI_1]⟩⟩
    rw [ew, rI_rI, rI_s, rI_n _ _ (by decide), zcpy_s]
def zbring_undos (u : RS) (k : Nat) : RS := rL (rI u 3 (zcpy (u.1 3) (fun i => u.1 5 (1065 * k + i)) 0 1065)) 4 (zcpy (u.2 4) (fun i => u.2 6 (7 * k + i)) 0 7)
theorem q8_bring_undos {u : RS} {x3 : Int32} {Q : RS → Prop} (k : Nat) (e : x3 = nI k) (hk : k < 8) (h : Q (zbring_undos u k)) : wp_X8_bring_undos u x3 Q := by
  subst e
  unfold wp_X8_bring_undos
  refine zl3 (wp_X8_bring_undos_3 Q) 1065 (fun i v y3 y4 => v = rI u 3 (zcpy (u.1 3) (fun i => u.1 5 (1065 * k + i)) 0 i) ∧ y3 = nI k ∧ y4 = nI i) ?_ 0 (Nat.zero_le _) u _ 0 ⟨by rw [zcpy_0, rI_id], rfl, rfl⟩
  rintro i B v y3 y4 hi ⟨rfl, rfl, rfl⟩ hB
  unfold wp_X8_bring_undos_3
  refine ⟨fun hc => ?_, fun hc => ?_⟩
  · have hi := nI_stop (N := 1065) (by decide) hi hc
    subst hi
    refine zl3 (wp_X8_bring_undos_37 Q) 7 (fun i v y3 y4 => v = rL (rI u 3 (zcpy (u.1 3) (fun i => u.1 5 (1065 * k + i)) 0 1065)) 4 (zcpy (u.2 4) (fun i => u.2 6 (7 * k + i)) 0 i) ∧ y3 = nI k ∧ y4 = nI i) ?_ 0 (Nat.zero_le _) _ _ 0 ⟨by rw [zcpy_0]; exact (rL_id _ 4).symm, rfl, rfl⟩
    rintro i B v y3 y4 hi ⟨rfl, rfl, rfl⟩ hB
    unfold wp_X8_bring_undos_37
    refine ⟨fun hc => ?_, fun hc => ?_⟩
    · have hi := nI_stop (N := 7) (by decide) hi hc
      subst hi
      exact h
    · have hlt := nI_go (N := 7) (by decide) hi hc
      rw [nI_lmul, nI_add, zn_nI (by omega), zn_nI (by omega)]
      refine ⟨in_nI (by omega) (by decide), in_nI (by omega) (by decide), fun w ew y ey => hB _ _ _ hlt ⟨?_, rfl, by rw [ey, nI_1]⟩⟩
      have := zcpy_sL (u.2 4) (fun i => u.2 6 (7 * k + i)) 0 i
      rw [Nat.zero_add] at this
      rw [ew, rL_rL, rL_s, rL_n _ _ (by decide), rI_2, this]
  · have hlt := nI_go (N := 1065) (by decide) hi hc
    rw [nI_lmul, nI_add, zn_nI (by omega), zn_nI (by omega)]
    refine ⟨in_nI (by omega) (by decide), in_nI (by omega) (by decide), fun w ew y ey => hB _ _ _ hlt ⟨?_, rfl, by rw [ey, nI_1]⟩⟩
    have := zcpy_s (u.1 3) (fun i => u.1 5 (1065 * k + i)) 0 i
    rw [Nat.zero_add] at this
    rw [ew, rI_rI, rI_s, rI_n _ _ (by decide), this]
def zlay_images (u : RS) (k : Nat) : RS := rL (rI u 9 (zcpy (u.1 9) (u.1 3) (1065 * k) 1065)) 10 (zcpy (u.2 10) (u.2 4) (7 * k) 7)
theorem q8_lay_images {u : RS} {x3 : Int32} {Q : RS → Prop} (k : Nat) (e : x3 = nI k) (hk : k < 2) (h : Q (zlay_images u k)) : wp_X8_lay_images u x3 Q := by
  subst e
  unfold wp_X8_lay_images
  refine zl3 (wp_X8_lay_images_3 Q) 1065 (fun i v y3 y4 => v = rI u 9 (zcpy (u.1 9) (u.1 3) (1065 * k) i) ∧ y3 = nI k ∧ y4 = nI i) ?_ 0 (Nat.zero_le _) u _ 0 ⟨by rw [zcpy_0, rI_id], rfl, rfl⟩
  rintro i B v y3 y4 hi ⟨rfl, rfl, rfl⟩ hB
  unfold wp_X8_lay_images_3
  refine ⟨fun hc => ?_, fun hc => ?_⟩
  · have hi := nI_stop (N := 1065) (by decide) hi hc
    subst hi
    refine zl3 (wp_X8_lay_images_37 Q) 7 (fun i v y3 y4 => v = rL (rI u 9 (zcpy (u.1 9) (u.1 3) (1065 * k) 1065)) 10 (zcpy (u.2 10) (u.2 4) (7 * k) i) ∧ y3 = nI k ∧ y4 = nI i) ?_ 0 (Nat.zero_le _) _ _ 0 ⟨by rw [zcpy_0]; exact (rL_id _ 10).symm, rfl, rfl⟩
    rintro i B v y3 y4 hi ⟨rfl, rfl, rfl⟩ hB
    unfold wp_X8_lay_images_37
    refine ⟨fun hc => ?_, fun hc => ?_⟩
    · have hi := nI_stop (N := 7) (by decide) hi hc
      subst hi
      exact h
    · have hlt := nI_go (N := 7) (by decide) hi hc
      rw [nI_lmul, nI_add, zn_nI (by omega), zn_nI (by omega)]
      refine ⟨in_nI (by omega) (by decide), in_nI (by omega) (by decide), fun w ew y ey => hB _ _ _ hlt ⟨?_, rfl, by rw [ey, nI_1]⟩⟩
      rw [ew, rL_rL, rL_s, rL_n _ _ (by decide), rI_2, zcpy_sL]
  · have hlt := nI_go (N := 1065) (by decide) hi hc
    rw [nI_lmul, nI_add, zn_nI (by omega), zn_nI (by omega)]
    refine ⟨in_nI (by omega) (by decide), in_nI (by omega) (by decide), fun w ew y ey => hB _ _ _ hlt ⟨?_, rfl, by rw [ey, nI_1]⟩⟩
    rw [ew, rI_rI, rI_s, rI_n _ _ (by decide), zcpy_s]
def zbring_images (u : RS) (k : Nat) : RS := rL (rI u 3 (zcpy (u.1 3) (fun i => u.1 9 (1065 * k + i)) 0 1065)) 4 (zcpy (u.2 4) (fun i => u.2 10 (7 * k + i)) 0 7)
theorem q8_bring_images {u : RS} {x3 : Int32} {Q : RS → Prop} (k : Nat) (e : x3 = nI k) (hk : k < 2) (h : Q (zbring_images u k)) : wp_X8_bring_images u x3 Q := by
  subst e
  unfold wp_X8_bring_images
  refine zl3 (wp_X8_bring_images_3 Q) 1065 (fun i v y3 y4 => v = rI u 3 (zcpy (u.1 3) (fun i => u.1 9 (1065 * k + i)) 0 i) ∧ y3 = nI k ∧ y4 = nI i) ?_ 0 (Nat.zero_le _) u _ 0 ⟨by rw [zcpy_0, rI_id], rfl, rfl⟩
  rintro i B v y3 y4 hi ⟨rfl, rfl, rfl⟩ hB
  unfold wp_X8_bring_images_3
  refine ⟨fun hc => ?_, fun hc => ?_⟩
  · have hi := nI_stop (N := 1065) (by decide) hi hc
    subst hi
    refine zl3 (wp_X8_bring_images_37 Q) 7 (fun i v y3 y4 => v = rL (rI u 3 (zcpy (u.1 3) (fun i => u.1 9 (1065 * k + i)) 0 1065)) 4 (zcpy (u.2 4) (fun i => u.2 10 (7 * k + i)) 0 i) ∧ y3 = nI k ∧ y4 = nI i) ?_ 0 (Nat.zero_le _) _ _ 0 ⟨by rw [zcpy_0]; exact (rL_id _ 4).symm, rfl, rfl⟩
    rintro i B v y3 y4 hi ⟨rfl, rfl, rfl⟩ hB
    unfold wp_X8_bring_images_37
    refine ⟨fun hc => ?_, fun hc => ?_⟩
    · have hi := nI_stop (N := 7) (by decide) hi hc
      subst hi
      exact h
    · have hlt := nI_go (N := 7) (by decide) hi hc
      rw [nI_lmul, nI_add, zn_nI (by omega), zn_nI (by omega)]
      refine ⟨in_nI (by omega) (by decide), in_nI (by omega) (by decide), fun w ew y ey => hB _ _ _ hlt ⟨?_, rfl, by rw [ey, nI_1]⟩⟩
      have := zcpy_sL (u.2 4) (fun i => u.2 10 (7 * k + i)) 0 i
      rw [Nat.zero_add] at this
      rw [ew, rL_rL, rL_s, rL_n _ _ (by decide), rI_2, this]
  · have hlt := nI_go (N := 1065) (by decide) hi hc
    rw [nI_lmul, nI_add, zn_nI (by omega), zn_nI (by omega)]
    refine ⟨in_nI (by omega) (by decide), in_nI (by omega) (by decide), fun w ew y ey => hB _ _ _ hlt ⟨?_, rfl, by rw [ey, nI_1]⟩⟩
    have := zcpy_s (u.1 3) (fun i => u.1 9 (1065 * k + i)) 0 i
    rw [Nat.zero_add] at this
    rw [ew, rI_rI, rI_s, rI_n _ _ (by decide), this]
def zlay_ahead (u : RS) (k : Nat) : RS := rL (rI u 12 (zcpy (u.1 12) (u.1 3) (1065 * k) 1065)) 13 (zcpy (u.2 13) (u.2 4) (7 * k) 7)
theorem q8_lay_ahead {u : RS} {x3 : Int32} {Q : RS → Prop} (k : Nat) (e : x3 = nI k) (hk : k < 1) (h : Q (zlay_ahead u k)) : wp_X8_lay_ahead u x3 Q := by
  subst e
  unfold wp_X8_lay_ahead
  refine zl3 (wp_X8_lay_ahead_3 Q) 1065 (fun i v y3 y4 => v = rI u 12 (zcpy (u.1 12) (u.1 3) (1065 * k) i) ∧ y3 = nI k ∧ y4 = nI i) ?_ 0 (Nat.zero_le _) u _ 0 ⟨by rw [zcpy_0, rI_id], rfl, rfl⟩
  rintro i B v y3 y4 hi ⟨rfl, rfl, rfl⟩ hB
  unfold wp_X8_lay_ahead_3
  refine ⟨fun hc => ?_, fun hc => ?_⟩
  · have hi := nI_stop (N := 1065) (by decide) hi hc
    subst hi
    refine zl3 (wp_X8_lay_ahead_37 Q) 7 (fun i v y3 y4 => v = rL (rI u 12 (zcpy (u.1 12) (u.1 3) (1065 * k) 1065)) 13 (zcpy (u.2 13) (u.2 4) (7 * k) i) ∧ y3 = nI k ∧ y4 = nI i) ?_ 0 (Nat.zero_le _) _ _ 0 ⟨by rw [zcpy_0]; exact (rL_id _ 13).symm, rfl, rfl⟩
    rintro i B v y3 y4 hi ⟨rfl, rfl, rfl⟩ hB
    unfold wp_X8_lay_ahead_37
    refine ⟨fun hc => ?_, fun hc => ?_⟩
    · have hi := nI_stop (N := 7) (by decide) hi hc
      subst hi
      exact h
    · have hlt := nI_go (N := 7) (by decide) hi hc
      rw [nI_lmul, nI_add, zn_nI (by omega), zn_nI (by omega)]
      refine ⟨in_nI (by omega) (by decide), in_nI (by omega) (by decide), fun w ew y ey => hB _ _ _ hlt ⟨?_, rfl, by rw [ey, nI_1]⟩⟩
      rw [ew, rL_rL, rL_s, rL_n _ _ (by decide), rI_2, zcpy_sL]
  · have hlt := nI_go (N := 1065) (by decide) hi hc
    rw [nI_lmul, nI_add, zn_nI (by omega), zn_nI (by omega)]
    refine ⟨in_nI (by omega) (by decide), in_nI (by omega) (by decide), fun w ew y ey => hB _ _ _ hlt ⟨?_, rfl, by rw [ey, nI_1]⟩⟩
    rw [ew, rI_rI, rI_s, rI_n _ _ (by decide), zcpy_s]
def zbring_ahead (u : RS) (k : Nat) : RS := rL (rI u 3 (zcpy (u.1 3) (fun i => u.1 12 (1065 * k + i)) 0 1065)) 4 (zcpy (u.2 4) (fun i => u.2 13 (7 * k + i)) 0 7)
theorem q8_bring_ahead {u : RS} {x3 : Int32} {Q : RS → Prop} (k : Nat) (e : x3 = nI k) (hk : k < 1) (h : Q (zbring_ahead u k)) : wp_X8_bring_ahead u x3 Q := by
  subst e
  unfold wp_X8_bring_ahead
  refine zl3 (wp_X8_bring_ahead_3 Q) 1065 (fun i v y3 y4 => v = rI u 3 (zcpy (u.1 3) (fun i => u.1 12 (1065 * k + i)) 0 i) ∧ y3 = nI k ∧ y4 = nI i) ?_ 0 (Nat.zero_le _) u _ 0 ⟨by rw [zcpy_0, rI_id], rfl, rfl⟩
  rintro i B v y3 y4 hi ⟨rfl, rfl, rfl⟩ hB
  unfold wp_X8_bring_ahead_3
  refine ⟨fun hc => ?_, fun hc => ?_⟩
  · have hi := nI_stop (N := 1065) (by decide) hi hc
    subst hi
    refine zl3 (wp_X8_bring_ahead_37 Q) 7 (fun i v y3 y4 => v = rL (rI u 3 (zcpy (u.1 3) (fun i => u.1 12 (1065 * k + i)) 0 1065)) 4 (zcpy (u.2 4) (fun i => u.2 13 (7 * k + i)) 0 i) ∧ y3 = nI k ∧ y4 = nI i) ?_ 0 (Nat.zero_le _) _ _ 0 ⟨by rw [zcpy_0]; exact (rL_id _ 4).symm, rfl, rfl⟩
    rintro i B v y3 y4 hi ⟨rfl, rfl, rfl⟩ hB
    unfold wp_X8_bring_ahead_37
    refine ⟨fun hc => ?_, fun hc => ?_⟩
    · have hi := nI_stop (N := 7) (by decide) hi hc
      subst hi
      exact h
    · have hlt := nI_go (N := 7) (by decide) hi hc
      rw [nI_lmul, nI_add, zn_nI (by omega), zn_nI (by omega)]
      refine ⟨in_nI (by omega) (by decide), in_nI (by omega) (by decide), fun w ew y ey => hB _ _ _ hlt ⟨?_, rfl, by rw [ey, nI_1]⟩⟩
      have := zcpy_sL (u.2 4) (fun i => u.2 13 (7 * k + i)) 0 i
      rw [Nat.zero_add] at this
      rw [ew, rL_rL, rL_s, rL_n _ _ (by decide), rI_2, this]
  · have hlt := nI_go (N := 1065) (by decide) hi hc
    rw [nI_lmul, nI_add, zn_nI (by omega), zn_nI (by omega)]
    refine ⟨in_nI (by omega) (by decide), in_nI (by omega) (by decide), fun w ew y ey => hB _ _ _ hlt ⟨?_, rfl, by rw [ey, nI_1]⟩⟩
    have := zcpy_s (u.1 3) (fun i => u.1 12 (1065 * k + i)) 0 i
    rw [Nat.zero_add] at this
    rw [ew, rI_rI, rI_s, rI_n _ _ (by decide), this]
