-- the pure side: a packet is taken
theorem q4_isOpen {s : RS} {x1 : Int32} {Q : Int32 → RS → Prop} (f : Nat) (e : x1 = nI f) (hf : f < 24) (h1 : ¬ s.1 6 f ≤ 0 → Q 1 s) (h2 : s.1 6 f ≤ 0 → Q 0 s) : wp_X4_isOpen s x1 Q := by
  subst e
  unfold wp_X4_isOpen wp_X4_isOpen_14
  rw [zn_nI (by omega)]
  exact ⟨in_nI hf (by decide), fun c => ⟨Or.inl rfl, h2 c⟩, fun c => ⟨Or.inr rfl, h1 c⟩⟩
theorem q4_fits {s : RS} {x1 x2 x3 x4 : Int32} {Q : Int32 → RS → Prop} (f : Nat) (e : x1 = nI f) (hf : f < 24) (h1 : ¬ s.1 6 f ≤ 0 → s.1 4 f + s.1 5 f = x2 → ¬ x4 < s.1 5 f + x3 → Q 1 s) (h2 : (s.1 6 f ≤ 0 ∨ ¬ s.1 4 f + s.1 5 f = x2 ∨ x4 < s.1 5 f + x3) → Q 0 s) : wp_X4_fits s x1 x2 x3 x4 Q := by
  subst e
  unfold wp_X4_fits wp_X4_fits_34 wp_X4_fits_35
  have i24 : vp_in (nI f) 24 := in_nI hf (by decide)
  refine q4_isOpen f rfl hf (fun a => ⟨fun z => absurd z (by decide), fun _ => ?_⟩) (fun a => ⟨fun _ => ⟨Or.inl rfl, h2 (Or.inl a)⟩, fun z => absurd rfl z⟩)
  unfold wp_X4_endOf
  rw [zn_nI (by omega)]
  exact ⟨i24, i24, fun b => ⟨Or.inl rfl, h2 (Or.inr (Or.inl b))⟩, fun b => ⟨i24, fun c => ⟨Or.inl rfl, h2 (Or.inr (Or.inr c))⟩, fun c => ⟨Or.inr rfl, h1 a b c⟩⟩⟩
def zseg4 (s s1 : RS) (p4 p5 p6 : Nat → Int32) : Prop := s1.1 4 = p4 ∧ s1.1 5 = p5 ∧ s1.1 6 = p6 ∧ (∀ k, k ≠ 4 → k ≠ 5 → k ≠ 6 → s1.1 k = s.1 k) ∧ s1.2 = s.2
theorem q4_open {s : RS} {x1 x2 x3 : Int32} {Q : RS → Prop} (f : Nat) (e : x1 = nI f) (hf : f < 24) (h : ∀ s1, zseg4 s s1 (upd (s.1 4) f x2) (upd (s.1 5) f x3) (upd (s.1 6) f 1) → Q s1) : wp_X4_open s x1 x2 x3 Q := by
  subst e
  unfold wp_X4_open
  rw [zn_nI (by omega)]
  have i24 : vp_in (nI f) 24 := in_nI hf (by decide)
  refine ⟨i24, fun a1 d1 => ⟨i24, fun a2 d2 => ⟨i24, fun a3 d3 => h a3 ⟨?_, ?_, ?_, fun k k4 k5 k6 => ?_, ?_⟩⟩⟩⟩
  · rw [d3, rI_n _ _ (by decide), d2, rI_n _ _ (by decide), d1, rI_s]
  · rw [d3, rI_n _ _ (by decide), d2, rI_s, d1, rI_n _ _ (by decide)]
  · rw [d3, rI_s, d2, rI_n _ _ (by decide), d1, rI_n _ _ (by decide)]
  · rw [d3, rI_n _ _ k6, d2, rI_n _ _ k5, d1, rI_n _ _ k4]
  · rw [d3, d2, d1]; rfl
theorem q4_join {s : RS} {x1 x2 : Int32} {Q : RS → Prop} (f : Nat) (e : x1 = nI f) (hf : f < 24) (h : ∀ s1, zseg4 s s1 (s.1 4) (upd (s.1 5) f (s.1 5 f + x2)) (upd (s.1 6) f (s.1 6 f + 1)) → Q s1) : wp_X4_join s x1 x2 Q := by
  subst e
  unfold wp_X4_join
  rw [zn_nI (by omega)]
  have i24 : vp_in (nI f) 24 := in_nI hf (by decide)
  refine ⟨i24, i24, fun a1 d1 => ⟨i24, i24, fun a2 d2 => h a2 ⟨?_, ?_, ?_, fun k k4 k5 k6 => ?_, ?_⟩⟩⟩
  · rw [d2, rI_n _ _ (by decide), d1, rI_n _ _ (by decide)]
  · rw [d2, rI_n _ _ (by decide), d1, rI_s]
  · rw [d2, rI_s, d1, rI_n _ _ (by decide)]
  · rw [d2, rI_n _ _ k6, d1, rI_n _ _ k5]
  · rw [d2, d1]; rfl
theorem q8_j140 {r : RS} {Qb : RS → Prop} (f q p : Nat) (hf : f < 24) (hp : p + 3 < 1065) (h : ∀ r1, r1.1 17 = upd (upd (r.1 17) (3 * f + 1) (r.1 17 (3 * f + 1) + r.1 3 (p + 2))) (3 * f + 2) (r.1 17 (3 * f + 2) + 1) → (∀ k, k ≠ 17 → r1.1 k = r.1 k) → r1.2 = r.2 → ((¬ r.1 3 (p + 3) = 1 → Qb r1) ∧ (r.1 3 (p + 3) = 1 → wp_X8_gives r1 (nI f) (nI q) Qb))) : wp_X8_joins_140 Qb r (nI q) (nI p) (nI f) (nI (3 * f)) := by
  unfold wp_X8_joins_140 wp_X8_joins_191
  rw [show nI (3 * f) + 1 = nI (3 * f + 1) from nI_addl _ _, show nI (3 * f) + 2 = nI (3 * f + 2) from nI_addl _ _, show nI p + 2 = nI (p + 2) from nI_addl _ _, show nI p + 3 = nI (p + 3) from nI_addl _ _, zn_nI (by omega), zn_nI (by omega), zn_nI (by omega), zn_nI (by omega)]
  refine ⟨in_nI (by omega) (by decide), in_nI (by omega) (by decide), in_nI (by omega) (by decide), fun a1 d1 => ⟨in_nI (by omega) (by decide), in_nI (by omega) (by decide), fun a2 d2 => ⟨in_nI (by omega) (by decide), ?_⟩⟩⟩
  have e17 : a2.1 17 = upd (upd (r.1 17) (3 * f + 1) (r.1 17 (3 * f + 1) + r.1 3 (p + 2))) (3 * f + 2) (r.1 17 (3 * f + 2) + 1) := by
    rw [d2, rI_s, d1, rI_s, pk_un (show 3 * f + 2 ≠ 3 * f + 1 by omega)]
  have eo : ∀ k, k ≠ 17 → a2.1 k = r.1 k := fun k hk => by rw [d2, rI_n _ _ hk, d1, rI_n _ _ hk]
  rw [eo 3 (by decide)]
  exact h a2 e17 eo (by rw [d2, d1]; rfl)
theorem zst.seg {r r1 : RS} {o1 : Nat → Int32} (h17 : ∀ j, j < 72 → r1.1 17 j = o1 j) (ho : ∀ k, k ≠ 17 → r1.1 k = r.1 k) (h2 : r1.2 = r.2) : zst r r1 (r.1 3) (r.2 4) o1 := by
  refine ⟨ho 3 (by decide), by rw [h2], h17, ?_, ?_, fun k k3 k17 _ _ => ho k k17, fun k _ => by rw [h2]⟩
  · rw [ho 18 (by decide), h2]
  · rw [ho 19 (by decide), ho 3 (by decide)]
/-- one packet less of a flow waits -/
def zless (cnt : Nat → Nat → Nat) (q f : Nat) : Nat → Nat → Nat := fun p g => if p = q ∧ g = f then cnt p g - 1 else cnt p g
theorem sWc.taken {n : Nat} {cnt : Nat → Nat → Nat} {c : Nat → Int32} {q f : Nat} (h : sWc n cnt c) (hn : n ≤ 24) (hf : f < n) (hq : q < 4) (hc : 0 < cnt q f) (hlt : ∀ p, p < 4 → cnt p f < 1000) : sWc n (zless cnt q f) (if c (8 * 24 + f) + (-1) = 0 then upd (upd c (8 * 24 + f) (c (8 * 24 + f) + (-1))) (7 * 24 + f) (-1) else upd c (8 * 24 + f) (c (8 * 24 + f) + (-1))) := by
  obtain ⟨w8, w7⟩ := h.1 f hf
  have only : ∀ p, p < 4 → p ≠ q → cnt p f = 0 := by
    intro p hp hne
    rcases w7 with ⟨-, b⟩ | ⟨k, k1, k2, k3, k4⟩
    · exact b p hp
    · by_cases e : k = q
      · subst e; exact k4 p hp hne
      · exact absurd (k4 q hq (fun z => e z.symm)) (by omega)
  have wq : c (7 * 24 + f) = nI q := by
    rcases w7 with ⟨-, b⟩ | ⟨k, k1, k2, k3, k4⟩
    · exact absurd (b q hq) (by omega)
    · by_cases e : k = q
      · subst e; exact k2
      · exact absurd (k4 q hq (fun z => e z.symm)) (by omega)
  have tot : cnt 0 f + cnt 1 f + cnt 2 f + cnt 3 f = cnt q f := by
    match q, hq with
    | 0, _ => rw [only 1 (by omega) (by omega), only 2 (by omega) (by omega), only 3 (by omega) (by omega)]; omega
    | 1, _ => rw [only 0 (by omega) (by omega), only 2 (by omega) (by omega), only 3 (by omega) (by omega)]; omega
    | 2, _ => rw [only 0 (by omega) (by omega), only 1 (by omega) (by omega), only 3 (by omega) (by omega)]; omega
    | 3, _ => rw [only 0 (by omega) (by omega), only 1 (by omega) (by omega), only 2 (by omega) (by omega)]; omega
  have tot2 : zless cnt q f 0 f + zless cnt q f 1 f + zless cnt q f 2 f + zless cnt q f 3 f = cnt q f - 1 := by
    unfold zless
    match q, hq with
    | 0, _ => simp; rw [only 1 (by omega) (by omega), only 2 (by omega) (by omega), only 3 (by omega) (by omega)]; omega
    | 1, _ => simp; rw [only 0 (by omega) (by omega), only 2 (by omega) (by omega), only 3 (by omega) (by omega)]; omega
    | 2, _ => simp; rw [only 0 (by omega) (by omega), only 1 (by omega) (by omega), only 3 (by omega) (by omega)]; omega
    | 3, _ => simp; rw [only 0 (by omega) (by omega), only 1 (by omega) (by omega), only 2 (by omega) (by omega)]; omega
  have d8 : c (8 * 24 + f) + (-1) = nI (cnt q f - 1) := by
    rw [w8, tot, nI_dn]
    obtain ⟨k, hk⟩ : ∃ k, cnt q f = k + 1 := ⟨cnt q f - 1, by omega⟩
    rw [hk, nD_s]
    rfl
  have lq := hlt q hq
  refine ⟨fun j hj => ?_, fun j j1 j2 => ?_⟩
  rotate_left
  · rw [d8]
    obtain ⟨z7, z8⟩ := h.2 j j1 j2
    split
    · exact ⟨by rw [pk_un (by omega), pk_un (by omega)]; exact z7, by rw [pk_un (by omega), pk_un (by omega)]; exact z8⟩
    · exact ⟨by rw [pk_un (by omega)]; exact z7, by rw [pk_un (by omega)]; exact z8⟩
  rw [d8]
  by_cases e : j = f
  · subst e
    rw [tot2]
    by_cases z : cnt q j = 1
    · have z0 : nI (cnt q j - 1) = 0 := by rw [z]; rfl
      rw [if_pos z0]
      refine ⟨by rw [pk_un (by omega), pk_us], Or.inl ⟨by rw [pk_us], fun p hp => ?_⟩⟩
      unfold zless
      by_cases y : p = q
      · rw [if_pos ⟨y, rfl⟩, y]; omega
      · rw [if_neg (fun x => y x.1)]; exact only p hp y
    · have z0 : ¬ nI (cnt q j - 1) = 0 := nI_ne0 (by omega) (by omega)
      rw [if_neg z0]
      refine ⟨by rw [pk_us], Or.inr ⟨q, hq, by rw [pk_un (by omega)]; exact wq, ?_, fun p hp hne => ?_⟩⟩
      · unfold zless
        rw [if_pos ⟨rfl, rfl⟩]; omega
      · unfold zless
        rw [if_neg (fun x => hne x.1)]; exact only p hp hne
  · have zo : ∀ p, zless cnt q f p j = cnt p j := fun p => if_neg (fun x => e x.2)
    rw [zo, zo, zo, zo]
    have c8 : (if nI (cnt q f - 1) = 0 then upd (upd c (8 * 24 + f) (nI (cnt q f - 1))) (7 * 24 + f) (-1) else upd c (8 * 24 + f) (nI (cnt q f - 1))) (8 * 24 + j) = c (8 * 24 + j) := by
      split
      · rw [pk_un (by omega), pk_un (by omega)]
      · rw [pk_un (by omega)]
    have c7 : (if nI (cnt q f - 1) = 0 then upd (upd c (8 * 24 + f) (nI (cnt q f - 1))) (7 * 24 + f) (-1) else upd c (8 * 24 + f) (nI (cnt q f - 1))) (7 * 24 + j) = c (7 * 24 + j) := by
      split
      · rw [pk_un (by omega), pk_un (by omega)]
      · rw [pk_un (by omega)]
    rw [c8, c7]
    obtain ⟨a, b⟩ := h.1 j hj
    refine ⟨a, ?_⟩
    rcases b with ⟨b1, b2⟩ | ⟨k, k1, k2, k3, k4⟩
    · exact Or.inl ⟨b1, fun p hp => by rw [zo]; exact b2 p hp⟩
    · exact Or.inr ⟨k, k1, k2, by rw [zo]; exact k3, fun p hp hne => by rw [zo]; exact k4 p hp hne⟩
theorem Mid.mono {n i j : Nat} {cnt : Nat → Nat → Nat} {cs g : Nat → RS} {o : Nat → Int32} (h : Mid n cnt i cs g o) (hij : i ≤ j) : Mid n cnt j cs g o := by
  obtain ⟨a1, a2, a3, a4, a5, a6, a7, a8, a9⟩ := h
  refine ⟨a1, a2, a3, a4, a5, a6, a7, a8, fun f hf => ?_⟩
  obtain ⟨p, p1, p2⟩ := a9 f hf
  exact ⟨p, by omega, p2⟩
/-- the segments at hand alone change -/
theorem Mid.seg {n i j : Nat} {cnt : Nat → Nat → Nat} {cs g : Nat → RS} {o o1 p4 p5 p6 : Nat → Int32} {s1 : RS} (h : Mid n cnt i cs g o) (hs : zseg4 (cs 4) s1 p4 p5 p6) (hp : sP n j s1 o1) : Mid n cnt j (va_up cs 4 s1) g o1 := by
  obtain ⟨a1, a2, a3, a4, a5, a6, a7, a8, a9⟩ := h
  obtain ⟨b4, b5, b6, bo, b2⟩ := hs
  refine ⟨fun k k2 k4 => by rw [vu_n _ _ k4]; exact a1 k k2 k4, ?_, ?_, ?_, ?_, ?_, ?_, ?_, ?_⟩
  · rw [vu_n _ _ (by decide)]; exact a2
  · rw [vu_n _ _ (by decide)]; exact a3
  · rw [vu_s, bo 0 (by decide) (by decide) (by decide)]; exact a4
  · rw [vu_s, bo 2 (by decide) (by decide) (by decide)]; exact a5
  · rw [vu_s, bo 3 (by decide) (by decide) (by decide)]; exact a6
  · rw [vu_s, b2]; exact a7
  · rw [vu_n _ _ (by decide)]; exact a8
  · rw [vu_s]; exact hp
