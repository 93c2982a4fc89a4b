-- the pure side: flow, steer, free
theorem k_found_y {r : RS} {n f : Nat} {c : Nat → Int32} {x1 x2 x3 x4 x5 : Int32} {Q : Int32 → RS → Prop} (hF : sF n c (r.1 3)) (h14 : ∀ k, k < 5 → r.1 14 k = zfl (fun _ => 0) x1 x2 x3 x4 x5 k) (hf : f < n) (h3 : ∀ j, j < f → zisF c x1 x2 x3 x4 x5 j = false) (h4 : zisF c x1 x2 x3 x4 x5 f = true) (h : Q (nI f) r) : wp_X8_found r Q := by
  refine k_found (c := c) hF h14 (fun y hy => ?_)
  rcases hy with ⟨g, g1, rfl, g3, g4⟩ | ⟨d1, d2⟩
  · have : f = g := by
      rcases Nat.lt_trichotomy f g with q | q | q
      · rw [g3 f q] at h4; cases h4
      · exact q
      · rw [h3 g q] at g4; cases g4
    rw [← this]; exact h
  · rw [d2 f hf] at h4; cases h4
theorem k_found_n {r : RS} {n : Nat} {c : Nat → Int32} {x1 x2 x3 x4 x5 : Int32} {Q : Int32 → RS → Prop} (hF : sF n c (r.1 3)) (h14 : ∀ k, k < 5 → r.1 14 k = zfl (fun _ => 0) x1 x2 x3 x4 x5 k) (h3 : ∀ j, j < n → zisF c x1 x2 x3 x4 x5 j = false) (h : Q (-1) r) : wp_X8_found r Q := by
  refine k_found (c := c) hF h14 (fun y hy => ?_)
  rcases hy with ⟨g, g1, rfl, g3, g4⟩ | ⟨d1, d2⟩
  · rw [h3 g g1] at g4; cases g4
  · rw [d1]; exact h
def zenv (x1 x2 x3 x4 x5 : Int32) (k : Nat) : Int32 := [x1, x2, x3, x4, x5, 0, 0, 0, 0, 0, 0, -1, 0, 0].getD k 0
theorem zenter_o (c : Nat → Int32) (n a j : Nat) (x1 x2 x3 x4 x5 : Int32) (hn : n < 24) (hj : j < 24) (h : j ≠ n) : zenter c n x1 x2 x3 x4 x5 (a * 24 + j) = c (a * 24 + j) := by
  unfold zenter
  rw [pk_un (by omega), pk_un (by omega), pk_un (by omega), pk_un (by omega), pk_un (by omega), pk_un (by omega), pk_un (by omega), pk_un (by omega), pk_un (by omega)]
theorem zenter_0 (c : Nat → Int32) (n : Nat) (x1 x2 x3 x4 x5 : Int32) : zenter c n x1 x2 x3 x4 x5 (0 * 24 + n) = x1 := by
  unfold zenter
  rw [pk_un (by omega), pk_un (by omega), pk_un (by omega), pk_un (by omega), pk_un (by omega), pk_un (by omega), pk_un (by omega), pk_un (by omega), pk_us]
theorem zenter_1 (c : Nat → Int32) (n : Nat) (x1 x2 x3 x4 x5 : Int32) : zenter c n x1 x2 x3 x4 x5 (1 * 24 + n) = x2 := by
  unfold zenter
  rw [pk_un (by omega), pk_un (by omega), pk_un (by omega), pk_un (by omega), pk_un (by omega), pk_un (by omega), pk_un (by omega), pk_us]
theorem zenter_2 (c : Nat → Int32) (n : Nat) (x1 x2 x3 x4 x5 : Int32) : zenter c n x1 x2 x3 x4 x5 (2 * 24 + n) = x3 := by
  unfold zenter
  rw [pk_un (by omega), pk_un (by omega), pk_un (by omega), pk_un (by omega), pk_un (by omega), pk_un (by omega), pk_us]
theorem zenter_3 (c : Nat → Int32) (n : Nat) (x1 x2 x3 x4 x5 : Int32) : zenter c n x1 x2 x3 x4 x5 (3 * 24 + n) = x4 := by
  unfold zenter
  rw [pk_un (by omega), pk_un (by omega), pk_un (by omega), pk_un (by omega), pk_un (by omega), pk_us]
theorem zenter_4 (c : Nat → Int32) (n : Nat) (x1 x2 x3 x4 x5 : Int32) : zenter c n x1 x2 x3 x4 x5 (4 * 24 + n) = x5 := by
  unfold zenter
  rw [pk_un (by omega), pk_un (by omega), pk_un (by omega), pk_un (by omega), pk_us]
theorem zenter_5 (c : Nat → Int32) (n : Nat) (x1 x2 x3 x4 x5 : Int32) : zenter c n x1 x2 x3 x4 x5 (5 * 24 + n) = c (5 * 24 + n) := by
  unfold zenter
  rw [pk_un (by omega), pk_un (by omega), pk_un (by omega), pk_un (by omega), pk_un (by omega), pk_un (by omega), pk_un (by omega), pk_un (by omega), pk_un (by omega)]
theorem zenter_6 (c : Nat → Int32) (n : Nat) (x1 x2 x3 x4 x5 : Int32) : zenter c n x1 x2 x3 x4 x5 (6 * 24 + n) = c (6 * 24 + n) := by
  unfold zenter
  rw [pk_un (by omega), pk_un (by omega), pk_un (by omega), pk_un (by omega), pk_un (by omega), pk_un (by omega), pk_un (by omega), pk_un (by omega), pk_un (by omega)]
theorem zenter_7 (c : Nat → Int32) (n : Nat) (x1 x2 x3 x4 x5 : Int32) : zenter c n x1 x2 x3 x4 x5 (7 * 24 + n) = -1 := by
  unfold zenter
  rw [pk_un (by omega), pk_un (by omega), pk_un (by omega), pk_us]
theorem zenter_8 (c : Nat → Int32) (n : Nat) (x1 x2 x3 x4 x5 : Int32) : zenter c n x1 x2 x3 x4 x5 (8 * 24 + n) = c (8 * 24 + n) := by
  unfold zenter
  rw [pk_un (by omega), pk_un (by omega), pk_un (by omega), pk_un (by omega), pk_un (by omega), pk_un (by omega), pk_un (by omega), pk_un (by omega), pk_un (by omega)]
theorem zenter_9 (c : Nat → Int32) (n : Nat) (x1 x2 x3 x4 x5 : Int32) : zenter c n x1 x2 x3 x4 x5 (9 * 24 + n) = c (9 * 24 + n) := by
  unfold zenter
  rw [pk_un (by omega), pk_un (by omega), pk_un (by omega), pk_un (by omega), pk_un (by omega), pk_un (by omega), pk_un (by omega), pk_un (by omega), pk_un (by omega)]
theorem zenter_10 (c : Nat → Int32) (n : Nat) (x1 x2 x3 x4 x5 : Int32) : zenter c n x1 x2 x3 x4 x5 (10 * 24 + n) = c (10 * 24 + n) := by
  unfold zenter
  rw [pk_un (by omega), pk_un (by omega), pk_un (by omega), pk_un (by omega), pk_un (by omega), pk_un (by omega), pk_un (by omega), pk_un (by omega), pk_un (by omega)]
theorem zenter_11 (c : Nat → Int32) (n : Nat) (x1 x2 x3 x4 x5 : Int32) : zenter c n x1 x2 x3 x4 x5 (11 * 24 + n) = c (11 * 24 + n) := by
  unfold zenter
  rw [pk_un (by omega), pk_un (by omega), pk_un (by omega), pk_un (by omega), pk_un (by omega), pk_un (by omega), pk_un (by omega), pk_un (by omega), pk_un (by omega)]
theorem zenter_12 (c : Nat → Int32) (n : Nat) (x1 x2 x3 x4 x5 : Int32) : zenter c n x1 x2 x3 x4 x5 (12 * 24 + n) = c (12 * 24 + n) := by
  unfold zenter
  rw [pk_un (by omega), pk_un (by omega), pk_un (by omega), pk_un (by omega), pk_un (by omega), pk_un (by omega), pk_un (by omega), pk_un (by omega), pk_un (by omega)]
theorem zenter_13 (c : Nat → Int32) (n : Nat) (x1 x2 x3 x4 x5 : Int32) : zenter c n x1 x2 x3 x4 x5 (13 * 24 + n) = -1 := by
  unfold zenter
  rw [pk_un (by omega), pk_un (by omega), pk_us]
theorem zenter_14 (c : Nat → Int32) (n : Nat) (x1 x2 x3 x4 x5 : Int32) : zenter c n x1 x2 x3 x4 x5 (14 * 24 + n) = -1 := by
  unfold zenter
  rw [pk_un (by omega), pk_us]
theorem zenter_15 (c : Nat → Int32) (n : Nat) (x1 x2 x3 x4 x5 : Int32) : zenter c n x1 x2 x3 x4 x5 (15 * 24 + n) = c (15 * 24 + n) := by
  unfold zenter
  rw [pk_un (by omega), pk_un (by omega), pk_un (by omega), pk_un (by omega), pk_un (by omega), pk_un (by omega), pk_un (by omega), pk_un (by omega), pk_un (by omega)]
theorem zenter_16 (c : Nat → Int32) (n : Nat) (x1 x2 x3 x4 x5 : Int32) : zenter c n x1 x2 x3 x4 x5 (16 * 24 + n) = c (16 * 24 + n) := by
  unfold zenter
  rw [pk_un (by omega), pk_un (by omega), pk_un (by omega), pk_un (by omega), pk_un (by omega), pk_un (by omega), pk_un (by omega), pk_un (by omega), pk_un (by omega)]
theorem zenter_17 (c : Nat → Int32) (n : Nat) (x1 x2 x3 x4 x5 : Int32) : zenter c n x1 x2 x3 x4 x5 (17 * 24 + n) = -1 := by
  unfold zenter
  rw [pk_us]
theorem zenter_18 (c : Nat → Int32) (n : Nat) (x1 x2 x3 x4 x5 : Int32) : zenter c n x1 x2 x3 x4 x5 (18 * 24 + n) = c (18 * 24 + n) := by
  unfold zenter
  rw [pk_un (by omega), pk_un (by omega), pk_un (by omega), pk_un (by omega), pk_un (by omega), pk_un (by omega), pk_un (by omega), pk_un (by omega), pk_un (by omega)]
theorem zenter_19 (c : Nat → Int32) (n : Nat) (x1 x2 x3 x4 x5 : Int32) : zenter c n x1 x2 x3 x4 x5 (19 * 24 + n) = c (19 * 24 + n) := by
  unfold zenter
  rw [pk_un (by omega), pk_un (by omega), pk_un (by omega), pk_un (by omega), pk_un (by omega), pk_un (by omega), pk_un (by omega), pk_un (by omega), pk_un (by omega)]
theorem zct_0 {p : Nat → Bool} : ∀ {n : Nat}, (∀ i, i < n → p i = false) → zct p n = 0
  | 0, _ => rfl
  | n + 1, h => by
    rw [zct_s, zct_0 (fun i hi => h i (by omega)), h n (by omega)]
    rfl
theorem zenter_env {c : Nat → Int32} {n : Nat} (x1 x2 x3 x4 x5 : Int32) (f8 : ∀ k, k < 20 → c (k * 24 + n) = 0) : ∀ k, k < 14 → zenter c n x1 x2 x3 x4 x5 (zrow k * 24 + n) = zenv x1 x2 x3 x4 x5 k := by
  intro k hk
  match k, hk with
  | 0, _ => exact zenter_0 c n x1 x2 x3 x4 x5
  | 1, _ => exact zenter_1 c n x1 x2 x3 x4 x5
  | 2, _ => exact zenter_2 c n x1 x2 x3 x4 x5
  | 3, _ => exact zenter_3 c n x1 x2 x3 x4 x5
  | 4, _ => exact zenter_4 c n x1 x2 x3 x4 x5
  | 5, _ => exact (zenter_9 c n x1 x2 x3 x4 x5).trans (f8 9 (by omega))
  | 6, _ => exact (zenter_10 c n x1 x2 x3 x4 x5).trans (f8 10 (by omega))
  | 7, _ => exact (zenter_11 c n x1 x2 x3 x4 x5).trans (f8 11 (by omega))
  | 8, _ => exact (zenter_12 c n x1 x2 x3 x4 x5).trans (f8 12 (by omega))
  | 9, _ => exact (zenter_15 c n x1 x2 x3 x4 x5).trans (f8 15 (by omega))
  | 10, _ => exact (zenter_16 c n x1 x2 x3 x4 x5).trans (f8 16 (by omega))
  | 11, _ => exact zenter_17 c n x1 x2 x3 x4 x5
  | 12, _ => exact (zenter_18 c n x1 x2 x3 x4 x5).trans (f8 18 (by omega))
  | 13, _ => exact (zenter_19 c n x1 x2 x3 x4 x5).trans (f8 19 (by omega))
theorem Sim.enter {cs : Nat → RS} {R R3 : Nat → Int32} {S : Nat → Int64} {n : Nat} {w : RS} {x1 x2 x3 x4 x5 : Int32} (h : Sim cs R S) (h0 : (cs 2).1 0 0 = nI n) (h24 : n < 24) (hz : zflds x1 x2 x3 x4 x5) (e4 : R3 4 = nI (n + 1)) (eo : ∀ j, j ≠ 4 → (j < 73 + 15 * n ∨ 73 + 15 * n + 15 ≤ j) → R3 j = R j) (ek : ∀ k, k < 14 → R3 (73 + 15 * n + k) = zenv x1 x2 x3 x4 x5 k) (eh : R3 (73 + 15 * n + 14) = zhr R3 n) (w0 : w.1 0 0 = nI (n + 1)) (w1 : w.1 1 = zenter ((cs 2).1 1) n x1 x2 x3 x4 x5) : Sim (va_up cs 2 w) R3 S := by
  obtain ⟨n', nr, m, h0', hK, hF, hR, hT, hQ, hW, hG, hN, hO, hA⟩ := h
  have en : n' = n := (nI_eq (by have := hF.2.1; omega) (by omega)).mp (h0'.symm.trans h0)
  subst en
  obtain ⟨f1, f2, f3, f4, f5, f6, f7, f8⟩ := hF
  have f8' : ∀ k, k < 20 → (cs 2).1 1 (k * 24 + n') = 0 := fun k hk => f8 n' k (Nat.le_refl _) h24 hk
  have co : ∀ a j, j < 24 → j ≠ n' → w.1 1 (a * 24 + j) = (cs 2).1 1 (a * 24 + j) := fun a j hj hne => by rw [w1]; exact zenter_o _ _ _ _ _ _ _ _ _ h24 hj hne
  have cn : ∀ k, k < 14 → w.1 1 (zrow k * 24 + n') = zenv x1 x2 x3 x4 x5 k := fun k hk => by rw [w1]; exact zenter_env x1 x2 x3 x4 x5 f8' k hk
  have c13 : w.1 1 (13 * 24 + n') = -1 := by rw [w1]; exact zenter_13 _ _ _ _ _ _ _
  have c14 : w.1 1 (14 * 24 + n') = -1 := by rw [w1]; exact zenter_14 _ _ _ _ _ _ _
  have c7 : w.1 1 (7 * 24 + n') = -1 := by rw [w1]; exact zenter_7 _ _ _ _ _ _ _
  have c8 : w.1 1 (8 * 24 + n') = 0 := by rw [w1]; exact (zenter_8 _ _ _ _ _ _ _).trans (f8' 8 (by omega))
  have zn' : zhasR (w.1 1) n' = false := by unfold zhasR; rw [c13]; rfl
  have zo : ∀ f, f < n' → zhasR (w.1 1) f = zhasR ((cs 2).1 1) f := fun f hf => by unfold zhasR; rw [co 13 f (by omega) (by omega)]
  refine ⟨n' + 1, nr, m, ?_, ?_, ?_, ?_, ?_, ?_, ?_, ?_, ?_, ?_, ?_⟩
  · rw [vu_s]; exact w0
  · rw [vu_n _ _ (by decide)]; exact hK.fr (fun i hi => eo i (by omega) (by omega))
  · rw [vu_s]
    refine ⟨e4, h24, fun j k hj hk => ?_, fun j k hj hk => ?_, fun j hj => ?_, fun j hj => ?_, fun j hj => ?_, fun j k g1 g2 g3 => ?_⟩
    · by_cases e : j = n'
      · rw [e, cn k hk, ek k hk]
      · rw [co _ j (by omega) e, eo _ (by omega) (by omega)]; exact f3 j k (by omega) hk
    · by_cases e : j = n'
      · rw [e, ek k (by omega)]
        obtain ⟨b1, b2, b3, b4, b5⟩ := hz
        match k, hk with
        | 0, _ => exact ⟨b1, fun z => absurd z (by decide)⟩
        | 1, _ => exact ⟨b2, fun z => absurd z (by decide)⟩
        | 2, _ => exact ⟨b3, fun z => absurd z (by decide)⟩
        | 3, _ => exact ⟨b4, fun z => absurd z (by decide)⟩
        | 4, _ => exact ⟨b5.elim (fun e => ⟨0, by omega, e⟩) (fun e => ⟨1, by omega, e⟩), fun _ => b5⟩
      · rw [eo _ (by omega) (by omega)]; exact f4 j k (by omega) hk
    · by_cases e : j = n'
      · rw [e, ek 5 (by omega)]; exact ⟨0, by omega, rfl⟩
      · rw [eo _ (by omega) (by omega)]; exact f5 j (by omega)
    · by_cases e : j = n'
      · rw [e, ek 11 (by omega)]; exact Or.inl rfl
      · rw [eo _ (by omega) (by omega)]; exact f6 j (by omega)
    · by_cases e : j = n'
      · rw [e]; exact eh
      · rw [eo (73 + 15 * j + 14) (by omega) (by omega), f7 j (by omega), eo 0 (by omega) (by omega), eo 1 (by omega) (by omega), eo 2 (by omega) (by omega), eo 3 (by omega) (by omega), eo (73 + 15 * j + 0) (by omega) (by omega), eo (73 + 15 * j + 1) (by omega) (by omega), eo (73 + 15 * j + 2) (by omega) (by omega), eo (73 + 15 * j + 3) (by omega) (by omega), eo (73 + 15 * j + 4) (by omega) (by omega)]
    · rw [co k j g2 (by omega)]; exact f8 j k (by omega) g2 g3
  · rw [vu_s]
    obtain ⟨⟨r1, r2, r3, r4, r5, r6⟩, r7, r8⟩ := hR
    refine ⟨⟨r1, by rw [eo _ (by omega) (by omega)]; exact r2, ?_, fun r hr => ?_, fun f hf hb => ?_, fun r t h1 h2 => by rw [eo _ (by omega) (by omega), eo _ (by omega) (by omega)]; exact r6 r t h1 h2⟩, fun r hr => by rw [eo _ (by omega) (by omega)]; exact r7 r hr, fun f hf hb => ?_⟩
    · rw [zct_s, zn', zct_eq zo]; simpa using r3
    · obtain ⟨f, g1, g2, g3, g4, g5⟩ := r4 r hr
      rw [eo _ (by omega) (by omega), eo _ (by omega) (by omega), eo _ (by omega) (by omega)]
      exact ⟨f, by omega, g2, by rw [zo f g1]; exact g3, by rw [co 13 f (by omega) (by omega)]; exact g4, by rw [co 14 f (by omega) (by omega)]; exact g5⟩
    · by_cases e : f = n'
      · rw [e, zn'] at hb; cases hb
      · rw [zo f (by omega)] at hb
        obtain ⟨r, q1, q2⟩ := r5 f (by omega) hb
        exact ⟨r, q1, by rw [eo _ (by omega) (by omega)]; exact q2⟩
    · by_cases e : f = n'
      · rw [e]; exact c14
      · rw [co 14 f (by omega) e]
        exact r8 f (by omega) (by rw [← zo f (by omega)]; exact hb)
  · rw [vu_n _ _ (by decide)]; exact hT.fr (fun i hi => eo i (by omega) (by omega))
  · intro p hp
    rw [vu_n _ _ (by omega)]
    obtain ⟨q1, q2, q3, q4, q5, q6⟩ := (hQ p hp).fr (R1 := R3) (fun i hi => eo i (by omega) (by omega))
    exact ⟨q1, q2, q3, q4, fun i hi => by obtain ⟨f, g1, g2⟩ := q5 i hi; exact ⟨f, by omega, g2⟩, q6⟩
  · rw [vu_s]
    have hW' := hW.fr (R1 := R3) (fun p hp => (hQ p hp).1) (fun i hi => eo i (by omega) (by omega))
    intro f hf
    by_cases e : f = n'
    · have z : ∀ q, q < 4 → zcq R3 (m q) q f = 0 := by
        intro q hq
        refine zct_0 (fun i hi => ?_)
        obtain ⟨q1, q2, q3, q4, q5, q6⟩ := hQ q hq
        obtain ⟨g, g1, g2⟩ := q5 i hi
        rw [eo _ (by omega) (by omega), g2, e]
        simp only [beq_eq_false_iff_ne, ne_eq]
        intro z
        have := (nI_eq (by omega) (by omega)).mp z
        omega
      rw [z 0 (by omega), z 1 (by omega), z 2 (by omega), z 3 (by omega), e, c8, c7]
      exact ⟨rfl, Or.inl ⟨rfl, fun q hq => by rw [← e]; exact z q hq⟩⟩
    · rw [co 8 f (by omega) e, co 7 f (by omega) e]
      exact hW' f (by omega)
  · rw [vu_n _ _ (by decide)]; exact hG.fr (fun i hi => eo i (by omega) (by omega))
  · rw [vu_n _ _ (by decide)]; exact hN
  · rw [vu_n _ _ (by decide)]; exact hO.fr (fun i hi => eo i (by omega) (by omega))
  · rw [vu_s]
    obtain ⟨a1, a2, a3, a4, a5⟩ := hA.fr (R1 := R3) (fun i hi => eo i (by omega) (by omega))
    have ext : ∀ a, a < 20 → w.1 1 (a * 24 + n') = 0 → zsum (fun f => (cs 2).1 1 (a * 24 + f)) n' = zsum (fun f => w.1 1 (a * 24 + f)) (n' + 1) := by
      intro a ha hz0
      show _ = zsum (fun f => w.1 1 (a * 24 + f)) n' + w.1 1 (a * 24 + n')
      rw [hz0, Int32.add_zero]
      exact zsum_eq (fun i hi => (co a i (by omega) (by omega)).symm)
    exact ⟨a1.trans (ext 10 (by omega) (cn 6 (by omega))), a2.trans (ext 11 (by omega) (cn 7 (by omega))), a3.trans (ext 12 (by omega) (cn 8 (by omega))), a4.trans (ext 18 (by omega) (cn 12 (by omega))), a5⟩
def zblk (R g : Nat → Int32) (n i : Nat) : Nat → Int32 := fun j => if 73 + 15 * n ≤ j ∧ j < 73 + 15 * n + i then (if j - (73 + 15 * n) < 5 then g (j - (73 + 15 * n)) else 0) else R j
theorem zblk_s (R g : Nat → Int32) (n i : Nat) : upd (zblk R g n i) (73 + 15 * n + i) (if i < 5 then g i else 0) = zblk R g n (i + 1) := by
  funext j
  by_cases e : j = 73 + 15 * n + i
  · subst e
    rw [pk_us]
    unfold zblk
    rw [if_pos (show 73 + 15 * n ≤ 73 + 15 * n + i ∧ 73 + 15 * n + i < 73 + 15 * n + (i + 1) by omega), show 73 + 15 * n + i - (73 + 15 * n) = i by omega]
  · rw [pk_un e]
    unfold zblk
    by_cases q : 73 + 15 * n ≤ j ∧ j < 73 + 15 * n + i
    · rw [if_pos q, if_pos (show 73 + 15 * n ≤ j ∧ j < 73 + 15 * n + (i + 1) by omega)]
    · rw [if_neg q, if_neg (show ¬ (73 + 15 * n ≤ j ∧ j < 73 + 15 * n + (i + 1)) by omega)]
theorem zblk_0 (R g : Nat → Int32) (n : Nat) : zblk R g n 0 = R := by
  funext j
  unfold zblk
  rw [if_neg (by omega)]
theorem k_refuse14 {B : Nat} {u : TS} {r : RS} {g : Nat → Int32} {x : Int32} (h : wp_X8_refuse r x (fun y r1 => x = y ∧ Rel B u r1)) : wp_X8_refuse (rI r 14 g) x (fun y r1 => x = y ∧ Rel B u r1) := by
  unfold wp_X8_refuse at h ⊢
  intro r1 e1
  obtain ⟨i1, i2, k⟩ := h (rN r 1 x) rfl
  refine ⟨i1, i2, fun r2 e2 => ?_⟩
  obtain ⟨q1, q2⟩ := k _ rfl
  refine ⟨q1, ?_⟩
  have e3 : r2 = rI (rI (rN r 1 x) 2 (upd ((rN r 1 x).1 2) (zn (-x)) ((rN r 1 x).1 2 (zn (-x)) + 1))) 14 g := by
    rw [e2, e1]
    refine Prod.ext (funext (fun j => ?_)) rfl
    by_cases z2 : j = 2
    · subst z2
      rw [rI_s, rI_n _ _ (by decide), rI_s, rN_n _ _ (by decide), rI_n _ _ (by decide), rN_n _ _ (by decide)]
    · rw [rI_n _ _ z2]
      by_cases z14 : j = 14
      · subst z14
        rw [rN_n _ _ (by decide), rI_s, rI_s]
      · rw [rI_n _ _ z14, rI_n _ _ z2]
        by_cases z1 : j = 1
        · subst z1
          funext i
          rw [rN_s, rN_s]
        · rw [rN_n _ _ z1, rI_n _ _ z14, rN_n _ _ z1]
  rw [e3]
  exact Rel_14 q2
theorem p_flow {B : Nat} : pX_flow (Rel B) (Rel (B + 30000)) := by
  intro u r x1 x2 x3 x4 x5 h
  replace h := h.up 30000
  have h0 : Rel0 (B + 30000) u (rN r 0 0) := h.2
  have hs : Sim u.2.2.1 (r.1 3) (r.2 4) := h.2.2.1.1
  have hs2 := hs
  obtain ⟨n, nr, m, hn, hK, hF, -⟩ := hs2
  have h24 : n ≤ 24 := hF.2.1
  have hz14 : ∀ (g : Nat → Int32), ∀ k, k < 5 → (rI (rN r 0 0) 14 (zfl g x1 x2 x3 x4 x5)).1 14 k = zfl (fun _ => 0) x1 x2 x3 x4 x5 k := fun g k hk => by rw [rI_s]; exact zfl_5 _ _ _ _ _ _ k hk
  unfold wp_X7_flow
  refine q7_areFields (fun hz => ⟨fun _ => ?_, fun z => absurd z (by decide)⟩) (fun hz => ⟨fun z => absurd rfl z, fun _ => ?_⟩)
  · refine q0_numberOf n hn h24 (fun f hf h3 h4 u1 e1 => ⟨fun z => absurd z (nI_nm1 (by omega)), fun _ u2 e2 => ?_⟩) (fun h3 u1 e1 => ⟨fun _ => ⟨fun hc => ?_, fun hc => ?_⟩, fun z => absurd rfl z⟩)
    · rw [tN_id] at e1
      subst e1
      unfold wp_X8_flow
      intro r1 f1
      subst f1
      refine q8_takeFields (fun _ => ⟨fun _ => ?_, fun z => absurd z (by decide)⟩) (fun hno => absurd hz hno)
      refine k_found_y (c := (u1.2.2.1 2).1 1) (n := n) hF (hz14 _) hf h3 h4 ⟨fun z => absurd z (nI_nm1 (by omega)), fun _ => ?_⟩
      refine k_found_y (c := (u1.2.2.1 2).1 1) (n := n) hF (hz14 _) hf h3 h4 ?_
      unfold wp_X8_tell
      intro r2 d2
      refine ⟨rfl, ?_, ?_⟩
      · rw [e2, d2, rN_s]
        show (rN u1.1 4 0).1 4 0 = 0
        rw [rN_s]
      · rw [e2, d2]
        exact h.2
    · rw [tN_id] at e1
      subst e1
      have hlt : n < 24 := by
        rw [hn] at hc
        exact (nI_ltI (by omega) (by decide)).mp (show nI n < nI 24 from hc)
      have h0' : Rel0 (B + 30000) u1 (rI (rN r 0 0) 14 (zfl ((rN r 0 0).1 14) x1 x2 x3 x4 x5)) := h.2
      refine q7_begin h0' (fun u2 l1 n1 o1 hrem => ?_)
      rw [n1]
      refine q0_enter n hn hlt (fun w w0 w1 u3 e3 => ?_)
      unfold wp_X8_flow
      intro r1 f1
      subst f1
      refine q8_takeFields (fun _ => ⟨fun _ => ?_, fun z => absurd z (by decide)⟩) (fun hno => absurd hz hno)
      refine k_found_n (c := (u1.2.2.1 2).1 1) (n := n) hF (hz14 _) h3 ⟨fun _ y ey => ?_, fun z => absurd rfl z⟩
      have ey : y = nI n := ey.trans hF.1
      subst ey
      refine ⟨fun _ => ?_, fun z => absurd ((nI_eq (by omega) (by decide)).mp (show nI n = nI 24 from z)) (by omega)⟩
      refine q8_rem h0' (fun mm v m1 m2 hzr => q8_flowAt n rfl ?_)
      have v3 : v.1 3 = r.1 3 := hzr.row.1
      have v4 : v.2 4 = r.2 4 := hzr.row.2
      have v14 : ∀ k, k < 5 → v.1 14 k = zfl (fun _ => 0) x1 x2 x3 x4 x5 k := by
        intro k hk
        obtain ⟨p, d, -, z1, -⟩ := hzr
        rw [z1 14 (by decide) (by decide) (by decide)]
        exact hz14 _ k hk
      refine zl4 (wp_X8_flow_79 _) 15 (fun i a y1 y2 y3 => a = rI v 3 (zblk (r.1 3) (v.1 14) n i) ∧ y1 = nI n ∧ y2 = nI (73 + 15 * n) ∧ y3 = nI i) ?_ 0 (Nat.zero_le _) v _ _ 0 ⟨by rw [zblk_0, ← v3, rI_id], rfl, rfl, rfl⟩
      rintro i A a y1 y2 y3 hi ⟨rfl, rfl, rfl, rfl⟩ hA
      unfold wp_X8_flow_79 wp_X8_flow_112
      refine ⟨fun hc2 => ?_, fun hc2 => ?_⟩
      · have hi := nI_stop (N := 15) (by decide) hi hc2
        subst hi
        rw [nI_addl, zn_nI (by omega)]
        refine ⟨in_nI (by omega) (by decide), fun a1 d1 a2 d2 => ?_⟩
        have a13 : a1.1 3 = upd (zblk (r.1 3) (v.1 14) n 15) (73 + 15 * n + 11) (-1) := by rw [d1, rI_s, rI_s]
        have a14 : a1.1 3 4 = nI n := by
          rw [a13, pk_un (by omega)]
          unfold zblk
          rw [if_neg (by omega)]
          exact hF.1
        have a23 : a2.1 3 = upd (upd (zblk (r.1 3) (v.1 14) n 15) (73 + 15 * n + 11) (-1)) 4 (nI (n + 1)) := by rw [d2, rI_s, a14, a13, nI_1]
        have af : ∀ k, k ≠ 3 → a2.1 k = v.1 k := fun k hk => by rw [d2, rI_n _ _ hk, d1, rI_n _ _ hk, rI_n _ _ hk]
        have a22 : a2.2 = v.2 := by rw [d2, d1]; rfl
        have bin : ∀ k, k < 14 → a2.1 3 (73 + 15 * n + k) = zenv x1 x2 x3 x4 x5 k := by
          intro k hk
          rw [a23, pk_un (by omega)]
          by_cases e : k = 11
          · subst e; rw [pk_us]; rfl
          · rw [pk_un (by omega)]
            unfold zblk
            rw [if_pos (by omega), show 73 + 15 * n + k - (73 + 15 * n) = k by omega]
            match k, hk, e with
            | 0, _, _ => rw [if_pos (by omega), v14 0 (by omega)]; rfl
            | 1, _, _ => rw [if_pos (by omega), v14 1 (by omega)]; rfl
            | 2, _, _ => rw [if_pos (by omega), v14 2 (by omega)]; rfl
            | 3, _, _ => rw [if_pos (by omega), v14 3 (by omega)]; rfl
            | 4, _, _ => rw [if_pos (by omega), v14 4 (by omega)]; rfl
            | 5, _, _ => rfl
            | 6, _, _ => rfl
            | 7, _, _ => rfl
            | 8, _, _ => rfl
            | 9, _, _ => rfl
            | 10, _, _ => rfl
            | 11, _, e => exact absurd rfl e
            | 12, _, _ => rfl
            | 13, _, _ => rfl
        have bout : ∀ j, j ≠ 4 → (j < 73 + 15 * n ∨ 73 + 15 * n + 15 ≤ j) → a2.1 3 j = r.1 3 j := by
          intro j j4 hj
          rw [a23, pk_un j4, pk_un (by omega)]
          unfold zblk
          rw [if_neg (by omega)]
        refine q8_layHash n rfl hlt (fun k hk => ?_) (fun g => ?_)
        · rw [bin k (by omega)]
          obtain ⟨b1, b2, b3, b4, b5⟩ := hz
          match k, hk with
          | 0, _ => exact b1
          | 1, _ => exact b2
          | 2, _ => exact b3
          | 3, _ => exact b4
          | 4, _ => exact b5.elim (fun e => ⟨0, by omega, e⟩) (fun e => ⟨1, by omega, e⟩)
        · unfold wp_X8_tell
          intro r3 d3
          have r33 : r3.1 3 = upd (a2.1 3) (73 + 15 * n + 14) (zhr (a2.1 3) n) := by rw [d3, rN_n _ _ (by decide), rI_s]
          refine ⟨rfl, k_end (hrem mm v m1 m2 hzr) l1 e3 (by rw [d3, rN_s]) (fun j hj => ?_) (fun j hj => by rw [d3, rN_2, rI_2, rI_2, a22]) ?_⟩
          · rw [d3, rN_n _ _ (by omega), rI_n _ _ (by omega), rI_n _ _ (by omega), af j (by omega)]
          · have r34 : r3.2 4 = r.2 4 := by rw [d3, rN_2, rI_2, rI_2, a22]; exact v4
            have hh : zhr (r3.1 3) n = zhr (a2.1 3) n := by
              rw [r33]
              unfold zhr
              rw [pk_un (by omega), pk_un (by omega), pk_un (by omega), pk_un (by omega), pk_un (by omega), pk_un (by omega), pk_un (by omega), pk_un (by omega), pk_un (by omega)]
            rw [r34]
            refine ⟨hs.enter hn hlt hz ?_ (fun j j4 hj => ?_) (fun k hk => ?_) ?_ w0 w1, h.2.2.1.2.fr (fun i hi => ?_) (fun _ _ => rfl)⟩
            · rw [r33, pk_un (by omega), a23, pk_us]
            · rw [r33, pk_un (by omega)]; exact bout j j4 hj
            · rw [r33, pk_un (by omega)]; exact bin k hk
            · rw [hh, r33, pk_us]
            · rw [r33, pk_un (by omega)]; exact bout i (by omega) (by omega)
      · have hlt2 := nI_go (N := 15) (by decide) hi hc2
        have go : ∀ t : Int32, t = (if i < 5 then v.1 14 i else 0) → vp_in (nI (73 + 15 * n) + nI i) 1065 ∧ ∀ u121 : RS, u121 = rI (rI v 3 (zblk (r.1 3) (v.1 14) n i)) 3 (upd ((rI v 3 (zblk (r.1 3) (v.1 14) n i)).1 3) (zn (nI (73 + 15 * n) + nI i)) t) → ∀ x122 : Int32, x122 = nI i + 1 → A u121 (nI n) (nI (73 + 15 * n)) x122 := by
          intro t et
          rw [nI_add, zn_nI (by omega)]
          refine ⟨in_nI (by omega) (by decide), fun a1 d1 z ez => hA _ _ _ _ hlt2 ⟨?_, rfl, rfl, by rw [ez, nI_1]⟩⟩
          rw [d1, rI_rI, rI_s, et, zblk_s]
        refine ⟨fun c5 => go 0 ?_, fun c5 => ⟨?_, go _ ?_⟩⟩
        · have : 5 ≤ i := (nI_leI (by omega) (by omega)).mp (show nI 5 ≤ nI i from c5)
          rw [if_neg (by omega)]
        · have : i < 5 := by
            rcases Nat.lt_or_ge i 5 with q | q
            · exact q
            · exact absurd (show nI 5 ≤ nI i from nI_le q (by omega)) c5
          exact in_nI this (by decide)
        · have : i < 5 := by
            rcases Nat.lt_or_ge i 5 with q | q
            · exact q
            · exact absurd (show nI 5 ≤ nI i from nI_le q (by omega)) c5
          rw [if_pos this, zn_nI (by omega)]; rfl
    · rw [tN_id] at e1
      subst e1
      have h24' : n = 24 := by
        rw [hn] at hc
        rcases Nat.lt_or_ge n 24 with q | q
        · exact absurd (show nI n < nI 24 from nI_lt q (by decide)) hc
        · omega
      refine k_refuse 5 (-5) (by decide) (by decide) h0 (fun u2 hu => ?_)
      unfold wp_X8_flow
      intro r1 f1
      subst f1
      refine q8_takeFields (fun _ => ⟨fun _ => ?_, fun z => absurd z (by decide)⟩) (fun hno => absurd hz hno)
      refine k_found_n (c := (u1.2.2.1 2).1 1) (n := n) hF (hz14 _) h3 ⟨fun _ y ey => ?_, fun z => absurd rfl z⟩
      have ey : y = nI n := ey.trans hF.1
      subst ey
      refine ⟨fun z => absurd (by rw [h24']; rfl) z, fun _ => ?_⟩
      exact k_refuse14 (hu _ (fun r2 hr => ⟨rfl, hr⟩))
  · refine k_refuse 1 (-1) (by decide) (by decide) h0 (fun u2 hu => ?_)
    unfold wp_X8_flow
    intro r1 f1
    subst f1
    refine q8_takeFields (fun hy => absurd hy hz) (fun _ => ⟨fun z => absurd rfl z, fun _ => ?_⟩)
    exact k_refuse14 (hu _ (fun r2 hr => ⟨rfl, hr⟩))
