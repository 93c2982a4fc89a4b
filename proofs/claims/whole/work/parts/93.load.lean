-- the pure side: load
theorem zhs_eq {T H T1 H1 : Nat → Int32} {x : Int32} (hT : ∀ e, e < 16 → T e = T1 e) (hH : ∀ e, e < 16 → H e = H1 e) : ∀ i, i ≤ 16 → zhs T H x i = zhs T1 H1 x i
  | 0, _ => rfl
  | i + 1, hi => by
    show zhs T H x i + (if T i = x then H i else 0) = zhs T1 H1 x i + (if T1 i = x then H1 i else 0)
    rw [zhs_eq hT hH i (by omega), hT i (by omega), hH i (by omega)]
theorem zhs_nn {T H : Nat → Int32} {x : Int32} {B : Nat} (hH : ∀ e, e < 16 → ∃ y, y ≤ B ∧ H e = nI y) : ∀ i, i ≤ 16 → ∃ y, y ≤ i * B ∧ zhs T H x i = nI y
  | 0, _ => ⟨0, by omega, rfl⟩
  | i + 1, hi => by
    obtain ⟨y, y1, y2⟩ := zhs_nn hH (T := T) (x := x) i (by omega)
    obtain ⟨z, z1, z2⟩ := hH i (by omega)
    have e : (i + 1) * B = i * B + B := by rw [Nat.add_mul, Nat.one_mul]
    show ∃ y, y ≤ (i + 1) * B ∧ zhs T H x i + (if T i = x then H i else 0) = nI y
    rw [y2, z2]
    by_cases c : T i = x
    · rw [if_pos c, nI_add]; exact ⟨y + z, by omega, rfl⟩
    · rw [if_neg c]; exact ⟨y, by omega, Int32.add_zero _⟩
theorem q8_hitsOf {u : RS} {x : Int32} {Q : Int32 → RS → Prop} (h : Q (zhs (fun e => u.1 3 (23 + e)) (fun e => u.1 3 (39 + e)) x 16) u) : wp_X8_hitsOf u x Q := by
  unfold wp_X8_hitsOf
  refine zl4 (wp_X8_hitsOf_4 Q) 16 (fun i v y1 y2 y3 => v = u ∧ y1 = x ∧ y2 = zhs (fun e => u.1 3 (23 + e)) (fun e => u.1 3 (39 + e)) x i ∧ y3 = nI i) ?_ 0 (Nat.zero_le _) u _ 0 0 ⟨rfl, rfl, rfl, rfl⟩
  rintro i C v y1 y2 y3 hi ⟨rfl, rfl, rfl, rfl⟩ hC
  unfold wp_X8_hitsOf_4 wp_X8_hitsOf_37
  refine ⟨fun c => ?_, fun c => ?_⟩
  · have hi := nI_stop (N := 16) (by decide) hi c
    subst hi
    exact h
  · have hlt := nI_go (N := 16) (by decide) hi c
    rw [nI_ladd, nI_ladd, zn_nI (by omega), zn_nI (by omega)]
    have sl : zhs (fun e => v.1 3 (23 + e)) (fun e => v.1 3 (39 + e)) y1 (i + 1) = zhs (fun e => v.1 3 (23 + e)) (fun e => v.1 3 (39 + e)) y1 i + (if v.1 3 (23 + i) = y1 then v.1 3 (39 + i) else 0) := rfl
    exact ⟨in_nI (by omega) (by decide), fun c1 a ea b eb => hC _ _ _ _ hlt ⟨rfl, rfl, by rw [sl, if_neg c1, ea], by rw [eb, nI_1]⟩, fun c1 => ⟨in_nI (by omega) (by decide), fun a ea b eb => hC _ _ _ _ hlt ⟨rfl, rfl, by rw [sl, if_pos c1, ea], by rw [eb, nI_1]⟩⟩⟩
def zgr (s : Nat → Int32) : Nat → Int32
  | 0 => 0
  | i + 1 => if s i ≤ zgr s i then zgr s i else s i
theorem q8_greatest {u : RS} {Q : Int32 → RS → Prop} (h : Q (zgr (fun p => zhs (fun e => u.1 3 (23 + e)) (fun e => u.1 3 (39 + e)) (nI p) 16) 4) u) : wp_X8_greatestHits u Q := by
  unfold wp_X8_greatestHits
  refine zl3 (wp_X8_greatestHits_4 Q) 4 (fun i v y1 y2 => v = u ∧ y1 = zgr (fun p => zhs (fun e => u.1 3 (23 + e)) (fun e => u.1 3 (39 + e)) (nI p) 16) i ∧ y2 = nI i) ?_ 0 (Nat.zero_le _) u 0 0 ⟨rfl, rfl, rfl⟩
  rintro i C v y1 y2 hi ⟨rfl, rfl, rfl⟩ hC
  unfold wp_X8_greatestHits_4 wp_X8_greatestHits_27
  refine ⟨fun c => ?_, fun c => q8_hitsOf ?_⟩
  · have hi := nI_stop (N := 4) (by decide) hi c
    subst hi
    exact h
  · have hlt := nI_go (N := 4) (by decide) hi c
    obtain ⟨s, es⟩ : ∃ s, s = (fun p => zhs (fun e => v.1 3 (23 + e)) (fun e => v.1 3 (39 + e)) (nI p) 16) := ⟨_, rfl⟩
    have si : zhs (fun e => v.1 3 (23 + e)) (fun e => v.1 3 (39 + e)) (nI i) 16 = s i := by rw [es]
    rw [← es] at hC ⊢
    rw [si]
    have sl : zgr s (i + 1) = if s i ≤ zgr s i then zgr s i else s i := rfl
    refine ⟨fun c1 a ea => hC _ _ _ hlt ⟨rfl, by rw [sl, if_pos c1], by rw [ea, nI_1]⟩, fun c1 => q8_hitsOf (fun a ea => hC _ _ _ hlt ⟨rfl, by rw [sl, if_neg c1]; exact si, by rw [ea, nI_1]⟩)⟩
theorem zgr_1 {s : Nat → Int32} {y : Nat} (hy : y < 2147483648) (h : s 0 = nI y) : zgr s 1 = s 0 := by
  show (if s 0 ≤ 0 then 0 else s 0) = s 0
  by_cases c : s 0 ≤ 0
  · rw [if_pos c]
    rw [h] at c ⊢
    rw [(nI_le0 hy).mp c]
    rfl
  · rw [if_neg c]
theorem q6_most {u : RS} {Q : Int32 → RS → Prop} {T H : Nat → Int32} {B : Nat} (hB : 16 * B < 2147483648) (hT : ∀ e, e < 16 → u.1 0 e = T e) (hr : ∀ e, e < 16 → ∃ q, q < 4 ∧ T e = nI q) (hH : ∀ e, e < 16 → u.1 1 e = H e) (hb : ∀ e, e < 16 → ∃ y, y ≤ B ∧ H e = nI y) (h : ∀ w : RS, (∀ k, k ≠ 3 → w.1 k = u.1 k) → Q (zgr (fun p => zhs T H (nI p) 16) 4) w) : wp_X6_mostHits u Q := by
  unfold wp_X6_mostHits
  refine q6_sumHits (fun e he => by rw [hT e he]; exact hr e he) (fun w a b x ex => ?_)
  have a' : ∀ p, p < 4 → w.1 3 p = zhs T H (nI p) 16 := fun p hp => by rw [a p hp, zhs_eq hT hH 16 (by omega)]
  obtain ⟨s, es⟩ : ∃ s, s = (fun p => zhs T H (nI p) 16) := ⟨_, rfl⟩
  have as : ∀ p, p < 4 → w.1 3 p = s p := fun p hp => by rw [a' p hp, es]
  rw [← es] at h
  obtain ⟨y, y1, y2⟩ := zhs_nn (T := T) (x := nI 0) hb 16 (by omega)
  have g1 : zgr s 1 = s 0 := zgr_1 (y := y) (by omega) (by rw [es]; exact y2)
  refine zl3 (wp_X6_mostHits_13 Q) 4 (fun i v z1 z2 => v = w ∧ z1 = zgr s i ∧ z2 = nI i) ?_ 1 (by omega) w x 1 ⟨rfl, by rw [ex, as 0 (by omega), g1], rfl⟩
  rintro i C v z1 z2 hi ⟨rfl, rfl, rfl⟩ hC
  unfold wp_X6_mostHits_13
  refine ⟨fun c => ?_, fun c => ?_⟩
  · have hi := nI_stop (N := 4) (by decide) hi c
    subst hi
    exact h v b
  · have hlt := nI_go (N := 4) (by decide) hi c
    rw [zn_nI (by omega), as i hlt, zmax_le]
    exact ⟨in_nI hlt (by decide), fun a ea b eb => hC _ _ _ hlt ⟨rfl, ea, by rw [eb, nI_1]⟩⟩
def zlm (s : Nat → Int32) : Nat → Int32
  | 0 => s 0
  | i + 1 => zmin (zlm s i) (s (i + 1))
theorem zmin_le (x y : Int32) : zmin x y = if x ≤ y then x else y := by
  unfold zmin
  by_cases h : y < x
  · rw [if_pos h, if_neg (Int32.not_le.mpr h)]
  · rw [if_neg h, if_pos (Int32.not_lt.mp h)]
theorem zlm_ls (s : Nat → Int32) : ∀ i, i < 4 → ∃ p, p < i + 1 ∧ zls s (-1) (i + 1) = nI p ∧ s p = zlm s i
  | 0, _ => ⟨0, by omega, by rw [zls_s]; rfl, rfl⟩
  | i + 1, hi => by
    obtain ⟨p, p1, p2, p3⟩ := zlm_ls s i (by omega)
    rw [zls_s, if_neg (nI_nm1 (by omega)), p2, if_neg (nI_nm1 (by omega)), zn_nI (by omega), p3]
    show ∃ p, p < i + 1 + 1 ∧ (if zlm s i ≤ s (i + 1) then nI _ else nI (i + 1)) = nI p ∧ s p = zmin (zlm s i) (s (i + 1))
    rw [zmin_le]
    by_cases c : zlm s i ≤ s (i + 1)
    · rw [if_pos c, if_pos c]; exact ⟨p, by omega, rfl, p3⟩
    · rw [if_neg c, if_neg c]; exact ⟨i + 1, by omega, rfl, rfl⟩
theorem q6_least {u : RS} {Q : Int32 → RS → Prop} {T H : Nat → Int32} (hT : ∀ e, e < 16 → u.1 0 e = T e) (hr : ∀ e, e < 16 → ∃ q, q < 4 ∧ T e = nI q) (hH : ∀ e, e < 16 → u.1 1 e = H e) (h : ∀ w : RS, (∀ k, k ≠ 3 → w.1 k = u.1 k) → Q (zlm (fun p => zhs T H (nI p) 16) 3) w) : wp_X6_leastHits u Q := by
  unfold wp_X6_leastHits
  refine q6_sumHits (fun e he => by rw [hT e he]; exact hr e he) (fun w a b => q6_leastQueue ?_)
  obtain ⟨s, es⟩ : ∃ s, s = (fun p => zhs T H (nI p) 16) := ⟨_, rfl⟩
  have as : ∀ p, p < 4 → w.1 3 p = s p := fun p hp => by rw [a p hp, zhs_eq hT hH 16 (by omega), es]
  rw [← es] at h
  obtain ⟨p, p1, p2, p3⟩ := zlm_ls s 3 (by omega)
  rw [zls_eq (-1) as 4 (by omega), p2, zn_nI (by omega), as p (by omega), p3]
  exact ⟨in_nI p1 (by decide), h w b⟩
theorem k_scratch {B : Nat} {u : TS} {r : RS} {t : RS} (h : Rel B u r) (t0 : t.1 0 = (u.2.2.1 3).1 0) (t1 : t.1 1 = (u.2.2.1 3).1 1) : Rel B (tN u (va_up u.2.2.1 3 t)) (rN r 0 0) := by
  have h0 : Rel0 B u (rN r 0 0) := h.2
  refine ⟨h.1, h0.now ⟨rfl, rfl, rfl, fun _ _ => rfl, h.2.2.2.2.2.2⟩ rfl rfl rfl rfl rfl rfl rfl rfl ?_⟩
  obtain ⟨n, nr, m, hX⟩ := h.2.2.1.1.x
  refine ⟨(hX.tbl (t := t) (fun e he => ?_) (fun _ _ => rfl)).sim, h.2.2.1.2⟩
  rw [t0, t1]
  exact hX.2.2.2.2.1 e he
theorem p_load {B : Nat} (hB : 16 * (B + 30000) < 2147483648) : pX_load (Rel B) (Rel (B + 30000)) := by
  intro u r x1 h
  replace h := h.up 30000
  have h0 : Rel (B + 30000) u (rN r 0 0) := h
  have hb := h.2.2.1.2.1
  obtain ⟨n, nr, m, hX⟩ := h.2.2.1.1.x
  have hT := hX.2.2.2.2.1
  unfold wp_X7_load
  refine ⟨fun c => ?_, fun c => ?_, fun c => q7_paper h (fun pd ps hps => ?_), fun c0 c1 c2 => ?_⟩
  · refine q6_most (T := fun e => r.1 3 (23 + e)) (H := fun e => r.1 3 (39 + e)) hB (fun e he => (hT e he).1) (fun e he => (hT e he).2.2) (fun e he => (hT e he).2.1) hb (fun w hw u1 e1 => ?_)
    unfold wp_X8_load
    intro r1 f1
    subst f1
    refine ⟨fun z => absurd c z, fun _ => q8_greatest ⟨rfl, ?_⟩⟩
    rw [e1]
    exact k_scratch h (hw 0 (by decide)) (hw 1 (by decide))
  · refine q6_least (T := fun e => r.1 3 (23 + e)) (H := fun e => r.1 3 (39 + e)) (fun e he => (hT e he).1) (fun e he => (hT e he).2.2) (fun e he => (hT e he).2.1) (fun w hw u1 e1 => ?_)
    unfold wp_X8_load
    intro r1 f1
    subst f1
    refine ⟨fun _ => ⟨fun z => absurd c z, fun _ => q8_hitsOf ?_⟩, fun z => absurd (c.symm.trans z) (by decide)⟩
    obtain ⟨s, es⟩ : ∃ s : Nat → Int32, s = (fun p => zhs (fun e => r.1 3 (23 + e)) (fun e => r.1 3 (39 + e)) (nI p) 16) := ⟨_, rfl⟩
    have hrel : Rel (B + 30000) u1 (rN r 0 0) := by rw [e1]; exact k_scratch h (hw 0 (by decide)) (hw 1 (by decide))
    rw [← es]
    refine zl3 (wp_X8_load_27 _) 3 (fun i v z1 z2 => v = rN r 0 0 ∧ z1 = zlm s i ∧ z2 = nI (i + 1)) ?_ 0 (Nat.zero_le _) _ _ 1 ⟨rfl, by rw [es]; rfl, rfl⟩
    rintro i C v z1 z2 hi ⟨rfl, rfl, rfl⟩ hC
    unfold wp_X8_load_27
    refine ⟨fun z => ?_, fun z => q8_hitsOf (q8_lesser (fun y ey => ?_))⟩
    · have : i = 3 := by
        have := (nI_leI (a := 4) (by omega) (by omega)).mp z
        omega
      subst this
      exact ⟨rfl, hrel⟩
    · have hlt : i < 3 := by
        rcases Nat.lt_or_ge i 3 with q | q
        · exact q
        · exact absurd (nI_le (a := 4) (by omega) (by omega)) z
      refine hC _ _ _ hlt ⟨rfl, ?_, by rw [ey, nI_1]⟩
      show zmin (zlm s i) _ = zmin (zlm s i) (s (i + 1))
      rw [es]
      rfl
  · obtain ⟨n', nr', m', hX'⟩ := hps.1.x
    have hT' := hX'.2.2.2.2.1
    refine q6_deal (T := fun e => r.1 3 (23 + e)) (H := fun e => r.1 3 (39 + e)) (fun e he => (hT' e he).1) (fun e he => (hT' e he).2.1) (fun w o ho w0 w1 ps1 e1 => ?_)
    have p3 : ps1 3 = w := by rw [e1, vu_s]
    rw [p3]
    obtain ⟨D, eD⟩ : ∃ D, D = zdeal (fun e => r.1 3 (39 + e)) (fun e => r.1 3 (23 + e), fun _ => 0, 0) o 16 := ⟨_, rfl⟩
    rw [← eD] at w0
    have rng : ∀ e, e < 16 → ∃ q, q < 4 ∧ D.1 e = nI q := fun e he => by rw [eD]; exact zdeal_rng (fun e he => (hT e he).2.2) 16 e he
    refine q6_most (T := D.1) (H := fun e => r.1 3 (39 + e)) hB w0 rng (fun e he => by rw [w1]; exact (hT' e he).2.1) hb (fun w' hw' ps2 e2 => ?_)
    unfold wp_X8_load
    intro r1 f1
    subst f1
    refine ⟨fun _ => ⟨fun _ => ⟨fun _ => q8_lay_ahead 0 rfl (by omega) ?_, fun z => absurd c z⟩, fun z => absurd (c.symm.trans z) (by decide)⟩, fun z => absurd (c.symm.trans z) (by decide)⟩
    have l3 := (zlay3 r).1
    refine q8_layBalanced (o := o) (by rw [l3]; exact ho) (fun r2 d3 do_ d2 => q8_greatest (q8_bring_ahead 0 rfl (by omega) ⟨?_, ?_⟩))
    · rw [l3, ← eD] at d3
      rw [d3]
      have ez : (fun p => zhs D.1 (fun e => r.1 3 (39 + e)) (nI p) 16) = (fun p => zhs (fun e => zrT (r.1 3) D.1 (23 + e)) (fun e => zrT (r.1 3) D.1 (39 + e)) (nI p) 16) := by
        funext p
        exact zhs_eq (fun e he => (zrT_in _ _ he).symm) (fun e he => (zrT_o _ _ (by omega)).symm) 16 (by omega)
      rw [ez]
    · have hn : sN (ps2 4) := by
        rw [e2, vu_n _ _ (by decide), e1, vu_n _ _ (by decide)]
        exact hps.1.sN
      exact k_back h (fun k kl k3 => do_ k k3 (by omega) (by omega)) (fun k k4 => by rw [d2]) hn
  · unfold wp_X8_load
    intro r1 f1
    subst f1
    exact ⟨fun _ => ⟨fun _ => ⟨fun z => absurd z c2, fun _ => ⟨rfl, h0⟩⟩, fun z => absurd z c1⟩, fun z => absurd z c0⟩
