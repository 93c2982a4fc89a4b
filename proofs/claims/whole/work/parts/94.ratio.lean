-- the pure side: ratio
theorem nL_toInt {n : Nat} (h : n < 2 ^ 63) : (nL n).toInt = (n : Int) := Int64.toInt_ofNat_of_lt h
theorem nL_mul (a b : Nat) : nL a * nL b = nL (a * b) := (Int64.ofNat_mul a b).symm
theorem nL_sub {a b : Nat} (h : b ≤ a) : nL a - nL b = nL (a - b) := by
  have e : a = (a - b) + b := by omega
  have e2 : nL a = nL (a - b) + nL b := by rw [nL_add, ← e]
  rw [e2]
  exact Int64.add_sub_cancel _ _
theorem nL_div {a b : Nat} (ha : a < 2 ^ 63) (hb : b < 2 ^ 63) : nL a / nL b = nL (a / b) := by
  have hle : a / b ≤ a := Nat.div_le_self a b
  apply Int64.toInt_inj.mp
  rw [Int64.toInt_div, nL_toInt ha, nL_toInt hb, nL_toInt (by omega), ← Int.ofNat_tdiv]
  generalize a / b = d at hle ⊢
  exact Int.bmod_eq_of_le (by omega) (by omega)
theorem nL_mod {a b : Nat} (ha : a < 2 ^ 63) (hb : b < 2 ^ 63) : nL a - nL a / nL b * nL b = nL (a % b) := by
  have h1 : a / b * b ≤ a := Nat.div_mul_le_self a b
  rw [nL_div ha hb, nL_mul, nL_sub h1]
  congr 1
  have := Nat.div_add_mod a b
  rw [Nat.mul_comm] at this
  omega
theorem nL_0 {b : Nat} (hb : b < 2 ^ 63) : nL b = 0 ↔ b = 0 := by
  constructor
  · intro h
    have := congrArg Int64.toInt h
    rw [nL_toInt hb, show (0 : Int64).toInt = 0 by decide] at this
    omega
  · intro h
    rw [h]
    rfl
theorem lg_cmp0 {b : Nat} (hb : b < 2 ^ 63) : lg_cmp (nL b) 0 = (if b = 0 then 0 else 1) := by
  unfold lg_cmp
  by_cases h : b = 0
  · rw [h]
    decide
  · have : nL b > 0 := by
      show (0 : Int64) < nL b
      rw [Int64.lt_iff_toInt_lt, nL_toInt hb, show (0 : Int64).toInt = 0 by decide]
      omega
    rw [if_pos this, if_neg h]
theorem q8_common : ∀ (b a : Nat), a < 2 ^ 62 → b < 2 ^ 62 → ∀ Q : Int64 → Prop, Q (nL (Nat.gcd a b)) → ∃ n, zit2 (wp_X8_common_6 Q) n (nL a) (nL b) := by
  intro b
  induction b using Nat.strongRecOn with
  | ind b ih =>
    intro a ha hb Q hQ
    by_cases h : b = 0
    · refine ⟨1, ?_⟩
      show wp_X8_common_6 Q _ (nL a) (nL b)
      unfold wp_X8_common_6
      rw [lg_cmp0 (by omega), if_pos h]
      refine ⟨fun _ => ?_, fun z => absurd rfl z⟩
      rw [h, Nat.gcd_zero_right] at hQ
      exact hQ
    · have hm : a % b < b := Nat.mod_lt _ (by omega)
      obtain ⟨n, hn⟩ := ih (a % b) hm b hb (by omega) Q (by rw [Nat.gcd_comm b, ← Nat.gcd_rec, Nat.gcd_comm]; exact hQ)
      refine ⟨n + 1, ?_⟩
      show wp_X8_common_6 Q (zit2 (wp_X8_common_6 Q) n) (nL a) (nL b)
      have st : ∀ C : Int64 → Int64 → Prop, C (nL b) (nL (a % b)) → wp_X8_common_6 Q C (nL a) (nL b) := by
        intro C hC
        unfold wp_X8_common_6
        rw [lg_cmp0 (by omega), if_neg h, nL_mod (by omega) (by omega)]
        exact ⟨fun z => absurd z (by decide), fun _ => ⟨fun z => h ((nL_0 (by omega)).mp z), fun y ey => by rw [ey]; exact hC⟩⟩
      exact st _ hn
theorem q7_cd0 {Q : Int64 → Prop} {C : Int64 → Int64 → Int32 → Prop} {a i : Nat} (ha : a < 2 ^ 62) (h0 : 0 < a) (hi : i < 100) (h : Q (nL a)) : wp_X7_commonDivisor_9 Q C (nL a) (nL 0) (nI i) := by
  unfold wp_X7_commonDivisor_9 wp_X7_commonDivisor_44 wp_X7_commonDivisor_57
  rw [lg_cmp0 (by omega), lg_cmp0 (by decide), if_pos rfl, if_neg (by omega)]
  exact ⟨fun z => absurd ((nI_leI (a := 100) (by omega) (by omega)).mp z) (by omega), fun _ => ⟨fun _ => ⟨fun z => absurd z (by decide), fun _ => h⟩, fun z => absurd rfl z⟩⟩
theorem q7_cd1 {Q : Int64 → Prop} {C : Int64 → Int64 → Int32 → Prop} {a b i : Nat} (ha : a < 2 ^ 62) (hb : b < 2 ^ 62) (h0 : ¬ b = 0) (hi : i < 100) (h : C (nL b) (nL (a % b)) (nI (i + 1))) : wp_X7_commonDivisor_9 Q C (nL a) (nL b) (nI i) := by
  unfold wp_X7_commonDivisor_9
  rw [lg_cmp0 (by omega), if_neg h0, nL_mod (by omega) (by omega)]
  exact ⟨fun z => absurd ((nI_leI (a := 100) (by omega) (by omega)).mp z) (by omega), fun _ => ⟨fun z => absurd z (by decide), fun _ => ⟨fun z => h0 ((nL_0 (by omega)).mp z), fun y ey x ex => by rw [ey, ex, nI_1]; exact h⟩⟩⟩
theorem q7_cd {Q : Int64 → Prop} : ∀ (k i a b : Nat), b < 2 ^ k → i + 2 * k < 100 → a < 2 ^ 62 → b < 2 ^ 62 → 0 < Nat.gcd a b → Q (nL (Nat.gcd a b)) → ∃ n, zit3 (wp_X7_commonDivisor_9 Q) n (nL a) (nL b) (nI i)
  | 0, i, a, b, hk, hi, ha, hb, h0, hQ => by
    have : b = 0 := by
      have : b < 1 := hk
      omega
    subst this
    rw [Nat.gcd_zero_right] at h0 hQ
    exact ⟨1, q7_cd0 ha h0 (by omega) hQ⟩
  | k + 1, i, a, b, hk, hi, ha, hb, h0, hQ => by
    by_cases h : b = 0
    · subst h
      rw [Nat.gcd_zero_right] at h0 hQ
      exact ⟨1, q7_cd0 ha h0 (by omega) hQ⟩
    · have hm : a % b < b := Nat.mod_lt _ (by omega)
      have g1 : Nat.gcd b (a % b) = Nat.gcd a b := by rw [Nat.gcd_comm b, ← Nat.gcd_rec, Nat.gcd_comm]
      by_cases h2 : a % b = 0
      · refine ⟨2, ?_⟩
        show wp_X7_commonDivisor_9 Q (zit3 (wp_X7_commonDivisor_9 Q) 1) (nL a) (nL b) (nI i)
        refine q7_cd1 ha hb h (by omega) ?_
        show wp_X7_commonDivisor_9 Q (zit3 (wp_X7_commonDivisor_9 Q) 0) (nL b) (nL (a % b)) (nI (i + 1))
        rw [h2] at g1 ⊢
        rw [Nat.gcd_zero_right] at g1
        rw [← g1] at hQ
        exact q7_cd0 hb (by omega) (by omega) hQ
      · have hm2 : b % (a % b) < a % b := Nat.mod_lt _ (by omega)
        have g2 : Nat.gcd (a % b) (b % (a % b)) = Nat.gcd a b := by rw [Nat.gcd_comm (a % b), ← Nat.gcd_rec, Nat.gcd_comm, g1]
        have half : b % (a % b) < 2 ^ k := by
          have e1 := Nat.div_add_mod b (a % b)
          have e2 : 1 ≤ b / (a % b) := Nat.div_pos (by omega) (by omega)
          have e3 : (a % b) * 1 ≤ (a % b) * (b / (a % b)) := Nat.mul_le_mul_left _ e2
          rw [Nat.pow_succ] at hk
          omega
        obtain ⟨n, hn⟩ := q7_cd (Q := Q) k (i + 2) (a % b) (b % (a % b)) half (by omega) (by omega) (by omega) (by rw [g2]; exact h0) (by rw [g2]; exact hQ)
        refine ⟨n + 2, ?_⟩
        show wp_X7_commonDivisor_9 Q (zit3 (wp_X7_commonDivisor_9 Q) (n + 1)) (nL a) (nL b) (nI i)
        refine q7_cd1 ha hb h (by omega) ?_
        show wp_X7_commonDivisor_9 Q (zit3 (wp_X7_commonDivisor_9 Q) n) (nL b) (nL (a % b)) (nI (i + 1))
        exact q7_cd1 hb (by omega) h2 (by omega) hn
theorem p_ratio {B : Nat} (hB : 16 * (B + 30000) < 2147483648) : pX_ratio (Rel B) (Rel (B + 30000)) := by
  intro u r x1 h
  replace h := h.up 30000
  have h0 : Rel (B + 30000) u (rN r 0 0) := h
  obtain ⟨G, P, Y, g1, g2, g3, g4, g5, g6, g7⟩ := h.2.2.1.2.2.1
  obtain ⟨n, nr, m, hX⟩ := h.2.2.1.1.x
  obtain ⟨_, _, _, _, _, _, _, _, g⟩ := hX.2.2.2.2.2.2.2.1
  have s0 : (u.2.2.1 4).2 1 0 = nL G := (g 0 (by omega)).trans g1
  have s1 : (u.2.2.1 4).2 1 1 = nL P := (g 1 (by omega)).trans g2
  have s2 : (u.2.2.1 4).2 1 2 = nL Y := (g 2 (by omega)).trans g3
  have t0 : (rN r 0 0).2 4 0 = nL G := g1
  have t1 : (rN r 0 0).2 4 1 = nL P := g2
  have t2 : (rN r 0 0).2 4 2 = nL Y := g3
  have hG : G < 2 ^ 40 := by omega
  have hP : P < 2 ^ 45 := by omega
  have hY : Y < 2 ^ 45 := by omega
  have cd : ∀ (a b : Nat) (Q : Int64 → Prop), a < 2 ^ 45 → 0 < b → b < 2 ^ 45 → (0 < Nat.gcd a b → Q (nL (Nat.gcd a b))) → wp_X7_commonDivisor (nL a) (nL b) Q := by
    intro a b Q ha hb0 hb hQ
    have hg : 0 < Nat.gcd a b := Nat.gcd_pos_of_pos_right _ hb0
    exact q7_cd 45 0 a b hb (by omega) (by omega) (by omega) hg (hQ hg)
  have cm : ∀ (a b : Nat) (Q : Int64 → Prop), a < 2 ^ 45 → b < 2 ^ 45 → Q (nL (Nat.gcd a b)) → wp_X8_common (nL a) (nL b) Q := by
    intro a b Q ha hb hQ
    exact q8_common b a (by omega) (by omega) Q hQ
  have nz : ∀ a b : Nat, b < 2 ^ 45 → 0 < b → 0 < Nat.gcd a b → ¬ nL (Nat.gcd a b) = 0 := by
    intro a b hb hb0 hg z
    have hle : Nat.gcd a b ≤ b := Nat.gcd_le_right _ hb0
    have := (nL_0 (by omega)).mp z
    omega
  unfold wp_X7_ratio wp_X7_ratio_28
  intro y ey
  rw [s0] at ey
  subst ey
  rw [s1, s2, lg_cmp0 (by omega)]
  have r0 : wp_X8_ratio r x1 = fun Q => ∀ u101 : RS, u101 = rN r 0 0 → ((lg_cmp (u101.2 4 0) 0 = 0 → wp_X8_ratio_28 Q u101) ∧ (¬ lg_cmp (u101.2 4 0) 0 = 0 → wp_X8_in ((x1).toInt64) 0 3 (fun r103 => ((¬ r103 = 0 → ((2 ≤ x1 → wp_X8_ratio_52 Q u101 x1 (u101.2 4 1)) ∧ (¬ 2 ≤ x1 → wp_X8_ratio_52 Q u101 x1 (u101.2 4 2)))) ∧ (r103 = 0 → wp_X8_ratio_28 Q u101))))) := rfl
  have out : (¬ ∃ k, k ≤ 3 ∧ x1 = nI k) → wp_X8_ratio r x1 (fun y r1 => -1 = y ∧ Rel (B + 30000) u r1) := by
    intro hno
    unfold wp_X8_ratio wp_X8_ratio_28
    intro r1 f1
    subst f1
    exact ⟨fun _ => ⟨rfl, h0⟩, fun _ => q8_inr 0 3 (by decide) (by decide) (by decide) (fun k _ k2 e => absurd ⟨k, k2, e⟩ hno) (fun _ => ⟨fun z => absurd rfl z, fun _ => ⟨rfl, h0⟩⟩)⟩
  refine ⟨fun c => out ?_, fun c1 => ⟨fun c => out ?_, fun c2 => ⟨fun hg y1 ey1 => ?_, fun hg => ?_⟩⟩⟩
  · rintro ⟨k, k2, rfl⟩
    exact absurd c (nI_pos (by omega))
  · rintro ⟨k, k2, rfl⟩
    exact absurd (show nI 3 < nI k from c) (nI_nlt k2 (by omega))
  · subst ey1
    have G0 : ¬ G = 0 := fun z => hg (by rw [if_pos z])
    obtain ⟨w, w3, ew⟩ := nI_3 (n := 3) c1 c2 (by decide)
    have ref : ∀ (v : Int64) (Q : Int64 → RS → Prop), ((2 ≤ x1 → wp_X8_ratio_73 Q (rN r 0 0) x1 (nL P) (nL G)) ∧ (¬ 2 ≤ x1 → wp_X8_ratio_73 Q (rN r 0 0) x1 (nL Y) (nL P))) → wp_X8_ratio r x1 Q := by
      intro v Q hQ
      unfold wp_X8_ratio wp_X8_ratio_52
      intro r1 f1
      subst f1
      rw [t0, t1, t2, lg_cmp0 (by omega), if_neg G0]
      exact ⟨fun z => absurd z (by decide), fun _ => q8_inr 0 3 (by decide) (by decide) (by decide) (fun _ _ _ _ => ⟨fun _ => ⟨fun z => ⟨fun _ => hQ.1 z, fun y => absurd z y⟩, fun z => ⟨fun y => absurd y z, fun _ => hQ.2 z⟩⟩, fun z => absurd z (by decide)⟩) (fun ho => absurd ew (ho w (by omega) w3))⟩
    have fin : ∀ (a b : Nat) (t : Int64), a < 2 ^ 45 → 0 < b → b < 2 ^ 45 → (t = nL b ∧ ¬ x1 - x1 / 2 * 2 = 0 ∨ t = nL a ∧ x1 - x1 / 2 * 2 = 0) → (∀ Q : Int64 → RS → Prop, wp_X8_ratio_73 Q (rN r 0 0) x1 (nL a) (nL b) → wp_X8_ratio r x1 Q) → wp_X7_ratio_96 (fun x u1 => wp_X8_ratio r x1 (fun y r1 => x = y ∧ Rel (B + 30000) u1 r1)) u (nL a) (nL b) t := by
      intro a b t ha hb0 hb ht hr
      unfold wp_X7_ratio_96
      refine cd a b _ ha hb0 hb (fun hg => ⟨nz a b hb hb0 hg, hr _ ?_⟩)
      unfold wp_X8_ratio_73 wp_X8_ratio_87
      refine ⟨fun z => cm a b _ ha hb ⟨nz a b hb hb0 hg, ?_, h0⟩, fun z => cm a b _ ha hb ⟨nz a b hb hb0 hg, ?_, h0⟩⟩
      · rcases ht with ⟨e, -⟩ | ⟨-, e⟩
        · rw [e]
        · exact absurd e z
      · rcases ht with ⟨-, e⟩ | ⟨e, -⟩
        · exact absurd z e
        · rw [e]
    unfold wp_X7_ratio_68 wp_X7_ratio_81
    refine ⟨fun z => ⟨fun _ => ⟨fun y => ?_, fun y => ?_⟩, fun y => absurd z y⟩, fun z => ⟨fun y => absurd y z, fun _ => ⟨fun y => ?_, fun y => ?_⟩⟩⟩
    · exact fin P G _ hP (by omega) (by omega) (Or.inl ⟨rfl, y⟩) (fun Q hQ => ref 0 Q ⟨fun _ => hQ, fun q => absurd z q⟩)
    · exact fin P G _ hP (by omega) (by omega) (Or.inr ⟨rfl, y⟩) (fun Q hQ => ref 0 Q ⟨fun _ => hQ, fun q => absurd z q⟩)
    · exact fin Y P _ hY (by omega) (by omega) (Or.inl ⟨rfl, y⟩) (fun Q hQ => ref 0 Q ⟨fun q => absurd q z, fun _ => hQ⟩)
    · exact fin Y P _ hY (by omega) (by omega) (Or.inr ⟨rfl, y⟩) (fun Q hQ => ref 0 Q ⟨fun q => absurd q z, fun _ => hQ⟩)
  · have G0 : G = 0 := by
      by_cases z : G = 0
      · exact z
      · rw [if_neg z] at hg
        exact absurd hg (by decide)
    unfold wp_X8_ratio wp_X8_ratio_28
    intro r1 f1
    subst f1
    rw [t0, lg_cmp0 (by omega), if_pos G0]
    exact ⟨fun _ => ⟨rfl, h0⟩, fun z => absurd rfl z⟩
