-- the pure side: the end of a batch
theorem zct_sub (p : Nat → Bool) (b : Nat) : ∀ k, zct p (b + k) = zct p b + zct (fun j => p (b + j)) k
  | 0 => rfl
  | k + 1 => by
    show zct p (b + k) + (if p (b + k) then 1 else 0) = zct p b + (zct (fun j => p (b + j)) k + if p (b + k) then 1 else 0)
    rw [zct_sub p b k]
    omega
theorem zct_mono (p : Nat → Bool) {a b : Nat} (h : a ≤ b) : zct p a ≤ zct p b := by
  obtain ⟨k, rfl⟩ : ∃ k, b = a + k := ⟨b - a, by omega⟩
  rw [zct_sub]
  omega
/-- the class's queue, behind b packets taken -/
def zaway (o o1 : RS) (m b : Nat) (t : Int32) : Prop := o1.1 0 0 = nI (m - b) ∧ o1.1 1 0 = o.1 1 0 + 1 ∧ o1.1 5 0 = o.1 5 0 + nI b ∧ o1.1 4 0 = (if m - b = 0 then -1 else t) ∧ o1.1 2 = o.1 2 ∧ o1.1 3 = o.1 3 ∧ o1.1 6 = o.1 6 ∧ o1.1 7 = o.1 7 ∧ ∀ j, j < 4 * (m - b) → o1.1 8 j = o.1 8 (4 * b + j)
theorem q3_takeAway {o : RS} {t : Int32} {Q : RS → Prop} (m b : Nat) (hm : o.1 0 0 = nI m) (h32 : m ≤ 32) (hb : b ≤ m) (h : ∀ o1, zaway o o1 m b t → Q o1) : wp_X3_takeAway o (nI b) t Q := by
  unfold wp_X3_takeAway
  intro a1 d1 a2 d2 a3 d3
  have n3 : a3.1 0 0 = nI (m - b) := by
    rw [d3, rN_s, d2, rN_n _ _ (by decide), d1, rN_n _ _ (by decide), hm, nI_sub hb]
  have c3 : a3.1 8 = o.1 8 := by rw [d3, rN_n _ _ (by decide), d2, rN_n _ _ (by decide), d1, rN_n _ _ (by decide)]
  rw [n3, nI_lmul, nI_lmul, zn_nI (by omega), zn_nI (by omega), c3]
  refine ⟨⟨nI_pos (by omega), by decide, nI_pos (by omega), ?_, ?_⟩, fun a4 d4 => ?_⟩
  · rw [zn_nI (by omega), zn_nI (by omega)]; omega
  · rw [zn_nI (by omega)]; show 0 + 4 * (m - b) ≤ 128; omega
  have n4 : a4.1 0 0 = nI (m - b) := by rw [d4, rI_n _ _ (by decide)]; exact n3
  have fin : ∀ x : Int32, x = (if m - b = 0 then -1 else t) → wp_X3_takeAway_64 Q a4 x := by
    intro x ex
    unfold wp_X3_takeAway_64
    intro a5 d5
    have go : ∀ k, k ≠ 0 → k ≠ 1 → k ≠ 5 → k ≠ 8 → k ≠ 4 → a5.1 k = o.1 k := fun k k0 k1 k5 k8 k4 => by rw [d5, rN_n _ _ k4, d4, rI_n _ _ k8, d3, rN_n _ _ k0, d2, rN_n _ _ k5, d1, rN_n _ _ k1]
    refine h a5 ⟨?_, ?_, ?_, ?_, go 2 (by decide) (by decide) (by decide) (by decide) (by decide), go 3 (by decide) (by decide) (by decide) (by decide) (by decide), go 6 (by decide) (by decide) (by decide) (by decide) (by decide), go 7 (by decide) (by decide) (by decide) (by decide) (by decide), fun j hj => ?_⟩
    · rw [d5, rN_n _ _ (by decide)]; exact n4
    · rw [d5, rN_n _ _ (by decide), d4, rI_n _ _ (by decide), d3, rN_n _ _ (by decide), d2, rN_n _ _ (by decide), d1, rN_s]
    · rw [d5, rN_n _ _ (by decide), d4, rI_n _ _ (by decide), d3, rN_n _ _ (by decide), d2, rN_s, d1, rN_n _ _ (by decide)]
    · rw [d5, rN_s, ex]
    · rw [d5, rN_n _ _ (by decide), d4, rI_s]
      show (if 0 ≤ j ∧ j < 0 + 4 * (m - b) then o.1 8 (4 * b + (j - 0)) else o.1 8 j) = _
      rw [if_pos (by omega), Nat.sub_zero]
  rw [n4, nI_le0 (by omega)]
  exact ⟨fun z => fin _ (by rw [if_pos z]), fun z => fin _ (by rw [if_neg z])⟩
/-- the row behind b packets of a queue taken -/
def ztake (R : Nat → Int32) (q m b : Nat) : Nat → Int32 :=
  let R1 := zsh (upd R (433 + 140 * q) (nI (m - b))) (441 + 140 * q) (441 + 140 * q + 4 * (m - b)) (4 * b)
  upd (upd (upd (upd R1 (433 + 140 * q + 4) (R (433 + 140 * q + 4) + nI b)) (433 + 140 * q + 3) (R (433 + 140 * q + 3) + 1)) 10 (R 10 + 1)) (433 + 140 * q + 2) (if m - b = 0 then -1 else R 6)
theorem ztake_o {R : Nat → Int32} {q m b j : Nat} (h32 : m ≤ 32) (h10 : j ≠ 10) (h : j < 433 + 140 * q ∨ 573 + 140 * q ≤ j ∨ (433 + 140 * q < j ∧ j < 441 + 140 * q ∧ j ≠ 433 + 140 * q + 4 ∧ j ≠ 433 + 140 * q + 3 ∧ j ≠ 433 + 140 * q + 2)) : ztake R q m b j = R j := by
  unfold ztake
  rw [pk_un (by omega), pk_un h10, pk_un (by omega), pk_un (by omega)]
  unfold zsh
  rw [if_neg (by omega), pk_un (by omega)]
theorem ztake_p {R : Nat → Int32} {q m b j : Nat} (h32 : m ≤ 32) (hj : j < 4 * (m - b)) : ztake R q m b (441 + 140 * q + j) = R (441 + 140 * q + (4 * b + j)) := by
  unfold ztake
  rw [pk_un (by omega), pk_un (by omega), pk_un (by omega), pk_un (by omega)]
  unfold zsh
  rw [if_pos (by omega), pk_un (by omega)]
  congr 1
  omega
theorem ztake_0 (R : Nat → Int32) (q m b : Nat) : ztake R q m b (433 + 140 * q) = nI (m - b) := by
  unfold ztake
  rw [pk_un (by omega), pk_un (by omega), pk_un (by omega), pk_un (by omega)]
  unfold zsh
  rw [if_neg (by omega), pk_us]
theorem SimX.taken {n nr : Nat} {m : Nat → Nat} {cs g : Nat → RS} {R o : Nat → Int32} {S : Nat → Int64} {q b i : Nat} {o1 : RS} (h : SimX n nr m g R S) (hM : Mid n (fun p f => if p = q then zcq R (m q) q f - zcq R b q f else zcq R (m p) p f) i cs g o) (hq : q < 4) (hb : b ≤ m q) (hcl : ∀ f, f < n → (cs 4).1 6 f = 0) (ho : zaway (cs (5 + q)) o1 (m q) b (R 6)) : SimX n nr (fun p => if p = q then m q - b else m p) (va_up cs (5 + q) o1) (ztake R q (m q) b) S := by
  obtain ⟨h0, hK, hF, hR, hT, hQ, hW, hG, hN, hO, hA⟩ := h
  obtain ⟨mo, m20, m21, m40, m42, m43, m4L, mW, mP⟩ := hM
  have hn24 : n ≤ 24 := hF.2.1
  obtain ⟨q1, q2, q3, q4, q5, q6⟩ := hQ q hq
  obtain ⟨o0, oc, ot, os, ol, od, op, of, o8⟩ := ho
  have fr : ∀ i, i ≠ 10 → (i < 433 + 140 * q ∨ 573 + 140 * q ≤ i) → ztake R q (m q) b i = R i := fun i h10 hi => ztake_o q1 h10 (by omega)
  have gq : g (5 + q) = cs (5 + q) := mo _ (by omega) (by omega)
  have h32 : ∀ p, p < 4 → m p ≤ 32 := fun p hp => (hQ p hp).1
  refine ⟨?_, ?_, ?_, ?_, ?_, ?_, ?_, ?_, ?_, ?_, ?_⟩
  · rw [vu_n _ _ (by omega), ← m20]; exact h0
  · rw [vu_n _ _ (by omega), ← mo 1 (by decide) (by decide)]; exact hK.fr (fun i hi => fr i (by omega) (by omega))
  · rw [vu_n _ _ (by omega)]
    obtain ⟨f1, f2, f3, f4, f5, f6, f7, f8⟩ := hF.fr (R1 := ztake R q (m q) b) (fun i hi => fr i (by omega) (by omega))
    refine ⟨f1, f2, fun j k hj hk => ?_, f4, f5, f6, f7, fun j k g1 g2 g3 => ?_⟩
    · obtain ⟨z1, z2, z3, z4, z5⟩ := zrow_ne k hk
      rw [← m21 _ _ z5 z3 z4 (by omega)]; exact f3 j k hj hk
    · by_cases e : k = 7
      · subst e; exact (mW.2 j g1 g2).1
      · by_cases e2 : k = 8
        · subst e2; exact (mW.2 j g1 g2).2
        · rw [← m21 k j g3 e e2 g2]; exact f8 j k g1 g2 g3
  · rw [vu_n _ _ (by omega)]; exact (hR.fr (fun i hi => fr i (by omega) (by omega))).fc (fun j hj => (m21 13 j (by omega) (by omega) (by omega) (by omega)).symm) (fun j hj => (m21 14 j (by omega) (by omega) (by omega) (by omega)).symm)
  · rw [vu_n _ _ (by omega), ← mo 3 (by decide) (by decide)]; exact hT.fr (fun i hi => fr i (by omega) (by omega))
  · intro p hp
    by_cases e : p = q
    · subst e
      rw [vu_s]
      show sQ n p (if p = p then m p - b else m p) o1 _
      rw [if_pos rfl]
      have fld : ∀ j, (433 + 140 * p < j ∧ j < 441 + 140 * p ∧ j ≠ 433 + 140 * p + 4 ∧ j ≠ 433 + 140 * p + 3 ∧ j ≠ 433 + 140 * p + 2) → ztake R p (m p) b j = R j := fun j hj => ztake_o q1 (by omega) (by omega)
      rw [gq] at q3 q4
      refine ⟨by omega, ?_, fun k hk => ?_, fun j w hj hw => ?_, fun j hj => ?_, fun j hj => ?_⟩
      · exact ztake_0 R p (m p) b
      · match k, hk with
        | 0, _ => exact o0.trans (ztake_0 R p (m p) b).symm
        | 1, _ => rw [fld _ (by omega), ← q3 1 (by omega)]; exact congrFun od 0
        | 2, _ =>
          unfold ztake
          rw [pk_us]; exact os
        | 3, _ =>
          unfold ztake
          rw [pk_un (by omega), pk_un (by omega), pk_us, ← q3 3 (by omega)]; exact oc
        | 4, _ =>
          unfold ztake
          rw [pk_un (by omega), pk_un (by omega), pk_un (by omega), pk_us, ← q3 4 (by omega)]; exact ot
        | 5, _ => rw [fld _ (by omega), ← q3 5 (by omega)]; exact congrFun ol 0
        | 6, _ => rw [fld _ (by omega), ← q3 6 (by omega)]; exact congrFun op 0
        | 7, _ => rw [fld _ (by omega), ← q3 7 (by omega)]; exact congrFun of 0
      · rw [o8 _ (by omega), Nat.add_assoc, ztake_p q1 (by omega), show 4 * b + (4 * j + w) = 4 * (b + j) + w by omega, q4 (b + j) w (by omega) hw]
        congr 1
        omega
      · rw [Nat.add_assoc, ztake_p q1 (by omega)]
        have := q5 (b + j) (by omega)
        rw [show 441 + 140 * p + (4 * b + (4 * j + 0)) = 441 + 140 * p + 4 * (b + j) + 0 by omega]
        exact this
      · rw [Nat.add_assoc, ztake_p q1 (by omega)]
        have := q6 (b + j) (by omega)
        rw [show 441 + 140 * p + (4 * b + (4 * j + 3)) = 441 + 140 * p + 4 * (b + j) + 3 by omega]
        exact this
    · rw [vu_n _ _ (by omega), ← mo (5 + p) (by omega) (by omega)]
      show sQ n p (if p = q then m q - b else m p) _ _
      rw [if_neg e]; exact (hQ p hp).fr (fun i hi => fr i (by omega) (by omega))
  · rw [vu_n _ _ (by omega)]
    have cnt : ∀ p, p < 4 → ∀ f, zcq (ztake R q (m q) b) (if p = q then m q - b else m p) p f = if p = q then zcq R (m q) q f - zcq R b q f else zcq R (m p) p f := by
      intro p hp f
      by_cases e : p = q
      · subst e
        rw [if_pos rfl, if_pos rfl]
        have s := zct_sub (fun i => R (441 + 140 * p + 4 * i + 0) == nI f) b (m p - b)
        rw [show b + (m p - b) = m p by omega] at s
        have e2 : zcq (ztake R p (m p) b) (m p - b) p f = zct (fun j => R (441 + 140 * p + 4 * (b + j) + 0) == nI f) (m p - b) := by
          unfold zcq
          refine zct_eq (fun j hj => ?_)
          rw [Nat.add_assoc, ztake_p q1 (by omega), show 441 + 140 * p + (4 * b + (4 * j + 0)) = 441 + 140 * p + 4 * (b + j) + 0 by omega]
        rw [e2]
        show _ = zct (fun i => R (441 + 140 * p + 4 * i + 0) == nI f) (m p) - zct (fun i => R (441 + 140 * p + 4 * i + 0) == nI f) b
        rw [s]
        omega
      · rw [if_neg e, if_neg e]
        exact zcq_fr (h32 p hp) (fun i hi => fr i (by omega) (by omega))
    intro f hf
    obtain ⟨a, c⟩ := mW.1 f hf
    rw [cnt 0 (by omega), cnt 1 (by omega), cnt 2 (by omega), cnt 3 (by omega)]
    refine ⟨a, ?_⟩
    rcases c with ⟨c1, c2⟩ | ⟨k, k1, k2, k3, k4⟩
    · exact Or.inl ⟨c1, fun p hp => by rw [cnt p hp]; exact c2 p hp⟩
    · exact Or.inr ⟨k, k1, k2, by rw [cnt k k1]; exact k3, fun p hp hne => by rw [cnt p hp]; exact k4 p hp hne⟩
  · rw [vu_n _ _ (by omega)]
    obtain ⟨k, t, g1, g2, g3, g4, g5, g6, g7⟩ := hG.fr (R1 := ztake R q (m q) b) (fun i hi => fr i (by omega) (by omega))
    rw [m40] at g3
    rw [m42] at g5
    rw [m43] at g6
    rw [m4L] at g7
    exact ⟨k, t, g1, g2, g3, g4, g5, g6, g7⟩
  · rw [vu_n _ _ (by omega)]
    intro f hf
    by_cases e : f < n
    · exact hcl f e
    · obtain ⟨p, p1, p2, p3, p4⟩ := mP f hf
      rcases Nat.eq_zero_or_pos p with z | z
      · rw [p2, z]; rfl
      · exact absurd (p4 z).1 e
  · rw [vu_n _ _ (by omega), ← mo 0 (by decide) (by decide)]; exact hO.fr (fun i hi => fr i (by omega) (by omega))
  · rw [vu_n _ _ (by omega)]
    refine sA.fc (c := (g 2).1 1) ?_ (fun a j ha hj => (m21 a j (by omega) (by omega) (by omega) (by omega)).symm)
    obtain ⟨a1, a2, a3, a4, a5⟩ := hA
    refine ⟨by rw [fr _ (by omega) (by omega)]; exact a1, by rw [fr _ (by omega) (by omega)]; exact a2, by rw [fr _ (by omega) (by omega)]; exact a3, by rw [fr _ (by omega) (by omega)]; exact a4, ?_⟩
    have e10 : ztake R q (m q) b 10 = R 10 + 1 := by
      unfold ztake
      rw [pk_un (by omega), pk_us]
    rw [e10, a5]
    refine (zsum_put (k := q) (d := 1) ?_ (fun p hp => ?_) hq).symm
    · unfold ztake
      rw [pk_un (by omega), pk_un (by omega), pk_us]
    · unfold ztake
      rw [pk_un (by omega), pk_un (by omega), pk_un (by omega), pk_un (by omega)]
      unfold zsh
      by_cases y : 441 + 140 * q ≤ 433 + 140 * p + 3 ∧ 433 + 140 * p + 3 < 441 + 140 * q + 4 * (m q - b)
      · omega
      · rw [if_neg y, pk_un (by omega)]
