-- the pure side: a batch is taken
theorem q8_takeEnd {r : RS} {Q : Int32 → RS → Prop} (q m b : Nat) (hq : q < 4) (h32 : m ≤ 32) (hb : b ≤ m) (hm : r.1 3 (433 + 140 * q) = nI m) (h : ∀ r1 : RS, r1.1 3 = ztake (r.1 3) q m b → r1.1 19 0 = r.1 19 0 + 1 → (∀ k, k ≠ 3 → k ≠ 19 → r1.1 k = r.1 k) → r1.2 = r.2 → Q (nI b) r1) : vp_in (nI (433 + 140 * q)) 1065 ∧ vp_in (nI (433 + 140 * q)) 1065 ∧ ∀ u109 : RS, u109 = rI r 3 (upd (r.1 3) (zn (nI (433 + 140 * q))) (r.1 3 (zn (nI (433 + 140 * q))) - nI b)) → ∀ x110 : Int32, x110 = nI (433 + 140 * q) + 8 → ∃ n, zit5 (wp_X8_takes_124 Q) n u109 (nI q) (nI (433 + 140 * q)) (nI b) x110 := by
  rw [zn_nI (by omega), hm, nI_sub hb]
  refine ⟨in_nI (by omega) (by decide), in_nI (by omega) (by decide), fun a d x ex => ?_⟩
  rw [show nI (433 + 140 * q) + 8 = nI (433 + 140 * q + 8) from nI_addl _ _] at ex
  subst ex
  refine zl5 (wp_X8_takes_124 Q) (4 * (m - b)) (fun i w y1 y2 y3 y4 => w = rI r 3 (zsh (upd (r.1 3) (433 + 140 * q) (nI (m - b))) (441 + 140 * q) (441 + 140 * q + i) (4 * b)) ∧ y1 = nI q ∧ y2 = nI (433 + 140 * q) ∧ y3 = nI b ∧ y4 = nI (441 + 140 * q + i)) ?_ 0 (Nat.zero_le _) a _ _ _ _ ⟨by rw [Nat.add_zero, zsh_0]; exact d, rfl, rfl, rfl, by rw [show 433 + 140 * q + 8 = 441 + 140 * q + 0 by omega]⟩
  rintro i B w y1 y2 y3 y4 hi ⟨rfl, rfl, rfl, rfl, rfl⟩ hB
  unfold wp_X8_takes_124
  have e0 : (rI r 3 (zsh (upd (r.1 3) (433 + 140 * q) (nI (m - b))) (441 + 140 * q) (441 + 140 * q + i) (4 * b))).1 3 (433 + 140 * q) = nI (m - b) := by
    rw [rI_s]
    unfold zsh
    rw [if_neg (by omega), pk_us]
  rw [zn_nI (by omega), e0]
  refine ⟨in_nI (by omega) (by decide), q8_packetAt q (m - b) rfl rfl ⟨fun c => ?_, fun c => ?_⟩⟩
  · have := (nI_leI (by omega) (by omega)).mp c
    have hi4 : i = 4 * (m - b) := by omega
    subst hi4
    rw [show nI (433 + 140 * q) + 4 = nI (433 + 140 * q + 4) from nI_addl _ _, show nI (433 + 140 * q) + 3 = nI (433 + 140 * q + 3) from nI_addl _ _, show nI (433 + 140 * q) + 2 = nI (433 + 140 * q + 2) from nI_addl _ _, zn_nI (by omega), zn_nI (by omega)]
    refine ⟨in_nI (by omega) (by decide), in_nI (by omega) (by decide), fun a1 d1 => ⟨in_nI (by omega) (by decide), in_nI (by omega) (by decide), fun a2 d2 a3 d3 a4 d4 => ⟨in_nI (by omega) (by decide), ?_⟩⟩⟩
    have zo : ∀ j, j < 441 + 140 * q → j ≠ 433 + 140 * q → zsh (upd (r.1 3) (433 + 140 * q) (nI (m - b))) (441 + 140 * q) (441 + 140 * q + 4 * (m - b)) (4 * b) j = r.1 3 j := by
      intro j hj h0
      unfold zsh
      rw [if_neg (by omega), pk_un h0]
    have e3 : a3 = rI r 3 (upd (upd (upd (zsh (upd (r.1 3) (433 + 140 * q) (nI (m - b))) (441 + 140 * q) (441 + 140 * q + 4 * (m - b)) (4 * b)) (433 + 140 * q + 4) (r.1 3 (433 + 140 * q + 4) + nI b)) (433 + 140 * q + 3) (r.1 3 (433 + 140 * q + 3) + 1)) 10 (r.1 3 10 + 1)) := by
      rw [d3, d2, d1]
      simp only [rI_rI, rI_s]
      rw [pk_un (show (10 : Nat) ≠ 433 + 140 * q + 3 by omega), pk_un (show (10 : Nat) ≠ 433 + 140 * q + 4 by omega), pk_un (show 433 + 140 * q + 3 ≠ 433 + 140 * q + 4 by omega), zo 10 (by omega) (by omega), zo (433 + 140 * q + 3) (by omega) (by omega), zo (433 + 140 * q + 4) (by omega) (by omega)]
    have f43 : a4.1 3 = a3.1 3 := by rw [d4, rN_n _ _ (by decide)]
    have f0 : a4.1 3 (433 + 140 * q) = nI (m - b) := by
      rw [f43, e3, rI_s, pk_un (by omega), pk_un (by omega), pk_un (by omega)]
      unfold zsh
      rw [if_neg (by omega), pk_us]
    have f6 : a4.1 3 6 = r.1 3 6 := by
      rw [f43, e3, rI_s, pk_un (by omega), pk_un (by omega), pk_un (by omega)]
      exact zo 6 (by omega) (by omega)
    have fin : ∀ t : Int32, t = (if m - b = 0 then -1 else r.1 3 6) → wp_X8_takes_235 Q a4 (nI b) t (nI (433 + 140 * q + 2)) := by
      intro t et
      unfold wp_X8_takes_235
      rw [zn_nI (by omega)]
      refine ⟨in_nI (by omega) (by decide), fun a5 d5 => h a5 ?_ ?_ (fun k k3 k19 => ?_) ?_⟩
      · rw [d5, rI_s, f43, e3, rI_s, et]
        rfl
      · rw [d5, rI_n _ _ (by decide), d4, rN_s, e3, rI_n _ _ (by decide)]
      · rw [d5, rI_n _ _ k3, d4, rN_n _ _ k19, e3, rI_n _ _ k3]
      · rw [d5, rI_2, d4, rN_2, e3, rI_2]
    rw [f0, f6, nI_le0 (by omega)]
    exact ⟨fun z => fin _ (by rw [if_pos z]), fun z => fin _ (by rw [if_neg z])⟩
  · have hlt : i < 4 * (m - b) := by
      rcases Nat.lt_or_ge i (4 * (m - b)) with z | z
      · exact z
      · exact absurd (nI_le (by omega) (by omega)) c
    rw [nI_lmul, nI_add, zn_nI (by omega), zn_nI (by omega)]
    refine ⟨in_nI (by omega) (by decide), in_nI (by omega) (by decide), fun a1 d1 y ey => hB _ _ _ _ _ hlt ⟨?_, rfl, rfl, rfl, by rw [ey, nI_1]; rfl⟩⟩
    rw [d1, rI_rI, rI_s, zsh_s]
theorem zmin16 : ∀ m : Nat, m < 33 → zmin 16 (nI m) = nI (min 16 m) ∧ zmin (nI m) 16 = nI (min 16 m) := by decide +kernel
theorem Mid.cnt {n i : Nat} {cnt cnt1 : Nat → Nat → Nat} {cs g : Nat → RS} {o : Nat → Int32} (h : Mid n cnt i cs g o) (e : ∀ p f, p < 4 → f < n → cnt1 p f = cnt p f) : Mid n cnt1 i cs g o := by
  obtain ⟨a1, a2, a3, a4, a5, a6, a7, a8, a9⟩ := h
  refine ⟨a1, a2, a3, a4, a5, a6, a7, ⟨fun f hf => ?_, a8.2⟩, a9⟩
  obtain ⟨b1, b2⟩ := a8.1 f hf
  rw [e 0 f (by omega) hf, e 1 f (by omega) hf, e 2 f (by omega) hf, e 3 f (by omega) hf]
  refine ⟨b1, ?_⟩
  rcases b2 with ⟨c1, c2⟩ | ⟨k, k1, k2, k3, k4⟩
  · exact Or.inl ⟨c1, fun p hp => by rw [e p f hp hf]; exact c2 p hp⟩
  · exact Or.inr ⟨k, k1, k2, by rw [e k f k1 hf]; exact k3, fun p hp hne => by rw [e p f hp hf]; exact k4 p hp hne⟩
def zcn (R : Nat → Int32) (m : Nat → Nat) (q i : Nat) : Nat → Nat → Nat := fun p f => if p = q then zcq R (m q) q f - zcq R i q f else zcq R (m p) p f
/-- what a batch leaves as it was -/
def ztfr (R R1 : Nat → Int32) : Prop := ∀ j, (j < 5 ∨ j = 6 ∨ (7 ≤ j ∧ j < 10) ∨ j = 12 ∨ (14 ≤ j ∧ j < 55)) → R1 j = R j
theorem q8_t70 {Qb : Int32 → RS → Prop} {C : RS → Int32 → Int32 → Int32 → Int32 → Prop} {r1 : RS} (q i j n p : Nat) (hn : r1.1 3 4 = nI n) (hj : j < n) (h24 : n ≤ 24) (hp100 : p < 100) (hp : r1.1 17 (3 * j + 2) = nI p) (h0 : p = 0 → C r1 (nI q) (nI (433 + 140 * q)) (nI i) (nI (j + 1))) (h1 : ¬ p = 0 → wp_X8_gives r1 (nI j) (nI q) (fun u => C u (nI q) (nI (433 + 140 * q)) (nI i) (nI (j + 1)))) : wp_X8_takes_70 Qb C r1 (nI q) (nI (433 + 140 * q)) (nI i) (nI j) := by
  unfold wp_X8_takes_70 wp_X8_takes_102
  rw [hn]
  refine ⟨fun z => absurd ((nI_leI (by omega) (by omega)).mp z) (by omega), fun _ => ?_⟩
  rw [nI_lmul, show nI (3 * j) + 2 = nI (3 * j + 2) from nI_addl _ _, zn_nI (by omega), hp, nI_le0 (by omega)]
  have e : ∀ (x : Int32) (u : RS), C u (nI q) (nI (433 + 140 * q)) (nI i) (nI (j + 1)) → x = nI j + 1 → C u (nI q) (nI (433 + 140 * q)) (nI i) x := fun x u hc ex => by rw [ex, nI_1]; exact hc
  refine ⟨in_nI (by omega) (by decide), fun z x ex => e x r1 (h0 z) ex, fun z => ?_⟩
  have := h1 z
  rw [nI_1]
  have fe : (fun u133 => ∀ (x132 : Int32), x132 = nI (j + 1) → C u133 (nI q) (nI (433 + 140 * q)) (nI i) x132) = (fun u => C u (nI q) (nI (433 + 140 * q)) (nI i) (nI (j + 1))) := by
    funext u
    exact propext ⟨fun hh => hh _ rfl, fun hh x ex => by rw [ex]; exact hh⟩
  rw [fe]
  exact this
theorem k_takes {n nr : Nat} {m : Nat → Nat} {cs : Nat → RS} {R : Nat → Int32} {S : Nat → Int64} {q B : Nat} {Q : Int32 → (Nat → RS) → Prop} (h : SimX n nr m cs R S) (hb : Bd B R S) (hq : q < 4) (hQ : ∀ (cs1 : Nat → RS) (R1 : Nat → Int32) (S1 : Nat → Int64) (nr1 : Nat), SimX n nr1 (fun p => if p = q then m q - min 16 (m q) else m p) cs1 R1 S1 → Bd (B + 56) R1 S1 → ztfr R R1 → (∀ (r : RS) (Qb : Int32 → RS → Prop), r.1 3 = R → r.2 4 = S → (∀ r1 o1, zst r r1 R1 S1 o1 → Qb (nI (min 16 (m q))) r1) → wp_X8_takes r (nI q) Qb) → Q (nI (min 16 (m q))) cs1) : wp_X5_takeBatch cs (nI q) Q := by
  have hh := h
  obtain ⟨h0, hK, hF, hR, hT, hQu, hW, hG, hN, hO, hA⟩ := hh
  have hn24 : n ≤ 24 := hF.2.1
  obtain ⟨q1, q2, q3, q4, q5, q6⟩ := hQu q hq
  have qm : (cs (5 + q)).1 0 0 = nI (m q) := (q3 0 (by omega)).trans q2
  have hm32 : ∀ p, p < 4 → m p ≤ 32 := fun p hp => (hQu p hp).1
  have iq : vp_in (nI q) 4 := in_nI hq (by decide)
  obtain ⟨b, eb⟩ : ∃ b, b = min 16 (m q) := ⟨_, rfl⟩
  have b16 : b ≤ 16 := by omega
  have bm : b ≤ m q := by omega
  have zle : ∀ (i p f : Nat), zcq R i p f ≤ i := fun i p f => zct_le _ _
  rw [← eb] at hQ
  unfold wp_X5_takeBatch
  rw [zn_nI (by omega), qm, (zmin16 (m q) (by omega)).1, ← eb]
  refine ⟨iq, iq, fun x ex => ?_⟩
  subst ex
  refine zl5 (wp_X5_takeBatch_20 Q) b (fun i v y1 y2 y3 y4 => y1 = nI q ∧ y2 = nI q ∧ y3 = nI b ∧ y4 = nI i ∧ ∃ (g : Nat → RS) (R1 o1 : Nat → Int32) (S1 : Nat → Int64) (nr1 : Nat), SimX n nr1 m g R1 S1 ∧ Mid n (zcn R m q i) i v g o1 ∧ Bd (B + 2 * i) R1 S1 ∧ (∀ k, 5 ≤ k → v k = cs k) ∧ zgfr R R1 ∧ ∀ (r : RS) (Qb : Int32 → RS → Prop), r.1 3 = R → r.2 4 = S → (∀ j, j < 72 → r.1 17 j = 0) → (∀ r1, zst r r1 R1 S1 o1 → zit5 (wp_X8_takes_44 Qb) (b - i + 1) r1 (nI q) (nI (433 + 140 * q)) (nI b) (nI i)) → zit5 (wp_X8_takes_44 Qb) (b + 1) r (nI q) (nI (433 + 140 * q)) (nI b) 0) ?_ 0 (Nat.zero_le _) cs _ _ _ 0 ?_
  · rintro i C v y1 y2 y3 y4 hi ⟨rfl, rfl, rfl, rfl, g, R1, o1, S1, nr1, hX1, hM1, hb1, hk1, hfr1, hK1⟩ hC
    by_cases hlt : i < b
    · obtain ⟨f, f1, f2⟩ := q5 i (by omega)
      have f2' : R1 (441 + 140 * q + 4 * i + 0) = nI f := by rw [hfr1 _ (by omega)]; exact f2
      have zs : zcq R (i + 1) q f = zcq R i q f + 1 := by rw [zcq_s, f2]; simp
      have zm : zcq R (i + 1) q f ≤ zcq R (m q) q f := zct_mono _ (by omega)
      refine k_join hX1 hM1 hb1 (by omega) f1 hq (by omega) f2' ?_ ?_ (fun z => absurd ((nI_leI (by omega) (by omega)).mp z) (by omega)) (fun cs2 g2 R2 o2 S2 nr2 hX2 hM2 hb2 hk2 hfr2 hrun2 => ?_)
      · show 0 < zcn R m q i q f
        unfold zcn
        rw [if_pos rfl]
        omega
      · intro p hp
        unfold zcn
        have := hm32 p hp
        have := zle (m p) p f
        have := zle (m q) q f
        split <;> omega
      · refine hC _ _ _ _ _ hlt ⟨rfl, rfl, rfl, rfl, g2, R2, o2, S2, nr2, hX2, hM2.cnt (fun p j hp hj => ?_), by rw [show B + 2 * (i + 1) = B + 2 * i + 2 by omega]; exact hb2, fun k hk => by rw [hk2 k hk]; exact hk1 k hk, fun j hj => by rw [hfr2 j hj]; exact hfr1 j hj, fun r Qb hr hS ho hz => hK1 r Qb hr hS ho (fun r1 hr1 => ?_)⟩
        · unfold zless zcn
          by_cases e : p = q
          · subst e
            by_cases z : j = f
            · subst z
              rw [zs]
              simp
              omega
            · have : ¬ nI f = nI j := fun y => z ((nI_eq (by omega) (by omega)).mp y).symm
              have e1 : zcq R (i + 1) p j = zcq R i p j := by
                rw [zcq_s, f2]
                simp [this]
              rw [e1]
              simp [z]
          · rw [if_neg e, if_neg (fun y => e y.1), if_neg e]
        · rw [show b - i + 1 = (b - (i + 1) + 1) + 1 by omega]
          show wp_X8_takes_44 Qb (zit5 (wp_X8_takes_44 Qb) (b - (i + 1) + 1)) _ _ _ _ _
          unfold wp_X8_takes_44
          refine ⟨fun z => absurd ((nI_leI (by omega) (by omega)).mp z) (by omega), fun _ => q8_packetAt q i rfl rfl ?_⟩
          exact hrun2 r1 _ hr1.1 hr1.2.1 hr1.2.2.1 (fun r2 hr2 x ex => by rw [ex, nI_1]; exact hz r2 (hr1.trans hr2))
    · have hib : i = b := by omega
      subst hib
      unfold wp_X5_takeBatch_20
      refine ⟨fun _ => ?_, fun z => absurd (Int32.le_refl _) z⟩
      refine zl5 (wp_X5_takeBatch_157 Q) n (fun j v y1 y2 y3 y4 => y1 = nI q ∧ y2 = nI q ∧ y3 = nI i ∧ y4 = nI j ∧ ∃ (g : Nat → RS) (R1 o1 : Nat → Int32) (S1 : Nat → Int64) (nr1 : Nat), SimX n nr1 m g R1 S1 ∧ Mid n (zcn R m q i) i v g o1 ∧ Bd (B + 2 * i + j) R1 S1 ∧ (∀ k, 5 ≤ k → v k = cs k) ∧ zgfr R R1 ∧ (∀ f, f < j → (v 4).1 6 f = 0) ∧ ∀ (r : RS) (Qb : Int32 → RS → Prop), r.1 3 = R → r.2 4 = S → (∀ j, j < 72 → r.1 17 j = 0) → (∀ r1, zst r r1 R1 S1 o1 → zit5 (wp_X8_takes_70 Qb) (n - j + 1) r1 (nI q) (nI (433 + 140 * q)) (nI i) (nI j)) → zit5 (wp_X8_takes_44 Qb) (i + 1) r (nI q) (nI (433 + 140 * q)) (nI i) 0) ?_ 0 (Nat.zero_le _) v _ _ _ 0 ⟨rfl, rfl, rfl, rfl, g, R1, o1, S1, nr1, hX1, hM1, hb1, hk1, hfr1, fun f hf => absurd hf (Nat.not_lt_zero f), fun r Qb hr hS ho hz => hK1 r Qb hr hS ho (fun r1 hr1 => ?_)⟩
      · rintro j C2 v y1 y2 y3 y4 hj ⟨rfl, rfl, rfl, rfl, g, R1, o1, S1, nr1, hX1, hM1, hb1, hk1, hfr1, hcl, hK1⟩ hC2
        have hn2 : (v 2).1 0 0 = nI n := by rw [← hM1.2.1]; exact hX1.1
        unfold wp_X5_takeBatch_157 wp_X5_takeBatch_188
        rw [hn2]
        refine ⟨fun c => ⟨iq, ?_⟩, fun c => ?_⟩
        · have hj := nI_stop (by omega) hj c
          subst hj
          have v0 : (v 0).1 6 0 = R1 6 := by rw [← hM1.1 0 (by decide) (by decide)]; exact hX1.2.2.2.2.2.2.2.2.2.1.2.1
          rw [zn_nI (by omega), hk1 (5 + q) (by omega), v0]
          refine q3_takeAway (m q) i qm q1 bm (fun o2 ho u1 e1 => ?_)
          have pk : ∀ p f, p < 4 → f < j → (fun p f => if p = q then zcq R1 (m q) q f - zcq R1 i q f else zcq R1 (m p) p f) p f = zcn R m q i p f := by
            intro p f hp hf
            show (if p = q then zcq R1 (m q) q f - zcq R1 i q f else zcq R1 (m p) p f) = _
            have cf : ∀ p k, p < 4 → k ≤ 32 → zcq R1 k p f = zcq R k p f := by
              intro p k hp hk
              unfold zcq
              exact zct_eq (fun a ha => by rw [hfr1 _ (by omega)])
            unfold zcn
            rw [cf q (m q) hq q1, cf q i hq (by omega), cf p (m p) hp (hm32 p hp)]
          have hXe := hX1.taken (o1 := o2) (b := i) (hM1.cnt pk) hq bm hcl (by rw [hk1 (5 + q) (by omega)]; exact ho)
          rw [← e1] at hXe
          have r1m : R1 (433 + 140 * q) = nI (m q) := by rw [hfr1 _ (by omega)]; exact q2
          refine hQ u1 (ztake R1 q (m q) i) S1 nr1 hXe ?_ (fun k hk => by rw [ztake_o q1 (by omega) (by omega)]; exact hfr1 k (by omega)) (fun r Qb hr hS hQb => ?_)
          · have hb2 := hb1.to (C := B + 56) (by omega)
            obtain ⟨w1, w2, w3⟩ := hb2
            refine ⟨fun e he => by rw [ztake_o q1 (by omega) (by omega)]; exact w1 e he, w2, fun p k hp hk => ?_⟩
            by_cases e : p = q
            · subst e
              by_cases y : k < m p - i
              · rw [show 441 + 140 * p + 4 * k + 2 = 441 + 140 * p + (4 * k + 2) by omega, ztake_p q1 (by omega), show 441 + 140 * p + (4 * i + (4 * k + 2)) = 441 + 140 * p + 4 * (i + k) + 2 by omega]
                exact w3 p (i + k) hp (by omega)
              · have : ztake R1 p (m p) i (441 + 140 * p + 4 * k + 2) = R1 (441 + 140 * p + 4 * k + 2) := by
                  unfold ztake
                  rw [pk_un (by omega), pk_un (by omega), pk_un (by omega), pk_un (by omega)]
                  unfold zsh
                  rw [if_neg (by omega), pk_un (by omega)]
                rw [this]; exact w3 p k hp hk
            · rw [ztake_o q1 (by omega) (by omega)]; exact w3 p k hp hk
          · -- the reference from its entry
            unfold wp_X8_takes
            refine q8_queueAt q rfl ?_
            have rm : r.1 3 (433 + 140 * q) = nI (m q) := by rw [hr]; exact q2
            rw [zn_nI (by omega), rm]
            refine ⟨in_nI (by omega) (by decide), q8_lesser ?_⟩
            rw [(zmin16 (m q) (by omega)).2, ← eb]
            refine zl5 (wp_X8_takes_20 Qb) 72 (fun k w z1 z2 z3 z4 => (∀ a, a < k → w.1 17 a = 0) ∧ (∀ a, a ≠ 17 → w.1 a = r.1 a) ∧ w.2 = r.2 ∧ z1 = nI q ∧ z2 = nI (433 + 140 * q) ∧ z3 = nI i ∧ z4 = nI k) ?_ 0 (Nat.zero_le _) r _ _ _ 0 ⟨fun a ha => absurd ha (Nat.not_lt_zero a), fun _ _ => rfl, rfl, rfl, rfl, rfl, rfl⟩
            rintro k C3 w z1 z2 z3 z4 hk ⟨w17, wo, w2, rfl, rfl, rfl, rfl⟩ hC3
            unfold wp_X8_takes_20
            refine ⟨fun cc => ⟨i + 1, ?_⟩, fun cc => ?_⟩
            · have hk := nI_stop (N := 72) (by decide) hk cc
              subst hk
              have zw : zst r w (r.1 3) (r.2 4) (fun _ => 0) := zst.seg w17 wo w2
              refine hK1 w Qb (by rw [wo 3 (by decide)]; exact hr) (by rw [w2]; exact hS) w17 (fun r1 hr1 => ?_)
              rw [Nat.sub_self]
              show wp_X8_takes_70 Qb _ r1 _ _ _ _
              unfold wp_X8_takes_70
              have r14 : r1.1 3 4 = nI j := by rw [hr1.1]; exact hX1.2.2.1.1
              rw [r14]
              refine ⟨fun _ => ?_, fun z => absurd (Int32.le_refl _) z⟩
              refine q8_takeEnd q (m q) i hq q1 bm (by rw [hr1.1]; exact r1m) (fun r2 d3 d19 do_ d2 => hQb r2 o1 ?_)
              have zr := zw.trans hr1
              obtain ⟨c1, c2, c3, c4, c5, c6, c7⟩ := zr
              refine ⟨by rw [d3, c1], by rw [d2]; exact c2, by rw [do_ 17 (by decide) (by decide)]; exact c3, by rw [do_ 18 (by decide) (by decide), d2]; exact c4, ?_, fun a a3 a17 a18 a19 => by rw [do_ a a3 a19]; exact c6 a a3 a17 a18 a19, fun a ha => by rw [d2]; exact c7 a ha⟩
              have e10 : ztake (r1.1 3) q (m q) i 10 = r1.1 3 10 + 1 := by
                unfold ztake
                rw [pk_un (by omega), pk_us]
              rw [d19, d3, e10, ← c5]
              grind
            · have hlt := nI_go (N := 72) (by decide) hk cc
              rw [zn_nI (by omega)]
              refine ⟨in_nI (by omega) (by decide), fun w' dw x ex => hC3 _ _ _ _ _ hlt ⟨fun a ha => ?_, fun a ha => ?_, ?_, rfl, rfl, rfl, by rw [ex, nI_1]⟩⟩
              · rw [dw, rI_s]
                by_cases e : a = k
                · subst e; rw [pk_us]
                · rw [pk_un e]; exact w17 a (by omega)
              · rw [dw, rI_n _ _ ha]; exact wo a ha
              · rw [dw, rI_2]; exact w2
        · have hlt := nI_go (by omega) hj c
          obtain ⟨p, p1, p2, p3, p4⟩ := hM1.2.2.2.2.2.2.2.2 j (by omega)
          refine q4_isOpen j rfl (by omega) (fun cc u1 e1 => ⟨fun z => absurd z (by decide), fun _ => ?_⟩) (fun cc u1 e1 => ⟨fun _ x ex => ?_, fun z => absurd rfl z⟩)
          · rw [va_up_id] at e1
            subst e1
            have hop : ¬ (u1 4).1 6 j = 0 := fun z => cc (by rw [z]; exact Int32.le_refl _)
            refine k_give hX1 hM1 hb1 b16 hlt hq hop (fun cs2 g2 R2 o2 S2 nr2 hX2 hM2 hb2 h62 _ _ ho2 hk2 hfr2 hrun2 x ex => ?_)
            refine hC2 _ _ _ _ _ hlt ⟨rfl, rfl, rfl, by rw [ex, nI_1], g2, R2, o2, S2, nr2, hX2, hM2, hb2, fun k hk => by rw [hk2 k hk]; exact hk1 k hk, fun a ha => by rw [hfr2 a ha]; exact hfr1 a ha, fun f hf => ?_, fun r Qb hr hS ho hz => hK1 r Qb hr hS ho (fun r1 hr1 => ?_)⟩
            · rw [h62]
              by_cases e : f = j
              · subst e; rw [pk_us]
              · rw [pk_un e]; exact hcl f (by omega)
            · rw [show n - j + 1 = (n - (j + 1) + 1) + 1 by omega]
              show wp_X8_takes_70 Qb (zit5 (wp_X8_takes_70 Qb) (n - (j + 1) + 1)) r1 _ _ _ _
              have r14 : r1.1 3 4 = nI n := by rw [hr1.1]; exact hX1.2.2.1.1
              rw [p2, nI_le0 (by omega)] at cc
              refine q8_t70 q i j n p r14 hlt hn24 (by omega) (by rw [hr1.2.2.1 _ (by omega)]; exact p3) (fun z => absurd z cc) (fun _ => ?_)
              exact hrun2 r1 _ hr1.1 hr1.2.1 hr1.2.2.1 (fun r2 hr2 => hz r2 (hr1.trans hr2))
          · rw [va_up_id] at e1
            subst e1
            refine hC2 _ _ _ _ _ hlt ⟨rfl, rfl, rfl, by rw [ex, nI_1], g, R1, o1, S1, nr1, hX1, hM1, hb1.up 1, hk1, hfr1, fun f hf => ?_, fun r Qb hr hS ho hz => hK1 r Qb hr hS ho (fun r1 hr1 => ?_)⟩
            · by_cases e : f = j
              · subst e
                rw [p2] at cc ⊢
                rw [nI_le0 (by omega)] at cc
                rw [cc]; rfl
              · exact hcl f (by omega)
            · rw [show n - j + 1 = (n - (j + 1) + 1) + 1 by omega]
              show wp_X8_takes_70 Qb (zit5 (wp_X8_takes_70 Qb) (n - (j + 1) + 1)) r1 _ _ _ _
              have r14 : r1.1 3 4 = nI n := by rw [hr1.1]; exact hX1.2.2.1.1
              rw [p2, nI_le0 (by omega)] at cc
              exact q8_t70 q i j n p r14 hlt hn24 (by omega) (by rw [hr1.2.2.1 _ (by omega)]; exact p3) (fun _ => hz r1 hr1) (fun z => absurd cc z)
      · rw [Nat.sub_self]
        show wp_X8_takes_44 Qb _ r1 _ _ _ _
        unfold wp_X8_takes_44
        exact ⟨fun _ => ⟨n + 1, hz r1 hr1⟩, fun z => absurd (Int32.le_refl _) z⟩
  · refine ⟨rfl, rfl, rfl, rfl, cs, R, fun _ => 0, S, nr, h, ⟨fun _ _ _ => rfl, rfl, fun _ _ _ _ _ _ => rfl, rfl, rfl, rfl, rfl, ⟨fun f hf => ?_, fun j j1 j2 => ⟨hF.2.2.2.2.2.2.2 j 7 j1 j2 (by omega), hF.2.2.2.2.2.2.2 j 8 j1 j2 (by omega)⟩⟩, fun f hf => ⟨0, Nat.le_refl _, hN f hf, rfl, fun z => absurd z (by omega)⟩⟩, hb, fun _ _ => rfl, fun _ _ => rfl, fun r Qb hr hS ho hz => ?_⟩
    · have e : ∀ p, zcn R m q 0 p f = zcq R (m p) p f := by
        intro p
        unfold zcn
        by_cases z : p = q
        · rw [if_pos z, z]; rfl
        · rw [if_neg z]
      rw [e, e, e, e]
      obtain ⟨b1, b2⟩ := hW f hf
      refine ⟨b1, ?_⟩
      rcases b2 with ⟨c1, c2⟩ | ⟨k, k1, k2, k3, k4⟩
      · exact Or.inl ⟨c1, fun p hp => by rw [e]; exact c2 p hp⟩
      · exact Or.inr ⟨k, k1, k2, by rw [e]; exact k3, fun p hp hne => by rw [e]; exact k4 p hp hne⟩
    · have zz : zst r r R S (fun _ => 0) := ⟨hr, hS, ho, rfl, rfl, fun _ _ _ _ _ => rfl, fun _ _ => rfl⟩
      exact hz r zz
