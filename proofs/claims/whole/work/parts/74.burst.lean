-- the pure side: burst
theorem nI_div {a b : Nat} (ha : a < 2 ^ 31) (hb : b < 2 ^ 31) : nI a / nI b = nI (a / b) := by
  have hle : a / b ≤ a := Nat.div_le_self a b
  apply Int32.toInt_inj.mp
  rw [Int32.toInt_div, nI_toInt ha, nI_toInt hb, nI_toInt (by omega), ← Int.ofNat_tdiv]
  generalize a / b = d at hle ⊢
  exact Int.bmod_eq_of_le (by omega) (by omega)
theorem nI_mod {a b : Nat} (ha : a < 2 ^ 31) (hb : b < 2 ^ 31) : nI a - nI a / nI b * nI b = nI (a % b) := by
  have h1 : a / b * b ≤ a := Nat.div_mul_le_self a b
  rw [nI_div ha hb, nI_mul, nI_sub h1]
  congr 1
  have := Nat.div_add_mod a b
  rw [Nat.mul_comm] at this
  omega
theorem zmodN {N f k : Nat} (hf : f < N) (hk : k < N) : (f + k) % N = if f + k < N then f + k else f + k - N := by
  by_cases h : f + k < N
  · rw [if_pos h, Nat.mod_eq_of_lt h]
  · rw [if_neg h, Nat.mod_eq_sub_mod (by omega), Nat.mod_eq_of_lt (by omega)]
theorem zmod_inj {N f a b : Nat} (hf : f < N) (ha : a < N) (hb : b < N) (h : (f + a) % N = (f + b) % N) : a = b := by
  rw [zmodN hf ha, zmodN hf hb] at h
  split at h <;> split at h <;> omega
theorem zmod_s {N f j : Nat} (hN : 0 < N) : (f + (j + 1)) % N = if (f + j) % N + 1 < N then (f + j) % N + 1 else 0 := by
  have hl := Nat.mod_lt (f + j) hN
  rw [← Nat.add_assoc, Nat.add_mod]
  by_cases h1 : N = 1
  · subst h1
    rw [if_neg (by omega)]
    exact Nat.mod_one _
  · rw [Nat.mod_eq_of_lt (show 1 < N by omega)]
    by_cases h : (f + j) % N + 1 < N
    · rw [if_pos h, Nat.mod_eq_of_lt h]
    · rw [if_neg h, show (f + j) % N + 1 = N by omega, Nat.mod_self]
theorem zrnd1 : ∀ N : Nat, N < 25 → ∀ j : Nat, j < 20 → ∀ k : Nat, k < N → (j + 1 + N - 1 - k) / N = (j + N - 1 - k) / N + if k = j % N then 1 else 0 := by decide +kernel
theorem zrnd2 : ∀ N : Nat, N < 25 → ∀ c : Nat, c < 21 → ∀ j : Nat, j < c → 0 < N → (j + N - 1 - j % N) / N + 1 ≤ (c - j % N + N - 1) / N := by decide +kernel
theorem zrnd3 : ∀ N : Nat, N < 25 → ∀ c : Nat, c < 21 → (c + N - 1) / N ≤ 20 ∨ N = 0 := by decide +kernel
/-- a flow has room for its packets of a burst -/
def zfit (R : Nat → Int32) (f c s N k : Nat) : Prop := R (73 + 15 * ((f + k) % N) + 5) + nI ((c - k + N - 1) / N * s) ≤ 1000000000
theorem zcount {c k N s : Nat} (hk : k < c) (hN : 0 < N) (h24 : N ≤ 24) (hc : c ≤ 20) : (((nI c - nI k) + nI N) - 1) / nI N * nI s = nI ((c - k + N - 1) / N * s) := by
  rw [nI_sub (by omega), nI_add, nI_subl (by omega), nI_div (by omega) (by omega), nI_mul]
theorem q7_burstFits {u : TS} {Q : Int32 → TS → Prop} {R : Nat → Int32} (N f c s : Nat) (hF : sF N ((u.2.2.1 2).1 1) R) (hn : (u.2.2.1 2).1 0 0 = nI N) (hf : f < N) (hc : c ≤ 20) (h1 : (∀ k, k < c → k < N → zfit R f c s N k) → Q 1 u) (h2 : (∃ k, k < c ∧ k < N ∧ (∀ j, j < k → zfit R f c s N j) ∧ ¬ zfit R f c s N k) → Q 0 u) : wp_X7_burstFits u (nI f) (nI c) (nI s) Q := by
  have h24 : N ≤ 24 := hF.2.1
  unfold wp_X7_burstFits
  intro x ex
  rw [hn] at ex
  subst ex
  refine zl6 (wp_X7_burstFits_15 Q) c (fun i v y1 y2 y3 y4 y5 => v = u ∧ y1 = nI f ∧ y2 = nI c ∧ y3 = nI s ∧ y4 = nI N ∧ y5 = nI i ∧ i ≤ N ∧ ∀ k, k < i → zfit R f c s N k) ?_ 0 (Nat.zero_le _) u _ _ _ _ 0 ⟨rfl, rfl, rfl, rfl, rfl, rfl, Nat.zero_le _, fun k hk => absurd hk (Nat.not_lt_zero k)⟩
  rintro i B v y1 y2 y3 y4 y5 hi ⟨rfl, rfl, rfl, rfl, rfl, rfl, hiN, hp⟩ hB
  unfold wp_X7_burstFits_15 wp_X7_burstFits_99
  refine ⟨fun z => ?_, fun z => ?_⟩
  · have hi := nI_stop (by omega) hi z
    subst hi
    exact h1 (fun k hk _ => hp k hk)
  · have hlt := nI_go (by omega) hi z
    refine ⟨fun z2 => ?_, fun z2 => ?_⟩
    · have := nI_stop (by omega) hiN z2
      subst this
      exact h1 (fun k _ hk => hp k hk)
    · have hlt2 := nI_go (by omega) hiN z2
      have hm := zmodN hf hlt2
      have body : ∀ t : Int32, t = nI ((f + i) % N) → wp_X7_burstFits_51 Q B v (nI f) (nI c) (nI s) (nI N) (nI i) t := by
        intro t et
        unfold wp_X7_burstFits_51
        have hml : (f + i) % N < N := Nat.mod_lt _ (by omega)
        refine ⟨nI_ne0 (by omega) (by omega), fun x ex => ?_⟩
        refine q0_get 9 ((f + i) % N) rfl et (by omega) (by omega) (fun u1 e1 => ?_)
        rw [tN_id] at e1
        subst e1
        have cc : (u1.2.2.1 2).1 1 (9 * 24 + (f + i) % N) = R (73 + 15 * ((f + i) % N) + 5) := hF.2.2.1 _ 5 hml (by omega)
        rw [cc, ex, zcount hlt (by omega) h24 hc]
        refine ⟨fun y z ez => hB _ _ _ _ _ _ hlt ⟨rfl, rfl, rfl, rfl, rfl, by rw [ez, nI_1], by omega, fun k hk => ?_⟩, fun y => h2 ⟨i, hlt, hlt2, hp, y⟩⟩
        by_cases w : k = i
        · rw [w]; exact y
        · exact hp k (by omega)
      rw [nI_add]
      refine ⟨fun y => body _ ?_, fun y => body _ ?_⟩
      · have := (nI_leI (by omega) (by omega)).mp y
        rw [nI_sub this, hm, if_neg (by omega)]
      · have : f + i < N := by
          rcases Nat.lt_or_ge (f + i) N with w | w
          · exact w
          · exact absurd (nI_le w (by omega)) y
        rw [hm, if_pos this]
theorem q8_burst61 {r : RS} {Q : Int32 → RS → Prop} (N f c s : Nat) (h24 : N ≤ 24) (hf : f < N) (hc : c ≤ 20) (h1 : (∀ k, k < c → k < N → zfit (r.1 3) f c s N k) → wp_X8_burst_119 Q r (nI f) (nI c) (nI s) (nI N)) (h2 : (∃ k, k < c ∧ k < N ∧ ¬ zfit (r.1 3) f c s N k) → wp_X8_refuse r (-4) (fun r131 u132 => Q r131 u132)) : ∃ n, zit6 (wp_X8_burst_61 Q) n r (nI f) (nI c) (nI s) (nI N) 0 := by
  refine zl6 (wp_X8_burst_61 Q) c (fun i v y1 y2 y3 y4 y5 => v = r ∧ y1 = nI f ∧ y2 = nI c ∧ y3 = nI s ∧ y4 = nI N ∧ y5 = nI i ∧ i ≤ N ∧ ∀ k, k < i → zfit (r.1 3) f c s N k) ?_ 0 (Nat.zero_le _) r _ _ _ _ 0 ⟨rfl, rfl, rfl, rfl, rfl, rfl, Nat.zero_le _, fun k hk => absurd hk (Nat.not_lt_zero k)⟩
  rintro i B v y1 y2 y3 y4 y5 hi ⟨rfl, rfl, rfl, rfl, rfl, rfl, hiN, hp⟩ hB
  unfold wp_X8_burst_61
  refine ⟨fun z => ?_, fun z => ⟨fun z2 => ?_, fun z2 => ?_⟩⟩
  · have := nI_stop (by omega) hiN z
    subst this
    exact h1 (fun k _ hk => hp k hk)
  · have hi := nI_stop (by omega) hi z2
    subst hi
    exact h1 (fun k hk _ => hp k hk)
  · have hlt2 := nI_go (by omega) hiN z
    have hlt := nI_go (by omega) hi z2
    have hml : (f + i) % N < N := Nat.mod_lt _ (by omega)
    refine ⟨nI_ne0 (by omega) (by omega), fun x ex => ⟨nI_ne0 (by omega) (by omega), ?_⟩⟩
    rw [nI_add, nI_mod (by omega) (by omega), ex, zcount hlt (by omega) h24 hc]
    refine q8_hasNext ((f + i) % N) rfl (by omega) (fun y => ⟨fun _ w ew => hB _ _ _ _ _ _ hlt ⟨rfl, rfl, rfl, rfl, rfl, by rw [ew, nI_1], by omega, fun k hk => ?_⟩, fun w => absurd w (by decide)⟩) (fun y => ⟨fun w => absurd rfl w, fun _ => h2 ⟨i, hlt, hlt2, y⟩⟩)
    by_cases w : k = i
    · rw [w]; exact y
    · exact hp k (by omega)
theorem p_burst {B : Nat} : pX_burst (Rel B) (Rel (B + 30000)) := by
  intro u r x1 x2 x3 h
  have bd0 : Bd B (r.1 3) (r.2 4) := h.2.2.1.2
  replace h := h.up 30000
  have h0 : Rel0 (B + 30000) u (rN r 0 0) := h.2
  have hs : Sim u.2.2.1 (r.1 3) (r.2 4) := h.2.2.1.1
  obtain ⟨N, nr, m, hX⟩ := hs.x
  have hn := hX.1
  have hF := hX.2.2.1
  have h24 : N ≤ 24 := hF.2.1
  have h4 : (rN r 0 0).1 3 4 = nI N := hF.1
  have bad : ((∀ c, 1 ≤ c → c ≤ 20 → ¬ x2 = nI c) ∨ (∀ s, 1 ≤ s → s ≤ 1500 → ¬ x3 = nI s)) → wp_X7_burst_18 (fun x u1 => wp_X8_burst r x1 x2 x3 (fun y r1 => x = y ∧ Rel (B + 30000) u1 r1)) u := by
    intro ho
    unfold wp_X7_burst_18
    refine k_refuse 1 (-1) (by decide) (by decide) h0 (fun u1 hu => ?_)
    unfold wp_X8_burst wp_X8_burst_29
    intro r1 f1
    subst f1
    refine q8_inr 1 20 (by decide) (by decide) (by decide) (fun c c1 c2 e => ⟨fun z => absurd z (by decide), fun _ => q8_inr 1 1500 (by decide) (by decide) (by decide) (fun s s1 s2 e2 => ?_) (fun _ => ⟨fun z => absurd rfl z, fun _ => hu _ (fun r2 hr => ⟨rfl, hr⟩)⟩)⟩) (fun _ => ⟨fun _ => hu _ (fun r2 hr => ⟨rfl, hr⟩), fun z => absurd rfl z⟩)
    rcases ho with ho | ho
    · exact absurd e (ho c c1 c2)
    · exact absurd e2 (ho s s1 s2)
  unfold wp_X7_burst
  refine ⟨fun cc => bad (Or.inl (fun c c1 c2 e => ?_)), fun cc => ⟨fun d => bad (Or.inl (fun c c1 c2 e => ?_)), fun d => ?_⟩⟩
  · rw [e] at cc; exact absurd (show nI c < nI 1 from cc) (nI_nlt c1 (by omega))
  · rw [e] at d; exact absurd (show nI 20 < nI c from d) (nI_nlt c2 (by decide))
  · obtain ⟨c, c1, c2, ec⟩ : ∃ c, 1 ≤ c ∧ c ≤ 20 ∧ x2 = nI c := by
      rw [Int32.lt_iff_toInt_lt] at cc d
      have z1 : (1 : Int32).toInt = 1 := by decide
      have z9 : (20 : Int32).toInt = 20 := by decide
      rw [z1] at cc
      rw [z9] at d
      obtain ⟨k, hk, ek⟩ := i32_of (x := x2) (n := 20) (by omega) (by omega) (by decide)
      rw [ek, nI_toInt (by omega)] at cc
      exact ⟨k, by omega, hk, ek⟩
    clear cc d
    subst ec
    refine q7_isSize (fun s s1 s2 es => ⟨fun _ => q7_isFlow N hn h24 (fun f hf e => ⟨fun _ => ?_, fun z => absurd z (by decide)⟩) (fun ho => ⟨fun z => absurd rfl z, fun _ => ?_⟩), fun z => absurd z (by decide)⟩) (fun ho => ⟨fun z => absurd rfl z, fun _ => bad (Or.inr ho)⟩)
    · subst es e
      refine q7_burstFits N f c s hF hn hf c2 (fun hfit => ⟨fun _ => ?_, fun z => absurd z (by decide)⟩) (fun hno => ⟨fun z => absurd rfl z, fun _ => ?_⟩)
      · refine q7_begin h0 (fun u1 l1 n1 o1 hrem => ?_)
        refine zl6 (wp_X7_burst_71 _) c (fun j v y2 y3 y4 y5 y6 => ∃ (cs : Nat → RS) (R1 : Nat → Int32) (m1 : Nat → Nat), v = tN u1 cs ∧ SimX N nr m1 cs R1 (r.2 4) ∧ Bd (B + j) R1 (r.2 4) ∧ (∀ k, k < N → R1 (73 + 15 * ((f + k) % N) + 5) = r.1 3 (73 + 15 * ((f + k) % N) + 5) + nI (s * ((j + N - 1 - k) / N))) ∧ y2 = nI c ∧ y3 = nI s ∧ y5 = nI ((f + j) % N) ∧ y6 = nI j ∧ ∀ (a : RS) (Qb : Int32 → RS → Prop), a.1 3 = r.1 3 → zit7 (wp_X8_burst_131 Qb) (c - j + 1) (rI a 3 R1) (nI f) (nI c) (nI s) (nI N) y4 (nI j) → zit7 (wp_X8_burst_131 Qb) (c + 1) a (nI f) (nI c) (nI s) (nI N) 0 0) ?_ 0 (Nat.zero_le _) u1 _ _ _ _ _ ?_
        · rintro j A v y2 y3 y4 y5 y6 hj ⟨cs, R1, m1, rfl, hX1, hb1, hnx, rfl, rfl, rfl, rfl, hK⟩ hA
          unfold wp_X7_burst_71
          refine ⟨fun z => ?_, fun z => ?_⟩
          · have hj := nI_stop (by omega) hj z
            subst hj
            unfold wp_X8_burst
            intro r1 f1
            subst f1
            refine q8_inr 1 20 (by decide) (by decide) (by decide) (fun _ _ _ _ => ⟨fun z => absurd z (by decide), fun _ => q8_inr 1 1500 (by decide) (by decide) (by decide) (fun _ _ _ _ => ⟨fun _ => q8_isFlow N h4 h24 (fun _ _ _ => ⟨fun _ x ex => ?_, fun z => absurd z (by decide)⟩) (fun ho => absurd rfl (ho f hf)), fun z => absurd z (by decide)⟩) (fun ho => absurd rfl (ho s s1 s2))⟩) (fun ho => absurd rfl (ho j c1 c2))
            rw [h4] at ex
            subst ex
            refine q8_burst61 N f j s h24 hf c2 (fun _ => ?_) (fun ⟨k, k1, k2, k3⟩ => absurd (hfit k k1 k2) k3)
            unfold wp_X8_burst_119
            refine q8_rem h0 (fun mm vv m1' m2' hz => ⟨j + 1, hK vv _ hz.row.1 ?_⟩)
            rw [Nat.sub_self]
            show wp_X8_burst_131 _ _ _ _ _ _ _ _ _
            unfold wp_X8_burst_131
            refine ⟨fun _ => ?_, fun z => absurd (Int32.le_refl _) z⟩
            unfold wp_X8_tell
            intro r3 d3
            refine ⟨rfl, k_end (hrem mm vv m1' m2' hz) l1 rfl (by rw [d3, rN_s]) (fun j hj => by rw [d3, rN_n _ _ (by omega), rI_n _ _ (by omega)]) (fun j hj => by rw [d3, rN_2, rI_2]) ?_⟩
            rw [d3, rN_n _ _ (by decide), rI_s, rN_2, rI_2, hz.row.2]
            exact ⟨hX1.sim, hb1.to (by omega)⟩
          · have hlt := nI_go (by omega) hj z
            have hml : (f + j) % N < N := Nat.mod_lt _ (by omega)
            have hjm : j % N < N := Nat.mod_lt _ (by omega)
            have emod : (f + j) % N = (f + j % N) % N := (Nat.add_mod_mod f j N).symm
            obtain ⟨y, y1, y2⟩ := hF.2.2.2.2.1 _ hml
            have hjle : j % N ≤ j := Nat.mod_le j N
            have fit := hfit (j % N) (by omega) hjm
            have nx := hnx (j % N) hjm
            rw [← emod] at nx
            rw [y2, nI_add] at nx
            have bnd : y + s * ((j + N - 1 - j % N) / N) + s ≤ 1000000000 := by
              unfold zfit at fit
              rw [← emod, y2] at fit
              have r2 := zrnd2 N (by omega) c (by omega) j hlt (by omega)
              have r3 := zrnd3 N (by omega) (c - j % N) (by omega)
              have r4 : (c - j % N + N - 1) / N ≤ 20 := by omega
              have h5 : (c - j % N + N - 1) / N * s ≤ 20 * 1500 := Nat.mul_le_mul r4 s2
              have f2 := next_le y1 (by omega) fit
              have h6 : ((j + N - 1 - j % N) / N + 1) * s ≤ (c - j % N + N - 1) / N * s := Nat.mul_le_mul_right s r2
              rw [Nat.add_mul, Nat.one_mul, Nat.mul_comm _ s] at h6
              omega
            refine k_arrive hX1 hml nx (by omega) s2 (Or.inl rfl) (fun v cs1 R2 m2 hX2 hz u2 e2 => ?_)
            obtain ⟨hv, hnn, hb, hc⟩ := hz
            have e2 : u2 = tN u1 cs1 := e2
            subst e2
            have s95 : ∀ (y4' : Int32), (y4' = y4 ∧ v = 4 ∨ y4' = y4 + 1 ∧ ¬ v = 4) → wp_X7_burst_95 (fun x u1 => wp_X8_burst r (nI f) (nI c) (nI s) (fun y r1 => x = y ∧ Rel (B + 30000) u1 r1)) A (tN u1 cs1) (nI c) (nI s) y4' (nI ((f + j) % N)) (nI j) := by
              intro y4' hy4
              unfold wp_X7_burst_95 wp_X7_burst_120
              have hn2 : ((tN u1 cs1).2.2.1 2).1 0 0 = nI N := hX2.1
              rw [hn2, nI_1]
              have go : ∀ t : Int32, t = nI ((f + (j + 1)) % N) → ∀ x120 : Int32, x120 = nI j + 1 → A (tN u1 cs1) (nI c) (nI s) y4' t x120 := by
                intro t et x ex
                refine hA _ _ _ _ _ _ hlt ⟨cs1, R2, m2, rfl, hX2, by have := hb _ hb1; rw [Nat.add_assoc] at this; exact this, fun k hk => ?_, rfl, rfl, et, by rw [ex, nI_1], fun a Qb ha hz7 => hK a Qb ha ?_⟩
                · have hkl : (f + k) % N < N := Nat.mod_lt _ (by omega)
                  rw [hnn _ (by omega), hnx k hk, zrnd1 N (by omega) j (by omega) k hk]
                  by_cases w : k = j % N
                  · have : (f + k) % N = (f + j) % N := by rw [w, ← emod]
                    rw [if_pos this, if_pos w, Nat.mul_add, Nat.mul_one, ← nI_add, Int32.add_assoc]
                  · have hne : ¬ (f + k) % N = (f + j) % N := fun q => w (zmod_inj hf hk hjm (q.trans emod))
                    rw [if_neg hne, if_neg w]
                    rfl
                · have : c - j + 1 = (c - (j + 1) + 1) + 1 := by omega
                  rw [this]
                  show wp_X8_burst_131 Qb (zit7 (wp_X8_burst_131 Qb) (c - (j + 1) + 1)) _ _ _ _ _ _ _
                  unfold wp_X8_burst_131 wp_X8_burst_161
                  refine ⟨fun q => absurd q z, fun _ => ⟨nI_ne0 (by omega) (by omega), ?_⟩⟩
                  rw [nI_add, nI_mod (by omega) (by omega)]
                  refine hc (rI a 3 R1) (rI_s _ _ _) _ ?_
                  rw [rI_rI]
                  rcases hv with rfl | ⟨q, hq, rfl⟩
                  · refine ⟨fun _ x1 ex1 x2 ex2 => ?_, fun q => absurd (by decide) q⟩
                    have : x1 = y4' := by
                      rcases hy4 with ⟨q1, -⟩ | ⟨-, q2⟩
                      · rw [ex1, q1, Int32.add_zero]
                      · exact absurd rfl q2
                    rw [this, ex2, nI_1]; exact hz7
                  · refine ⟨fun w => absurd ((nI_leI (by decide) (by omega)).mp (show nI 4 ≤ nI q from w)) (by omega), fun _ x1 ex1 x2 ex2 => ?_⟩
                    have : x1 = y4' := by
                      rcases hy4 with ⟨-, q2⟩ | ⟨q1, -⟩
                      · exact absurd ((nI_eq (by omega) (by decide)).mp (show nI q = nI 4 from q2)) (by omega)
                      · rw [ex1, q1]
                    rw [this, ex2, nI_1]; exact hz7
              refine ⟨fun w => go _ ?_, fun w => go _ ?_⟩
              · have := (nI_leI (by omega) (by omega)).mp w
                rw [zmod_s (by omega), if_neg (by omega)]
                rfl
              · have : (f + j) % N + 1 < N := by
                  rcases Nat.lt_or_ge ((f + j) % N + 1) N with q | q
                  · exact q
                  · exact absurd (nI_le q (by omega)) w
                rw [zmod_s (by omega), if_pos this]
            exact ⟨fun w => s95 y4 (Or.inl ⟨rfl, w⟩), fun w x ex => s95 x (Or.inr ⟨ex, w⟩)⟩
        · refine ⟨u1.2.2.1, r.1 3, m, rfl, by rw [n1]; exact hX, bd0.up 0, fun k hk => ?_, rfl, rfl, by rw [Nat.add_zero, Nat.mod_eq_of_lt hf], rfl, fun a Qb ha hz => ?_⟩
          · have : (0 + N - 1 - k) / N = 0 := Nat.div_eq_of_lt (by omega)
            rw [this, Nat.mul_zero]
            exact (Int32.add_zero _).symm
          · rw [← ha, rI_id] at hz
            exact hz
      · refine k_refuse 4 (-4) (by decide) (by decide) h0 (fun u1 hu => ?_)
        unfold wp_X8_burst
        intro r1 f1
        subst f1
        refine q8_inr 1 20 (by decide) (by decide) (by decide) (fun _ _ _ _ => ⟨fun z => absurd z (by decide), fun _ => q8_inr 1 1500 (by decide) (by decide) (by decide) (fun _ _ _ _ => ⟨fun _ => q8_isFlow N h4 h24 (fun _ _ _ => ⟨fun _ x ex => ?_, fun z => absurd z (by decide)⟩) (fun ho => absurd rfl (ho f hf)), fun z => absurd z (by decide)⟩) (fun ho => absurd rfl (ho s s1 s2))⟩) (fun ho => absurd rfl (ho c c1 c2))
        rw [h4] at ex
        subst ex
        obtain ⟨k, k1, k2, -, k3⟩ := hno
        exact q8_burst61 N f c s h24 hf c2 (fun hy => absurd (hy k k1 k2) k3) (fun _ => hu _ (fun r2 hr => ⟨rfl, hr⟩))
    · refine k_refuse 2 (-2) (by decide) (by decide) h0 (fun u1 hu => ?_)
      unfold wp_X8_burst
      intro r1 f1
      subst f1
      exact q8_inr 1 20 (by decide) (by decide) (by decide) (fun _ _ _ _ => ⟨fun z => absurd z (by decide), fun _ => q8_inr 1 1500 (by decide) (by decide) (by decide) (fun _ _ _ _ => ⟨fun _ => q8_isFlow N h4 h24 (fun f hf e => absurd e (ho f hf)) (fun _ => ⟨fun z => absurd rfl z, fun _ => hu _ (fun r2 hr => ⟨rfl, hr⟩)⟩), fun z => absurd z (by decide)⟩) (fun hno => absurd es (hno s s1 s2))⟩) (fun hno => absurd rfl (hno c c1 c2))
