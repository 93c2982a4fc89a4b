-- the pure side: entries dealt anew, the reference; balance, retire
def zrT (R tab : Nat → Int32) : Nat → Int32 := fun j => if 23 ≤ j ∧ j < 39 then tab (j - 23) else R j
theorem zrT_in (R tab : Nat → Int32) {e : Nat} (he : e < 16) : zrT R tab (23 + e) = tab e := by
  unfold zrT
  rw [if_pos (by omega), show 23 + e - 23 = e by omega]
theorem zrT_o (R tab : Nat → Int32) {j : Nat} (h : ¬ (23 ≤ j ∧ j < 39)) : zrT R tab j = R j := by
  unfold zrT
  rw [if_neg h]
theorem zrT_u (R tab : Nat → Int32) {e : Nat} (x : Int32) (he : e < 16) : upd (zrT R tab) (23 + e) x = zrT R (upd tab e x) := by
  funext j
  by_cases c : j = 23 + e
  · rw [c, pk_us, zrT_in _ _ he, pk_us]
  · rw [pk_un c]
    by_cases d : 23 ≤ j ∧ j < 39
    · obtain ⟨k, rfl⟩ : ∃ k, j = 23 + k := ⟨j - 23, by omega⟩
      rw [zrT_in _ _ (by omega), zrT_in _ _ (by omega), pk_un (by omega)]
    · rw [zrT_o _ _ d, zrT_o _ _ d]
theorem zrT_id (R : Nat → Int32) : zrT R (fun e => R (23 + e)) = R := by
  funext j
  by_cases d : 23 ≤ j ∧ j < 39
  · obtain ⟨k, rfl⟩ : ∃ k, j = 23 + k := ⟨j - 23, by omega⟩
    rw [zrT_in _ _ (by omega)]
  · rw [zrT_o _ _ d]
theorem nar1 : vp_nar .boolean 1 = 1 := by decide
theorem nar0 : vp_nar .boolean 0 = 0 := by decide
theorem zord_inj {h : Nat → Int32} {o : Nat → Nat} {i j : Nat} (ho : zord h o 16) (hi : i < 16) (hj : j < 16) (e : o i = o j) : i = j := by
  rcases Nat.lt_trichotomy i j with q | q | q
  · have := ho.2.1 i j q hj
    unfold zbf at this
    rw [e] at this
    omega
  · exact q
  · have := ho.2.1 j i q hi
    unfold zbf at this
    rw [e] at this
    omega
theorem q8_layBalanced {u : RS} {o : Nat → Nat} {Q : Int32 → RS → Prop} (ho : zord (fun e => u.1 3 (39 + e)) o 16) (hQ : ∀ w : RS, w.1 3 = zrT (u.1 3) (zdeal (fun e => u.1 3 (39 + e)) (fun e => u.1 3 (23 + e), fun _ => 0, 0) o 16).1 → (∀ k, k ≠ 3 → k ≠ 15 → k ≠ 16 → w.1 k = u.1 k) → w.2 = u.2 → Q (zdeal (fun e => u.1 3 (39 + e)) (fun e => u.1 3 (23 + e), fun _ => 0, 0) o 16).2.2 w) : wp_X8_layBalanced u Q := by
  obtain ⟨H, eH⟩ : ∃ H, H = (fun e => u.1 3 (39 + e)) := ⟨_, rfl⟩
  obtain ⟨t0, et0⟩ : ∃ t0 : DS, t0 = (fun e => u.1 3 (23 + e), fun _ => 0, 0) := ⟨_, rfl⟩
  rw [← eH] at ho
  rw [← eH, ← et0] at hQ
  have hHe : ∀ e, u.1 3 (39 + e) = H e := fun e => by rw [eH]
  unfold wp_X8_layBalanced
  refine zl3 (wp_X8_layBalanced_4 Q) 4 (fun i v y1 y2 => y1 = 0 ∧ y2 = nI i ∧ (∀ p, p < i → v.1 15 p = 0) ∧ (∀ k, k ≠ 15 → v.1 k = u.1 k) ∧ v.2 = u.2) ?_ 0 (Nat.zero_le _) u 0 0 ⟨rfl, rfl, fun p hp => absurd hp (by omega), fun _ _ => rfl, rfl⟩
  rintro i C v y1 y2 hi ⟨rfl, rfl, a, b, b2⟩ hC
  unfold wp_X8_layBalanced_4
  refine ⟨fun c => ?_, fun c => ?_⟩
  · have hi := nI_stop (N := 4) (by decide) hi c
    subst hi
    refine zl3 (wp_X8_layBalanced_24 Q) 16 (fun i v y1 y2 => y1 = 0 ∧ y2 = nI i ∧ (∀ p, p < 4 → v.1 15 p = 0) ∧ (∀ e, e < i → v.1 16 e = 0) ∧ (∀ k, k ≠ 15 → k ≠ 16 → v.1 k = u.1 k) ∧ v.2 = u.2) ?_ 0 (Nat.zero_le _) v 0 0 ⟨rfl, rfl, a, fun p hp => absurd hp (by omega), fun k k1 _ => b k k1, b2⟩
    rintro i C v y1 y2 hi ⟨rfl, rfl, a, a16, b, b2⟩ hC
    unfold wp_X8_layBalanced_24
    refine ⟨fun c => q8_nextEntry (fun x hx => ?_), fun c => ?_⟩
    · have hi := nI_stop (N := 16) (by decide) hi c
      subst hi
      have f3 : v.1 3 = u.1 3 := b 3 (by decide) (by decide)
      have hx0 : x = nI (o 0) := by
        rw [f3, ← eH] at hx
        exact zmn_at (i := 0) ho (by omega) hx (fun z => z (a16 _ (ho.1 0 (by omega)))) (fun j hj => absurd hj (by omega))
      refine zl3 (wp_X8_layBalanced_48 Q) 16 (fun i w y1 y2 => y1 = (zdeal H t0 o i).2.2 ∧ y2 = (if i < 16 then nI (o i) else -1) ∧ w.1 3 = zrT (u.1 3) (zdeal H t0 o i).1 ∧ (∀ p, p < 4 → w.1 15 p = (zdeal H t0 o i).2.1 p) ∧ (∀ e, e < 16 → (w.1 16 e = 0 ↔ ∀ j, j < i → ¬ o j = e)) ∧ (∀ k, k ≠ 3 → k ≠ 15 → k ≠ 16 → w.1 k = u.1 k) ∧ w.2 = u.2) ?_ 0 (Nat.zero_le _) v _ _ ⟨by rw [et0]; rfl, by rw [if_pos (by omega)]; exact hx0, by rw [f3, et0]; exact (zrT_id _).symm, fun p hp => by rw [et0]; exact a p hp, fun e he => ⟨fun _ j hj => absurd hj (by omega), fun _ => a16 e he⟩, fun k _ k2 k3 => b k k2 k3, b2⟩
      rintro i C w y1 y2 hi ⟨rfl, rfl, w3, w15, w16, wo, w2⟩ hC
      unfold wp_X8_layBalanced_48 wp_X8_layBalanced_78
      refine ⟨fun c => ?_, fun c => ?_⟩
      · have hi16 : i = 16 := by
          rcases Nat.lt_or_ge i 16 with q | q
          · rw [if_pos q] at c
            have := ho.1 i q
            exact absurd c (nI_nm1 (by omega))
          · omega
        subst hi16
        exact hQ w w3 wo w2
      · have hlt : i < 16 := by
          rcases Nat.lt_or_ge i 16 with q | q
          · exact q
          · rw [if_neg (by omega)] at c
            exact absurd rfl c
        rw [if_pos hlt]
        have oi := ho.1 i hlt
        obtain ⟨t, et⟩ : ∃ t, t = zdeal H t0 o i := ⟨_, rfl⟩
        have es : zdeal H t0 o (i + 1) = zdl H t (o i) := by rw [et]; rfl
        rw [← et] at w3 w15 ⊢
        obtain ⟨p, p1, p2, -⟩ := zls_4 t.2.1 (-1)
        refine q8_leastShare ?_
        rw [zls_eq (-1) w15 4 (by omega), p2, nI_ladd, nI_ladd, zn_nI (by omega), zn_nI (by omega), zn_nI (by omega), zn_nI (by omega), w3, zrT_in _ _ oi, nar1]
        have fin : ∀ (k : Int32) (a3 : RS), k = (if t.1 (o i) = nI p then t.2.2 else t.2.2 + 1) → a3 = rI (rI (rI w 3 (zrT (u.1 3) (upd t.1 (o i) (nI p)))) 15 (upd (w.1 15) p (w.1 15 p + H (o i)))) 16 (upd (w.1 16) (o i) 1) → wp_X8_nextEntry a3 (fun r119 u120 => C u120 k r119) := by
          intro k a3 ek ea
          have a33 : a3.1 3 = zrT (u.1 3) (upd t.1 (o i) (nI p)) := by rw [ea, rI_n _ _ (by decide), rI_n _ _ (by decide), rI_s]
          have a315 : a3.1 15 = upd (w.1 15) p (w.1 15 p + H (o i)) := by rw [ea, rI_n _ _ (by decide), rI_s]
          have a316 : a3.1 16 = upd (w.1 16) (o i) 1 := by rw [ea, rI_s]
          have l16 : ∀ e, e < 16 → (a3.1 16 e = 0 ↔ ∀ j, j < i + 1 → ¬ o j = e) := by
            intro e he
            rw [a316]
            by_cases z : e = o i
            · rw [z, pk_us]
              exact ⟨fun y => absurd y (by decide), fun y => absurd rfl (y i (by omega))⟩
            · rw [pk_un z, w16 e he]
              refine ⟨fun y j hj => ?_, fun y j hj => y j (by omega)⟩
              by_cases q : j = i
              · rw [q]; exact fun m => z m.symm
              · exact y j (by omega)
          refine q8_nextEntry (fun x hx => hC _ _ _ hlt ⟨?_, ?_, ?_, fun p' hp' => ?_, l16, fun k k1 k2 k3 => ?_, ?_⟩)
          · rw [es, ek]
            unfold zdl
            rw [p2]
          · have e39 : (fun e => a3.1 3 (39 + e)) = H := by
              funext e
              rw [a33, zrT_o _ _ (by omega), hHe]
            rw [e39] at hx
            rcases Nat.lt_or_ge (i + 1) 16 with q | q
            · rw [if_pos q]
              refine zmn_at (i := i + 1) ho q hx (fun z => z ((l16 _ (ho.1 _ q)).mpr (fun j hj y => ?_))) (fun j hj z => (l16 _ (ho.1 j (by omega))).mp z j hj rfl)
              have := zord_inj ho (by omega) q y
              omega
            · rw [if_neg (by omega)]
              exact zmn_no ho hx (fun j hj z => (l16 _ (ho.1 j hj)).mp z j (by omega) rfl)
          · rw [a33, es]
            unfold zdl
            rw [p2]
          · rw [es, a315]
            unfold zdl
            show _ = upd t.2.1 (zn (zls t.2.1 (-1) 4)) (t.2.1 (zn (zls t.2.1 (-1) 4)) + H (o i)) p'
            rw [p2, zn_nI (by omega)]
            by_cases z : p' = p
            · rw [z, pk_us, pk_us, w15 p p1]
            · rw [pk_un z, pk_un z]; exact w15 p' hp'
          · rw [ea, rI_n _ _ k3, rI_n _ _ k2, rI_n _ _ k1]; exact wo k k1 k2 k3
          · rw [ea, rI_2, rI_2, rI_2]; exact w2
        refine ⟨in_nI (by omega) (by decide), fun c1 x ex => ⟨in_nI (by omega) (by decide), fun a1 d1 => ⟨in_nI p1 (by decide), in_nI (by omega) (by decide), in_nI p1 (by decide), fun a2 d2 => ⟨in_nI oi (by decide), fun a3 d3 => ?_⟩⟩⟩, fun c1 x ex => ⟨in_nI (by omega) (by decide), fun a1 d1 => ⟨in_nI p1 (by decide), in_nI (by omega) (by decide), in_nI p1 (by decide), fun a2 d2 => ⟨in_nI oi (by decide), fun a3 d3 => ?_⟩⟩⟩⟩
        · refine fin x a3 (by rw [if_neg c1, ex]) ?_
          rw [d3, d2, d1, zrT_u _ _ _ oi]
          simp only [rI_s]
          rw [zrT_o _ _ (by omega), hHe, rI_n _ _ (show 16 ≠ 15 by decide), rI_n _ _ (show 16 ≠ 3 by decide), rI_n _ _ (show 15 ≠ 3 by decide)]
        · refine fin x a3 (by rw [if_pos c1, ex]; exact Int32.add_zero _) ?_
          rw [d3, d2, d1, zrT_u _ _ _ oi]
          simp only [rI_s]
          rw [zrT_o _ _ (by omega), hHe, rI_n _ _ (show 16 ≠ 15 by decide), rI_n _ _ (show 16 ≠ 3 by decide), rI_n _ _ (show 15 ≠ 3 by decide)]
    · have hlt := nI_go (N := 16) (by decide) hi c
      rw [zn_nI (by omega), nar0]
      refine ⟨in_nI hlt (by decide), fun w d x ex => hC _ _ _ hlt ⟨rfl, by rw [ex, nI_1], fun p hp => by rw [d, rI_n _ _ (by decide)]; exact a p hp, fun e he => ?_, fun k k1 k2 => by rw [d, rI_n _ _ k2]; exact b k k1 k2, by rw [d, rI_2]; exact b2⟩⟩
      rw [d, rI_s]
      by_cases z : e = i
      · rw [z, pk_us]
      · rw [pk_un z]; exact a16 e (by omega)
  · have hlt := nI_go (N := 4) (by decide) hi c
    rw [zn_nI (by omega)]
    refine ⟨in_nI hlt (by decide), fun w d x ex => hC _ _ _ hlt ⟨rfl, by rw [ex, nI_1], fun p hp => ?_, fun k k1 => by rw [d, rI_n _ _ k1]; exact b k k1, by rw [d, rI_2]; exact b2⟩⟩
    rw [d, rI_s]
    by_cases z : p = i
    · rw [z, pk_us]
    · rw [pk_un z]; exact a p (by omega)
theorem SimX.tbl {n nr : Nat} {m : Nat → Nat} {cs : Nat → RS} {R R1 : Nat → Int32} {S : Nat → Int64} {t : RS} (h : SimX n nr m cs R S) (ht : sT t R1) (fr : ∀ i, ¬ (23 ≤ i ∧ i < 55) → R1 i = R i) : SimX n nr m (va_up cs 3 t) R1 S := by
  obtain ⟨h0, hK, hF, hR, hT, hQ, hW, hG, hN, hO, hA⟩ := h
  refine ⟨?_, ?_, ?_, ?_, ?_, ?_, ?_, ?_, ?_, ?_, ?_⟩
  · rw [vu_n _ _ (by decide)]; exact h0
  · rw [vu_n _ _ (by decide)]; exact hK.fr (fun i hi => fr i (by omega))
  · rw [vu_n _ _ (by decide)]; exact hF.fr (fun i hi => fr i (by omega))
  · rw [vu_n _ _ (by decide)]; exact hR.fr (fun i hi => fr i (by omega))
  · rw [vu_s]; exact ht
  · intro p hp
    rw [vu_n _ _ (by omega)]; exact (hQ p hp).fr (fun i hi => fr i (by omega))
  · rw [vu_n _ _ (by decide)]; exact hW.fr (fun p hp => (hQ p hp).1) (fun i hi => fr i (by omega))
  · rw [vu_n _ _ (by decide)]; exact hG.fr (fun i hi => fr i (by omega))
  · rw [vu_n _ _ (by decide)]; exact hN
  · rw [vu_n _ _ (by decide)]; exact hO.fr (fun i hi => fr i (by omega))
  · rw [vu_n _ _ (by decide)]; exact hA.fr (fun i hi => fr i (by omega))
theorem p_balance {B : Nat} : pX_balance (Rel B) (Rel (B + 30000)) := by
  intro u r h
  replace h := h.up 30000
  have h0 : Rel0 (B + 30000) u (rN r 0 0) := h.2
  have hs : Sim u.2.2.1 (r.1 3) (r.2 4) := h.2.2.1.1
  have hb := h.2.2.1.2
  obtain ⟨n, nr, m, hX⟩ := hs.x
  have hT := hX.2.2.2.2.1
  unfold wp_X7_balance
  refine q7_begin h0 (fun u1 l1 n1 o1 hrem => ?_)
  rw [n1]
  refine q6_deal (T := fun e => r.1 3 (23 + e)) (H := fun e => r.1 3 (39 + e)) (fun e he => (hT e he).1) (fun e he => (hT e he).2.1) (fun w o ho w0 w1 u2 e2 => q6_clearHits (fun w' a1 b1 u3 e3 => ?_))
  have e22 : u2.2.2.1 3 = w := by rw [e2]; show va_up u.2.2.1 3 w 3 = w; rw [vu_s]
  rw [e22] at b1
  have e3' : u3 = tN u1 (va_up u.2.2.1 3 w') := by
    rw [e3, e2, tN_tN]
    show tN u1 (va_up (va_up u.2.2.1 3 w) 3 w') = _
    rw [va_up_up]
  unfold wp_X8_balance
  intro r1 f1
  subst f1
  refine q8_rem h0 (fun mm v m1 m2 hz => ?_)
  have v3 : v.1 3 = r.1 3 := hz.row.1
  refine q8_layBalanced (o := o) (by rw [v3]; exact ho) (fun r2 d3 do_ d2 => ?_)
  rw [v3] at d3 ⊢
  obtain ⟨D, eD⟩ : ∃ D, D = zdeal (fun e => r.1 3 (39 + e)) (fun e => r.1 3 (23 + e), fun _ => 0, 0) o 16 := ⟨_, rfl⟩
  have rng : ∀ e, e < 16 → ∃ q, q < 4 ∧ D.1 e = nI q := fun e he => by rw [eD]; exact zdeal_rng (fun e he => (hT e he).2.2) 16 e he
  rw [← eD] at d3 w0 ⊢
  refine zl3 (wp_X8_balance_17 _) 16 (fun i x y1 y2 => y1 = D.2.2 ∧ y2 = nI i ∧ (∀ e, e < i → x.1 3 (39 + e) = 0) ∧ (∀ j, ¬ (39 ≤ j ∧ j < 55) → x.1 3 j = r2.1 3 j) ∧ (∀ k, k ≠ 3 → x.1 k = r2.1 k) ∧ x.2 = r2.2) ?_ 0 (Nat.zero_le _) r2 _ 0 ⟨rfl, rfl, fun e he => absurd he (by omega), fun _ _ => rfl, fun _ _ => rfl, rfl⟩
  rintro i C x y1 y2 hi ⟨rfl, rfl, a, b, c, d⟩ hC
  unfold wp_X8_balance_17 wp_X8_tell
  refine ⟨fun z r4 d4 => ⟨rfl, ?_⟩, fun z => ?_⟩
  · have hi := nI_stop (N := 16) (by decide) hi z
    subst hi
    have x3o : ∀ j, ¬ (23 ≤ j ∧ j < 55) → x.1 3 j = r.1 3 j := fun j hj => by rw [b j (by omega), d3, zrT_o _ _ (by omega)]
    refine k_end (hrem mm v m1 m2 hz) l1 e3' (by rw [d4, rN_s]) (fun j hj => by rw [d4, rN_n _ _ (by omega), c j (by omega), do_ j (by omega) (by omega) (by omega)]) (fun j hj => by rw [d4, rN_2, d, d2]) ?_
    rw [d4, rN_n _ _ (by decide), rN_2, d, d2, hz.row.2]
    refine ⟨(hX.tbl (t := w') (R1 := x.1 3) (fun e he => ⟨?_, ?_, ?_⟩) x3o).sim, ?_⟩
    · rw [b1 0 (by decide), w0 e he, b _ (by omega), d3, zrT_in _ _ he]
    · rw [a1 e he, a e he]
    · obtain ⟨q, q1, q2⟩ := rng e he
      exact ⟨q, q1, by rw [b _ (by omega), d3, zrT_in _ _ he]; exact q2⟩
    · obtain ⟨h1, h2, h3⟩ := hb
      exact ⟨fun e he => ⟨0, by omega, a e he⟩, h2, fun q i hq hi => by rw [x3o _ (by omega)]; exact h3 q i hq hi⟩
  · have hlt := nI_go (N := 16) (by decide) hi z
    rw [nI_ladd, zn_nI (by omega)]
    refine ⟨in_nI (by omega) (by decide), fun x' d' y ey => hC _ _ _ hlt ⟨rfl, by rw [ey, nI_1], fun e he => ?_, fun j hj => by rw [d', rI_s, pk_un (by omega)]; exact b j hj, fun k hk => by rw [d', rI_n _ _ hk]; exact c k hk, by rw [d', rI_2]; exact d⟩⟩
    rw [d', rI_s]
    by_cases q : e = i
    · rw [q, pk_us]
    · rw [pk_un (by omega)]; exact a e (by omega)
