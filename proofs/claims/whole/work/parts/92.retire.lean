-- the pure side: retire
def zto (x : Int32) (T : Nat → Int32) (r : Nat) : Bool := T (55 + 3 * r + 1) == x
theorem q8_to1 {Qb : Int32 → RS → Prop} {C : RS → Int32 → Int32 → Prop} {x : Int32} (k nr : Nat) (u : RS) (hk : k < nr) (h6 : nr ≤ 6) (h5 : u.1 3 5 = nI nr) (h0 : ¬ zto x (u.1 3) k = true → C u x (nD k)) (h1 : zto x (u.1 3) k = true → C (rI u 3 (zdrop8 (u.1 3) k nr)) x (nD k)) : wp_X8_retire_33 Qb C u x (nI k) := by
  unfold wp_X8_retire_33
  refine ⟨fun z => absurd z (nI_pos (by omega)), fun _ => q8_ruleAt k rfl ?_⟩
  rw [show nI (55 + 3 * k) + 1 = nI (55 + 3 * k + 1) from nI_addl _ _, zn_nI (by omega)]
  unfold wp_X8_retire_57
  refine ⟨in_nI (by omega) (by decide), fun c => ?_, fun c => q8_dropRule k nr rfl hk h6 h5 ?_⟩
  · intro y ey
    rw [nI_dn] at ey
    subst ey
    exact h0 (by unfold zto; simpa using c)
  · intro y ey
    rw [nI_dn] at ey
    subst ey
    exact h1 (by unfold zto; simpa using c)
theorem q8_tos {Qb : Int32 → RS → Prop} {x : Int32} : ∀ (k nr : Nat) (u : RS), k ≤ nr → nr ≤ 6 → u.1 3 5 = nI nr → (∃ n, zit3 (wp_X8_retire_65 Qb) n (rI u 3 (zdrs (zto x) k (u.1 3) nr)) x 0) → zit3 (wp_X8_retire_33 Qb) (k + 1) u x (nD k)
  | 0, nr, u, hk, h6, h5, h => by
    show wp_X8_retire_33 Qb (zit3 (wp_X8_retire_33 Qb) 0) u x (nD 0)
    unfold wp_X8_retire_33
    refine ⟨fun _ => ?_, fun z => absurd nD_0 z⟩
    have e : rI u 3 (zdrs (zto x) 0 (u.1 3) nr) = u := rI_id u 3
    rw [e] at h
    exact h
  | k + 1, nr, u, hk, h6, h5, h => by
    show wp_X8_retire_33 Qb (zit3 (wp_X8_retire_33 Qb) (k + 1)) u x (nD (k + 1))
    rw [nD_s]
    refine q8_to1 k nr u (by omega) h6 h5 (fun c => q8_tos k nr u (by omega) h6 h5 ?_) (fun c => q8_tos k (nr - 1) _ (by omega) (by omega) (by rw [rI_s]; exact zdrop8_5 _ _ _) ?_)
    · have e : zdrs (zto x) (k + 1) (u.1 3) nr = zdrs (zto x) k (u.1 3) nr := by
        show (if zto x (u.1 3) k = true then _ else _) = _
        rw [if_neg c]
      rw [e] at h
      exact h
    · have e : zdrs (zto x) (k + 1) (u.1 3) nr = zdrs (zto x) k (zdrop8 (u.1 3) k nr) (nr - 1) := by
        show (if zto x (u.1 3) k = true then _ else _) = _
        rw [if_pos c]
      rw [e] at h
      rw [rI_s, rI_rI]
      exact h
theorem q8_re1 {Qb : Int32 → RS → Prop} {C : RS → Int32 → Int32 → Int32 → Prop} {w : RS} {x c : Int32} {e p : Nat} (he : e < 16) (hp : p < 4) (hl : zls (w.1 15) x 4 = nI p) (h : wp_X8_nextEntry (rI (rI (rI w 3 (upd (w.1 3) (23 + e) (nI p))) 15 (upd (w.1 15) p (w.1 15 p + w.1 3 (39 + e)))) 16 (upd (w.1 16) e 1)) (fun y u => C u x (c + 1) y)) : wp_X8_retire_154 Qb C w x c (nI e) := by
  unfold wp_X8_retire_154
  refine ⟨fun z => absurd z (nI_nm1 (by omega)), fun _ => q8_leastShare ?_⟩
  rw [hl, nI_ladd, nI_ladd, zn_nI (by omega), zn_nI (by omega), zn_nI (by omega), zn_nI (by omega), nar1]
  refine ⟨in_nI (by omega) (by decide), fun a1 d1 => ⟨in_nI hp (by decide), in_nI (by omega) (by decide), in_nI hp (by decide), fun a2 d2 => ⟨in_nI he (by decide), fun a3 d3 y ey => ?_⟩⟩⟩
  have e3 : a3 = rI (rI (rI w 3 (upd (w.1 3) (23 + e) (nI p))) 15 (upd (w.1 15) p (w.1 15 p + w.1 3 (39 + e)))) 16 (upd (w.1 16) e 1) := by
    rw [d3, d2, d1]
    simp only [rI_s]
    rw [pk_un (show 39 + e ≠ 23 + e by omega), rI_n _ _ (show 16 ≠ 15 by decide), rI_n _ _ (show 16 ≠ 3 by decide), rI_n _ _ (show 15 ≠ 3 by decide)]
  rw [e3, ey]
  exact h
theorem q8_empt {Qb : Int32 → RS → Prop} {R H : Nat → Int32} {o : Nat → Nat} {x : Int32} {t0 : DS} {r : RS} (ho : zord H o 16) (hH : ∀ e, R (39 + e) = H e) (hQ : ∀ w : RS, w.1 3 = zrT R (zempt H x t0 o 16).1 → (∀ k, k ≠ 3 → k ≠ 15 → k ≠ 16 → w.1 k = r.1 k) → w.2 = r.2 → wp_X8_tell w (zempt H x t0 o 16).2.2 (fun a b => Qb a b)) : ∀ (d i : Nat), i + d = 16 → ∀ (w : RS) (x3 : Int32), w.1 3 = zrT R (zempt H x t0 o i).1 → (∀ p, p < 4 → w.1 15 p = (zempt H x t0 o i).2.1 p) → (∀ e, e < 16 → (w.1 16 e = 0 ↔ (zempt H x t0 o i).1 e = x)) → (∀ k, k ≠ 3 → k ≠ 15 → k ≠ 16 → w.1 k = r.1 k) → w.2 = r.2 → zmn H (fun e => ¬ w.1 16 e = 0) x3 → ∃ f, zit4 (wp_X8_retire_154 Qb) f w x (zempt H x t0 o i).2.2 x3
  | 0, i, hi, w, x3, w3, w15, w16, wo, w2, hz => by
    have : i = 16 := by omega
    subst this
    have e : x3 = -1 := zmn_no ho hz (fun j hj z => zempt_no 16 j hj ((w16 _ (ho.1 j hj)).mp z))
    refine ⟨1, ?_⟩
    show wp_X8_retire_154 Qb _ w x _ x3
    unfold wp_X8_retire_154
    exact ⟨fun _ => hQ w w3 wo w2, fun z => absurd e z⟩
  | d + 1, i, hi, w, x3, w3, w15, w16, wo, w2, hz => by
    have hlt : i < 16 := by omega
    have oi := ho.1 i hlt
    obtain ⟨t, et⟩ : ∃ t, t = zempt H x t0 o i := ⟨_, rfl⟩
    have es : zempt H x t0 o (i + 1) = zem H x t (o i) := by rw [et]; rfl
    by_cases c : t.1 (o i) = x
    · have e3 : x3 = nI (o i) := by
        refine zmn_at ho hlt hz (fun z => z ((w16 _ oi).mpr (by rw [← et]; exact c))) (fun j hj z => zempt_no i j hj ((w16 _ (ho.1 j (by omega))).mp z))
      rw [← et] at w3 w15 w16 ⊢
      obtain ⟨p, p1, p2, p3⟩ := zls_4 t.2.1 x
      have es' : zempt H x t0 o (i + 1) = (upd t.1 (o i) (nI p), upd t.2.1 p (t.2.1 p + H (o i)), t.2.2 + 1) := by
        rw [es]
        unfold zem
        rw [if_pos c, p2, zn_nI (by omega)]
      obtain ⟨w', ew⟩ : ∃ w', w' = rI (rI (rI w 3 (upd (w.1 3) (23 + o i) (nI p))) 15 (upd (w.1 15) p (w.1 15 p + w.1 3 (39 + o i)))) 16 (upd (w.1 16) (o i) 1) := ⟨_, rfl⟩
      have f3 : w'.1 3 = zrT R (upd t.1 (o i) (nI p)) := by rw [ew, rI_n _ _ (by decide), rI_n _ _ (by decide), rI_s, w3, zrT_u _ _ _ oi]
      have f15 : w'.1 15 = upd (w.1 15) p (w.1 15 p + H (o i)) := by rw [ew, rI_n _ _ (by decide), rI_s, w3, zrT_o _ _ (by omega), hH]
      have f16 : w'.1 16 = upd (w.1 16) (o i) 1 := by rw [ew, rI_s]
      have next : ∀ y, zmn H (fun e => ¬ w'.1 16 e = 0) y → ∃ f, zit4 (wp_X8_retire_154 Qb) f w' x (t.2.2 + 1) y := by
        intro y hy
        have := q8_empt ho hH hQ d (i + 1) (by omega) w' y (by rw [es']; exact f3) (fun q hq => ?_) (fun e he => ?_) (fun k k1 k2 k3 => ?_) (by rw [ew, rI_2, rI_2, rI_2]; exact w2) hy
        · rw [es'] at this
          exact this
        · rw [es', f15]
          show _ = upd t.2.1 p (t.2.1 p + H (o i)) q
          by_cases z : q = p
          · rw [z, pk_us, pk_us, w15 p p1]
          · rw [pk_un z, pk_un z]; exact w15 q hq
        · rw [es', f16]
          show _ ↔ upd t.1 (o i) (nI p) e = x
          by_cases z : e = o i
          · rw [z, pk_us, pk_us]
            exact ⟨fun y => absurd y (by decide), fun y => absurd y p3⟩
          · rw [pk_un z, pk_un z]; exact w16 e he
        · rw [ew, rI_n _ _ k3, rI_n _ _ k2, rI_n _ _ k1]; exact wo k k1 k2 k3
      -- the answer of nextEntry is one and the same
      obtain ⟨y, hy⟩ : ∃ y, zmn H (fun e => ¬ w'.1 16 e = 0) y := by
        have e39 : (fun e => w'.1 3 (39 + e)) = H := by
          funext e
          rw [f3, zrT_o _ _ (by omega), hH]
        have : wp_X8_nextEntry w' (fun y _ => ∃ y, zmn H (fun e => ¬ w'.1 16 e = 0) y) := q8_nextEntry (fun y hy => ⟨y, by rw [← e39]; exact hy⟩)
        by_cases q : ∃ j, j < 16 ∧ (∀ a, a < j → ¬ w'.1 16 (o a) = 0) ∧ w'.1 16 (o j) = 0
        · obtain ⟨j, j1, j2, j3⟩ := q
          refine ⟨nI (o j), Or.inr ⟨o j, ho.1 j j1, rfl, fun z => z j3, fun b b1 b2 => ?_⟩⟩
          obtain ⟨k, k1, k2⟩ := ho.2.2 b b1
          rcases Nat.lt_trichotomy k j with z | z | z
          · exact absurd (by rw [← k2]; exact j2 k z) b2
          · exact Or.inl (by rw [← k2, z])
          · exact Or.inr (by rw [← k2]; exact ho.2.1 j k z k1)
        · have al : ∀ j, j ≤ 16 → ∀ a, a < j → ¬ w'.1 16 (o a) = 0 := by
            intro j
            induction j with
            | zero => intro _ a ha; exact absurd ha (by omega)
            | succ j ih =>
              intro hj a ha
              by_cases z : a = j
              · subst z
                exact fun y => q ⟨a, by omega, ih (by omega), y⟩
              · exact ih (by omega) a (by omega)
          refine ⟨-1, Or.inl ⟨rfl, fun j hj => ?_⟩⟩
          obtain ⟨k, k1, k2⟩ := ho.2.2 j hj
          rw [← k2]
          exact al 16 (by omega) k k1
      obtain ⟨f, hf⟩ := next y hy
      refine ⟨f + 1, ?_⟩
      show wp_X8_retire_154 Qb (zit4 (wp_X8_retire_154 Qb) f) w x t.2.2 x3
      rw [e3]
      refine q8_re1 oi p1 (by rw [zls_eq x w15 4 (by omega), p2]) ?_
      rw [← ew]
      refine q8_nextEntry (fun y' hy' => ?_)
      have e39 : (fun e => w'.1 3 (39 + e)) = H := by
        funext e
        rw [f3, zrT_o _ _ (by omega), hH]
      rw [e39] at hy'
      have : y' = y := by
        rcases hy' with ⟨a, b⟩ | ⟨b, b1, b2, b3, b4⟩
        · rcases hy with ⟨a', b'⟩ | ⟨b', b1', b2', b3', b4'⟩
          · rw [a, a']
          · exact absurd (b b' b1') b3'
        · rcases hy with ⟨a', b'⟩ | ⟨b', b1', b2', b3', b4'⟩
          · exact absurd (b' b b1) b3
          · rcases b4 b' b1' b3' with e | e
            · rw [b2, b2', e]
            · rcases b4' b b1 b3 with e' | e'
              · rw [b2, b2', e']
              · unfold zbf at e e'
                omega
      rw [this]
      exact hf
    · have es' : zempt H x t0 o (i + 1) = t := by rw [es]; unfold zem; rw [if_neg c]
      have := q8_empt ho hH hQ d (i + 1) (by omega) w x3 (by rw [es', et]; exact w3) (by rw [es', et]; exact w15) (by rw [es', et]; exact w16) wo w2 hz
      rw [es', et] at this
      exact this
theorem q8_retire_tail {Qb : Int32 → RS → Prop} {r : RS} {o : Nat → Nat} {x : Int32} {T H : Nat → Int32} (hT : ∀ e, r.1 3 (23 + e) = T e) (hr : ∀ e, e < 16 → ∃ q, q < 4 ∧ T e = nI q) (hH : ∀ e, r.1 3 (39 + e) = H e) (ho : zord H o 16) (hQ : ∀ w : RS, w.1 3 = zrT (r.1 3) (zempt H x (T, fun p => zhs T H (nI p) 16, 0) o 16).1 → (∀ k, k ≠ 3 → k ≠ 15 → k ≠ 16 → w.1 k = r.1 k) → w.2 = r.2 → wp_X8_tell w (zempt H x (T, fun p => zhs T H (nI p) 16, 0) o 16).2.2 (fun a b => Qb a b)) : ∃ n, zit3 (wp_X8_retire_65 Qb) n r x 0 := by
  refine zl3 (wp_X8_retire_65 Qb) 4 (fun i v y1 y2 => y1 = x ∧ y2 = nI i ∧ (∀ p, p < i → v.1 15 p = 0) ∧ (∀ k, k ≠ 15 → v.1 k = r.1 k) ∧ v.2 = r.2) ?_ 0 (Nat.zero_le _) r _ 0 ⟨rfl, rfl, fun p hp => absurd hp (by omega), fun _ _ => rfl, rfl⟩
  rintro i C v y1 y2 hi ⟨rfl, rfl, a, b, b2⟩ hC
  unfold wp_X8_retire_65
  refine ⟨fun c => ?_, fun c => ?_⟩
  · have hi := nI_stop (N := 4) (by decide) hi c
    subst hi
    refine zl3 (wp_X8_retire_85 Qb) 16 (fun i v z1 z2 => z1 = y1 ∧ z2 = nI i ∧ (∀ p, p < 4 → v.1 15 p = zhs T H (nI p) i) ∧ (∀ e, e < i → (v.1 16 e = 0 ↔ T e = y1)) ∧ (∀ k, k ≠ 15 → k ≠ 16 → v.1 k = r.1 k) ∧ v.2 = r.2) ?_ 0 (Nat.zero_le _) v _ 0 ⟨rfl, rfl, a, fun p hp => absurd hp (by omega), fun k k1 _ => b k k1, b2⟩
    rintro i C v z1 z2 hi ⟨rfl, rfl, a, a16, b, b2⟩ hC
    have f3 : v.1 3 = r.1 3 := b 3 (by decide) (by decide)
    unfold wp_X8_retire_85 wp_X8_retire_114
    refine ⟨fun c => q8_nextEntry (fun y hy => ?_), fun c => ?_⟩
    · have hi := nI_stop (N := 16) (by decide) hi c
      subst hi
      have e39 : (fun e => v.1 3 (39 + e)) = H := by
        funext e
        rw [f3, hH]
      rw [e39] at hy
      have eT : T = fun e => r.1 3 (23 + e) := by funext e; rw [hT]
      refine q8_empt (R := r.1 3) (t0 := (T, fun p => zhs T H (nI p) 16, 0)) ho hH hQ 16 0 rfl v y ?_ a a16 (fun k _ k2 k3 => b k k2 k3) b2 hy
      rw [f3]
      show _ = zrT (r.1 3) T
      rw [eT]
      exact (zrT_id _).symm
    · have hlt := nI_go (N := 16) (by decide) hi c
      obtain ⟨q, q1, q2⟩ := hr i hlt
      rw [nI_ladd, nI_ladd, zn_nI (by omega), zn_nI (by omega), zn_nI (by omega), f3, hT, nar0, nar1]
      have fin : ∀ (l y : Int32) (a2 : RS), (l = 0 ↔ T i = z1) → a2 = rI (rI v 16 (upd (v.1 16) i l)) 15 (upd (v.1 15) q (v.1 15 q + H i)) → y = nI i + 1 → C a2 z1 y := by
        intro l y a2 hl ea ey
        refine hC _ _ _ hlt ⟨rfl, by rw [ey, nI_1], fun p hp => ?_, fun e he => ?_, fun k k1 k2 => ?_, ?_⟩
        · show _ = zhs T H (nI p) i + (if T i = nI p then H i else 0)
          rw [ea, rI_s]
          by_cases z : p = q
          · rw [z, pk_us, a q q1, if_pos q2]
          · rw [pk_un z, a p hp, if_neg (fun m => z ((nI_eq (by omega) (by omega)).mp (m.symm.trans q2)))]
            exact (Int32.add_zero _).symm
        · rw [ea, rI_n _ _ (by decide), rI_s]
          by_cases z : e = i
          · rw [z, pk_us]; exact hl
          · rw [pk_un z]; exact a16 e (by omega)
        · rw [ea, rI_n _ _ k1, rI_n _ _ k2]; exact b k k1 k2
        · rw [ea, rI_2, rI_2]; exact b2
      refine ⟨in_nI (by omega) (by decide), fun c1 => ⟨in_nI hlt (by decide), fun a1 d1 => ?_⟩, fun c1 => ⟨in_nI hlt (by decide), fun a1 d1 => ?_⟩⟩
      · have g3 : a1.1 3 = r.1 3 := by rw [d1, rI_n _ _ (by decide), f3]
        rw [g3, hT, q2, zn_nI (by omega), hH]
        refine ⟨in_nI (by omega) (by decide), in_nI q1 (by decide), in_nI (by omega) (by decide), in_nI q1 (by decide), fun a2 d2 y ey => fin 0 y a2 ⟨fun _ => c1, fun _ => rfl⟩ ?_ ey⟩
        rw [d2, d1, rI_n _ _ (show 15 ≠ 16 by decide)]
      · have g3 : a1.1 3 = r.1 3 := by rw [d1, rI_n _ _ (by decide), f3]
        rw [g3, hT, q2, zn_nI (by omega), hH]
        refine ⟨in_nI (by omega) (by decide), in_nI q1 (by decide), in_nI (by omega) (by decide), in_nI q1 (by decide), fun a2 d2 y ey => fin 1 y a2 ⟨fun z => absurd z (by decide), fun z => absurd z c1⟩ ?_ ey⟩
        rw [d2, d1, rI_n _ _ (show 15 ≠ 16 by decide)]
  · have hlt := nI_go (N := 4) (by decide) hi c
    rw [zn_nI (by omega)]
    refine ⟨in_nI hlt (by decide), fun w d x ex => hC _ _ _ hlt ⟨rfl, by rw [ex, nI_1], fun p hp => ?_, fun k k1 => by rw [d, rI_n _ _ k1]; exact b k k1, by rw [d, rI_2]; exact b2⟩⟩
    rw [d, rI_s]
    by_cases z : p = i
    · rw [z, pk_us]
    · rw [pk_un z]; exact a p (by omega)
theorem p_retire {B : Nat} : pX_retire (Rel B) (Rel (B + 30000)) := by
  intro u r x1 h
  replace h := h.up 30000
  have h0 : Rel0 (B + 30000) u (rN r 0 0) := h.2
  have hs : Sim u.2.2.1 (r.1 3) (r.2 4) := h.2.2.1.1
  have hb := h.2.2.1.2
  obtain ⟨n, nr, m, hX⟩ := hs.x
  have h24 : n ≤ 24 := hX.2.2.1.2.1
  have hR := hX.2.2.2.1
  unfold wp_X7_retire
  refine q7_isQueue (fun q hq e => ⟨fun _ => ?_, fun z => absurd z (by decide)⟩) (fun ho => ⟨fun z => absurd rfl z, fun _ => ?_⟩)
  · subst e
    refine q7_begin h0 (fun u1 l1 n1 o1 hrem => ?_)
    rw [n1]
    refine q0_dropRulesTo n hX.1 h24 (fun w w0 w1 u2 e2 => ?_)
    obtain ⟨nr1, hX1, fr1⟩ := hX.drops (p := zto (nI q)) (fun f hf z => by
        have z' : (u.2.2.1 2).1 1 (13 * 24 + f) = nI q := by simpa using z
        unfold zhasR
        rw [z']
        have := nI_nm1 (n := q) (by omega)
        simpa using this) (fun T r f hT hr hf a1 a2 a3 a4 => by
        unfold zto
        rw [a2]) w0 w1
    obtain ⟨R1, eR1⟩ : ∃ R1, R1 = zdrs (zto (nI q)) nr (r.1 3) nr := ⟨_, rfl⟩
    rw [← eR1] at hX1 fr1
    have e22 : u2.2.2.1 = va_up u.2.2.1 2 w := by rw [e2]; rfl
    rw [e22, vu_n _ _ (by decide)]
    have hT := hX1.2.2.2.2.1
    rw [vu_n _ _ (by decide)] at hT
    refine q6_emptyOut (T := fun e => R1 (23 + e)) (H := fun e => R1 (39 + e)) (fun e he => (hT e he).1) (fun e he => (hT e he).2.2) (fun e he => (hT e he).2.1) (fun t o ho t0 t1 u3 e3 => ?_)
    have e3' : u3 = tN u1 (va_up (va_up u.2.2.1 2 w) 3 t) := by rw [e3, e2, tN_tN]
    unfold wp_X8_retire
    intro r1 f1
    subst f1
    refine q8_isQueue (fun _ _ _ => ⟨fun _ => ?_, fun z => absurd z (by decide)⟩) (fun ho => absurd rfl (ho q hq))
    refine q8_rem h0 (fun mm v m1 m2 hz y ey => ?_)
    have v3 : v.1 3 = r.1 3 := hz.row.1
    have v5 : v.1 3 5 = nI nr := by rw [v3]; exact hR.1.2.1
    rw [v5] at ey
    subst ey
    refine ⟨nr + 1, q8_tos nr nr v (Nat.le_refl _) hR.1.1 v5 ?_⟩
    rw [v3, ← eR1]
    have g3 : (rI v 3 R1).1 3 = R1 := rI_s _ _ _
    have rng : ∀ e, e < 16 → ∃ q', q' < 4 ∧ (zempt (fun e => R1 (39 + e)) (nI q) (fun e => R1 (23 + e), fun p => zhs (fun e => R1 (23 + e)) (fun e => R1 (39 + e)) (nI p) 16, 0) o 16).1 e = nI q' := fun e he => zempt_rng (fun e he => (hT e he).2.2) 16 e he
    refine q8_retire_tail (T := fun e => R1 (23 + e)) (H := fun e => R1 (39 + e)) (o := o) (fun e => by rw [g3]) (fun e he => (hT e he).2.2) (fun e => by rw [g3]) ho (fun r2 d3 do_ d2 => ?_)
    rw [g3] at d3
    unfold wp_X8_tell
    intro r4 d4
    refine ⟨rfl, k_end (hrem mm v m1 m2 hz) l1 e3' (by rw [d4, rN_s]) (fun j hj => by rw [d4, rN_n _ _ (by omega), do_ j (by omega) (by omega) (by omega), rI_n _ _ (by omega)]) (fun j hj => by rw [d4, rN_2, d2, rI_2]) ?_⟩
    rw [d4, rN_n _ _ (by decide), rN_2, d2, rI_2, hz.row.2, d3]
    refine ⟨(hX1.tbl (t := t) (fun e he => ⟨?_, ?_, ?_⟩) (fun i hi => zrT_o _ _ (by omega))).sim, ?_⟩
    · rw [t0 e he, zrT_in _ _ he]
    · rw [t1, zrT_o _ _ (by omega)]; exact (hT e he).2.1
    · obtain ⟨q', a, b⟩ := rng e he
      exact ⟨q', a, by rw [zrT_in _ _ he]; exact b⟩
    · exact hb.frq (fun e he => by rw [zrT_o _ _ (by omega), fr1 _ (by omega) (by omega)]) (fun p i hp hi => by rw [zrT_o _ _ (by omega), fr1 _ (by omega) (by omega)])
  · refine k_refuse 1 (-1) (by decide) (by decide) h0 (fun u1 hu => ?_)
    unfold wp_X8_retire
    intro r1 f1
    subst f1
    exact q8_isQueue (fun q hq e => absurd e (ho q hq)) (fun _ => ⟨fun z => absurd rfl z, fun _ => hu _ (fun r2 hr => ⟨rfl, hr⟩)⟩)
