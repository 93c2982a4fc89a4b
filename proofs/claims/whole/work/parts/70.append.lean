-- the pure side: a packet is put behind the others of its queue
theorem SimX.cs {n nr : Nat} {m : Nat → Nat} {cs cs1 : Nat → RS} {R : Nat → Int32} {S : Nat → Int64} (h : SimX n nr m cs R S) (e0 : (cs1 2).1 0 = (cs 2).1 0) (e1 : (cs1 2).1 1 = (cs 2).1 1) (eo : ∀ k, k ≠ 2 → cs1 k = cs k) : SimX n nr m cs1 R S := by
  unfold SimX at h ⊢
  rw [e0, e1, eo 1 (by decide), eo 3 (by decide), eo 4 (by decide), eo 0 (by decide)]
  obtain ⟨h0, hK, hF, hR, hT, hQ, hW, hG, hN, hO, hA⟩ := h
  exact ⟨h0, hK, hF, hR, hT, fun q hq => by rw [eo (5 + q) (by omega)]; exact hQ q hq, hW, hG, hN, hO, hA⟩
def zap3 (o o1 : RS) (m : Nat) (x1 x2 x3 x4 x5 : Int32) : Prop := o1.1 0 0 = nI (m + 1) ∧ o1.1 7 0 = o.1 7 0 + 1 ∧ o1.1 4 0 = (if m = 0 then x5 else o.1 4 0) ∧ (∀ k, k < 8 → k ≠ 0 → k ≠ 7 → k ≠ 4 → o1.1 k = o.1 k) ∧ o1.1 8 = upd (upd (upd (upd (o.1 8) (4 * m + 0) x1) (4 * m + 1) x2) (4 * m + 2) x3) (4 * m + 3) (if x4 = 0 then 0 else 1)
theorem q3_append {o : RS} {x1 x2 x3 x4 x5 : Int32} {Q : RS → Prop} (m : Nat) (hm : o.1 0 0 = nI m) (h32 : m < 32) (h : ∀ o1, zap3 o o1 m x1 x2 x3 x4 x5 → Q o1) : wp_X3_append o x1 x2 x3 x4 x5 Q := by
  have tail : ∀ v : RS, v.1 0 0 = nI m → v.1 7 = o.1 7 → v.1 4 0 = (if m = 0 then x5 else o.1 4 0) → (∀ k, k < 8 → k ≠ 0 → k ≠ 7 → k ≠ 4 → v.1 k = o.1 k) → v.1 8 = o.1 8 → wp_X3_append_13 Q v x1 x2 x3 x4 := by
    intro v v0 v7 v4 vo v8
    unfold wp_X3_append_13 wp_X3_append_69
    intro y ey
    rw [v0, nI_lmul] at ey
    subst ey
    rw [show nI (4 * m) + 0 = nI (4 * m + 0) from nI_addl _ _, show nI (4 * m) + 1 = nI (4 * m + 1) from nI_addl _ _, show nI (4 * m) + 2 = nI (4 * m + 2) from nI_addl _ _, show nI (4 * m) + 3 = nI (4 * m + 3) from nI_addl _ _, zn_nI (by omega), zn_nI (by omega), zn_nI (by omega), zn_nI (by omega)]
    refine ⟨in_nI (by omega) (by decide), fun a1 d1 => ⟨in_nI (by omega) (by decide), fun a2 d2 => ⟨in_nI (by omega) (by decide), fun a3 d3 => ?_⟩⟩⟩
    have e8 : a3.1 8 = upd (upd (upd (o.1 8) (4 * m + 0) x1) (4 * m + 1) x2) (4 * m + 2) x3 := by
      rw [d3, rI_s, d2, rI_s, d1, rI_s, v8]
    have eo : ∀ k, k ≠ 8 → a3.1 k = v.1 k := fun k hk => by rw [d3, rI_n _ _ hk, d2, rI_n _ _ hk, d1, rI_n _ _ hk]
    have fin : ∀ t : Int32, t = (if x4 = 0 then 0 else 1) → vp_in (nI (4 * m + 3)) 128 ∧ ∀ u111 : RS, u111 = rI a3 8 (upd (a3.1 8) (4 * m + 3) t) → ∀ u112 : RS, u112 = rN u111 0 (u111.1 0 0 + 1) → ∀ u113 : RS, u113 = rN u112 7 (u112.1 7 0 + 1) → Q u113 := by
      intro t et
      refine ⟨in_nI (by omega) (by decide), fun b1 c1 b2 c2 b3 c3 => h b3 ⟨?_, ?_, ?_, fun k k8 k0 k7 k4 => ?_, ?_⟩⟩
      · rw [c3, rN_n _ _ (by decide), c2, rN_s, c1, rI_n _ _ (by decide), eo 0 (by decide), v0, nI_1]
      · rw [c3, rN_s, c2, rN_n _ _ (by decide), c1, rI_n _ _ (by decide), eo 7 (by decide), v7]
      · rw [c3, rN_n _ _ (by decide), c2, rN_n _ _ (by decide), c1, rI_n _ _ (by decide), eo 4 (by decide), v4]
      · rw [c3, rN_n _ _ k7, c2, rN_n _ _ k0, c1, rI_n _ _ (by omega), eo k (by omega), vo k k8 k0 k7 k4]
      · rw [c3, rN_n _ _ (by decide), c2, rN_n _ _ (by decide), c1, rI_s, e8, et]
    exact ⟨fun z => fin _ (by rw [if_pos z]), fun z => fin _ (by rw [if_neg z])⟩
  unfold wp_X3_append
  refine ⟨fun z => ?_, fun z a e => ?_⟩
  · refine tail o hm rfl ?_ (fun _ _ _ _ _ => rfl) rfl
    rw [if_neg (fun e => z (by rw [hm, e]; rfl))]
  · have m0 : m = 0 := by
      rw [hm] at z
      exact (nI_eq (by omega) (by decide)).mp (show nI m = nI 0 from z)
    refine tail a ?_ ?_ ?_ (fun k k8 k0 k7 k4 => ?_) ?_
    · rw [e, rN_n _ _ (by decide)]; exact hm
    · rw [e, rN_n _ _ (by decide)]
    · rw [e, rN_s, if_pos m0]
    · rw [e, rN_n _ _ k4]
    · rw [e, rN_n _ _ (by decide)]
/-- the row, with one packet more -/
def zapp (R : Nat → Int32) (q m : Nat) (x1 x2 x3 x4 t : Int32) : Nat → Int32 :=
  upd (upd (if m = 0 then upd (upd (upd (upd (upd R (441 + 140 * q + 4 * m) x1) (441 + 140 * q + 4 * m + 1) x2) (441 + 140 * q + 4 * m + 2) x3) (441 + 140 * q + 4 * m + 3) x4) (433 + 140 * q + 2) t else upd (upd (upd (upd R (441 + 140 * q + 4 * m) x1) (441 + 140 * q + 4 * m + 1) x2) (441 + 140 * q + 4 * m + 2) x3) (441 + 140 * q + 4 * m + 3) x4) (433 + 140 * q) (nI (m + 1))) (433 + 140 * q + 7) (R (433 + 140 * q + 7) + 1)
theorem zapp_o (R : Nat → Int32) (q m j : Nat) (x1 x2 x3 x4 t : Int32) (h0 : j ≠ 433 + 140 * q) (h2 : m = 0 → j ≠ 433 + 140 * q + 2) (h7 : j ≠ 433 + 140 * q + 7) (hp : ¬ (441 + 140 * q + 4 * m ≤ j ∧ j < 441 + 140 * q + 4 * m + 4)) : zapp R q m x1 x2 x3 x4 t j = R j := by
  unfold zapp
  rw [pk_un h7, pk_un h0]
  by_cases e : m = 0
  · rw [if_pos e, pk_un (h2 e), pk_un (by omega), pk_un (by omega), pk_un (by omega), pk_un (by omega)]
  · rw [if_neg e, pk_un (by omega), pk_un (by omega), pk_un (by omega), pk_un (by omega)]
theorem zapp_0 (R : Nat → Int32) (q m : Nat) (x1 x2 x3 x4 t : Int32) : zapp R q m x1 x2 x3 x4 t (433 + 140 * q) = nI (m + 1) := by
  unfold zapp
  rw [pk_un (by omega), pk_us]
theorem zapp_7 (R : Nat → Int32) (q m : Nat) (x1 x2 x3 x4 t : Int32) : zapp R q m x1 x2 x3 x4 t (433 + 140 * q + 7) = R (433 + 140 * q + 7) + 1 := by
  unfold zapp
  rw [pk_us]
theorem zapp_2 (R : Nat → Int32) (q m : Nat) (x1 x2 x3 x4 t : Int32) : zapp R q m x1 x2 x3 x4 t (433 + 140 * q + 2) = if m = 0 then t else R (433 + 140 * q + 2) := by
  unfold zapp
  rw [pk_un (by omega), pk_un (by omega)]
  by_cases e : m = 0
  · rw [if_pos e, if_pos e, pk_us]
  · rw [if_neg e, if_neg e, pk_un (by omega), pk_un (by omega), pk_un (by omega), pk_un (by omega)]
theorem zapp_p (R : Nat → Int32) (q m w : Nat) (x1 x2 x3 x4 t : Int32) (hw : w < 4) : zapp R q m x1 x2 x3 x4 t (441 + 140 * q + 4 * m + w) = if w = 0 then x1 else if w = 1 then x2 else if w = 2 then x3 else x4 := by
  unfold zapp
  rw [pk_un (by omega), pk_un (by omega)]
  have key : upd (upd (upd (upd R (441 + 140 * q + 4 * m) x1) (441 + 140 * q + 4 * m + 1) x2) (441 + 140 * q + 4 * m + 2) x3) (441 + 140 * q + 4 * m + 3) x4 (441 + 140 * q + 4 * m + w) = if w = 0 then x1 else if w = 1 then x2 else if w = 2 then x3 else x4 := by
    match w, hw with
    | 0, _ => rw [pk_un (by omega), pk_un (by omega), pk_un (by omega)]; exact pk_us
    | 1, _ => rw [pk_un (by omega), pk_un (by omega), pk_us]; rfl
    | 2, _ => rw [pk_un (by omega), pk_us]; rfl
    | 3, _ => rw [pk_us]; rfl
  by_cases e : m = 0
  · rw [if_pos e, pk_un (by omega)]; exact key
  · rw [if_neg e]; exact key
theorem SimX.append {n nr : Nat} {m : Nat → Nat} {cs : Nat → RS} {R : Nat → Int32} {S : Nat → Int64} {q f : Nat} {x2 x3 x4 t : Int32} {o w : RS} (h : SimX n nr m cs R S) (hq : q < 4) (hm : m q < 32) (hf : f < n) (h4 : x4 = 0 ∨ x4 = 1) (hw : (cs 2).1 1 (7 * 24 + f) = -1 ∨ (cs 2).1 1 (7 * 24 + f) = nI q) (ho : zap3 (cs (5 + q)) o (m q) (nI f) x2 x3 x4 t) (w0 : w.1 0 = (cs 2).1 0) (w1 : w.1 1 = upd (upd ((cs 2).1 1) (7 * 24 + f) (nI q)) (8 * 24 + f) ((cs 2).1 1 (8 * 24 + f) + 1)) : SimX n nr (fun p => if p = q then m q + 1 else m p) (va_up (va_up cs (5 + q) o) 2 w) (zapp R q (m q) (nI f) x2 x3 x4 t) S := by
  obtain ⟨h0, hK, hF, hR, hT, hQ, hW, hG, hN, hO, hA⟩ := h
  have hn24 : n ≤ 24 := hF.2.1
  obtain ⟨q1, q2, q3, q4, q5, q6⟩ := hQ q hq
  obtain ⟨o0, o7, o4, oo, o8⟩ := ho
  have fr : ∀ i, (i < 433 + 140 * q ∨ 573 + 140 * q ≤ i) → zapp R q (m q) (nI f) x2 x3 x4 t i = R i := fun i hi => zapp_o _ _ _ _ _ _ _ _ _ (by omega) (fun _ => by omega) (by omega) (by omega)
  have cc : ∀ a g, a < 20 → g < 24 → a ≠ 7 → a ≠ 8 → w.1 1 (a * 24 + g) = (cs 2).1 1 (a * 24 + g) := by
    intro a g ha hg h7 h8
    rw [w1, pk_un (by omega), pk_un (by omega)]
  have e4 : (if x4 = 0 then (0 : Int32) else 1) = x4 := by
    rcases h4 with h4 | h4
    · rw [h4]; rfl
    · rw [h4]; rfl
  refine ⟨?_, ?_, ?_, ?_, ?_, ?_, ?_, ?_, ?_, ?_, ?_⟩
  · rw [vu_s, w0]; exact h0
  · rw [vu_n _ _ (by decide), vu_n _ _ (by omega)]; exact hK.fr (fun i hi => fr i (by omega))
  · rw [vu_s]
    obtain ⟨f1, f2, f3, f4, f5, f6, f7, f8⟩ := hF.fr (R1 := zapp R q (m q) (nI f) x2 x3 x4 t) (fun i hi => fr i (by omega))
    refine ⟨f1, f2, fun j k hj hk => ?_, f4, f5, f6, f7, fun j k g1 g2 g3 => ?_⟩
    · obtain ⟨z1, z2, z3, z4, z5⟩ := zrow_ne k hk
      rw [cc _ _ z5 (by omega) z3 z4]; exact f3 j k hj hk
    · rw [w1, pk_un (by omega), pk_un (by omega)]; exact f8 j k g1 g2 g3
  · rw [vu_s]; exact (hR.fr (fun i hi => fr i (by omega))).fc (fun g hg => cc 13 g (by omega) (by omega) (by omega) (by omega)) (fun g hg => cc 14 g (by omega) (by omega) (by omega) (by omega))
  · rw [vu_n _ _ (by decide), vu_n _ _ (by omega)]; exact hT.fr (fun i hi => fr i (by omega))
  · intro p hp
    rw [vu_n _ _ (by omega)]
    by_cases e : p = q
    · subst e
      rw [vu_s]
      show sQ n p (if p = p then m p + 1 else m p) o _
      rw [if_pos rfl]
      refine ⟨by omega, by rw [Nat.add_zero, zapp_0], fun k hk => ?_, fun i v hi hv => ?_, fun i hi => ?_, fun i hi => ?_⟩
      · match k, hk with
        | 0, _ => rw [Nat.add_zero, zapp_0]; exact o0
        | 1, _ => rw [zapp_o _ _ _ _ _ _ _ _ _ (by omega) (fun _ => by omega) (by omega) (by omega), ← q3 1 (by omega)]; exact congrFun (oo 3 (by omega) (by omega) (by omega) (by omega)) 0
        | 2, _ => rw [zapp_2, ← q3 2 (by omega)]; exact o4
        | 3, _ => rw [zapp_o _ _ _ _ _ _ _ _ _ (by omega) (fun _ => by omega) (by omega) (by omega), ← q3 3 (by omega)]; exact congrFun (oo 1 (by omega) (by omega) (by omega) (by omega)) 0
        | 4, _ => rw [zapp_o _ _ _ _ _ _ _ _ _ (by omega) (fun _ => by omega) (by omega) (by omega), ← q3 4 (by omega)]; exact congrFun (oo 5 (by omega) (by omega) (by omega) (by omega)) 0
        | 5, _ => rw [zapp_o _ _ _ _ _ _ _ _ _ (by omega) (fun _ => by omega) (by omega) (by omega), ← q3 5 (by omega)]; exact congrFun (oo 2 (by omega) (by omega) (by omega) (by omega)) 0
        | 6, _ => rw [zapp_o _ _ _ _ _ _ _ _ _ (by omega) (fun _ => by omega) (by omega) (by omega), ← q3 6 (by omega)]; exact congrFun (oo 6 (by omega) (by omega) (by omega) (by omega)) 0
        | 7, _ => rw [zapp_7, ← q3 7 (by omega)]; exact o7
      · rw [o8, e4]
        by_cases e : i = m p
        · subst e
          rw [zapp_p _ _ _ _ _ _ _ _ _ hv]
          match v, hv with
          | 0, _ => rw [pk_un (by omega), pk_un (by omega), pk_un (by omega), pk_us]; rfl
          | 1, _ => rw [pk_un (by omega), pk_un (by omega), pk_us]; rfl
          | 2, _ => rw [pk_un (by omega), pk_us]; rfl
          | 3, _ => rw [pk_us]; rfl
        · rw [pk_un (by omega), pk_un (by omega), pk_un (by omega), pk_un (by omega), zapp_o _ _ _ _ _ _ _ _ _ (by omega) (fun _ => by omega) (by omega) (by omega)]
          exact q4 i v (by omega) hv
      · by_cases e : i = m p
        · subst e
          rw [zapp_p _ _ _ _ _ _ _ _ _ (by omega)]
          exact ⟨f, hf, rfl⟩
        · rw [zapp_o _ _ _ _ _ _ _ _ _ (by omega) (fun _ => by omega) (by omega) (by omega)]
          exact q5 i (by omega)
      · by_cases e : i = m p
        · subst e
          rw [zapp_p _ _ _ _ _ _ _ _ _ (by omega)]
          exact h4
        · rw [zapp_o _ _ _ _ _ _ _ _ _ (by omega) (fun _ => by omega) (by omega) (by omega)]
          exact q6 i (by omega)
    · rw [vu_n _ _ (by omega)]
      show sQ n p (if p = q then m q + 1 else m p) _ _
      rw [if_neg e]; exact (hQ p hp).fr (fun i hi => fr i (by omega))
  · rw [vu_s]
    have cnt : ∀ p, p < 4 → ∀ g, g < n → zcq (zapp R q (m q) (nI f) x2 x3 x4 t) (if p = q then m q + 1 else m p) p g = zcq R (m p) p g + if p = q ∧ g = f then 1 else 0 := by
      intro p hp g hg
      by_cases e : p = q
      · subst e
        rw [if_pos rfl, zcq_s]
        have old : zcq (zapp R p (m p) (nI f) x2 x3 x4 t) (m p) p g = zcq R (m p) p g := by
          unfold zcq
          refine zct_eq (fun i hi => ?_)
          rw [zapp_o _ _ _ _ _ _ _ _ _ (by omega) (fun _ => by omega) (by omega) (by omega)]
        rw [old, zapp_p _ _ _ _ _ _ _ _ _ (by omega), if_pos rfl]
        congr 1
        by_cases z : g = f
        · rw [z]; simp
        · have : ¬ nI f = nI g := fun y => z ((nI_eq (by omega) (by omega)).mp y).symm
          simp [this, z]
      · rw [if_neg e, if_neg (fun z => e z.1), Nat.add_zero]
        exact zcq_fr (hQ p hp).1 (fun i hi => fr i (by omega))
    intro g hg
    obtain ⟨w8, w7⟩ := hW g hg
    rw [cnt 0 (by omega) g hg, cnt 1 (by omega) g hg, cnt 2 (by omega) g hg, cnt 3 (by omega) g hg]
    by_cases z : g = f
    · subst z
      have s8 : w.1 1 (8 * 24 + g) = (cs 2).1 1 (8 * 24 + g) + 1 := by rw [w1, pk_us]
      have s7 : w.1 1 (7 * 24 + g) = nI q := by rw [w1, pk_un (by omega), pk_us]
      have others : ∀ p, p < 4 → p ≠ q → zcq R (m p) p g = 0 := by
        intro p hp hne
        rcases w7 with ⟨a, b⟩ | ⟨k, k1, k2, k3, k4⟩
        · exact b p hp
        · rcases hw with hw | hw
          · exact absurd (k2.symm.trans hw) (nI_nm1 (by omega))
          · have : k = q := (nI_eq (by omega) (by omega)).mp (k2.symm.trans hw)
            subst this
            exact k4 p hp hne
      refine ⟨?_, Or.inr ⟨q, hq, s7, ?_, fun p hp hne => ?_⟩⟩
      · rw [s8, w8, nI_1]
        congr 1
        match q, hq with
        | 0, _ => simp; omega
        | 1, _ => simp; omega
        | 2, _ => simp; omega
        | 3, _ => simp; omega
      · rw [cnt q hq g hg, if_pos ⟨rfl, rfl⟩]; omega
      · rw [cnt p hp g hg, if_neg (fun y => hne y.1), Nat.add_zero]; exact others p hp hne
    · have s8 : w.1 1 (8 * 24 + g) = (cs 2).1 1 (8 * 24 + g) := by rw [w1, pk_un (by omega), pk_un (by omega)]
      have s7 : w.1 1 (7 * 24 + g) = (cs 2).1 1 (7 * 24 + g) := by rw [w1, pk_un (by omega), pk_un (by omega)]
      have nz : ∀ p, (if p = q ∧ g = f then 1 else 0) = 0 := fun p => if_neg (fun y => z y.2)
      rw [nz, nz, nz, nz, s8, s7]
      refine ⟨w8, ?_⟩
      rcases w7 with ⟨a, b⟩ | ⟨k, k1, k2, k3, k4⟩
      · exact Or.inl ⟨a, fun p hp => by rw [cnt p hp g hg, nz]; exact b p hp⟩
      · exact Or.inr ⟨k, k1, k2, by rw [cnt k k1 g hg, nz]; exact k3, fun p hp hne => by rw [cnt p hp g hg, nz]; exact k4 p hp hne⟩
  · rw [vu_n _ _ (by decide), vu_n _ _ (by omega)]; exact hG.fr (fun i hi => fr i (by omega))
  · rw [vu_n _ _ (by decide), vu_n _ _ (by omega)]; exact hN
  · rw [vu_n _ _ (by decide), vu_n _ _ (by omega)]; exact hO.fr (fun i hi => fr i (by omega))
  · rw [vu_s]
    refine sA.fc (c := (cs 2).1 1) ?_ (fun a g ha hg => cc a g (by omega) (by omega) (by omega) (by omega))
    obtain ⟨a1, a2, a3, a4, a5⟩ := hA
    refine ⟨by rw [fr _ (by omega)]; exact a1, by rw [fr _ (by omega)]; exact a2, by rw [fr _ (by omega)]; exact a3, by rw [fr _ (by omega)]; exact a4, ?_⟩
    rw [fr _ (by omega), a5]
    exact zsum_eq (fun p hp => (zapp_o _ _ _ _ _ _ _ _ _ (by omega) (fun _ => by omega) (by omega) (by omega)).symm)
