-- the pure side: hashes laid anew; mask, key
theorem q8_takeFlow {u : RS} {x1 : Int32} {Q : RS → Prop} (f : Nat) (e : x1 = nI f) (hf : f < 24) (h : ∀ g : Nat → Int32, (∀ k, k < 5 → g k = u.1 3 (73 + 15 * f + k)) → Q (rI u 14 g)) : wp_X8_takeFlow u x1 Q := by
  unfold wp_X8_takeFlow
  refine zl3 (wp_X8_takeFlow_2 Q) 5 (fun i v y1 y2 => ∃ g : Nat → Int32, v = rI u 14 g ∧ (∀ k, k < i → g k = u.1 3 (73 + 15 * f + k)) ∧ y1 = nI f ∧ y2 = nI i) ?_ 0 (Nat.zero_le _) u _ _ ⟨u.1 14, (rI_id u 14).symm, fun k hk => absurd hk (Nat.not_lt_zero k), e, rfl⟩
  rintro i B v y1 y2 hi ⟨g, rfl, hg, rfl, rfl⟩ hB
  unfold wp_X8_takeFlow_2
  refine ⟨fun hc => ?_, fun hc => ?_⟩
  · have hi := nI_stop (N := 5) (by decide) hi hc
    subst hi
    exact h g hg
  · have hlt := nI_go (N := 5) (by decide) hi hc
    refine q8_flowAt f rfl ?_
    rw [nI_add, zn_nI (by omega), zn_nI (by omega)]
    refine ⟨in_nI (by omega) (by decide), in_nI (by omega) (by decide), fun w ew y ey => hB _ _ _ hlt ⟨upd g i (u.1 3 (73 + 15 * f + i)), ?_, fun k hk => ?_, rfl, by rw [ey, nI_1]⟩⟩
    · rw [ew, rI_rI, rI_s, rI_n _ _ (by decide)]
    · by_cases z : k = i
      · subst z; rw [pk_us]
      · rw [pk_un z]; exact hg k (by omega)
def zhr (R : Nat → Int32) (f : Nat) : Int32 := zhf (zwin (R 0) (R 1) (R 2)) (R 3) (R (73 + 15 * f + 0)) (R (73 + 15 * f + 1)) (R (73 + 15 * f + 2)) (R (73 + 15 * f + 3)) (R (73 + 15 * f + 4))
theorem q8_layHash {u : RS} {x1 : Int32} {Q : RS → Prop} (f : Nat) (e : x1 = nI f) (hf : f < 24) (hb : ∀ k, k < 5 → zbyte (u.1 3 (73 + 15 * f + k))) (h : ∀ g : Nat → Int32, Q (rI (rI u 14 g) 3 (upd (u.1 3) (73 + 15 * f + 14) (zhr (u.1 3) f)))) : wp_X8_layHash u x1 Q := by
  unfold wp_X8_layHash
  refine q8_takeFlow f e hf (fun g hg => q8_flowAt f e (q8_hashNow ?_))
  rw [nI_addl, zn_nI (by omega), rI_s, rI_n _ _ (by decide)]
  refine ⟨in_nI (by omega) (by decide), fun w ew => ?_⟩
  have hh : zH (zwin (u.1 3 0) (u.1 3 1) (u.1 3 2)) (u.1 3 3) g 40 = zhr (u.1 3) f := by
    rw [zH_hf _ _ _ (fun k hk => by rw [hg k hk]; exact hb k hk), hg 0 (by omega), hg 1 (by omega), hg 2 (by omega), hg 3 (by omega), hg 4 (by omega)]
    rfl
  rw [hh] at ew
  rw [ew]
  exact h g
/-- the hashes of the first n flows laid anew -/
def zlayN (R : Nat → Int32) : Nat → Nat → Int32
  | 0 => R
  | n + 1 => upd (zlayN R n) (73 + 15 * n + 14) (zhr R n)
theorem zlayN_o (R : Nat → Int32) : ∀ n j, (∀ f, f < n → j ≠ 73 + 15 * f + 14) → zlayN R n j = R j
  | 0, _, _ => rfl
  | n + 1, j, h => by
    show upd (zlayN R n) (73 + 15 * n + 14) (zhr R n) j = R j
    rw [pk_un (h n (by omega))]
    exact zlayN_o R n j (fun f hf => h f (by omega))
theorem zlayN_h (R : Nat → Int32) : ∀ n f, f < n → zlayN R n (73 + 15 * f + 14) = zhr R f
  | 0, f, h => absurd h (Nat.not_lt_zero f)
  | n + 1, f, h => by
    show upd (zlayN R n) (73 + 15 * n + 14) (zhr R n) (73 + 15 * f + 14) = zhr R f
    by_cases e : f = n
    · subst e; rw [pk_us]
    · rw [pk_un (by omega)]; exact zlayN_h R n f (by omega)
theorem zlayN_hr (R : Nat → Int32) (n f : Nat) : zhr (zlayN R n) f = zhr R f := by
  unfold zhr
  rw [zlayN_o R n 0 (fun g _ => by omega), zlayN_o R n 1 (fun g _ => by omega), zlayN_o R n 2 (fun g _ => by omega), zlayN_o R n 3 (fun g _ => by omega), zlayN_o R n (73 + 15 * f + 0) (fun g _ => by omega), zlayN_o R n (73 + 15 * f + 1) (fun g _ => by omega), zlayN_o R n (73 + 15 * f + 2) (fun g _ => by omega), zlayN_o R n (73 + 15 * f + 3) (fun g _ => by omega), zlayN_o R n (73 + 15 * f + 4) (fun g _ => by omega)]
theorem q8_layHashes {u : RS} {Q : RS → Prop} (n : Nat) (hn : u.1 3 4 = nI n) (h24 : n ≤ 24) (hb : ∀ f k, f < n → k < 5 → zbyte (u.1 3 (73 + 15 * f + k))) (h : ∀ v : RS, v.1 3 = zlayN (u.1 3) n → (∀ k, k ≠ 3 → k ≠ 14 → v.1 k = u.1 k) → v.2 = u.2 → Q v) : wp_X8_layHashes u Q := by
  unfold wp_X8_layHashes
  refine zl2 (wp_X8_layHashes_2 Q) n (fun i v y => v.1 3 = zlayN (u.1 3) i ∧ (∀ k, k ≠ 3 → k ≠ 14 → v.1 k = u.1 k) ∧ v.2 = u.2 ∧ y = nI i) ?_ 0 (Nat.zero_le _) u 0 ⟨rfl, fun _ _ _ => rfl, rfl, rfl⟩
  rintro i B v y hi ⟨v3, vf, v2, rfl⟩ hB
  unfold wp_X8_layHashes_2
  have e4 : v.1 3 4 = nI n := by rw [v3, zlayN_o _ _ _ (fun g _ => by omega)]; exact hn
  rw [e4]
  refine ⟨fun hc => ?_, fun hc => ?_⟩
  · have hi := nI_stop (by omega) hi hc
    subst hi
    exact h v v3 vf v2
  · have hlt := nI_go (by omega) hi hc
    refine q8_layHash i rfl (by omega) (fun k hk => by rw [v3, zlayN_o _ _ _ (fun g _ => by omega)]; exact hb i k hlt hk) (fun g y ey => hB _ _ hlt ⟨?_, fun k k3 k14 => ?_, ?_, by rw [ey, nI_1]⟩)
    · rw [rI_s, v3, zlayN_hr]; rfl
    · rw [rI_n _ _ k3, rI_n _ _ k14]; exact vf k k3 k14
    · exact v2
/-- another key, other fields that count: what stands, with the hashes laid anew -/
theorem Sim.keys {cs : Nat → RS} {R RK : Nat → Int32} {S : Nat → Int64} {n : Nat} {w : RS} (h : Sim cs R S) (h0 : (cs 2).1 0 0 = nI n) (h24 : n ≤ 24) (hk : ∀ i, 4 ≤ i → RK i = R i) (hw : sK w RK) : Sim (va_up cs 1 w) (zlayN RK n) S := by
  obtain ⟨n', nr, m, h0', hK, hF, hR, hT, hQ, hW, hG, hN, hO, hA⟩ := h
  have en : n' = n := (nI_eq (by have := hF.2.1; omega) (by omega)).mp (h0'.symm.trans h0)
  subst en
  have fr : ∀ i, 4 ≤ i → (i < 73 ∨ 433 ≤ i) → zlayN RK n' i = R i := fun i h4 hi => by rw [zlayN_o _ _ _ (fun g _ => by omega)]; exact hk i h4
  have fk : ∀ i, i < 4 → zlayN RK n' i = RK i := fun i hi => zlayN_o _ _ _ (fun g _ => by omega)
  have ff : ∀ j k, k < 14 → zlayN RK n' (73 + 15 * j + k) = R (73 + 15 * j + k) := fun j k hk' => by rw [zlayN_o _ _ _ (fun g _ => by omega)]; exact hk _ (by omega)
  refine ⟨n', nr, m, ?_, ?_, ?_, ?_, ?_, ?_, ?_, ?_, ?_, ?_, ?_⟩
  · rw [vu_n _ _ (by decide)]; exact h0'
  · rw [vu_s]; exact hw.fr fk
  · rw [vu_n _ _ (by decide)]
    obtain ⟨f1, f2, f3, f4, f5, f6, f7, f8⟩ := hF
    refine ⟨by rw [fr _ (by omega) (by omega)]; exact f1, f2, fun j k hj hk' => by rw [ff j k hk']; exact f3 j k hj hk', fun j k hj hk' => by rw [ff j k (by omega)]; exact f4 j k hj hk', fun j hj => by rw [ff j 5 (by omega)]; exact f5 j hj, fun j hj => by rw [ff j 11 (by omega)]; exact f6 j hj, fun j hj => ?_, f8⟩
    rw [zlayN_h _ _ _ hj]
    exact (zlayN_hr RK n' j).symm
  · rw [vu_n _ _ (by decide)]; exact hR.fr (fun i hi => fr i (by omega) (by omega))
  · rw [vu_n _ _ (by decide)]; exact hT.fr (fun i hi => fr i (by omega) (by omega))
  · intro p hp
    rw [vu_n _ _ (by omega)]; exact (hQ p hp).fr (fun i hi => fr i (by omega) (by omega))
  · rw [vu_n _ _ (by decide)]; exact hW.fr (fun p hp => (hQ p hp).1) (fun i hi => fr i (by omega) (by omega))
  · rw [vu_n _ _ (by decide)]; exact hG.fr (fun i hi => fr i (by omega) (by omega))
  · rw [vu_n _ _ (by decide)]; exact hN
  · rw [vu_n _ _ (by decide)]; exact hO.fr (fun i hi => fr i (by omega) (by omega))
  · rw [vu_n _ _ (by decide)]; exact hA.fr (fun i hi => fr i (by omega) (by omega))
theorem p_mask {B : Nat} : pX_mask (Rel B) (Rel (B + 30000)) := by
  intro u r x1 h
  replace h := h.up 30000
  have h0 : Rel0 (B + 30000) u (rN r 0 0) := h.2
  have hs : Sim u.2.2.1 (r.1 3) (r.2 4) := h.2.2.1.1
  have hs2 := hs
  obtain ⟨n, nr, m, hn, hK, hF, -⟩ := hs2
  have h24 : n ≤ 24 := hF.2.1
  have bad : (∀ k, k ≤ 31 → ¬ x1 = nI k) → wp_X7_mask_10 (fun x u1 => wp_X8_mask r x1 (fun y r1 => x = y ∧ Rel (B + 30000) u1 r1)) u := by
    intro ho
    unfold wp_X7_mask_10
    refine k_refuse 1 (-1) (by decide) (by decide) h0 (fun u1 hu => ?_)
    unfold wp_X8_mask
    intro r1 f1
    subst f1
    exact q8_in0 31 (by decide) (by decide) (fun k hk e => absurd e (ho k hk)) (fun _ => ⟨fun z => absurd rfl z, fun _ => hu _ (fun r2 hr => ⟨rfl, hr⟩)⟩)
  unfold wp_X7_mask
  rcases in_or_out x1 31 with ⟨k, hk, rfl⟩ | ho
  · refine ⟨fun c => absurd c (nI_pos (by omega)), fun _ => ⟨fun _ => ?_, fun d => absurd (show nI k ≤ nI 31 from nI_le hk (by decide)) d⟩⟩
    refine q7_begin h0 (fun u1 l1 n1 o1 hrem => ?_)
    intro y ey u2 e2
    rw [n1] at ey e2
    unfold wp_X8_mask
    intro r1 f1
    subst f1
    refine q8_in0 31 (by decide) (by decide) (fun _ _ _ => ⟨fun _ => ?_, fun z => absurd z (by decide)⟩) (fun ho => absurd rfl (ho k hk))
    refine q8_becomes h0 3 rfl (by omega) (fun mm v r2 m1 m2 hz hr => ?_)
    have r23 : r2.1 3 = upd (r.1 3) 3 (nI k) := by rw [hr, rN_n _ _ (by decide), rI_s]; rfl
    have rk : ∀ i, 4 ≤ i → r2.1 3 i = r.1 3 i := fun i hi => by rw [r23, pk_un (by omega)]
    refine q8_layHashes n (by rw [rk 4 (by omega)]; exact hF.1) h24 (fun f j hf hj => by rw [rk _ (by omega)]; exact (hF.2.2.2.1 f j hf hj).1) (fun w w3 wf w2 => ⟨?_, ?_⟩)
    · rw [ey]; exact hK.2.2.1
    · refine k_end (hrem mm v m1 m2 hz) l1 e2 ?_ (fun j hj => ?_) (fun j hj => by rw [w2, hr, rN_2, rI_2]) ?_
      · rw [wf 1 (by decide) (by decide), hr, rN_s]
      · rw [wf j (by omega) (by omega), hr, rN_n _ _ (by omega), rI_n _ _ (by omega)]
      · have e4 : w.2 4 = r.2 4 := by rw [w2, hr, rN_2, rI_2]; exact hz.row.2
        rw [w3, e4]
        refine ⟨hs.keys hn h24 rk ?_, h.2.2.1.2.fr (fun i hi => by rw [zlayN_o _ _ _ (fun g _ => by omega)]; exact rk i (by omega)) (fun _ _ => rfl)⟩
        obtain ⟨k1, k2, k3, k4⟩ := hK
        have q0 : r2.1 3 0 = r.1 3 0 := by rw [r23, pk_un (by omega)]
        have q1 : r2.1 3 1 = r.1 3 1 := by rw [r23, pk_un (by omega)]
        have q2 : r2.1 3 2 = r.1 3 2 := by rw [r23, pk_un (by omega)]
        have q3 : r2.1 3 3 = nI k := by rw [r23, pk_us]
        unfold sK
        rw [q0, q1, q2, q3]
        exact ⟨fun i hi => by rw [rN_n _ _ (by decide)]; exact k1 i hi, k2, by rw [rN_s], k, by omega, rfl⟩
  · have key := bad ho
    exact ⟨fun _ => key, fun c => ⟨fun d => absurd d (out_le (n := 31) (by decide) ho c), fun _ => key⟩⟩
theorem p_key {B : Nat} : pX_key (Rel B) (Rel (B + 30000)) := by
  intro u r x1 x2 x3 h
  replace h := h.up 30000
  have h0 : Rel0 (B + 30000) u (rN r 0 0) := h.2
  have hs : Sim u.2.2.1 (r.1 3) (r.2 4) := h.2.2.1.1
  have hs2 := hs
  obtain ⟨n, nr, m, hn, hK, hF, -⟩ := hs2
  have h24 : n ≤ 24 := hF.2.1
  unfold wp_X7_key
  refine q7_isByte (fun hb => ⟨fun _ => ?_, fun z => absurd z (by decide)⟩) (fun hb => ⟨fun z => absurd rfl z, fun _ => ?_⟩)
  · refine q7_begin h0 (fun u1 l1 n1 o1 hrem => ?_)
    rw [n1]
    refine q2_put hb (fun w w0 w1 u2 e2 => ?_)
    unfold wp_X8_key
    intro r1 f1
    subst f1
    refine q8_isByte (fun _ => ⟨fun _ => ?_, fun z => absurd z (by decide)⟩) (fun hno => absurd hb hno)
    refine q8_rem h0 (fun mm v m1 m2 hz => ?_)
    intro a1 d1 a2 d2 a3 d3
    have v3 : v.1 3 = r.1 3 := hz.row.1
    have a33 : a3.1 3 = upd (upd (upd (r.1 3) 0 x1) 1 x2) 2 x3 := by rw [d3, d2, d1]; simp only [rI_rI, rI_s, v3]
    have af : ∀ k, k ≠ 3 → a3.1 k = v.1 k := fun k hk => by rw [d3, d2, d1, rI_n _ _ hk, rI_n _ _ hk, rI_n _ _ hk]
    have a2' : a3.2 = v.2 := by rw [d3, d2, d1]; rfl
    have rk : ∀ i, 4 ≤ i → a3.1 3 i = r.1 3 i := fun i hi => by rw [a33, pk_un (by omega), pk_un (by omega), pk_un (by omega)]
    refine q8_layHashes n (by rw [rk 4 (by omega)]; exact hF.1) h24 (fun f j hf hj => by rw [rk _ (by omega)]; exact (hF.2.2.2.1 f j hf hj).1) (fun z z3 zf z2 => ?_)
    unfold wp_X8_tell
    intro r3 d4
    refine ⟨rfl, k_end (hrem mm v m1 m2 hz) l1 e2 (by rw [d4, rN_s]) (fun j hj => ?_) (fun j hj => by rw [d4, rN_2, z2, a2']) ?_⟩
    · rw [d4, rN_n _ _ (by omega), zf j (by omega) (by omega), af j (by omega)]
    · have e4 : r3.2 4 = r.2 4 := by rw [d4, rN_2, z2, a2']; exact hz.row.2
      rw [d4, rN_n _ _ (by decide), z3, rN_2, z2, a2', hz.row.2]
      refine ⟨hs.keys hn h24 rk ?_, h.2.2.1.2.fr (fun i hi => by rw [zlayN_o _ _ _ (fun g _ => by omega)]; exact rk i (by omega)) (fun _ _ => rfl)⟩
      obtain ⟨k1, k2, k3, k4⟩ := hK
      have q0 : a3.1 3 0 = x1 := by rw [a33, pk_un (by omega), pk_un (by omega), pk_us]
      have q1 : a3.1 3 1 = x2 := by rw [a33, pk_un (by omega), pk_us]
      have q2 : a3.1 3 2 = x3 := by rw [a33, pk_us]
      have q3 : a3.1 3 3 = r.1 3 3 := by rw [a33, pk_un (by omega), pk_un (by omega), pk_un (by omega)]
      unfold sK
      rw [q0, q1, q2, q3]
      exact ⟨w1, hb, by rw [w0]; exact k3, k4⟩
  · refine k_refuse 1 (-1) (by decide) (by decide) h0 (fun u1 hu => ?_)
    unfold wp_X8_key
    intro r1 f1
    subst f1
    exact q8_isByte (fun hy => absurd hy hb) (fun _ => ⟨fun z => absurd rfl z, fun _ => hu _ (fun r2 hr => ⟨rfl, hr⟩)⟩)
