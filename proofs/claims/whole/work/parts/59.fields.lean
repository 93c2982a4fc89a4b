-- the pure side: fields; hash
theorem q7_isByte {x : Int32} {Q : Int32 → Prop} (h1 : zbyte x → Q 1) (h2 : ¬ zbyte x → Q 0) : wp_X7_isByte x Q := by
  unfold wp_X7_isByte wp_X7_isByte_15 wp_X7_isByte_16
  rcases in_or_out x 255 with ⟨j, hj, rfl⟩ | ho
  · have hb : zbyte (nI j) := ⟨j, by omega, rfl⟩
    exact ⟨fun c => absurd c (nI_pos (by omega)), fun _ => ⟨fun c => absurd (show nI 255 < nI j from c) (nI_nlt hj (by decide)), fun _ => ⟨Or.inr rfl, h1 hb⟩⟩⟩
  · have hb : ¬ zbyte x := fun ⟨k, hk, e⟩ => ho k (by omega) e
    exact ⟨fun _ => ⟨Or.inl rfl, h2 hb⟩, fun c => ⟨fun _ => ⟨Or.inl rfl, h2 hb⟩, fun d => absurd (Int32.not_lt.mp d) (out_le (n := 255) (by decide) ho c)⟩⟩
theorem q8_isByte {x : Int32} {Q : Int32 → Prop} (h1 : zbyte x → Q 1) (h2 : ¬ zbyte x → Q 0) : wp_X8_isByte x Q := by
  unfold wp_X8_isByte
  exact q8_in0 255 (by decide) (by decide) (fun k hk e => ⟨Or.inr rfl, h1 ⟨k, by omega, e⟩⟩) (fun ho => ⟨Or.inl rfl, h2 (fun ⟨k, hk, e⟩ => ho k (by omega) e)⟩)
def zflds (x1 x2 x3 x4 x5 : Int32) : Prop := zbyte x1 ∧ zbyte x2 ∧ zbyte x3 ∧ zbyte x4 ∧ (x5 = 0 ∨ x5 = 1)
theorem q7_areFields {x1 x2 x3 x4 x5 : Int32} {Q : Int32 → Prop} (h1 : zflds x1 x2 x3 x4 x5 → Q 1) (h2 : ¬ zflds x1 x2 x3 x4 x5 → Q 0) : wp_X7_areFields x1 x2 x3 x4 x5 Q := by
  unfold wp_X7_areFields wp_X7_areFields_39 wp_X7_areFields_43 wp_X7_areFields_44
  have no : ¬ zflds x1 x2 x3 x4 x5 → zBool 0 ∧ Q 0 := fun h => ⟨Or.inl rfl, h2 h⟩
  have yes : zflds x1 x2 x3 x4 x5 → zBool 1 ∧ Q 1 := fun h => ⟨Or.inr rfl, h1 h⟩
  have d10 : ¬ (1 : Int32) = 0 := by decide
  refine q7_isByte (fun b1 => ⟨fun z => absurd z d10, fun _ => q7_isByte (fun b2 => ⟨fun z => absurd z d10, fun _ => q7_isByte (fun b3 => ⟨fun z => absurd z d10, fun _ => q7_isByte (fun b4 => ⟨fun z => absurd z d10, fun _ => ⟨fun e => yes ⟨b1, b2, b3, b4, Or.inl e⟩, fun e => ⟨fun f => no (fun q => q.2.2.2.2.elim e f), fun f => yes ⟨b1, b2, b3, b4, Or.inr f⟩⟩⟩⟩) (fun n => ⟨fun _ => no (fun q => n q.2.2.2.1), fun z => absurd rfl z⟩)⟩) (fun n => ⟨fun _ => no (fun q => n q.2.2.1), fun z => absurd rfl z⟩)⟩) (fun n => ⟨fun _ => no (fun q => n q.2.1), fun z => absurd rfl z⟩)⟩) (fun n => ⟨fun _ => no (fun q => n q.1), fun z => absurd rfl z⟩)
def zfl (f : Nat → Int32) (x1 x2 x3 x4 x5 : Int32) : Nat → Int32 := upd (upd (upd (upd (upd f 0 x1) 1 x2) 2 x3) 3 x4) 4 x5
theorem q8_takeFields {u : RS} {x1 x2 x3 x4 x5 : Int32} {Q : Int32 → RS → Prop} (h1 : zflds x1 x2 x3 x4 x5 → Q 1 (rI u 14 (zfl (u.1 14) x1 x2 x3 x4 x5))) (h2 : ¬ zflds x1 x2 x3 x4 x5 → Q 0 (rI u 14 (zfl (u.1 14) x1 x2 x3 x4 x5))) : wp_X8_takeFields u x1 x2 x3 x4 x5 Q := by
  unfold wp_X8_takeFields wp_X8_takeFields_81 wp_X8_takeFields_82
  intro a1 e1 a2 e2 a3 e3 a4 e4 a5 e5
  have e : a5 = rI u 14 (zfl (u.1 14) x1 x2 x3 x4 x5) := by
    rw [e5, e4, e3, e2, e1]
    simp only [rI_rI, rI_s]
    rfl
  rw [e]
  have no : ¬ zflds x1 x2 x3 x4 x5 → zBool 0 ∧ Q 0 (rI u 14 (zfl (u.1 14) x1 x2 x3 x4 x5)) := fun h => ⟨Or.inl rfl, h2 h⟩
  have d10 : ¬ (1 : Int32) = 0 := by decide
  refine q8_isByte (fun b1 => ⟨fun z => absurd z d10, fun _ => q8_isByte (fun b2 => ⟨fun z => absurd z d10, fun _ => q8_isByte (fun b3 => ⟨fun z => absurd z d10, fun _ => q8_isByte (fun b4 => ⟨fun z => absurd z d10, fun _ => q8_in0 1 (by decide) (by decide) (fun k hk ek => ⟨fun z => absurd z d10, fun _ => ⟨Or.inr rfl, h1 ⟨b1, b2, b3, b4, ?_⟩⟩⟩) (fun ho => ⟨fun _ => no (fun q => q.2.2.2.2.elim (ho 0 (by omega)) (ho 1 (by omega))), fun z => absurd rfl z⟩)⟩) (fun n => ⟨fun _ => no (fun q => n q.2.2.2.1), fun z => absurd rfl z⟩)⟩) (fun n => ⟨fun _ => no (fun q => n q.2.2.1), fun z => absurd rfl z⟩)⟩) (fun n => ⟨fun _ => no (fun q => n q.2.1), fun z => absurd rfl z⟩)⟩) (fun n => ⟨fun _ => no (fun q => n q.1), fun z => absurd rfl z⟩)
  match k, hk, ek with
  | 0, _, ek => exact Or.inl ek
  | 1, _, ek => exact Or.inr ek
  | k + 2, hk, _ => omega
theorem Rel_14 {B : Nat} {u : TS} {r : RS} {f : Nat → Int32} (h : Rel B u r) : Rel B u (rI r 14 f) := h
theorem p_hash {B : Nat} : pX_hash (Rel B) (Rel (B + 30000)) := by
  intro u r x1 x2 x3 x4 x5 h
  replace h := h.up 30000
  have hs : Sim u.2.2.1 (r.1 3) (r.2 4) := h.2.2.1.1
  obtain ⟨n, nr, m, h0, hK, -⟩ := hs
  unfold wp_X7_hash
  refine q7_areFields (fun hz => ⟨fun _ => q2_hashFields (fun u1 e1 => ?_), fun z => absurd z (by decide)⟩) (fun hz => ⟨fun z => absurd rfl z, fun _ => ?_⟩)
  · rw [tN_id] at e1
    rw [e1]
    unfold wp_X8_hash wp_X8_hash_27
    intro r1 f1
    subst f1
    refine q8_takeFields (fun _ => ⟨fun z => absurd z (by decide), fun _ => q8_hashNow ⟨?_, Rel_14 (Rel_0 h)⟩⟩) (fun hn => absurd hz hn)
    obtain ⟨b1, b2, b3, b4, b5⟩ := hz
    have hb : ∀ k, k < 5 → zbyte (zfl ((rN r 0 0).1 14) x1 x2 x3 x4 x5 k) := by
      intro k hk
      match k, hk with
      | 0, _ => exact b1
      | 1, _ => exact b2
      | 2, _ => exact b3
      | 3, _ => exact b4
      | 4, _ => exact b5.elim (fun e => ⟨0, by omega, e⟩) (fun e => ⟨1, by omega, e⟩)
    rw [rI_s, zH_hf _ _ _ hb, hK.2.2.1, zhf_eq _ _ _ _ _ _ hK.1]
    rfl
  · unfold wp_X8_hash wp_X8_hash_27
    intro r1 f1
    subst f1
    exact q8_takeFields (fun hy => absurd hy hz) (fun _ => ⟨fun _ => ⟨rfl, Rel_14 (Rel_0 h)⟩, fun z => absurd rfl z⟩)
