-- the pure side: spread
theorem rI_sw (u : RS) {a b : Nat} (h : a ≠ b) (f g : Nat → Int32) : rI (rI u a f) b g = rI (rI u b g) a f := by
  have e : va_up (va_up u.1 a f) b g = va_up (va_up u.1 b g) a f := by
    funext k
    by_cases q : k = b
    · subst q
      rw [va_up_self, va_up_ne _ _ (fun z => h z.symm), va_up_self]
    · rw [va_up_ne _ _ q]
      by_cases q2 : k = a
      · subst q2
        rw [va_up_self, va_up_self]
      · rw [va_up_ne _ _ q2, va_up_ne _ _ q2, va_up_ne _ _ q]
  unfold rI
  rw [e]
theorem zQ15 (v : Nat) (x : Int32) : ∀ j, zQ (zZ v) x j &&& 15 = zQ (zZ v) x j
  | 0 => by
    show (0 : Int32) &&& 15 = 0
    decide
  | j + 1 => by
    show (if x.toBitVec.getLsbD (7 - j) = true then zQ (zZ v) x j ^^^ zZ v j else zQ (zZ v) x j) &&& 15 = (if x.toBitVec.getLsbD (7 - j) = true then zQ (zZ v) x j ^^^ zZ v j else zQ (zZ v) x j)
    have hz : zZ v j &&& 15 = zZ v j := by
      unfold zZ
      rw [Int32.and_assoc, Int32.and_self]
    cases x.toBitVec.getLsbD (7 - j) with
    | false => exact zQ15 v x j
    | true =>
      show (zQ (zZ v) x j ^^^ zZ v j) &&& 15 = zQ (zZ v) x j ^^^ zZ v j
      rw [xor_and, zQ15 v x j, hz]
def zsF (F : Nat → Int32) (v f : Nat) : Nat := (zQ (zZ v) (F f) 8).toBitVec.toNat % 16
theorem zsF_lt (F : Nat → Int32) (v f : Nat) : zsF F v f < 16 := Nat.mod_lt _ (by decide)
theorem zsF_eq (F : Nat → Int32) (v f : Nat) : zQ (zZ v) (F f) 8 = nI (zsF F v f) := by
  have h := zQ15 v (F f) 8
  rw [and15] at h
  exact h.symm
def zuoN (s : Nat → Nat) : Nat → Nat
  | 0 => 0
  | f + 1 => zuoN s f ||| 2 ^ (s f)
theorem pow16 : ∀ s : Nat, s < 16 → 2 ^ s < 2 ^ 16 := by decide +kernel
theorem shl16p : ∀ s : Nat, s < 16 → (1 : Int32) <<< (nI s &&& 31) = nI (2 ^ s) := by decide +kernel
theorem zuoN_lt (F : Nat → Int32) (v : Nat) : ∀ n, zuoN (zsF F v) n < 2 ^ 16
  | 0 => show 0 < 2 ^ 16 by decide
  | n + 1 => Nat.or_lt_two_pow (zuoN_lt F v n) (pow16 _ (zsF_lt F v n))
def zcn1 (F : Nat → Int32) (n v : Nat) : Int32 := nI (zpc (zuoN (zsF F v) n) 16)
theorem q7_unlike {u : TS} {F : Nat → Int32} {Q : Int32 → TS → Prop} (n v : Nat) (hv : v < 256) (hn : (u.2.2.1 2).1 0 0 = nI n) (h24 : n ≤ 24) (hF : ∀ f, f < n → u.1.1 6 f = F f) (h : Q (zcn1 F n v) u) : wp_X7_unlikeEntries u (nI v) Q := by
  unfold wp_X7_unlikeEntries
  refine zl4 (wp_X7_unlikeEntries_4 Q) n (fun i x y1 y2 y3 => x = u ∧ y1 = nI v ∧ y2 = nI (zuoN (zsF F v) i) ∧ y3 = nI i) ?_ 0 (Nat.zero_le _) _ _ _ _ ⟨rfl, rfl, rfl, rfl⟩
  rintro i C x y1 y2 y3 hi ⟨rfl, rfl, rfl, rfl⟩ hC
  unfold wp_X7_unlikeEntries_4
  rw [hn]
  refine ⟨fun c => ?_, fun c => ?_⟩
  · have hi := nI_stop (by omega) hi c
    subst hi
    exact qJ_bitCount _ (zuoN_lt F v i) h
  · have hlt := nI_go (by omega) hi c
    rw [zn_nI (by omega), hF i hlt]
    refine ⟨in_nI (by omega) (by decide), q7_byRepeated hv (fun a ea b eb => hC _ _ _ _ hlt ⟨rfl, rfl, ?_, by rw [eb, nI_1]⟩)⟩
    rw [ea, zsF_eq, shl16p _ (zsF_lt F v i), nI_or]
    rfl
theorem q8_unlike {u : RS} {F : Nat → Int32} {Q : Int32 → RS → Prop} (n v : Nat) (hv : v < 256) (hn : u.1 3 4 = nI n) (h24 : n ≤ 24) (k0 : u.1 3 0 = zrep v) (k1 : u.1 3 1 = zrep v) (k2 : u.1 3 2 = nI v) (hb : ∀ f k, f < n → k < 5 → zbyte (u.1 3 (73 + 15 * f + k))) (hF : ∀ f, f < n → F f = zfo (u.1 3 3) (fun k => u.1 3 (73 + 15 * f + k)) 5) (h : ∀ g : Nat → Int32, Q (zcn1 F n v) (rI u 14 g)) : wp_X8_unlikeEntries u Q := by
  unfold wp_X8_unlikeEntries
  refine zl3 (wp_X8_unlikeEntries_4 Q) n (fun i x y1 y2 => (∃ g, x = rI u 14 g) ∧ y1 = nI (zuoN (zsF F v) i) ∧ y2 = nI i) ?_ 0 (Nat.zero_le _) _ _ _ ⟨⟨u.1 14, (rI_id u 14).symm⟩, rfl, rfl⟩
  rintro i C x y1 y2 hi ⟨⟨g, rfl⟩, rfl, rfl⟩ hC
  have f3 : ∀ g : Nat → Int32, (rI u 14 g).1 3 = u.1 3 := fun g => rI_n _ _ (by decide)
  unfold wp_X8_unlikeEntries_4
  rw [f3, hn]
  refine ⟨fun c => ?_, fun c => ?_⟩
  · have hi := nI_stop (by omega) hi c
    subst hi
    have ml := zuoN_lt F v i
    obtain ⟨m, em⟩ : ∃ m, m = zuoN (zsF F v) i := ⟨_, rfl⟩
    have h' : ∀ g : Nat → Int32, Q (nI (zpc m 16)) (rI u 14 g) := by rw [em]; exact h
    rw [← em] at ml ⊢
    refine zl4 (wp_X8_unlikeEntries_41 Q) 16 (fun j x z1 z2 z3 => x = rI u 14 g ∧ z1 = nI m ∧ z2 = nI (zpc m j) ∧ z3 = nI j) ?_ 0 (Nat.zero_le _) _ _ _ _ ⟨rfl, rfl, rfl, rfl⟩
    rintro j D x z1 z2 z3 hj ⟨rfl, rfl, rfl, rfl⟩ hD
    unfold wp_X8_unlikeEntries_41
    refine ⟨fun c => ?_, fun c a ea b eb => ?_⟩
    · have hj := nI_stop (N := 16) (by decide) hj c
      subst hj
      exact h' g
    · have hlt := nI_go (N := 16) (by decide) hj c
      rw [sar_nI m j ml hlt, nI_add] at ea
      exact hD _ _ _ _ hlt ⟨rfl, rfl, ea, by rw [eb, nI_1]⟩
  · have hlt := nI_go (by omega) hi c
    refine q8_takeFlow i rfl (by omega) (fun g1 hg1 => q8_hashNow ?_)
    rw [f3] at hg1
    rw [rI_rI, rI_s, f3, k0, k1, k2, zH_hf _ _ _ (fun k hk => by rw [hg1 k hk]; exact hb i k hlt hk), hg1 0 (by omega), hg1 1 (by omega), hg1 2 (by omega), hg1 3 (by omega), hg1 4 (by omega)]
    intro a ea b eb
    refine hC _ _ _ hlt ⟨⟨g1, rfl⟩, ?_, by rw [eb, nI_1]⟩
    have hh := zhf_Q hv (u.1 3 3) (fun k => u.1 3 (73 + 15 * i + k))
    rw [← hF i hlt] at hh
    rw [ea, hh, zsF_eq, shl16p _ (zsF_lt F v i), nI_or]
    rfl
def zbs (c : Nat → Int32) (b : Int32) : Nat → Int32 × Int32
  | 0 => (b, 0)
  | i + 1 => if c i ≤ (zbs c b i).2 then zbs c b i else (nI i, c i)
theorem zbs_1 {c : Nat → Int32} (a b : Int32) (h : ¬ c 0 ≤ 0) : ∀ i, zbs c a (i + 1) = zbs c b (i + 1)
  | 0 => by
    show (if c 0 ≤ 0 then _ else (nI 0, c 0)) = (if c 0 ≤ 0 then _ else (nI 0, c 0))
    rw [if_neg h, if_neg h]
  | i + 1 => by
    show (if c (i + 1) ≤ (zbs c a (i + 1)).2 then zbs c a (i + 1) else _) = (if c (i + 1) ≤ (zbs c b (i + 1)).2 then zbs c b (i + 1) else _)
    rw [zbs_1 a b h i]
theorem zZ_0 : ∀ j : Nat, j < 8 → zZ 0 j = 0 := by decide +kernel
theorem zQ_z {Z : Nat → Int32} {x : Int32} (h : ∀ j, j < 8 → Z j = 0) : ∀ j, j ≤ 8 → zQ Z x j = 0
  | 0, _ => rfl
  | j + 1, hj => by
    show (if x.toBitVec.getLsbD (7 - j) = true then zQ Z x j ^^^ Z j else zQ Z x j) = 0
    rw [zQ_z h j (by omega), h j (by omega)]
    cases x.toBitVec.getLsbD (7 - j) <;> decide
theorem zcn1_0 (F : Nat → Int32) (n : Nat) (hn : 0 < n) : zcn1 F n 0 = 1 := by
  have hs : ∀ f, zsF F 0 f = 0 := by
    intro f
    unfold zsF
    rw [zQ_z zZ_0 8 (by omega)]
    decide
  have hu : ∀ n, zuoN (zsF F 0) (n + 1) = 1 := by
    intro n
    induction n with
    | zero =>
      show 0 ||| 2 ^ (zsF F 0 0) = 1
      rw [hs]
      decide
    | succ n ih =>
      show zuoN (zsF F 0) (n + 1) ||| 2 ^ (zsF F 0 (n + 1)) = 1
      rw [ih, hs]
      decide
  unfold zcn1
  obtain ⟨k, rfl⟩ : ∃ k, n = k + 1 := ⟨n - 1, by omega⟩
  rw [hu]
  decide
theorem q5_folded {cs : Nat → RS} {f : Nat} {Q : Int32 → (Nat → RS) → Prop} (hf : f < 24) (h : Q (zfo ((cs 1).1 0 0) (fun k => (cs 2).1 1 (k * 24 + f)) 5) cs) : wp_X5_foldedFields cs (nI f) Q := by
  unfold wp_X5_foldedFields
  refine zl4 (wp_X5_foldedFields_4 Q) 5 (fun i v y1 y2 y3 => v = cs ∧ y1 = nI f ∧ y2 = zfo ((cs 1).1 0 0) (fun k => (cs 2).1 1 (k * 24 + f)) i ∧ y3 = nI i) ?_ 0 (Nat.zero_le _) _ _ _ _ ⟨rfl, rfl, rfl, rfl⟩
  rintro i C v y1 y2 y3 hi ⟨rfl, rfl, rfl, rfl⟩ hC
  unfold wp_X5_foldedFields_4 wp_X5_foldedFields_32
  refine ⟨fun c => ?_, fun c => q2_counts i rfl (fun u1 e1 => ?_)⟩
  · have : i = 5 := by
      rcases Nat.lt_or_ge i 5 with q | q
      · exact absurd (show nI 4 < nI i from c) (nI_nlt (by omega) (by omega))
      · omega
    subst this
    exact h
  · have hlt : i < 5 := by
      rcases Nat.lt_or_ge i 5 with q | q
      · exact q
      · have : i = 5 := by omega
        subst this
        exact absurd (show nI 4 < nI 5 by decide) c
    rw [va_up_id] at e1
    subst e1
    have sl : zfo ((u1 1).1 0 0) (fun k => (u1 2).1 1 (k * 24 + f)) (i + 1) = if zmb ((u1 1).1 0 0) i = true then zfo ((u1 1).1 0 0) (fun k => (u1 2).1 1 (k * 24 + f)) i ^^^ (u1 2).1 1 (i * 24 + f) else zfo ((u1 1).1 0 0) (fun k => (u1 2).1 1 (k * 24 + f)) i := rfl
    cases hm : zmb ((u1 1).1 0 0) i with
    | false =>
      rw [hm] at sl
      exact ⟨fun _ a ea => hC _ _ _ _ hlt ⟨rfl, rfl, sl.symm, by rw [ea, nI_1]⟩, fun z => absurd rfl z⟩
    | true =>
      rw [hm] at sl
      refine ⟨fun z => absurd z (by decide), fun _ => q0_get i f rfl rfl (by omega) hf (fun u2 e2 b eb a ea => ?_)⟩
      rw [va_up_id] at e2
      subst e2
      exact hC _ _ _ _ hlt ⟨rfl, rfl, by rw [eb]; exact sl.symm, by rw [ea, nI_1]⟩
theorem zfo_eq {mask : Int32} {a b : Nat → Int32} (h : ∀ k, k < 5 → a k = b k) : ∀ i, i ≤ 5 → zfo mask a i = zfo mask b i
  | 0, _ => rfl
  | i + 1, hi => by
    show (if zmb mask i = true then zfo mask a i ^^^ a i else zfo mask a i) = (if zmb mask i = true then zfo mask b i ^^^ b i else zfo mask b i)
    rw [zfo_eq h i (by omega), h i (by omega)]
theorem p_spread {B : Nat} : pX_spread (Rel B) (Rel (B + 30000)) := by
  intro u r x1 h
  replace h := h.up 30000
  have h0 : Rel (B + 30000) u (rN r 0 0) := h
  obtain ⟨n, nr, m, hX⟩ := h.2.2.1.1.x
  have hn := hX.1
  have hK := hX.2.1
  have hF := hX.2.2.1
  have h24 : n ≤ 24 := hF.2.1
  have h4 : (rN r 0 0).1 3 4 = nI n := hF.1
  have out : (¬ ∃ k, k ≤ 1 ∧ x1 = nI k) → wp_X8_spread r x1 (fun y r1 => -1 = y ∧ Rel (B + 30000) u r1) := by
    intro hno
    unfold wp_X8_spread wp_X8_spread_24
    intro r1 f1
    subst f1
    exact ⟨fun _ => ⟨rfl, h0⟩, fun _ => q8_inr 0 1 (by decide) (by decide) (by decide) (fun k _ k2 e => absurd ⟨k, k2, e⟩ hno) (fun _ => ⟨fun z => absurd rfl z, fun _ => ⟨rfl, h0⟩⟩)⟩
  unfold wp_X7_spread wp_X7_spread_22
  rw [hn]
  refine ⟨fun c => out ?_, fun c1 => ⟨fun c => out ?_, fun c2 => ⟨fun hn0 => ?_, fun hn0 => ?_⟩⟩⟩
  · rintro ⟨k, k2, rfl⟩
    exact absurd c (nI_pos (by omega))
  · rintro ⟨k, k2, rfl⟩
    exact absurd (show nI 1 < nI k from c) (nI_nlt k2 (by omega))
  · obtain ⟨w, w1, ew⟩ := nI_3 (n := 1) c1 c2 (by decide)
    have np : 0 < n := by
      rcases Nat.eq_zero_or_pos n with z | z
      · exact absurd (by rw [z]; rfl) hn0
      · exact z
    obtain ⟨F, eF⟩ : ∃ F : Nat → Int32, F = fun f => zfo (r.1 3 3) (fun k => r.1 3 (73 + 15 * f + k)) 5 := ⟨_, rfl⟩
    have c0 : ¬ zcn1 F n 0 ≤ 0 := by rw [zcn1_0 F n np]; decide
    have fl : ∀ f k, f < n → k < 5 → (u.2.2.1 2).1 1 (k * 24 + f) = r.1 3 (73 + 15 * f + k) := by
      intro f k hf hk
      have := hF.2.2.1 f k hf (by omega)
      rcases (show k = 0 ∨ k = 1 ∨ k = 2 ∨ k = 3 ∨ k = 4 by omega) with e | e | e | e | e <;> (subst e; exact this)
    refine zl3 (wp_X7_spread_26 _) n (fun i v y1 y2 => y1 = x1 ∧ y2 = nI i ∧ ∃ g : Nat → Int32, v = tM u (rI u.1 6 g) ∧ ∀ f, f < i → g f = F f) ?_ 0 (Nat.zero_le _) _ _ _ ⟨rfl, rfl, u.1.1 6, by rw [rI_id]; rfl, fun f hf => absurd hf (by omega)⟩
    rintro i C v y1 y2 hi ⟨rfl, rfl, g, rfl, hg⟩ hC
    have hnow : ∀ g : Nat → Int32, (tM u (rI u.1 6 g)).2.2.1 = u.2.2.1 := fun _ => rfl
    unfold wp_X7_spread_26
    rw [hnow, hn]
    refine ⟨fun c => ?_, fun c => ?_⟩
    · have hi := nI_stop (by omega) hi c
      subst hi
      -- the reference, told what the class found
      have ref : ∀ (v : TS), Rel (B + 30000) v r → wp_X8_spread r y1 (fun y r1 => (if y1 = 0 then (zbs (zcn1 F i) 0 256).1 else (zbs (zcn1 F i) 0 256).2) = y ∧ Rel (B + 30000) v r1) := by
        intro v hv
        have same := zbs_1 (c := zcn1 F i) 0 (-1) c0 255
        unfold wp_X8_spread
        intro r1 f1
        subst f1
        refine ⟨fun z => absurd (h4.symm.trans z) (by rw [show (0 : Int32) = nI 0 from rfl, nI_eq (by omega) (by omega)]; omega), fun _ => q8_inr 0 1 (by decide) (by decide) (by decide) (fun _ _ _ _ => ⟨fun _ x2 e2 x3 e3 x4 e4 => ?_, fun z => absurd z (by decide)⟩) (fun ho => absurd ew (ho w (by omega) w1))⟩
        have e2' : x2 = r.1 3 0 := e2
        have e3' : x3 = r.1 3 1 := e3
        have e4' : x4 = r.1 3 2 := e4
        subst e2' e3' e4'
        refine zl8 (wp_X8_spread_57 _) 256 (fun j s z1 z2 z3 z4 z5 z6 z7 => z1 = y1 ∧ z2 = r.1 3 0 ∧ z3 = r.1 3 1 ∧ z4 = r.1 3 2 ∧ z5 = (zbs (zcn1 F i) (-1) j).1 ∧ z6 = (zbs (zcn1 F i) (-1) j).2 ∧ z7 = nI j ∧ ∃ (R1 g : Nat → Int32), s = rI (rI (rN r 0 0) 3 R1) 14 g ∧ ∀ a, 3 ≤ a → R1 a = r.1 3 a) ?_ 0 (Nat.zero_le _) _ _ _ _ _ _ _ _ ⟨rfl, rfl, rfl, rfl, rfl, rfl, rfl, r.1 3, r.1 14, ?_, fun _ _ => rfl⟩
        · rintro j D s z1 z2 z3 z4 z5 z6 z7 hj ⟨rfl, rfl, rfl, rfl, rfl, rfl, rfl, R1, g1, rfl, hR1⟩ hD
          have s3 : (rI (rI (rN r 0 0) 3 R1) 14 g1).1 3 = R1 := by rw [rI_n _ _ (by decide), rI_s]
          unfold wp_X8_spread_57 wp_X8_spread_188 wp_X8_spread_131 wp_X8_spread_147
          refine ⟨fun c => ?_, fun c x ex => ?_⟩
          · have hj := nI_stop (N := 256) (by decide) hj c
            subst hj
            intro a1 d1 a2 d2 a3 d3
            have er : upd (upd (upd R1 0 (r.1 3 0)) 1 (r.1 3 1)) 2 (r.1 3 2) = r.1 3 := by
              funext a
              by_cases q2 : a = 2
              · rw [q2, pk_us]
              · rw [pk_un q2]
                by_cases q1 : a = 1
                · rw [q1, pk_us]
                · rw [pk_un q1]
                  by_cases q0 : a = 0
                  · rw [q0, pk_us]
                  · rw [pk_un q0]; exact hR1 a (by omega)
            have ea : a3 = rI (rI (rI (rN r 0 0) 3 R1) 14 g1) 3 (r.1 3) := by
              rw [d3, d2, d1]
              simp only [rI_rI, rI_s]
              rw [s3]
              rw [er]
            have hrel : Rel (B + 30000) v a3 := by
              rw [ea]
              exact hv
            refine ⟨fun y => ⟨?_, hrel⟩, fun y => ⟨?_, hrel⟩⟩
            · rw [if_neg y, same]
            · rw [if_pos y, same]
          · have hlt := nI_go (N := 256) (by decide) hj c
            have ex' : x = zrep j := ex
            rw [ex']
            intro a1 d1 a2 d2 a3 d3
            obtain ⟨R2, eR2⟩ : ∃ R2, R2 = upd (upd (upd R1 0 (zrep j)) 1 (zrep j)) 2 (nI j) := ⟨_, rfl⟩
            have ea : a3 = rI (rI (rI (rN r 0 0) 3 R1) 14 g1) 3 R2 := by
              rw [d3, d2, d1, eR2]
              simp only [rI_rI, rI_s]
              rw [s3]
            have b3 : a3.1 3 = R2 := by rw [ea, rI_s]
            have R2o : ∀ a, 3 ≤ a → R2 a = r.1 3 a := fun a ha => by rw [eR2, pk_un (by omega), pk_un (by omega), pk_un (by omega)]; exact hR1 a ha
            have sl : zbs (zcn1 F i) (-1) (j + 1) = if zcn1 F i j ≤ (zbs (zcn1 F i) (-1) j).2 then zbs (zcn1 F i) (-1) j else (nI j, zcn1 F i j) := rfl
            refine q8_unlike (F := F) i j hlt (by rw [b3, R2o 4 (by omega)]; exact hF.1) h24 (by rw [b3, eR2, pk_un (by decide), pk_un (by decide), pk_us]) (by rw [b3, eR2, pk_un (by decide), pk_us]) (by rw [b3, eR2, pk_us]) (fun f k hf hk => by rw [b3, R2o _ (by omega)]; exact (hF.2.2.2.1 f k hf hk).1) (fun f hf => ?_) (fun g2 => ?_)
            · rw [b3, R2o 3 (by omega), eF]
              exact zfo_eq (fun k hk => (R2o _ (by omega)).symm) 5 (by omega)
            · have keep : ∃ (R1 g : Nat → Int32), rI a3 14 g2 = rI (rI (rN r 0 0) 3 R1) 14 g ∧ ∀ a, 3 ≤ a → R1 a = r.1 3 a := by
                refine ⟨R2, g2, ?_, R2o⟩
                rw [ea, rI_sw _ (show 14 ≠ 3 by decide), rI_rI, rI_rI]
              refine ⟨fun y => ⟨fun y' a ea' => ?_, fun y' => absurd y y'⟩, fun y => ⟨fun y' => absurd y' y, fun y' a ea' => ?_⟩⟩
              · exact hD _ _ _ _ _ _ _ _ hlt ⟨rfl, rfl, rfl, rfl, by rw [sl, if_pos y], by rw [sl, if_pos y], by rw [ea', nI_1], keep⟩
              · exact hD _ _ _ _ _ _ _ _ hlt ⟨rfl, rfl, rfl, rfl, by rw [sl, if_neg y], by rw [sl, if_neg y], by rw [ea', nI_1], keep⟩
        · show rN r 0 0 = rI (rI (rN r 0 0) 3 ((rN r 0 0).1 3)) 14 ((rN r 0 0).1 14)
          rw [rI_id, rI_id]
      refine zl5 (wp_X7_spread_67 _) 256 (fun j v z1 z2 z3 z4 => v = tM u (rI u.1 6 g) ∧ z1 = y1 ∧ z2 = (zbs (zcn1 F i) 0 j).1 ∧ z3 = (zbs (zcn1 F i) 0 j).2 ∧ z4 = nI j) ?_ 0 (Nat.zero_le _) _ _ _ _ _ ⟨rfl, rfl, rfl, rfl, rfl⟩
      rintro j D v z1 z2 z3 z4 hj ⟨rfl, rfl, rfl, rfl, rfl⟩ hD
      unfold wp_X7_spread_67 wp_X7_spread_110 wp_X7_spread_95
      refine ⟨fun c => ?_, fun c => ?_⟩
      · have hj := nI_stop (N := 256) (by decide) hj c
        subst hj
        have rf := ref _ (Rel_6 (g := g) h)
        refine ⟨fun y => ?_, fun y => ?_⟩
        · rw [if_neg y] at rf
          exact rf
        · rw [if_pos y] at rf
          exact rf
      · have hlt := nI_go (N := 256) (by decide) hj c
        have sl : zbs (zcn1 F i) 0 (j + 1) = if zcn1 F i j ≤ (zbs (zcn1 F i) 0 j).2 then zbs (zcn1 F i) 0 j else (nI j, zcn1 F i j) := rfl
        refine q7_unlike (F := F) i j hlt hn h24 (fun f hf => by show (rI u.1 6 g).1 6 f = F f; rw [rI_s]; exact hg f hf) ⟨fun y a ea => ?_, fun y a ea => ?_⟩
        · exact hD _ _ _ _ _ hlt ⟨rfl, rfl, by rw [sl, if_pos y], by rw [sl, if_pos y], by rw [ea, nI_1]⟩
        · exact hD _ _ _ _ _ hlt ⟨rfl, rfl, by rw [sl, if_neg y], by rw [sl, if_neg y], by rw [ea, nI_1]⟩
    · have hlt := nI_go (by omega) hi c
      refine q5_folded (by omega) (fun u1 e1 => ?_)
      rw [zn_nI (by omega)]
      refine ⟨in_nI (by omega) (by decide), fun u2 e2 a ea => hC _ _ _ hlt ⟨rfl, by rw [ea, nI_1], upd g i (F i), ?_, fun f hf => ?_⟩⟩
      · have fo : zfo ((u.2.2.1 1).1 0 0) (fun k => (u.2.2.1 2).1 1 (k * 24 + i)) 5 = F i := by
          rw [hK.2.2.1, eF]
          exact zfo_eq (fun k hk => fl i k hlt hk) 5 (by omega)
        rw [e2, e1, fo]
        show tM u (rI (rI u.1 6 g) 6 (upd ((rI u.1 6 g).1 6) i (F i))) = _
        rw [rI_rI, rI_s]
      · by_cases e : f = i
        · rw [e, pk_us]
        · rw [pk_un e]; exact hg f (by omega)
  · unfold wp_X8_spread wp_X8_spread_24
    intro r1 f1
    subst f1
    exact ⟨fun _ => ⟨rfl, h0⟩, fun z => absurd (h4.trans hn0) z⟩
