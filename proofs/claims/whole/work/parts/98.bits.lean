-- the pure side: a key of one byte
def zrep (v : Nat) : Int32 := (((nI v <<< ((24 : Int32) &&& 31)) ||| (nI v <<< ((16 : Int32) &&& 31))) ||| (nI v <<< ((8 : Int32) &&& 31))) ||| nI v
def zvv (v : Nat) : Int32 := (nI v <<< ((8 : Int32) &&& 31)) ||| nI v
theorem shl8_bv (x : Int32) : (x <<< ((8 : Int32) &&& 31)).toBitVec = x.toBitVec <<< 8 := rfl
theorem shl16_bv (x : Int32) : (x <<< ((16 : Int32) &&& 31)).toBitVec = x.toBitVec <<< 16 := rfl
theorem shl24_bv (x : Int32) : (x <<< ((24 : Int32) &&& 31)).toBitVec = x.toBitVec <<< 24 := rfl
theorem zbyb {v : Nat} (hv : v < 256) {t : Nat} (ht : 8 ≤ t) : (nI v).toBitVec.getLsbD t = false := by
  rw [nI_bv, BitVec.getLsbD_ofNat, Nat.testBit_lt_two_pow (Nat.lt_of_lt_of_le (show v < 2 ^ 8 from hv) (Nat.pow_le_pow_right (by decide) ht))]
  simp
theorem rep_bit {v t : Nat} (hv : v < 256) (ht : t < 32) : (zrep v).toBitVec.getLsbD t = (nI v).toBitVec.getLsbD (t % 8) := by
  unfold zrep
  rw [Int32.toBitVec_or, Int32.toBitVec_or, Int32.toBitVec_or, BitVec.getLsbD_or, BitVec.getLsbD_or, BitVec.getLsbD_or, shl24_bv, shl16_bv, shl8_bv, BitVec.getLsbD_shiftLeft, BitVec.getLsbD_shiftLeft, BitVec.getLsbD_shiftLeft]
  have c : t < 8 ∨ (8 ≤ t ∧ t < 16) ∨ (16 ≤ t ∧ t < 24) ∨ (24 ≤ t ∧ t < 32) := by omega
  rcases c with c | c | c | c
  · have e : t % 8 = t := by omega
    have h1 : t < 16 := by omega
    have h2 : t < 24 := by omega
    rw [e]
    simp [c, h1, h2]
  · have e : t % 8 = t - 8 := by omega
    have h1 : ¬ t < 8 := by omega
    have h2 : t < 24 := by omega
    have h3 : t < 16 := by omega
    rw [e, zbyb hv (show 8 ≤ t by omega)]
    simp [h1, h2, h3, ht]
  · have e : t % 8 = t - 16 := by omega
    have h1 : ¬ t < 8 := by omega
    have h2 : t < 24 := by omega
    have h3 : ¬ t < 16 := by omega
    rw [e, zbyb hv (show 8 ≤ t by omega), zbyb hv (show 8 ≤ t - 8 by omega)]
    simp [h1, h2, h3, ht]
  · have e : t % 8 = t - 24 := by omega
    have h1 : ¬ t < 8 := by omega
    have h2 : ¬ t < 24 := by omega
    have h3 : ¬ t < 16 := by omega
    rw [e, zbyb hv (show 8 ≤ t by omega), zbyb hv (show 8 ≤ t - 8 by omega), zbyb hv (show 8 ≤ t - 16 by omega)]
    simp [h1, h2, h3, ht]
theorem vv_bit {v t : Nat} (hv : v < 256) (ht : t < 16) : (zvv v).toBitVec.getLsbD t = (nI v).toBitVec.getLsbD (t % 8) := by
  unfold zvv
  rw [Int32.toBitVec_or, BitVec.getLsbD_or, shl8_bv, BitVec.getLsbD_shiftLeft]
  by_cases c : t < 8
  · have e : t % 8 = t := by omega
    rw [e]
    simp [c]
  · have e : t % 8 = t - 8 := by omega
    have h2 : t < 32 := by omega
    rw [e, zbyb hv (show 8 ≤ t by omega)]
    simp [c, h2]
theorem rep_k {v i : Nat} (hv : v < 256) (hi : i < 72) : kbit (zrep v) (zrep v) (nI v) i = (nI v).toBitVec.getLsbD (7 - i % 8) := by
  unfold kbit
  by_cases c : i < 32
  · rw [if_pos c, rep_bit hv (by omega), show (31 - i) % 8 = 7 - i % 8 by omega]
  · rw [if_neg c]
    by_cases d : i < 64
    · rw [if_pos d, rep_bit hv (by omega), show (63 - i) % 8 = 7 - i % 8 by omega]
    · rw [if_neg d, if_pos hi, show 71 - i = 7 - i % 8 by omega]
theorem b15 : ∀ b : Nat, b < 32 → (15 : Int32).toBitVec.getLsbD b = decide (b < 4) := by decide +kernel
def zZ (v j : Nat) : Int32 := zwin (zrep v) (zrep v) (nI v) j &&& 15
theorem zwin_rep {v i : Nat} (hv : v < 256) (hi : i < 40) : zwin (zrep v) (zrep v) (nI v) i &&& 15 = zZ v (i % 8) := by
  unfold zZ
  apply i32_ext
  intro b hb
  rw [Int32.toBitVec_and, Int32.toBitVec_and, BitVec.getLsbD_and, BitVec.getLsbD_and, b15 b hb]
  by_cases c : b < 4
  · rw [zwin_bit _ _ _ i b (by omega) hb, zwin_bit _ _ _ (i % 8) b (by omega) hb, rep_k hv (by omega), rep_k hv (by omega), show (i + (31 - b)) % 8 = (i % 8 + (31 - b)) % 8 by omega]
  · simp [c]
theorem zvv_Z {v j : Nat} (hv : v < 256) (hj : j < 8) : (zvv v >>> ((8 - nI j) &&& 31)) &&& 15 = zZ v j := by
  unfold zZ
  rw [nI_lsubl (by omega)]
  apply i32_ext
  intro b hb
  rw [Int32.toBitVec_and, Int32.toBitVec_and, BitVec.getLsbD_and, BitVec.getLsbD_and, b15 b hb]
  by_cases c : b < 4
  · have e8 : (OfNat.ofNat 8 : Nat) = 8 := rfl
    rw [zwin_bit _ _ _ j b (by omega) hb, rep_k hv (by omega), e8, sar_bv _ (8 - j) (by omega), BitVec.getLsbD_sshiftRight]
    have h1 : 8 - j + b < 32 := by omega
    have h2 : ¬ 32 ≤ b := by omega
    rw [show 7 - (j + (31 - b)) % 8 = (8 - j + b) % 8 by omega, ← vv_bit hv (show 8 - j + b < 16 by omega)]
    simp [h1, h2]
  · simp [c]
/-- bit 7 - j of x -/
theorem cb_bit (x : Int32) (j : Nat) (hj : j < 8) : ((x <<< (nI j &&& 31)) &&& 128 = 0) ↔ x.toBitVec.getLsbD (7 - j) = false := by
  have sh : ∀ j : Nat, j < 8 → (x <<< (nI j &&& 31)).toBitVec = x.toBitVec <<< j := by
    intro j hj
    rcases (show j = 0 ∨ j = 1 ∨ j = 2 ∨ j = 3 ∨ j = 4 ∨ j = 5 ∨ j = 6 ∨ j = 7 by omega) with e | e | e | e | e | e | e | e <;> (subst e; rfl)
  have b128 : ∀ b : Nat, b < 32 → (128 : Int32).toBitVec.getLsbD b = decide (b = 7) := by decide +kernel
  have bit : ∀ b, b < 32 → ((x <<< (nI j &&& 31)) &&& 128).toBitVec.getLsbD b = (decide (b = 7) && x.toBitVec.getLsbD (7 - j)) := by
    intro b hb
    rw [Int32.toBitVec_and, BitVec.getLsbD_and, b128 b hb, sh j hj, BitVec.getLsbD_shiftLeft]
    by_cases e : b = 7
    · subst e
      have h1 : ¬ 7 < j := by omega
      simp [h1]
    · simp [e]
  constructor
  · intro h
    have := bit 7 (by decide)
    rw [h] at this
    have z : (0 : Int32).toBitVec.getLsbD 7 = false := rfl
    rw [z] at this
    simpa using this.symm
  · intro h
    apply i32_ext
    intro b hb
    rw [bit b hb, h, Bool.and_false]
    show _ = (0#32).getLsbD b
    simp
def zQ (Z : Nat → Int32) (x : Int32) : Nat → Int32
  | 0 => 0
  | j + 1 => if x.toBitVec.getLsbD (7 - j) = true then zQ Z x j ^^^ Z j else zQ Z x j
theorem zQ_0 (Z : Nat → Int32) : ∀ j, zQ Z 0 j = 0
  | 0 => rfl
  | j + 1 => by
    show (if (0 : Int32).toBitVec.getLsbD (7 - j) = true then zQ Z 0 j ^^^ Z j else zQ Z 0 j) = 0
    have z : (0 : Int32).toBitVec.getLsbD (7 - j) = false := by
      show (0#32).getLsbD (7 - j) = false
      simp
    rw [z, zQ_0 Z j]
    rfl
theorem xor_and (a b c : Int32) : (a ^^^ b) &&& c = (a &&& c) ^^^ (b &&& c) := by
  apply i32_ext
  intro j _
  simp only [Int32.toBitVec_xor, Int32.toBitVec_and, BitVec.getLsbD_xor, BitVec.getLsbD_and]
  cases a.toBitVec.getLsbD j <;> cases b.toBitVec.getLsbD j <;> cases c.toBitVec.getLsbD j <;> rfl
theorem xor4 (a b c d : Int32) : (a ^^^ b) ^^^ (c ^^^ d) = (a ^^^ c) ^^^ (b ^^^ d) := by
  apply i32_ext
  intro j _
  simp only [Int32.toBitVec_xor, BitVec.getLsbD_xor]
  cases a.toBitVec.getLsbD j <;> cases b.toBitVec.getLsbD j <;> cases c.toBitVec.getLsbD j <;> cases d.toBitVec.getLsbD j <;> rfl
theorem xor3 (a b c : Int32) : (a ^^^ b) ^^^ c = (a ^^^ c) ^^^ b := by
  apply i32_ext
  intro j _
  simp only [Int32.toBitVec_xor, BitVec.getLsbD_xor]
  cases a.toBitVec.getLsbD j <;> cases b.toBitVec.getLsbD j <;> cases c.toBitVec.getLsbD j <;> rfl
theorem zQ_xor (Z : Nat → Int32) (x y : Int32) : ∀ j, zQ Z (x ^^^ y) j = zQ Z x j ^^^ zQ Z y j
  | 0 => by
    show (0 : Int32) = 0 ^^^ 0
    decide
  | j + 1 => by
    show (if (x ^^^ y).toBitVec.getLsbD (7 - j) = true then zQ Z (x ^^^ y) j ^^^ Z j else zQ Z (x ^^^ y) j) = (if x.toBitVec.getLsbD (7 - j) = true then zQ Z x j ^^^ Z j else zQ Z x j) ^^^ (if y.toBitVec.getLsbD (7 - j) = true then zQ Z y j ^^^ Z j else zQ Z y j)
    rw [zQ_xor Z x y j, Int32.toBitVec_xor, BitVec.getLsbD_xor]
    cases x.toBitVec.getLsbD (7 - j) <;> cases y.toBitVec.getLsbD (7 - j)
    · rfl
    · show (zQ Z x j ^^^ zQ Z y j) ^^^ Z j = zQ Z x j ^^^ (zQ Z y j ^^^ Z j)
      rw [Int32.xor_assoc]
    · show (zQ Z x j ^^^ zQ Z y j) ^^^ Z j = (zQ Z x j ^^^ Z j) ^^^ zQ Z y j
      rw [xor3]
    · show zQ Z x j ^^^ zQ Z y j = (zQ Z x j ^^^ Z j) ^^^ (zQ Z y j ^^^ Z j)
      rw [xor4, Int32.xor_self, Int32.xor_zero]
theorem zP_Q {w : Nat → Int32} {Z : Nat → Int32} {k : Nat} (x : Int32) (h : ∀ j, j < 8 → w (8 * k + j) &&& 15 = Z j) : ∀ j, j ≤ 8 → zP w x k j &&& 15 = zQ Z x j
  | 0, _ => by
    show (0 : Int32) &&& 15 = 0
    decide
  | j + 1, hj => by
    show (if (x <<< (nI j &&& 31)) &&& 128 = 0 then zP w x k j else zP w x k j ^^^ w (8 * k + j)) &&& 15 = (if x.toBitVec.getLsbD (7 - j) = true then zQ Z x j ^^^ Z j else zQ Z x j)
    have ih := zP_Q x h j (by omega)
    have cb := cb_bit x j (by omega)
    cases hb : x.toBitVec.getLsbD (7 - j) with
    | false => rw [if_pos (cb.mpr hb), ih]; rfl
    | true =>
      have : ¬ ((x <<< (nI j &&& 31)) &&& 128 = 0) := fun z => by rw [cb.mp z] at hb; cases hb
      rw [if_neg this, xor_and, ih, h j (by omega)]
      rfl
def zfo (mask : Int32) (a : Nat → Int32) : Nat → Int32
  | 0 => 0
  | k + 1 => if zmb mask k = true then zfo mask a k ^^^ a k else zfo mask a k
theorem zhf_Q {v : Nat} (hv : v < 256) (mask : Int32) (a : Nat → Int32) : zhf (zwin (zrep v) (zrep v) (nI v)) mask (a 0) (a 1) (a 2) (a 3) (a 4) &&& 15 = zQ (zZ v) (zfo mask a 5) 8 := by
  have hp : ∀ k, k < 5 → zpart (zwin (zrep v) (zrep v) (nI v)) mask (a k) k &&& 15 = if zmb mask k = true then zQ (zZ v) (a k) 8 else 0 := by
    intro k hk
    unfold zpart
    cases zmb mask k with
    | false =>
      show (0 : Int32) &&& 15 = 0
      decide
    | true =>
      have := zP_Q (w := zwin (zrep v) (zrep v) (nI v)) (Z := zZ v) (k := k) (a k) (fun j hj => by rw [zwin_rep hv (by omega), show (8 * k + j) % 8 = j by omega]) 8 (by omega)
      exact this
  have hs : ∀ k, zQ (zZ v) (zfo mask a (k + 1)) 8 = zQ (zZ v) (zfo mask a k) 8 ^^^ (if zmb mask k = true then zQ (zZ v) (a k) 8 else 0) := by
    intro k
    show zQ (zZ v) (if zmb mask k = true then zfo mask a k ^^^ a k else zfo mask a k) 8 = _
    cases zmb mask k with
    | false => exact Int32.xor_zero.symm
    | true => exact zQ_xor _ _ _ _
  unfold zhf
  rw [xor_and, xor_and, xor_and, xor_and, hp 0 (by omega), hp 1 (by omega), hp 2 (by omega), hp 3 (by omega), hp 4 (by omega), hs 4, hs 3, hs 2, hs 1, hs 0]
  have e0 : zQ (zZ v) (zfo mask a 0) 8 = 0 := zQ_0 _ 8
  rw [e0, Int32.zero_xor]
theorem q7_byRepeated {v : Nat} {F : Int32} {Q : Int32 → Prop} (hv : v < 256) (h : Q (zQ (zZ v) F 8)) : wp_X7_entryByRepeated (nI v) F Q := by
  unfold wp_X7_entryByRepeated
  intro x ex
  have ex' : x = zvv v := ex
  rw [ex']
  refine zl4 (wp_X7_entryByRepeated_12 Q) 8 (fun j y1 y2 y3 y4 => y1 = F ∧ y2 = zvv v ∧ y3 &&& 15 = zQ (zZ v) F j ∧ y4 = nI j) ?_ 0 (Nat.zero_le _) _ _ _ _ ⟨rfl, rfl, rfl, rfl⟩
  rintro j C y1 y2 y3 y4 hj ⟨rfl, rfl, hy, rfl⟩ hC
  unfold wp_X7_entryByRepeated_12 wp_X7_entryByRepeated_40 wp_X7_entryOfHash
  refine ⟨fun c => ?_, fun c => ?_⟩
  · have hj := nI_stop (N := 8) (by decide) hj c
    subst hj
    rw [hy]
    exact h
  · have hlt := nI_go (N := 8) (by decide) hj c
    have cb := cb_bit y1 j hlt
    have sl : zQ (zZ v) y1 (j + 1) = if y1.toBitVec.getLsbD (7 - j) = true then zQ (zZ v) y1 j ^^^ zZ v j else zQ (zZ v) y1 j := rfl
    refine ⟨fun c1 a ea => hC _ _ _ _ hlt ⟨rfl, rfl, ?_, by rw [ea, nI_1]⟩, fun c1 b eb a ea => hC _ _ _ _ hlt ⟨rfl, rfl, ?_, by rw [ea, nI_1]⟩⟩
    · rw [sl, cb.mp c1]
      exact hy
    · have : y1.toBitVec.getLsbD (7 - j) = true := by
        cases hb : y1.toBitVec.getLsbD (7 - j) with
        | false => exact absurd (cb.mpr hb) c1
        | true => rfl
      rw [sl, if_pos this, eb, xor_and, hy, zvv_Z hv hlt]
