-- the pure side: numbers, loops
theorem nI_addl (a n : Nat) : nI a + (OfNat.ofNat n : Int32) = nI (a + OfNat.ofNat n) := nI_add a n
theorem nI_ladd (a n : Nat) : (OfNat.ofNat n : Int32) + nI a = nI (OfNat.ofNat n + a) := nI_add n a
theorem nI_mul (a b : Nat) : nI a * nI b = nI (a * b) := (Int32.ofNat_mul a b).symm
theorem nI_mull (a n : Nat) : nI a * (OfNat.ofNat n : Int32) = nI (a * OfNat.ofNat n) := nI_mul a n
theorem nI_lmul (a n : Nat) : (OfNat.ofNat n : Int32) * nI a = nI (OfNat.ofNat n * a) := nI_mul n a
theorem nI_sub {a b : Nat} (h : b ≤ a) : nI a - nI b = nI (a - b) := by
  have e : nI a = nI (a - b) + nI b := by rw [nI_add]; congr 1; omega
  rw [e]
  exact Int32.add_sub_cancel _ _
theorem nI_subl {a n : Nat} (h : OfNat.ofNat n ≤ a) : nI a - (OfNat.ofNat n : Int32) = nI (a - OfNat.ofNat n) := nI_sub h
theorem zn_nI {n : Nat} (h : n < 2147483648) : zn (nI n) = n := nI_clamp h
theorem in_nI {n N : Nat} (h : n < N) (hN : N < 2147483648) : vp_in (nI n) N := vp_in_nI h hN
theorem rI_s (u : RS) (k : Nat) (f : Nat → Int32) : (rI u k f).1 k = f := va_up_self _ _ _
theorem rI_n (u : RS) {k j : Nat} (f : Nat → Int32) (h : j ≠ k) : (rI u k f).1 j = u.1 j := va_up_ne _ _ h
theorem rN_s (u : RS) (k i : Nat) (x : Int32) : (rN u k x).1 k i = x := by show va_up u.1 k (fun _ => x) k i = x; rw [va_up_self]
theorem rN_n (u : RS) {k j : Nat} (x : Int32) (h : j ≠ k) : (rN u k x).1 j = u.1 j := va_up_ne _ _ h
theorem rI_2 (u : RS) (k : Nat) (f : Nat → Int32) : (rI u k f).2 = u.2 := rfl
theorem rN_2 (u : RS) (k : Nat) (x : Int32) : (rN u k x).2 = u.2 := rfl
theorem rL_1 (u : RS) (k : Nat) (f : Nat → Int64) : (rL u k f).1 = u.1 := rfl
theorem rL_s (u : RS) (k : Nat) (f : Nat → Int64) : (rL u k f).2 k = f := va_up_self _ _ _
theorem rL_n (u : RS) {k j : Nat} (f : Nat → Int64) (h : j ≠ k) : (rL u k f).2 j = u.2 j := va_up_ne _ _ h
theorem vu_s {α : Type} (f : Nat → α) (k : Nat) (x : α) : va_up f k x k = x := va_up_self _ _ _
theorem vu_n {α : Type} (f : Nat → α) {k j : Nat} (x : α) (h : j ≠ k) : va_up f k x j = f j := va_up_ne _ _ h
/-- the sum of the first n -/
def zsum (g : Nat → Int32) : Nat → Int32
  | 0 => 0
  | n + 1 => zsum g n + g n
theorem zsum_eq {g h : Nat → Int32} : ∀ {n : Nat}, (∀ i, i < n → g i = h i) → zsum g n = zsum h n
  | 0, _ => rfl
  | n + 1, e => by
    show zsum g n + g n = zsum h n + h n
    rw [zsum_eq (fun i hi => e i (by omega)), e n (by omega)]
theorem zsum_put {g h : Nat → Int32} {k : Nat} {d : Int32} (hk : h k = g k + d) (e : ∀ i, i ≠ k → h i = g i) : ∀ {n : Nat}, k < n → zsum h n = zsum g n + d
  | 0, q => absurd q (Nat.not_lt_zero k)
  | n + 1, q => by
    show zsum h n + h n = zsum g n + g n + d
    by_cases en : k = n
    · subst en
      rw [hk, zsum_eq (fun i hi => e i (by omega)), Int32.add_assoc]
    · rw [zsum_put hk e (by omega : k < n), e n (fun z => en z.symm), Int32.add_assoc, Int32.add_assoc, Int32.add_comm d]
/-- how many of the first n -/
def zct (p : Nat → Bool) : Nat → Nat
  | 0 => 0
  | n + 1 => zct p n + if p n then 1 else 0
theorem zct_le (p : Nat → Bool) : ∀ n, zct p n ≤ n
  | 0 => Nat.le_refl 0
  | n + 1 => by
    have := zct_le p n
    show zct p n + (if p n then 1 else 0) ≤ n + 1
    split <;> omega
theorem zct_eq {p q : Nat → Bool} : ∀ {n : Nat}, (∀ i, i < n → p i = q i) → zct p n = zct q n
  | 0, _ => rfl
  | n + 1, e => by
    show zct p n + (if p n then 1 else 0) = zct q n + (if q n then 1 else 0)
    rw [zct_eq (fun i hi => e i (by omega)), e n (by omega)]
theorem zl1 {A1 : Type} (F : (A1 → Prop) → A1 → Prop) (N : Nat) (P : Nat → A1 → Prop) (hs : ∀ (i : Nat) (B : A1 → Prop) (a1 : A1), i ≤ N → P i a1 → (∀ (b1 : A1), i < N → P (i + 1) b1 → B b1) → F B a1) (i : Nat) (hi : i ≤ N) (a1 : A1) (h : P i a1) : ∃ n, zit1 F n a1 := by
  have key : ∀ (d i : Nat), i + d = N → ∀ (a1 : A1), P i a1 → zit1 F (d + 1) a1 := by
    intro d
    induction d with
    | zero => intro i e a1 h; exact hs i _ a1 (by omega) h (fun b1 hlt _ => absurd hlt (by omega))
    | succ d ih => intro i e a1 h; exact hs i _ a1 (by omega) h (fun b1 _ hb => ih (i + 1) (by omega) b1 hb)
  exact ⟨N - i + 1, key (N - i) i (by omega) a1 h⟩
theorem zl2 {A1 A2 : Type} (F : (A1 → A2 → Prop) → A1 → A2 → Prop) (N : Nat) (P : Nat → A1 → A2 → Prop) (hs : ∀ (i : Nat) (B : A1 → A2 → Prop) (a1 : A1) (a2 : A2), i ≤ N → P i a1 a2 → (∀ (b1 : A1) (b2 : A2), i < N → P (i + 1) b1 b2 → B b1 b2) → F B a1 a2) (i : Nat) (hi : i ≤ N) (a1 : A1) (a2 : A2) (h : P i a1 a2) : ∃ n, zit2 F n a1 a2 := by
  have key : ∀ (d i : Nat), i + d = N → ∀ (a1 : A1) (a2 : A2), P i a1 a2 → zit2 F (d + 1) a1 a2 := by
    intro d
    induction d with
    | zero => intro i e a1 a2 h; exact hs i _ a1 a2 (by omega) h (fun b1 b2 hlt _ => absurd hlt (by omega))
    | succ d ih => intro i e a1 a2 h; exact hs i _ a1 a2 (by omega) h (fun b1 b2 _ hb => ih (i + 1) (by omega) b1 b2 hb)
  exact ⟨N - i + 1, key (N - i) i (by omega) a1 a2 h⟩
theorem zl3 {A1 A2 A3 : Type} (F : (A1 → A2 → A3 → Prop) → A1 → A2 → A3 → Prop) (N : Nat) (P : Nat → A1 → A2 → A3 → Prop) (hs : ∀ (i : Nat) (B : A1 → A2 → A3 → Prop) (a1 : A1) (a2 : A2) (a3 : A3), i ≤ N → P i a1 a2 a3 → (∀ (b1 : A1) (b2 : A2) (b3 : A3), i < N → P (i + 1) b1 b2 b3 → B b1 b2 b3) → F B a1 a2 a3) (i : Nat) (hi : i ≤ N) (a1 : A1) (a2 : A2) (a3 : A3) (h : P i a1 a2 a3) : ∃ n, zit3 F n a1 a2 a3 := by
  have key : ∀ (d i : Nat), i + d = N → ∀ (a1 : A1) (a2 : A2) (a3 : A3), P i a1 a2 a3 → zit3 F (d + 1) a1 a2 a3 := by
    intro d
    induction d with
    | zero => intro i e a1 a2 a3 h; exact hs i _ a1 a2 a3 (by omega) h (fun b1 b2 b3 hlt _ => absurd hlt (by omega))
    | succ d ih => intro i e a1 a2 a3 h; exact hs i _ a1 a2 a3 (by omega) h (fun b1 b2 b3 _ hb => ih (i + 1) (by omega) b1 b2 b3 hb)
  exact ⟨N - i + 1, key (N - i) i (by omega) a1 a2 a3 h⟩
theorem zl4 {A1 A2 A3 A4 : Type} (F : (A1 → A2 → A3 → A4 → Prop) → A1 → A2 → A3 → A4 → Prop) (N : Nat) (P : Nat → A1 → A2 → A3 → A4 → Prop) (hs : ∀ (i : Nat) (B : A1 → A2 → A3 → A4 → Prop) (a1 : A1) (a2 : A2) (a3 : A3) (a4 : A4), i ≤ N → P i a1 a2 a3 a4 → (∀ (b1 : A1) (b2 : A2) (b3 : A3) (b4 : A4), i < N → P (i + 1) b1 b2 b3 b4 → B b1 b2 b3 b4) → F B a1 a2 a3 a4) (i : Nat) (hi : i ≤ N) (a1 : A1) (a2 : A2) (a3 : A3) (a4 : A4) (h : P i a1 a2 a3 a4) : ∃ n, zit4 F n a1 a2 a3 a4 := by
  have key : ∀ (d i : Nat), i + d = N → ∀ (a1 : A1) (a2 : A2) (a3 : A3) (a4 : A4), P i a1 a2 a3 a4 → zit4 F (d + 1) a1 a2 a3 a4 := by
    intro d
    induction d with
    | zero => intro i e a1 a2 a3 a4 h; exact hs i _ a1 a2 a3 a4 (by omega) h (fun b1 b2 b3 b4 hlt _ => absurd hlt (by omega))
    | succ d ih => intro i e a1 a2 a3 a4 h; exact hs i _ a1 a2 a3 a4 (by omega) h (fun b1 b2 b3 b4 _ hb => ih (i + 1) (by omega) b1 b2 b3 b4 hb)
  exact ⟨N - i + 1, key (N - i) i (by omega) a1 a2 a3 a4 h⟩
theorem zl5 {A1 A2 A3 A4 A5 : Type} (F : (A1 → A2 → A3 → A4 → A5 → Prop) → A1 → A2 → A3 → A4 → A5 → Prop) (N : Nat) (P : Nat → A1 → A2 → A3 → A4 → A5 → Prop) (hs : ∀ (i : Nat) (B : A1 → A2 → A3 → A4 → A5 → Prop) (a1 : A1) (a2 : A2) (a3 : A3) (a4 : A4) (a5 : A5), i ≤ N → P i a1 a2 a3 a4 a5 → (∀ (b1 : A1) (b2 : A2) (b3 : A3) (b4 : A4) (b5 : A5), i < N → P (i + 1) b1 b2 b3 b4 b5 → B b1 b2 b3 b4 b5) → F B a1 a2 a3 a4 a5) (i : Nat) (hi : i ≤ N) (a1 : A1) (a2 : A2) (a3 : A3) (a4 : A4) (a5 : A5) (h : P i a1 a2 a3 a4 a5) : ∃ n, zit5 F n a1 a2 a3 a4 a5 := by
  have key : ∀ (d i : Nat), i + d = N → ∀ (a1 : A1) (a2 : A2) (a3 : A3) (a4 : A4) (a5 : A5), P i a1 a2 a3 a4 a5 → zit5 F (d + 1) a1 a2 a3 a4 a5 := by
    intro d
    induction d with
    | zero => intro i e a1 a2 a3 a4 a5 h; exact hs i _ a1 a2 a3 a4 a5 (by omega) h (fun b1 b2 b3 b4 b5 hlt _ => absurd hlt (by omega))
    | succ d ih => intro i e a1 a2 a3 a4 a5 h; exact hs i _ a1 a2 a3 a4 a5 (by omega) h (fun b1 b2 b3 b4 b5 _ hb => ih (i + 1) (by omega) b1 b2 b3 b4 b5 hb)
  exact ⟨N - i + 1, key (N - i) i (by omega) a1 a2 a3 a4 a5 h⟩
theorem zl6 {A1 A2 A3 A4 A5 A6 : Type} (F : (A1 → A2 → A3 → A4 → A5 → A6 → Prop) → A1 → A2 → A3 → A4 → A5 → A6 → Prop) (N : Nat) (P : Nat → A1 → A2 → A3 → A4 → A5 → A6 → Prop) (hs : ∀ (i : Nat) (B : A1 → A2 → A3 → A4 → A5 → A6 → Prop) (a1 : A1) (a2 : A2) (a3 : A3) (a4 : A4) (a5 : A5) (a6 : A6), i ≤ N → P i a1 a2 a3 a4 a5 a6 → (∀ (b1 : A1) (b2 : A2) (b3 : A3) (b4 : A4) (b5 : A5) (b6 : A6), i < N → P (i + 1) b1 b2 b3 b4 b5 b6 → B b1 b2 b3 b4 b5 b6) → F B a1 a2 a3 a4 a5 a6) (i : Nat) (hi : i ≤ N) (a1 : A1) (a2 : A2) (a3 : A3) (a4 : A4) (a5 : A5) (a6 : A6) (h : P i a1 a2 a3 a4 a5 a6) : ∃ n, zit6 F n a1 a2 a3 a4 a5 a6 := by
  have key : ∀ (d i : Nat), i + d = N → ∀ (a1 : A1) (a2 : A2) (a3 : A3) (a4 : A4) (a5 : A5) (a6 : A6), P i a1 a2 a3 a4 a5 a6 → zit6 F (d + 1) a1 a2 a3 a4 a5 a6 := by
    intro d
    induction d with
    | zero => intro i e a1 a2 a3 a4 a5 a6 h; exact hs i _ a1 a2 a3 a4 a5 a6 (by omega) h (fun b1 b2 b3 b4 b5 b6 hlt _ => absurd hlt (by omega))
    | succ d ih => intro i e a1 a2 a3 a4 a5 a6 h; exact hs i _ a1 a2 a3 a4 a5 a6 (by omega) h (fun b1 b2 b3 b4 b5 b6 _ hb => ih (i + 1) (by omega) b1 b2 b3 b4 b5 b6 hb)
  exact ⟨N - i + 1, key (N - i) i (by omega) a1 a2 a3 a4 a5 a6 h⟩
theorem zl7 {A1 A2 A3 A4 A5 A6 A7 : Type} (F : (A1 → A2 → A3 → A4 → A5 → A6 → A7 → Prop) → A1 → A2 → A3 → A4 → A5 → A6 → A7 → Prop) (N : Nat) (P : Nat → A1 → A2 → A3 → A4 → A5 → A6 → A7 → Prop) (hs : ∀ (i : Nat) (B : A1 → A2 → A3 → A4 → A5 → A6 → A7 → Prop) (a1 : A1) (a2 : A2) (a3 : A3) (a4 : A4) (a5 : A5) (a6 : A6) (a7 : A7), i ≤ N → P i a1 a2 a3 a4 a5 a6 a7 → (∀ (b1 : A1) (b2 : A2) (b3 : A3) (b4 : A4) (b5 : A5) (b6 : A6) (b7 : A7), i < N → P (i + 1) b1 b2 b3 b4 b5 b6 b7 → B b1 b2 b3 b4 b5 b6 b7) → F B a1 a2 a3 a4 a5 a6 a7) (i : Nat) (hi : i ≤ N) (a1 : A1) (a2 : A2) (a3 : A3) (a4 : A4) (a5 : A5) (a6 : A6) (a7 : A7) (h : P i a1 a2 a3 a4 a5 a6 a7) : ∃ n, zit7 F n a1 a2 a3 a4 a5 a6 a7 := by
  have key : ∀ (d i : Nat), i + d = N → ∀ (a1 : A1) (a2 : A2) (a3 : A3) (a4 : A4) (a5 : A5) (a6 : A6) (a7 : A7), P i a1 a2 a3 a4 a5 a6 a7 → zit7 F (d + 1) a1 a2 a3 a4 a5 a6 a7 := by
    intro d
    induction d with
    | zero => intro i e a1 a2 a3 a4 a5 a6 a7 h; exact hs i _ a1 a2 a3 a4 a5 a6 a7 (by omega) h (fun b1 b2 b3 b4 b5 b6 b7 hlt _ => absurd hlt (by omega))
    | succ d ih => intro i e a1 a2 a3 a4 a5 a6 a7 h; exact hs i _ a1 a2 a3 a4 a5 a6 a7 (by omega) h (fun b1 b2 b3 b4 b5 b6 b7 _ hb => ih (i + 1) (by omega) b1 b2 b3 b4 b5 b6 b7 hb)
  exact ⟨N - i + 1, key (N - i) i (by omega) a1 a2 a3 a4 a5 a6 a7 h⟩
theorem zl8 {A1 A2 A3 A4 A5 A6 A7 A8 : Type} (F : (A1 → A2 → A3 → A4 → A5 → A6 → A7 → A8 → Prop) → A1 → A2 → A3 → A4 → A5 → A6 → A7 → A8 → Prop) (N : Nat) (P : Nat → A1 → A2 → A3 → A4 → A5 → A6 → A7 → A8 → Prop) (hs : ∀ (i : Nat) (B : A1 → A2 → A3 → A4 → A5 → A6 → A7 → A8 → Prop) (a1 : A1) (a2 : A2) (a3 : A3) (a4 : A4) (a5 : A5) (a6 : A6) (a7 : A7) (a8 : A8), i ≤ N → P i a1 a2 a3 a4 a5 a6 a7 a8 → (∀ (b1 : A1) (b2 : A2) (b3 : A3) (b4 : A4) (b5 : A5) (b6 : A6) (b7 : A7) (b8 : A8), i < N → P (i + 1) b1 b2 b3 b4 b5 b6 b7 b8 → B b1 b2 b3 b4 b5 b6 b7 b8) → F B a1 a2 a3 a4 a5 a6 a7 a8) (i : Nat) (hi : i ≤ N) (a1 : A1) (a2 : A2) (a3 : A3) (a4 : A4) (a5 : A5) (a6 : A6) (a7 : A7) (a8 : A8) (h : P i a1 a2 a3 a4 a5 a6 a7 a8) : ∃ n, zit8 F n a1 a2 a3 a4 a5 a6 a7 a8 := by
  have key : ∀ (d i : Nat), i + d = N → ∀ (a1 : A1) (a2 : A2) (a3 : A3) (a4 : A4) (a5 : A5) (a6 : A6) (a7 : A7) (a8 : A8), P i a1 a2 a3 a4 a5 a6 a7 a8 → zit8 F (d + 1) a1 a2 a3 a4 a5 a6 a7 a8 := by
    intro d
    induction d with
    | zero => intro i e a1 a2 a3 a4 a5 a6 a7 a8 h; exact hs i _ a1 a2 a3 a4 a5 a6 a7 a8 (by omega) h (fun b1 b2 b3 b4 b5 b6 b7 b8 hlt _ => absurd hlt (by omega))
    | succ d ih => intro i e a1 a2 a3 a4 a5 a6 a7 a8 h; exact hs i _ a1 a2 a3 a4 a5 a6 a7 a8 (by omega) h (fun b1 b2 b3 b4 b5 b6 b7 b8 _ hb => ih (i + 1) (by omega) b1 b2 b3 b4 b5 b6 b7 b8 hb)
  exact ⟨N - i + 1, key (N - i) i (by omega) a1 a2 a3 a4 a5 a6 a7 a8 h⟩
theorem zl9 {A1 A2 A3 A4 A5 A6 A7 A8 A9 : Type} (F : (A1 → A2 → A3 → A4 → A5 → A6 → A7 → A8 → A9 → Prop) → A1 → A2 → A3 → A4 → A5 → A6 → A7 → A8 → A9 → Prop) (N : Nat) (P : Nat → A1 → A2 → A3 → A4 → A5 → A6 → A7 → A8 → A9 → Prop) (hs : ∀ (i : Nat) (B : A1 → A2 → A3 → A4 → A5 → A6 → A7 → A8 → A9 → Prop) (a1 : A1) (a2 : A2) (a3 : A3) (a4 : A4) (a5 : A5) (a6 : A6) (a7 : A7) (a8 : A8) (a9 : A9), i ≤ N → P i a1 a2 a3 a4 a5 a6 a7 a8 a9 → (∀ (b1 : A1) (b2 : A2) (b3 : A3) (b4 : A4) (b5 : A5) (b6 : A6) (b7 : A7) (b8 : A8) (b9 : A9), i < N → P (i + 1) b1 b2 b3 b4 b5 b6 b7 b8 b9 → B b1 b2 b3 b4 b5 b6 b7 b8 b9) → F B a1 a2 a3 a4 a5 a6 a7 a8 a9) (i : Nat) (hi : i ≤ N) (a1 : A1) (a2 : A2) (a3 : A3) (a4 : A4) (a5 : A5) (a6 : A6) (a7 : A7) (a8 : A8) (a9 : A9) (h : P i a1 a2 a3 a4 a5 a6 a7 a8 a9) : ∃ n, zit9 F n a1 a2 a3 a4 a5 a6 a7 a8 a9 := by
  have key : ∀ (d i : Nat), i + d = N → ∀ (a1 : A1) (a2 : A2) (a3 : A3) (a4 : A4) (a5 : A5) (a6 : A6) (a7 : A7) (a8 : A8) (a9 : A9), P i a1 a2 a3 a4 a5 a6 a7 a8 a9 → zit9 F (d + 1) a1 a2 a3 a4 a5 a6 a7 a8 a9 := by
    intro d
    induction d with
    | zero => intro i e a1 a2 a3 a4 a5 a6 a7 a8 a9 h; exact hs i _ a1 a2 a3 a4 a5 a6 a7 a8 a9 (by omega) h (fun b1 b2 b3 b4 b5 b6 b7 b8 b9 hlt _ => absurd hlt (by omega))
    | succ d ih => intro i e a1 a2 a3 a4 a5 a6 a7 a8 a9 h; exact hs i _ a1 a2 a3 a4 a5 a6 a7 a8 a9 (by omega) h (fun b1 b2 b3 b4 b5 b6 b7 b8 b9 _ hb => ih (i + 1) (by omega) b1 b2 b3 b4 b5 b6 b7 b8 b9 hb)
  exact ⟨N - i + 1, key (N - i) i (by omega) a1 a2 a3 a4 a5 a6 a7 a8 a9 h⟩
