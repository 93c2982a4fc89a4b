-- the pure side: a packet comes
def zsN (R : Nat → Int32) (f : Nat) (x : Int32) : Nat → Int32 := upd R (73 + 15 * f + 5) (R (73 + 15 * f + 5) + x)
def zsC (R : Nat → Int32) (f k a : Nat) : Nat → Int32 := upd (upd R (73 + 15 * f + k) (R (73 + 15 * f + k) + 1)) a (R a + 1)
def zsH (R : Nat → Int32) (e : Nat) : Nat → Int32 := upd R (39 + e) (R (39 + e) + 1)
def zsU (R : Nat → Int32) (ru : Option Nat) : Nat → Int32 := match ru with | none => R | some r => upd R (55 + 3 * r + 2) (R 6)
def zsS (R : Nat → Int32) (f : Nat) (st : Bool) : Nat → Int32 := if st then zsC R f 8 9 else R
def zpre (R : Nat → Int32) (f : Nat) (x : Int32) (e : Nat) (ru : Option Nat) (st : Bool) : Nat → Int32 := zsS (zsU (zsH (zsC (zsN R f x) f 6 7) e) ru) f st
theorem zsC_o {R : Nat → Int32} {f k a j : Nat} (h1 : j ≠ 73 + 15 * f + k) (h2 : j ≠ a) : zsC R f k a j = R j := by
  unfold zsC
  rw [pk_un h2, pk_un h1]
theorem zsU_o {R : Nat → Int32} {ru : Option Nat} {j : Nat} (h : ∀ r, ru = some r → j ≠ 55 + 3 * r + 2) : zsU R ru j = R j := by
  cases ru with
  | none => rfl
  | some r => exact pk_un (h r rfl)
theorem zsS_o {R : Nat → Int32} {f j : Nat} {st : Bool} (h1 : j ≠ 73 + 15 * f + 8) (h2 : j ≠ 9) : zsS R f st j = R j := by
  unfold zsS
  cases st with
  | false => rfl
  | true => exact zsC_o h1 h2
/-- where a packet that comes changes nothing, ahead of its queue -/
theorem zpre_o {R : Nat → Int32} {f : Nat} {x : Int32} {e : Nat} {ru : Option Nat} {st : Bool} {j : Nat} (h6 : ∀ r, ru = some r → r < 6) (he : e < 16) (h : ¬ (73 + 15 * f + 5 ≤ j ∧ j ≤ 73 + 15 * f + 8)) (h7 : j ≠ 7) (h9 : j ≠ 9) (hh : ¬ (39 ≤ j ∧ j < 55)) (hr : ¬ (55 ≤ j ∧ j < 73)) : zpre R f x e ru st j = R j := by
  unfold zpre
  rw [zsS_o (by omega) h9, zsU_o (fun r er => by have := h6 r er; omega)]
  unfold zsH
  rw [pk_un (by omega), zsC_o (by omega) h7]
  unfold zsN
  rw [pk_un (by omega)]
theorem zpre_h {R : Nat → Int32} {f : Nat} {x : Int32} {e : Nat} {ru : Option Nat} {st : Bool} (h6 : ∀ r, ru = some r → r < 6) (g : Nat) (hg : g < 16) : zpre R f x e ru st (39 + g) = if g = e then R (39 + g) + 1 else R (39 + g) := by
  unfold zpre
  rw [zsS_o (by omega) (by omega), zsU_o (fun r er => by have := h6 r er; omega)]
  unfold zsH
  by_cases z : g = e
  · subst z
    rw [if_pos rfl, pk_us, zsC_o (by omega) (by omega)]
    unfold zsN
    rw [pk_un (by omega)]
  · rw [if_neg z, pk_un (by omega), zsC_o (by omega) (by omega)]
    unfold zsN
    rw [pk_un (by omega)]
theorem zpre_n {R : Nat → Int32} {f : Nat} {x : Int32} {e : Nat} {ru : Option Nat} {st : Bool} (h6 : ∀ r, ru = some r → r < 6) (he : e < 16) (g : Nat) : zpre R f x e ru st (73 + 15 * g + 5) = if g = f then R (73 + 15 * g + 5) + x else R (73 + 15 * g + 5) := by
  unfold zpre
  rw [zsS_o (by omega) (by omega), zsU_o (fun r er => by have := h6 r er; omega)]
  unfold zsH
  rw [pk_un (by omega), zsC_o (by omega) (by omega)]
  unfold zsN
  by_cases z : g = f
  · subst z; rw [if_pos rfl, pk_us]
  · rw [if_neg z, pk_un (by omega)]
theorem upd_comm (f : Nat → Int32) {a b : Nat} (x y : Int32) (h : a ≠ b) : upd (upd f a x) b y = upd (upd f b y) a x := by
  funext j
  by_cases e : j = a
  · subst e
    rw [pk_un h, pk_us, pk_us]
  · rw [pk_un e]
    by_cases e2 : j = b
    · subst e2; rw [pk_us, pk_us]
    · rw [pk_un e2, pk_un e2, pk_un e]
/-- the class's cells ahead of the queue, in its order, and in the reference's -/
def zpreC (c : Nat → Int32) (f : Nat) (x t : Int32) (hr st : Bool) : Nat → Int32 :=
  let c1 := if st then upd c (12 * 24 + f) (c (12 * 24 + f) + 1) else c
  let c2 := if hr then upd c1 (14 * 24 + f) t else c1
  let c3 := upd c2 (10 * 24 + f) (c2 (10 * 24 + f) + 1)
  upd c3 (9 * 24 + f) (c3 (9 * 24 + f) + x)
theorem SimX.pre {n nr : Nat} {m : Nat → Nat} {cs cs1 : Nat → RS} {R : Nat → Int32} {S : Nat → Int64} {f e y s : Nat} {ru : Option Nat} {st : Bool} (h : SimX n nr m cs R S) (hf : f < n) (he : e < 16) (hy : R (73 + 15 * f + 5) = nI y) (hys : y + s ≤ 1000000000) (hru : ∀ r, ru = some r → r < nr ∧ R (55 + 3 * r) = nI f) (e0 : (cs1 2).1 0 = (cs 2).1 0) (e1 : (cs1 2).1 1 = zpreC ((cs 2).1 1) f (nI s) (R 6) ru.isSome st) (e3 : cs1 3 = rI (cs 3) 1 (upd ((cs 3).1 1) e ((cs 3).1 1 e + 1))) (eo : ∀ k, k ≠ 2 → k ≠ 3 → cs1 k = cs k) : SimX n nr m cs1 (zpre R f (nI s) e ru st) S := by
  have hn24 : n ≤ 24 := h.2.2.1.2.1
  have h6 : nr ≤ 6 := h.2.2.2.1.1.1
  have c9 : (cs 2).1 1 (9 * 24 + f) = R (73 + 15 * f + 5) := h.2.2.1.2.2.1 f 5 hf (by omega)
  -- next
  have s1 := h.fld (k := 5) (x := R (73 + 15 * f + 5) + nI s) (w := rI (cs 2) 1 (upd ((cs 2).1 1) (zrow 5 * 24 + f) (R (73 + 15 * f + 5) + nI s))) hf (by omega) (fun _ => ⟨y + s, hys, by rw [hy, nI_add]⟩) (fun z => absurd z (by decide)) (rI_n _ _ (by decide)) (rI_s _ _ _)
  -- came
  have s2 := s1.cnt (k := 6) (a := 7) (w := rI (cs 2) 1 (upd (upd ((cs 2).1 1) (zrow 5 * 24 + f) (R (73 + 15 * f + 5) + nI s)) (zrow 6 * 24 + f) (upd ((cs 2).1 1) (zrow 5 * 24 + f) (R (73 + 15 * f + 5) + nI s) (zrow 6 * 24 + f) + 1))) hf (by omega) (by rw [vu_s, rI_n _ _ (by decide), rI_n _ _ (by decide)]) (by rw [vu_s, rI_s, rI_s])
  -- hits
  have s3 := s2.hit (e := e) (x := zsC (zsN R f (nI s)) f 6 7 (39 + e) + 1) he
  -- used
  have s4 : ∃ cs4, SimX n nr m cs4 (zsU (zsH (zsC (zsN R f (nI s)) f 6 7) e) ru) S ∧ (cs4 2).1 0 = (cs 2).1 0 ∧ (cs4 2).1 1 = (if ru.isSome then upd (upd (upd ((cs 2).1 1) (zrow 5 * 24 + f) (R (73 + 15 * f + 5) + nI s)) (zrow 6 * 24 + f) (upd ((cs 2).1 1) (zrow 5 * 24 + f) (R (73 + 15 * f + 5) + nI s) (zrow 6 * 24 + f) + 1)) (14 * 24 + f) (R 6) else upd (upd ((cs 2).1 1) (zrow 5 * 24 + f) (R (73 + 15 * f + 5) + nI s)) (zrow 6 * 24 + f) (upd ((cs 2).1 1) (zrow 5 * 24 + f) (R (73 + 15 * f + 5) + nI s) (zrow 6 * 24 + f) + 1)) ∧ cs4 3 = rI (cs 3) 1 (upd ((cs 3).1 1) e ((cs 3).1 1 e + 1)) ∧ ∀ k, k ≠ 2 → k ≠ 3 → cs4 k = cs k := by
    have t3 : rI (cs 3) 1 (upd ((cs 3).1 1) e (zsC (zsN R f (nI s)) f 6 7 (39 + e) + 1)) = rI (cs 3) 1 (upd ((cs 3).1 1) e ((cs 3).1 1 e + 1)) := by
      rw [(h.2.2.2.2.1 e he).2.1, zsC_o (by omega) (by omega)]
      unfold zsN
      rw [pk_un (by omega)]
    cases ru with
    | none =>
      refine ⟨_, s3, ?_, ?_, ?_, fun k k2 k3 => ?_⟩
      · rw [vu_n _ _ (by decide), vu_s, rI_n _ _ (by decide)]
      · rw [vu_n _ _ (by decide), vu_s, rI_s]; rfl
      · rw [vu_s, vu_n _ _ (by decide), vu_n _ _ (by decide)]; exact t3
      · rw [vu_n _ _ k3, vu_n _ _ k2, vu_n _ _ k2]
    | some r =>
      obtain ⟨r1, r2⟩ := hru r rfl
      have er : zsH (zsC (zsN R f (nI s)) f 6 7) e (55 + 3 * r) = nI f := by
        unfold zsH
        rw [pk_un (by omega), zsC_o (by omega) (by omega)]
        unfold zsN
        rw [pk_un (by omega)]; exact r2
      have e6 : zsH (zsC (zsN R f (nI s)) f 6 7) e 6 = R 6 := by
        unfold zsH
        rw [pk_un (by omega), zsC_o (by omega) (by omega)]
        unfold zsN
        rw [pk_un (by omega)]
      have s3' := s3.used (r := r) (x := R 6) (w := rI (cs 2) 1 (upd (upd (upd ((cs 2).1 1) (zrow 5 * 24 + f) (R (73 + 15 * f + 5) + nI s)) (zrow 6 * 24 + f) (upd ((cs 2).1 1) (zrow 5 * 24 + f) (R (73 + 15 * f + 5) + nI s) (zrow 6 * 24 + f) + 1)) (14 * 24 + f) (R 6))) hf r1 er (by rw [vu_n _ _ (by decide), vu_s, rI_n _ _ (by decide), rI_n _ _ (by decide)]) (by rw [vu_n _ _ (by decide), vu_s, rI_s, rI_s])
      have ex : zsU (zsH (zsC (zsN R f (nI s)) f 6 7) e) (some r) = upd (zsH (zsC (zsN R f (nI s)) f 6 7) e) (55 + 3 * r + 2) (R 6) := by
        show upd (zsH (zsC (zsN R f (nI s)) f 6 7) e) (55 + 3 * r + 2) (zsH (zsC (zsN R f (nI s)) f 6 7) e 6) = _
        rw [e6]
      rw [ex]
      refine ⟨_, s3', ?_, ?_, ?_, fun k k2 k3 => ?_⟩
      · rw [vu_s, rI_n _ _ (by decide)]
      · rw [vu_s, rI_s]; rfl
      · rw [vu_n _ _ (by decide), vu_s, vu_n _ _ (by decide), vu_n _ _ (by decide)]; exact t3
      · rw [vu_n _ _ k2, vu_n _ _ k3, vu_n _ _ k2, vu_n _ _ k2]
  obtain ⟨cs4, s4, a0, a1, a3, ao⟩ := s4
  -- the cells in the class's order
  have key : ∀ c : Nat → Int32, zpreC c f (nI s) (R 6) ru.isSome st = (if st then upd (if ru.isSome then upd (upd (upd c (9 * 24 + f) (c (9 * 24 + f) + nI s)) (10 * 24 + f) (upd c (9 * 24 + f) (c (9 * 24 + f) + nI s) (10 * 24 + f) + 1)) (14 * 24 + f) (R 6) else upd (upd c (9 * 24 + f) (c (9 * 24 + f) + nI s)) (10 * 24 + f) (upd c (9 * 24 + f) (c (9 * 24 + f) + nI s) (10 * 24 + f) + 1)) (12 * 24 + f) (c (12 * 24 + f) + 1) else (if ru.isSome then upd (upd (upd c (9 * 24 + f) (c (9 * 24 + f) + nI s)) (10 * 24 + f) (upd c (9 * 24 + f) (c (9 * 24 + f) + nI s) (10 * 24 + f) + 1)) (14 * 24 + f) (R 6) else upd (upd c (9 * 24 + f) (c (9 * 24 + f) + nI s)) (10 * 24 + f) (upd c (9 * 24 + f) (c (9 * 24 + f) + nI s) (10 * 24 + f) + 1))) := by
    intro c
    unfold zpreC
    funext j
    cases st with
    | false =>
      cases ru.isSome with
      | false =>
        simp only [Bool.false_eq_true, if_false]
        rw [pk_un (show 9 * 24 + f ≠ 10 * 24 + f by omega), pk_un (show 10 * 24 + f ≠ 9 * 24 + f by omega), upd_comm _ _ _ (show 10 * 24 + f ≠ 9 * 24 + f by omega)]
      | true =>
        simp only [Bool.false_eq_true, if_false, if_true]
        rw [pk_un (show 9 * 24 + f ≠ 10 * 24 + f by omega), pk_un (show 10 * 24 + f ≠ 9 * 24 + f by omega), pk_un (show 10 * 24 + f ≠ 14 * 24 + f by omega), pk_un (show 9 * 24 + f ≠ 14 * 24 + f by omega)]
        rw [upd_comm c _ _ (show 14 * 24 + f ≠ 10 * 24 + f by omega), upd_comm _ _ _ (show 14 * 24 + f ≠ 9 * 24 + f by omega), upd_comm c _ _ (show 10 * 24 + f ≠ 9 * 24 + f by omega)]
    | true =>
      cases ru.isSome with
      | false =>
        simp only [Bool.false_eq_true, if_false, if_true]
        rw [pk_un (show 9 * 24 + f ≠ 10 * 24 + f by omega), pk_un (show 10 * 24 + f ≠ 9 * 24 + f by omega), pk_un (show 10 * 24 + f ≠ 12 * 24 + f by omega), pk_un (show 9 * 24 + f ≠ 12 * 24 + f by omega)]
        rw [upd_comm c _ _ (show 12 * 24 + f ≠ 10 * 24 + f by omega), upd_comm _ _ _ (show 12 * 24 + f ≠ 9 * 24 + f by omega), upd_comm c _ _ (show 10 * 24 + f ≠ 9 * 24 + f by omega)]
      | true =>
        simp only [if_true]
        rw [pk_un (show 9 * 24 + f ≠ 10 * 24 + f by omega), pk_un (show 10 * 24 + f ≠ 9 * 24 + f by omega), pk_un (show 10 * 24 + f ≠ 14 * 24 + f by omega), pk_un (show 9 * 24 + f ≠ 14 * 24 + f by omega), pk_un (show 10 * 24 + f ≠ 12 * 24 + f by omega), pk_un (show 9 * 24 + f ≠ 12 * 24 + f by omega)]
        rw [upd_comm c _ _ (show 12 * 24 + f ≠ 14 * 24 + f by omega), upd_comm _ _ _ (show 12 * 24 + f ≠ 10 * 24 + f by omega), upd_comm _ _ _ (show 12 * 24 + f ≠ 9 * 24 + f by omega), upd_comm c _ _ (show 14 * 24 + f ≠ 10 * 24 + f by omega), upd_comm _ _ _ (show 14 * 24 + f ≠ 9 * 24 + f by omega), upd_comm c _ _ (show 10 * 24 + f ≠ 9 * 24 + f by omega)]
  have z5 : zrow 5 = 9 := rfl
  have z6 : zrow 6 = 10 := rfl
  rw [z5, z6, ← c9] at a1
  rw [key] at e1
  unfold zpre zsS
  cases st with
  | false =>
    simp only [Bool.false_eq_true, if_false] at e1 ⊢
    refine s4.cs (by rw [e0, a0]) (by rw [e1, a1]) (fun k k2 => ?_)
    by_cases k3 : k = 3
    · rw [k3, e3, a3]
    · rw [eo k k2 k3, ao k k2 k3]
  | true =>
    simp only [if_true] at e1 ⊢
    have c12 : (cs4 2).1 1 (12 * 24 + f) = (cs 2).1 1 (12 * 24 + f) := by
      rw [a1]
      cases ru.isSome with
      | false =>
        simp only [Bool.false_eq_true, if_false]
        rw [pk_un (by omega), pk_un (by omega)]
      | true =>
        simp only [if_true]
        rw [pk_un (by omega), pk_un (by omega), pk_un (by omega)]
    have s5 := s4.cnt (k := 8) (a := 9) (w := rI (cs4 2) 1 (upd ((cs4 2).1 1) (zrow 8 * 24 + f) ((cs4 2).1 1 (zrow 8 * 24 + f) + 1))) hf (by omega) (rI_n _ _ (by decide)) (rI_s _ _ _)
    have z8 : zrow 8 = 12 := rfl
    refine SimX.cs s5 ?_ ?_ (fun k k2 => ?_)
    · rw [vu_s, rI_n _ _ (by decide), e0, a0]
    · rw [vu_s, rI_s, e1, z8, c12, a1]
    · rw [vu_n _ _ k2]
      by_cases k3 : k = 3
      · rw [k3, e3, a3]
      · rw [eo k k2 k3, ao k k2 k3]
