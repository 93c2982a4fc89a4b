-- the optional States; RxQueues.copied; History
abbrev PS : Type := (Nat → Nat → Nat) × (Nat → RS)
abbrev SL : Type := Nat → Option PS
def wO (g : zG) (o : Option PS) : va_W := match o with | none => [] | some p => wS g p.1 p.2
def aO (o : Option PS) : Option Nat := match o with | none => none | some p => some (p.1 0 0)
def wL (g : zG) (sl : SL) : Nat → va_W
  | 0 => []
  | n + 1 => wL g sl n ++ wO g (sl n)
theorem wL_out (g : zG) (sl : SL) (x : Option PS) (j : Nat) : ∀ n, n ≤ j → wL g (va_up sl j x) n = wL g sl n
  | 0, _ => rfl
  | n + 1, h => by
    show wL g (va_up sl j x) n ++ wO g (va_up sl j x n) = wL g sl n ++ wO g (sl n)
    rw [wL_out g sl x j n (by omega), va_up_ne _ _ (by omega)]
theorem wL_at (g : zG) (sl : SL) (j : Nat) : ∀ n, j < n → (wL g sl n).Perm (wO g (sl j) ++ wL g (va_up sl j none) n)
  | 0, h => absurd h (Nat.not_lt_zero j)
  | n + 1, h => by
    show (wL g sl n ++ wO g (sl n)).Perm (wO g (sl j) ++ (wL g (va_up sl j none) n ++ wO g (va_up sl j none n)))
    by_cases e : j = n
    · subst e
      rw [wL_out g sl none j j (Nat.le_refl _), va_up_self]
      show (wL g sl j ++ wO g (sl j)).Perm (wO g (sl j) ++ (wL g sl j ++ []))
      rw [List.append_nil]
      exact List.perm_append_comm
    · rw [va_up_ne _ _ (fun z => e z.symm), ← List.append_assoc]
      exact List.Perm.append_right _ (wL_at g sl j n (by omega))
theorem va_up_up {α : Type} (f : Nat → α) (k : Nat) (x y : α) : va_up (va_up f k x) k y = va_up f k y := by
  funext j
  unfold va_up
  split <;> rfl
theorem wL_put (g : zG) (sl : SL) (j n : Nat) (h : j < n) (p : PS) : (wO g (some p) ++ wL g (va_up sl j none) n).Perm (wL g (va_up sl j (some p)) n) := by
  have := wL_at g (va_up sl j (some p)) j n h
  rw [va_up_up, va_up_self] at this
  exact this.symm
theorem aO_up (sl : SL) (j : Nat) (p : PS) : va_up (fun i => aO (sl i)) j (some (p.1 0 0)) = (fun i => aO (va_up sl j (some p) i)) := by
  funext i
  unfold va_up
  split <;> rfl
def wH (g : zG) (ha : Nat → Nat) (h : RS) (sl : SL) : va_W := [(ha 0, .inr (1, [.int (h.1 0 0), .ref (ha 1), .ref (ha 2), .int (h.1 3 0)])), (ha 1, .inl (g.2.1 3, 8, .inr (.inr (.inr (.inr (fun i => aO (sl i))))))), (ha 2, .inl (g.2.1 0, 8, .inl (h.1 2)))]
def fH (ha : Nat → Nat) (h : RS) : List Value := [.int (h.1 0 0), .ref (ha 1), .ref (ha 2), .int (h.1 3 0)]
section ZT
variable {p : Program} {l : Launch} {e : Env} {R : Room} {s : State} {m : MethodId} {args : Array Value} {below : List Frame} {meth : Method} {c : Code} {g : zG} {A : Nat → Prop} {nL : Nat} {Q : State → Prop} {ws : va_W} {k n pc : Nat} {lv : List (Nat × Value)} {st st0 : List Value} {cc : ByteArray} {own : String}
theorem z_aload_nN (C : zC p s m args meth c g A cc own nL) {kf : Fin 4} {i : Nat} (hd : decode cc pc = .ok (.aload_n kf, 1)) (hi : (kf : Nat) = i) (j : Nat) (hj : lv[j]? = some (i, .null)) (h : zJ p l e R s m args below meth c g A nL Q ws k n (pc + 1) lv (.null :: st)) : zJ p l e R s m args below meth c g A nL Q ws k n pc lv st :=
  fun H locs ls hP hD hS hl => lv_aload_nN C.1 C.2.1 hd hi (lv_at hl j hj) (h H locs ls hP hD hS hl)
theorem z_ifnonnull (C : zC p s m args meth c g A cc own nL) {x : Nat} {off : Int} {tgt : Nat} (hd : decode cc pc = .ok (.ifnonnull off, 3)) (ht : (pc : Int) + off = (tgt : Int)) (h : zJ p l e R s m args below meth c g A nL Q ws k n tgt lv st) : zJ p l e R s m args below meth c g A nL Q ws k n pc lv (.ref x :: st) :=
  fun H locs ls hP hD hS hl => lv_ifnonnull C.1 C.2.1 hd ht (h H locs ls hP hD hS hl)
theorem z_ifnonnullN (C : zC p s m args meth c g A cc own nL) {off : Int} (hd : decode cc pc = .ok (.ifnonnull off, 3)) (h : zJ p l e R s m args below meth c g A nL Q ws k n (pc + 3) lv st) : zJ p l e R s m args below meth c g A nL Q ws k n pc lv (.null :: st) :=
  fun H locs ls hP hD hS hl => lv_ifnonnullN C.1 C.2.1 hd (h H locs ls hP hD hS hl)
theorem z_ifnull (C : zC p s m args meth c g A cc own nL) {x : Nat} {off : Int} (hd : decode cc pc = .ok (.ifnull off, 3)) (h : zJ p l e R s m args below meth c g A nL Q ws k n (pc + 3) lv st) : zJ p l e R s m args below meth c g A nL Q ws k n pc lv (.ref x :: st) :=
  fun H locs ls hP hD hS hl => lv_ifnull C.1 C.2.1 hd (h H locs ls hP hD hS hl)
theorem z_ifnullN (C : zC p s m args meth c g A cc own nL) {off : Int} {tgt : Nat} (hd : decode cc pc = .ok (.ifnull off, 3)) (ht : (pc : Int) + off = (tgt : Int)) (h : zJ p l e R s m args below meth c g A nL Q ws k n tgt lv st) : zJ p l e R s m args below meth c g A nL Q ws k n pc lv (.null :: st) :=
  fun H locs ls hP hD hS hl => lv_ifnullN C.1 C.2.1 hd ht (h H locs ls hP hD hS hl)
theorem z_aret (C : zC p s m args meth c g A cc own nL) {nm : String} (hr : meth.sig.returnType = some (.object nm)) {S : Type} {w : S → va_W} {adr : S → Nat} {post : S → Prop} (u : S) {v : Nat} (hw : ws = w u) (ha : v = adr u) (hq : post u) (hd : decode cc pc = .ok (.areturn, 1)) : zJ p l e R s m args below meth c g A nL (zQr below args s g A k n w adr post) ws k n pc lv [.ref v] :=
  fun H locs ls hP hD hS hl => W.aret C.1 C.2.1 hr (Or.inl ⟨_, rfl⟩) (Or.inr ⟨_, rfl⟩) (fun t ht hW => ⟨⟨u, v, rfl, hq, ha, by rw [ht]; exact hw ▸ hP, hw ▸ hD⟩, hS.F ht⟩) hS.2.2 hd C.2.2.2.2.2.2.2.2
variable {y : MethodName} {cc1 : ByteArray} {n1 k1 mc ms index : Nat} {ret : Option FieldType} {As : List Value} {S : Type} {w : S → va_W} {adr : S → Nat} {post : S → Prop}
theorem z_Sr (C : zC p s m args meth c g A cc own nL) (X Cw Y : va_W) (hws : ws = X ++ (Cw ++ Y)) (hM : zMr l y cc1 n1 ret k1 mc ms g As Cw w adr post) (hv : zSt y cc1 n1 ret As.length) (hlk : Cond.methodLink own index y ∈ zW)
    (hR : k1 + 1 ≤ R.frames ∧ 8 + (n1 + 11) + 40 * k1 ≤ R.locals) (hcap : k + mc ≤ R.cells ∧ n + ms ≤ R.slots) (hroom : (st.map fun v => v.category).sum ≤ 8) (hst : st0 = As.reverse ++ st) (hd : decode cc pc = .ok (.invokestatic index, 3))
    (h : ∀ (u : S), post u → zJ p l e R s m args below meth c g A nL Q (X ++ (w u ++ Y)) (k + mc) (n + ms) (pc + 3) lv (.ref (adr u) :: st)) : zJ p l e R s m args below meth c g A nL Q ws k n pc lv st0 := by
  intro H locs ls hP hD hS hl
  subst hws
  obtain ⟨hPc, hDc⟩ := zmidC hP hD
  have hF : ∀ q, va_A Cw H.size q → A q := by
    intro q h
    rcases h with ⟨i, e1, h⟩ | h
    · exact hDc.2 i _ h
    · exact C.2.2.2.2.2.2.1 q (Nat.le_trans hS.1 h)
  refine va_callr (zrunS C X Cw Y hP hD hS hl hM hv hlk hR hcap hroom hst hd) hS (fun q _ h => hF q h) hF (fun u ra t H1 locs1 ht hvm hw hB hz1 hk1 hS1 => ?_)
  obtain ⟨rfl, h1, h2⟩ := hB
  rw [ht] at h1
  obtain ⟨hP2, hD2⟩ := zmid hP hD hF hk1 h1 h2
  exact h u hw H1 locs1 ls hP2 hD2 hS1 hl
theorem z_SNr (C : zC p s m args meth c g A cc own nL) (X Cw Y : va_W) (hws : ws = X ++ (Cw ++ Y)) {host : String} (hM : zMr l y cc1 n1 ret k1 mc ms g As Cw w adr post) (hv : zSt y cc1 n1 ret As.length) (hlk : Cond.methodLinkNest own index y host ∈ zNest)
    (hR : k1 + 1 ≤ R.frames ∧ 8 + (n1 + 11) + 40 * k1 ≤ R.locals) (hcap : k + mc ≤ R.cells ∧ n + ms ≤ R.slots) (hroom : (st.map fun v => v.category).sum ≤ 8) (hst : st0 = As.reverse ++ st) (hd : decode cc pc = .ok (.invokestatic index, 3))
    (h : ∀ (u : S), post u → zJ p l e R s m args below meth c g A nL Q (X ++ (w u ++ Y)) (k + mc) (n + ms) (pc + 3) lv (.ref (adr u) :: st)) : zJ p l e R s m args below meth c g A nL Q ws k n pc lv st0 := by
  intro H locs ls hP hD hS hl
  subst hws
  obtain ⟨hPc, hDc⟩ := zmidC hP hD
  have hF : ∀ q, va_A Cw H.size q → A q := by
    intro q h
    rcases h with ⟨i, e1, h⟩ | h
    · exact hDc.2 i _ h
    · exact C.2.2.2.2.2.2.1 q (Nat.le_trans hS.1 h)
  have hts := C.2.2.2.2.1
  refine va_callr (va_runSN (host := host) (As := As) (rest := st) ⟨C.1, C.2.1, C.2.2.1, C.2.2.2.1, hts⟩ (hM H.size) ⟨va_cnB As.length hts (zgood hv.1) rfl rfl rfl (C.2.2.2.2.2.2.2.1.2.2.2.2.2.2 _ hlk) (hts _ hv.2.2.1) hv.2.2.2 hR, hts _ hv.2.1, trivial⟩ ⟨zB.blind, fun U hU hW => ⟨rfl, by rw [hU], by rw [hU]; exact hPc, va_K.moved hW.alike C.2.2.2.2.2.1, hDc.weaken (fun _ _ _ _ => trivial), by rw [hU]; exact C.2.2.2.2.2.2.2.1.go hW hS.2.1 hF⟩⟩ rfl rfl hl.1 hst (lv_room hroom) hd hcap) hS (fun q _ h => hF q h) hF (fun u ra t H1 locs1 ht hvm hw hB hz1 hk1 hS1 => ?_)
  obtain ⟨rfl, h1, h2⟩ := hB
  rw [ht] at h1
  obtain ⟨hP2, hD2⟩ := zmid hP hD hF hk1 h1 h2
  exact h u hw H1 locs1 ls hP2 hD2 hS1 hl
end ZT

theorem fl1_21 : Cond.fieldLink RX1 21 "RxQueues$History" "latest" "I" ∈ zW := zW_at 259 (by decide +kernel) rfl
theorem fl1_11 : Cond.fieldLink RX1 11 "RxQueues$History" "before" "[LRxQueues$State;" ∈ zW := zW_at 257 (by decide +kernel) rfl
theorem fl1_17 : Cond.fieldLink RX1 17 "RxQueues$History" "acts" "[I" ∈ zW := zW_at 258 (by decide +kernel) rfl
theorem fl1_29 : Cond.fieldLink RX1 29 "RxQueues$History" "number" "I" ∈ zW := zW_at 255 (by decide +kernel) rfl
theorem mj1_32 : Cond.methodLink RX1 32 Lib.Math.min.name ∈ zW := zW_at 345 (by decide +kernel) rfl
theorem ml7_186 : Cond.methodLink RX7 186 yX5_become ∈ zW := zW_at 313 (by decide +kernel) rfl
theorem v_X5_become : zV yX5_become cX5_become 3 none 1 := ⟨zW_at 316 (by decide +kernel) rfl, zW_at 314 (by decide +kernel) rfl, zW_at 315 (by decide +kernel) rfl, zW_at 56 (by decide +kernel) rfl, by decide +kernel⟩
theorem ml7_9 : Cond.methodLink RX7 9 yX5_init ∈ zW := zW_at 77 (by decide +kernel) rfl
theorem s_X7_copied : zSt yX7_copied cX7_copied 3 (some (.object "RxQueues$State")) 2 := ⟨zW_at 312 (by decide +kernel) rfl, zW_at 311 (by decide +kernel) rfl, zW_at 55 (by decide +kernel) rfl, by decide +kernel⟩
theorem mn1_25 : Cond.methodLinkNest RX1 25 yX7_copied "RxQueues" ∈ zNest := List.mem_filter.mpr ⟨List.mem_of_getElem? (i := 310) (by decide +kernel), rfl⟩
theorem ml1_38 : Cond.methodLink RX1 38 yX5_become ∈ zW := zW_at 631 (by decide +kernel) rfl
theorem i_X5_init : zI yX5_init cX5_init 2 0 := ⟨zW_at 79 (by decide +kernel) rfl, zW_at 78 (by decide +kernel) rfl, zW_at 56 (by decide +kernel) rfl, rfl, by decide +kernel⟩
theorem cl7_7 : Cond.classLink RX7 7 "RxQueues$State" ∈ zW := zW_at 75 (by decide +kernel) rfl
def wp_X7_copied (o : Option PS) (v : Nat → RS) (Q : PS → Prop) : Prop := ∀ q : PS, (o = some q ∨ (o = none ∧ q.2 = iS)) → wp_X5_become q.2 v (fun u => Q (q.1, u))
section WC
variable {p : Program} {l : Launch} {e : Env} {s : State} {m : MethodId} {args : Array Value} {below : List Frame} {meth : Method} {c : Code} {g : zG} {A : Nat → Prop}
abbrev wCp (g : zG) (bd : Nat → Nat → Nat) (v : Nat → RS) (q : PS) : va_W := wS g q.1 q.2 ++ wS g bd v
theorem b_X7_copied_15 (C : zC p s m args meth c g A cX7_copied RX7 3) (hr : meth.sig.returnType = some (.object "RxQueues$State")) (ad bd : Nat → Nat → Nat) (u v : Nat → RS) (Q : PS → Prop) (x : Value) (h : wp_X5_become u v (fun u => Q (ad, u))) : zJ p l e (zR 3 26 1308) s m args below meth c g A 3 (zQr below args s g A 26 1308 (wCp g bd v) (fun q => q.1 0 0) Q) (wS g ad u ++ wS g bd v) 26 1308 15 [(0, x), (1, .ref (bd 0 0))] [.ref (ad 0 0)] := by
  refine z_astore_n (lv1 := [(2, .ref (ad 0 0)), (0, x), (1, .ref (bd 0 0))]) C dX7_copied_15 rfl (by decide) rfl ?_
  refine z_aload_n C dX7_copied_16 rfl 0 rfl ?_
  refine z_aload_n C dX7_copied_17 rfl 2 rfl ?_
  refine z_Vv (As := [.ref (bd 0 0)]) C [] (wS g ad u ++ wS g bd v) [] (by simp) (c_X5_become l g ad bd v u _ h) v_X5_become ml7_186 5 (q := (RX5, TX5, 8)) rfl rfl 0 rfl ⟨Nat.le_of_ble_eq_true rfl, Nat.le_of_ble_eq_true rfl⟩ ⟨Nat.le_refl _, Nat.le_refl _⟩ (Nat.le_of_ble_eq_true rfl) rfl dX7_copied_18 (fun u2 h => ?_)
  refine z_ws (ws1 := wS g ad u2 ++ wS g bd v) (by simp) ?_
  refine z_aload_n C dX7_copied_21 rfl 0 rfl ?_
  exact z_aret C hr (ad, u2) rfl rfl h dX7_copied_22
set_option maxRecDepth 20000 in
theorem c_X7_copied (l : Launch) (g : zG) (o : Option PS) (bd : Nat → Nat → Nat) (v : Nat → RS) (Q : PS → Prop) (h : wp_X7_copied o v Q) : zMr l yX7_copied cX7_copied 3 (some (.object "RxQueues$State")) 3 26 1308 g [va_rf (aO o), .ref (bd 0 0)] (wO g o ++ wS g bd v) (wCp g bd v) (fun q => q.1 0 0) Q := by
  cases o with
  | none =>
    refine zMr_of RX7 (by decide) rfl [(0, .null), (1, .ref (bd 0 0))] rfl (Nat.le_of_ble_eq_true rfl) (fun p e s m args below meth c A C hr hnm => ?_)
    refine z_aload_nN C dX7_copied_0 rfl 0 rfl ?_
    refine z_ifnonnullN C dX7_copied_1 ?_
    refine z_ws (ws1 := wS g bd v) rfl ?_
    refine z_new (T := TX5) (N := 8) C inX5 tyX5 tyX5_ok cl7_7 wI5 wN5 (ci := 5) rfl [.null, .null, .null, .null, .null, .null, .int 0, .int 0] (by intro j hj; exact (show ∀ j, j < 8 → defaultValue (tyX5 j) = vp_V [.null, .null, .null, .null, .null, .null, .int 0, .int 0] j by decide +kernel) j hj) ⟨Nat.le_of_ble_eq_true rfl, Nat.le_of_ble_eq_true rfl⟩ dX7_copied_4 (fun q1 => ?_)
    refine z_dup C dX7_copied_7 rfl ?_
    refine z_Iv (As := []) C (wS g bd v) [(q1, .inr (5, [.null, .null, .null, .null, .null, .null, .int 0, .int 0]))] [] rfl (c_X5_init l g q1) i_X5_init ml7_9 ⟨Nat.le_of_ble_eq_true rfl, Nat.le_of_ble_eq_true rfl⟩ ⟨Nat.le_of_ble_eq_true rfl, Nat.le_of_ble_eq_true rfl⟩ (Nat.le_of_ble_eq_true rfl) rfl dX7_copied_8 (fun ad ead => ?_)
    subst ead
    refine z_perm (ws1 := wS g ad iS ++ wS g bd v) (by rw [List.append_nil]; exact List.perm_append_comm) ?_
    refine z_goto C dX7_copied_11 (tgt := 15) (by decide) ?_
    exact b_X7_copied_15 C hr ad bd iS v Q .null (h (ad, iS) (Or.inr ⟨rfl, rfl⟩))
  | some q =>
    refine zMr_of RX7 (by decide) rfl [(0, .ref (q.1 0 0)), (1, .ref (bd 0 0))] rfl (Nat.le_of_ble_eq_true rfl) (fun p e s m args below meth c A C hr hnm => ?_)
    refine z_wide (k1 := 26) (n1 := 1308) (Nat.zero_le _) (Nat.zero_le _) ?_
    refine z_aload_n C dX7_copied_0 rfl 0 rfl ?_
    refine z_ifnonnull C dX7_copied_1 (tgt := 14) (by decide) ?_
    refine z_aload_n C dX7_copied_14 rfl 0 rfl ?_
    exact b_X7_copied_15 C hr q.1 bd q.2 v Q _ (h q (Or.inl rfl))
end WC

/-- History.keep -/
def wp_X1_keep (h : RS) (sl : SL) (v : Nat → RS) (act : Int32) (Q : RS → SL → Prop) : Prop :=
  ∀ x : Int32, x = h.1 3 0 + 1 - (h.1 3 0 + 1) / 8 * 8 → vp_in x 8 ∧ wp_X7_copied (sl (zn x)) v (fun q => ∀ h1 : RS, h1 = rN h 3 x → ∀ h2 : RS, h2 = rI h1 2 (upd (h1.1 2) (zn x) act) → Q (rN h2 0 (zmin 8 (h2.1 0 0 + 1))) (va_up sl (zn x) (some q)))
abbrev wHt (g : zG) (ha : Nat → Nat) (bd : Nat → Nat → Nat) (v : Nat → RS) (z : RS × SL) : va_W := wH g ha z.1 z.2 ++ (wS g bd v ++ wL g z.2 8)
section WH
variable {p : Program} {l : Launch} {e : Env} {R : Room} {s : State} {m : MethodId} {args : Array Value} {below : List Frame} {meth : Method} {c : Code} {g : zG} {A : Nat → Prop} {nL : Nat} {Q : State → Prop} {k n pc : Nat} {lv : List (Nat × Value)} {st st0 : List Value} {cc : ByteArray} {ha : Nat → Nat} {h0 : RS} {sl : SL} {Y : va_W} {own : String}
theorem gH_number (C : zC p s m args meth c g A cc own nL) {index : Nat} (hlk : Cond.fieldLink own index "RxQueues$History" "number" "I" ∈ zW) (hd : decode cc pc = .ok (.getfield index, 3)) (h : zJ p l e R s m args below meth c g A nL Q (wH g ha h0 sl ++ Y) k n (pc + 3) lv (.int (h0.1 0 0) :: st)) : zJ p l e R s m args below meth c g A nL Q (wH g ha h0 sl ++ Y) k n pc lv (.ref (ha 0) :: st) :=
  z_get (T := TX1) (N := 4) C inX1 (ci := 1) rfl 0 (by decide) hlk 0 rfl rfl hd h
theorem gH_before (C : zC p s m args meth c g A cc own nL) {index : Nat} (hlk : Cond.fieldLink own index "RxQueues$History" "before" "[LRxQueues$State;" ∈ zW) (hd : decode cc pc = .ok (.getfield index, 3)) (h : zJ p l e R s m args below meth c g A nL Q (wH g ha h0 sl ++ Y) k n (pc + 3) lv (.ref (ha 1) :: st)) : zJ p l e R s m args below meth c g A nL Q (wH g ha h0 sl ++ Y) k n pc lv (.ref (ha 0) :: st) :=
  z_get (T := TX1) (N := 4) C inX1 (ci := 1) rfl 1 (by decide) hlk 0 rfl rfl hd h
theorem gH_acts (C : zC p s m args meth c g A cc own nL) {index : Nat} (hlk : Cond.fieldLink own index "RxQueues$History" "acts" "[I" ∈ zW) (hd : decode cc pc = .ok (.getfield index, 3)) (h : zJ p l e R s m args below meth c g A nL Q (wH g ha h0 sl ++ Y) k n (pc + 3) lv (.ref (ha 2) :: st)) : zJ p l e R s m args below meth c g A nL Q (wH g ha h0 sl ++ Y) k n pc lv (.ref (ha 0) :: st) :=
  z_get (T := TX1) (N := 4) C inX1 (ci := 1) rfl 2 (by decide) hlk 0 rfl rfl hd h
theorem gH_latest (C : zC p s m args meth c g A cc own nL) {index : Nat} (hlk : Cond.fieldLink own index "RxQueues$History" "latest" "I" ∈ zW) (hd : decode cc pc = .ok (.getfield index, 3)) (h : zJ p l e R s m args below meth c g A nL Q (wH g ha h0 sl ++ Y) k n (pc + 3) lv (.int (h0.1 3 0) :: st)) : zJ p l e R s m args below meth c g A nL Q (wH g ha h0 sl ++ Y) k n pc lv (.ref (ha 0) :: st) :=
  z_get (T := TX1) (N := 4) C inX1 (ci := 1) rfl 3 (by decide) hlk 0 rfl rfl hd h
theorem pH_latest (C : zC p s m args meth c g A cc own nL) {index : Nat} {x : Int32} (hlk : Cond.fieldLink own index "RxQueues$History" "latest" "I" ∈ zW) (hd : decode cc pc = .ok (.putfield index, 3)) (h : zJ p l e R s m args below meth c g A nL Q (wH g ha (rN h0 3 x) sl ++ Y) k n (pc + 3) lv st) : zJ p l e R s m args below meth c g A nL Q (wH g ha h0 sl ++ Y) k n pc lv (.int x :: .ref (ha 0) :: st) :=
  z_puti (T := TX1) (N := 4) C inX1 tyX1 tyX1_ok nmX1 (ci := 1) rfl 3 (by decide) hlk rfl (by decide +kernel) 0 (fs := fH ha h0) rfl (Nat.le_of_ble_eq_true rfl) hd (ws1 := wH g ha (rN h0 3 x) sl ++ Y) rfl h
theorem pH_number (C : zC p s m args meth c g A cc own nL) {index : Nat} {x : Int32} (hlk : Cond.fieldLink own index "RxQueues$History" "number" "I" ∈ zW) (hd : decode cc pc = .ok (.putfield index, 3)) (h : zJ p l e R s m args below meth c g A nL Q (wH g ha (rN h0 0 x) sl ++ Y) k n (pc + 3) lv st) : zJ p l e R s m args below meth c g A nL Q (wH g ha h0 sl ++ Y) k n pc lv (.int x :: .ref (ha 0) :: st) :=
  z_puti (T := TX1) (N := 4) C inX1 tyX1 tyX1_ok nmX1 (ci := 1) rfl 0 (by decide) hlk rfl (by decide +kernel) 0 (fs := fH ha h0) rfl (Nat.le_of_ble_eq_true rfl) hd (ws1 := wH g ha (rN h0 0 x) sl ++ Y) rfl h
end WH
set_option maxRecDepth 20000 in
theorem c_X1_keep (l : Launch) (g : zG) (ha : Nat → Nat) (bd : Nat → Nat → Nat) (h0 : RS) (sl : SL) (v : Nat → RS) (x1 : Int32) (Q : RS → SL → Prop) (h : wp_X1_keep h0 sl v x1 Q) : zMv l yX1_keep cX1_keep 3 none 4 26 1308 g [.ref (ha 0), .int x1, .ref (bd 0 0)] (wH g ha h0 sl ++ (wS g bd v ++ wL g sl 8)) (wHt g ha bd v) (fun z => Q z.1 z.2) := by
  refine zMv_of RX1 (by decide) rfl [(0, .ref (ha 0)), (1, .int x1), (2, .ref (bd 0 0))] rfl (Nat.le_of_ble_eq_true rfl) (fun p e s m args below meth c A C hr hnm => ?_)
  unfold wp_X1_keep at h
  refine z_aload_n C dX1_keep_0 rfl 0 rfl ?_
  refine z_aload_n C dX1_keep_1 rfl 0 rfl ?_
  refine gH_latest C fl1_21 dX1_keep_2 ?_
  refine z_iconst (v := 1) C dX1_keep_5 (by decide) ?_
  refine z_iadd C dX1_keep_6 ?_
  refine z_bipush (v := 8) C dX1_keep_7 (by decide) ?_
  refine z_irem C dX1_keep_9 (by decide) ?_
  refine z_topi (fun x ex => ?_)
  obtain ⟨hin, h⟩ := h x ex
  refine pH_latest C fl1_21 dX1_keep_10 ?_
  obtain ⟨h1, eh1⟩ : ∃ y : RS, y = rN h0 3 x := ⟨_, rfl⟩
  have hx : h1.1 3 0 = x := by rw [eh1]; rfl
  rw [← eh1]
  refine z_aload_n C dX1_keep_13 rfl 0 rfl ?_
  refine gH_before C fl1_11 dX1_keep_14 ?_
  refine z_aload_n C dX1_keep_17 rfl 0 rfl ?_
  refine gH_latest C fl1_21 dX1_keep_18 ?_
  rw [hx]
  refine z_aload_n C dX1_keep_21 rfl 0 rfl ?_
  refine gH_before C fl1_11 dX1_keep_22 ?_
  refine z_aload_n C dX1_keep_25 rfl 0 rfl ?_
  refine gH_latest C fl1_21 dX1_keep_26 ?_
  rw [hx]
  refine z_aald C 1 3 (f := fun i => aO (sl i)) rfl rfl hin dX1_keep_29 ?_
  refine z_aload_n C dX1_keep_30 rfl 2 rfl ?_
  have hj := zn_lt hin
  refine z_perm (ws1 := wH g ha h1 sl ++ ((wO g (sl (zn x)) ++ wS g bd v) ++ wL g (va_up sl (zn x) none) 8)) ?_ ?_
  · refine List.Perm.append_left _ ?_
    refine (List.Perm.append_left _ (wL_at g sl (zn x) 8 hj)).trans ?_
    rw [← List.append_assoc]
    exact List.Perm.append_right _ List.perm_append_comm
  refine z_SNr (As := [va_rf (aO (sl (zn x))), .ref (bd 0 0)]) C (wH g ha h1 sl) (wO g (sl (zn x)) ++ wS g bd v) (wL g (va_up sl (zn x) none) 8) rfl (c_X7_copied l g (sl (zn x)) bd v _ h) s_X7_copied mn1_25 ⟨Nat.le_of_ble_eq_true rfl, Nat.le_of_ble_eq_true rfl⟩ ⟨Nat.le_of_ble_eq_true rfl, Nat.le_of_ble_eq_true rfl⟩ (Nat.le_of_ble_eq_true rfl) rfl dX1_keep_31 (fun q h => ?_)
  have h := h h1 eh1
  refine z_aastq C 1 3 3 5 (r := (RX5, TX5, 8)) (f := fun i => aO (sl i)) rfl rfl rfl rfl hin dX1_keep_34 (wH g ha h1 (va_up sl (zn x) (some q)) ++ (wCp g bd v q ++ wL g (va_up sl (zn x) none) 8)) (by unfold wH; rw [← aO_up]; rfl) ?_
  refine z_perm (ws1 := wH g ha h1 (va_up sl (zn x) (some q)) ++ (wS g bd v ++ wL g (va_up sl (zn x) (some q)) 8)) ?_ ?_
  · refine List.Perm.append_left _ ?_
    refine List.Perm.trans ?_ (List.Perm.append_left _ (wL_put g sl (zn x) 8 hj q))
    show ((wS g q.1 q.2 ++ wS g bd v) ++ wL g (va_up sl (zn x) none) 8).Perm (wS g bd v ++ (wS g q.1 q.2 ++ wL g (va_up sl (zn x) none) 8))
    rw [← List.append_assoc (wS g bd v)]
    exact List.Perm.append_right _ List.perm_append_comm
  refine z_aload_n C dX1_keep_35 rfl 0 rfl ?_
  refine gH_acts C fl1_17 dX1_keep_36 ?_
  refine z_aload_n C dX1_keep_39 rfl 0 rfl ?_
  refine gH_latest C fl1_21 dX1_keep_40 ?_
  rw [hx]
  refine z_iload_n C dX1_keep_43 rfl 1 rfl ?_
  obtain ⟨h2, eh2⟩ : ∃ y : RS, y = rI h1 2 (upd (h1.1 2) (zn x) x1) := ⟨_, rfl⟩
  have h := h h2 eh2
  refine z_iast C 2 rfl hin dX1_keep_44 (ws1 := wH g ha h2 (va_up sl (zn x) (some q)) ++ (wS g bd v ++ wL g (va_up sl (zn x) (some q)) 8)) (by rw [eh2]; rfl) ?_
  refine z_aload_n C dX1_keep_45 rfl 0 rfl ?_
  refine z_bipush (v := 8) C dX1_keep_46 (by decide) ?_
  refine z_aload_n C dX1_keep_48 rfl 0 rfl ?_
  refine gH_number C fl1_29 dX1_keep_49 ?_
  refine z_iconst (v := 1) C dX1_keep_52 (by decide) ?_
  refine z_iadd C dX1_keep_53 ?_
  refine z_mmin C mj1_32 (Nat.le_of_ble_eq_true rfl) (Nat.le_of_ble_eq_true rfl) ⟨Nat.le_of_ble_eq_true rfl, Nat.le_of_ble_eq_true rfl⟩ dX1_keep_54 ?_
  refine pH_number C fl1_29 dX1_keep_57 ?_
  exact z_vret C hr (rN h2 0 (zmin 8 (h2.1 0 0 + 1)), va_up sl (zn x) (some q)) rfl h dX1_keep_60
/-- History.takeBack -/
def kAct (h : RS) : Int32 := h.1 2 (zn (h.1 3 0))
def kTake (h : RS) : RS := rN (rN h 3 (h.1 3 0 + 8 - 1 - (h.1 3 0 + 8 - 1) / 8 * 8)) 0 (h.1 0 0 - 1)
def wp_X1_takeBack (h : RS) (sl : SL) (v : Nat → RS) (Q : Int32 → RS → (Nat → RS) → Prop) : Prop :=
  vp_in (h.1 3 0) 8 ∧ (sl (zn (h.1 3 0)) = none → Q (kAct h) (kTake h) v) ∧ (∀ q : PS, sl (zn (h.1 3 0)) = some q → wp_X5_become v q.2 (fun v1 => Q (kAct h) (kTake h) v1))
abbrev wHu (g : zG) (ha : Nat → Nat) (bd : Nat → Nat → Nat) (sl : SL) (z : RS × (Nat → RS)) : va_W := wH g ha z.1 sl ++ (wS g bd z.2 ++ wL g sl 8)
section WH
variable {p : Program} {l : Launch} {e : Env} {s : State} {m : MethodId} {args : Array Value} {below : List Frame} {meth : Method} {c : Code} {g : zG} {A : Nat → Prop}
theorem b_X1_takeBack_35 (C : zC p s m args meth c g A cX1_takeBack RX1 3) (hr : meth.sig.returnType = some .int) (ha : Nat → Nat) (bd : Nat → Nat → Nat) (h0 : RS) (sl : SL) (v : Nat → RS) (x2 : Int32) (Q : Int32 → RS → (Nat → RS) → Prop) (h : Q x2 (kTake h0) v) : zJ p l e (zR 3 0 0) s m args below meth c g A 3 (zQi below args s g A 0 0 (wHu g ha bd sl) (fun r z => Q r z.1 z.2)) (wH g ha h0 sl ++ (wS g bd v ++ wL g sl 8)) 0 0 35 [(2, .int x2), (0, .ref (ha 0)), (1, .ref (bd 0 0))] [] := by
  refine z_aload_n C dX1_takeBack_35 rfl 1 rfl ?_
  refine z_aload_n C dX1_takeBack_36 rfl 1 rfl ?_
  refine gH_latest C fl1_21 dX1_takeBack_37 ?_
  refine z_bipush (v := 8) C dX1_takeBack_40 (by decide) ?_
  refine z_iadd C dX1_takeBack_42 ?_
  refine z_iconst (v := 1) C dX1_takeBack_43 (by decide) ?_
  refine z_isub C dX1_takeBack_44 ?_
  refine z_bipush (v := 8) C dX1_takeBack_45 (by decide) ?_
  refine z_irem C dX1_takeBack_47 (by decide) ?_
  refine pH_latest C fl1_21 dX1_takeBack_48 ?_
  refine z_aload_n C dX1_takeBack_51 rfl 1 rfl ?_
  refine z_dup C dX1_takeBack_52 rfl ?_
  refine gH_number C fl1_29 dX1_takeBack_53 ?_
  refine z_iconst (v := 1) C dX1_takeBack_56 (by decide) ?_
  refine z_isub C dX1_takeBack_57 ?_
  refine pH_number C fl1_29 dX1_takeBack_58 ?_
  refine z_iload_n C dX1_takeBack_61 rfl 0 rfl ?_
  exact z_iret C hr (kTake h0, v) rfl h dX1_takeBack_62
end WH
set_option maxRecDepth 20000 in
theorem c_X1_takeBack (l : Launch) (g : zG) (ha : Nat → Nat) (bd : Nat → Nat → Nat) (h0 : RS) (sl : SL) (v : Nat → RS) (Q : Int32 → RS → (Nat → RS) → Prop) (h : wp_X1_takeBack h0 sl v Q) : zMi l yX1_takeBack cX1_takeBack 3 (some .int) 3 0 0 g [.ref (ha 0), .ref (bd 0 0)] (wH g ha h0 sl ++ (wS g bd v ++ wL g sl 8)) (wHu g ha bd sl) (fun r z => Q r z.1 z.2) := by
  refine zMi_of RX1 (by decide) rfl [(0, .ref (ha 0)), (1, .ref (bd 0 0))] rfl (Nat.le_of_ble_eq_true rfl) (fun p e s m args below meth c A C hr hnm => ?_)
  obtain ⟨hin, hn, hs⟩ := h
  have hj := zn_lt hin
  refine z_aload_n C dX1_takeBack_0 rfl 0 rfl ?_
  refine gH_acts C fl1_17 dX1_takeBack_1 ?_
  refine z_aload_n C dX1_takeBack_4 rfl 0 rfl ?_
  refine gH_latest C fl1_21 dX1_takeBack_5 ?_
  refine z_iald C 2 (f := h0.1 2) rfl hin dX1_takeBack_8 ?_
  refine z_istore_n (lv1 := [(2, .int (kAct h0)), (0, .ref (ha 0)), (1, .ref (bd 0 0))]) C dX1_takeBack_9 rfl (by decide) rfl ?_
  refine z_aload_n C dX1_takeBack_10 rfl 1 rfl ?_
  refine gH_before C fl1_11 dX1_takeBack_11 ?_
  refine z_aload_n C dX1_takeBack_14 rfl 1 rfl ?_
  refine gH_latest C fl1_21 dX1_takeBack_15 ?_
  refine z_aald C 1 3 (f := fun i => aO (sl i)) rfl rfl hin dX1_takeBack_18 ?_
  show zJ _ _ _ _ _ _ _ _ _ _ _ _ _ _ _ _ _ _ _ [va_rf (aO (sl (zn (h0.1 3 0))))]
  cases hq : sl (zn (h0.1 3 0)) with
  | none =>
    refine z_ifnullN C dX1_takeBack_19 (tgt := 35) (by decide) ?_
    exact b_X1_takeBack_35 C hr ha bd h0 sl v (kAct h0) Q (hn hq)
  | some q =>
    refine z_ifnull (x := q.1 0 0) C dX1_takeBack_19 ?_
    refine z_aload_n C dX1_takeBack_22 rfl 2 rfl ?_
    refine z_aload_n C dX1_takeBack_23 rfl 1 rfl ?_
    refine gH_before C fl1_11 dX1_takeBack_24 ?_
    refine z_aload_n C dX1_takeBack_27 rfl 1 rfl ?_
    refine gH_latest C fl1_21 dX1_takeBack_28 ?_
    refine z_aald C 1 3 (f := fun i => aO (sl i)) rfl rfl hin dX1_takeBack_31 ?_
    show zJ _ _ _ _ _ _ _ _ _ _ _ _ _ _ _ _ _ _ _ [va_rf (aO (sl (zn (h0.1 3 0)))), .ref (bd 0 0)]
    rw [hq]
    have hp : ∀ v1 : Nat → RS, (wH g ha h0 sl ++ (wS g bd v1 ++ wL g sl 8)).Perm (wH g ha h0 sl ++ ((wS g bd v1 ++ wS g q.1 q.2) ++ wL g (va_up sl (zn (h0.1 3 0)) none) 8)) := by
      intro v1
      refine List.Perm.append_left _ ?_
      rw [List.append_assoc]
      refine List.Perm.append_left _ ?_
      have := wL_at g sl (zn (h0.1 3 0)) 8 hj
      rw [hq] at this
      exact this
    refine z_perm (hp v) ?_
    refine z_Vv (As := [.ref (q.1 0 0)]) C (wH g ha h0 sl) (wS g bd v ++ wS g q.1 q.2) (wL g (va_up sl (zn (h0.1 3 0)) none) 8) rfl (c_X5_become l g bd q.1 q.2 v _ (hs q hq)) v_X5_become ml1_38 5 (q := (RX5, TX5, 8)) rfl rfl 0 rfl ⟨Nat.le_of_ble_eq_true rfl, Nat.le_of_ble_eq_true rfl⟩ ⟨Nat.le_refl _, Nat.le_refl _⟩ (Nat.le_of_ble_eq_true rfl) rfl dX1_takeBack_32 (fun v1 h => ?_)
    refine z_perm (hp v1).symm ?_
    exact b_X1_takeBack_35 C hr ha bd h0 sl v1 (kAct h0) Q h

