-- leaf classes: worlds, rows; more rows of the base
section ZM
variable {p : Program} {l : Launch} {e : Env} {R : Room} {s : State} {m : MethodId} {args : Array Value} {below : List Frame} {meth : Method} {c : Code} {g : zG} {A : Nat → Prop} {nL : Nat} {Q : State → Prop} {ws : va_W} {k n pc : Nat} {lv : List (Nat × Value)} {st st0 : List Value} {cc : ByteArray} {own : String}
abbrev zmin (x y : Int32) : Int32 := if y < x then y else x
abbrev zmax (x y : Int32) : Int32 := if x < y then y else x
theorem wMs : Cond.static Lib.Math.min.name ∈ zW := zW_at 346 (by decide +kernel) rfl
theorem wMc : Cond.code Lib.Math.min.name Lib.Math.min.code 2 (some .int) ∈ zW := zW_at 347 (by decide +kernel) rfl
theorem wXs : Cond.static Lib.Math.max.name ∈ zW := zW_at 616 (by decide +kernel) rfl
theorem wXc : Cond.code Lib.Math.max.name Lib.Math.max.code 2 (some .int) ∈ zW := zW_at 617 (by decide +kernel) rfl
theorem wMi : Cond.initialized "java/lang/Math" ∈ zW := zW_at 65 (by decide +kernel) rfl
theorem wSi : Cond.initialized "java/lang/System" ∈ zW := zW_at 64 (by decide +kernel) rfl
theorem wAn : Cond.native arraycopyName ∈ zW := zW_at 323 (by decide +kernel) rfl
theorem wAs : Cond.static arraycopyName ∈ zW := zW_at 322 (by decide +kernel) rfl
theorem z_mmin (C : zC p s m args meth c g A cc own nL) {index : Nat} {x y : Int32} (hlk : Cond.methodLink own index Lib.Math.min.name ∈ zW) (hf : 1 ≤ R.frames) (hlo : (st.map fun v => v.category).sum + 13 ≤ R.locals) (hcap : k ≤ R.cells ∧ n ≤ R.slots) (hd : decode cc pc = .ok (.invokestatic index, 3)) (h : zJ p l e R s m args below meth c g A nL Q ws k n (pc + 3) lv (.int (zmin x y) :: st)) : zJ p l e R s m args below meth c g A nL Q ws k n pc lv (.int y :: .int x :: st) :=
  fun H locs ls hP hD hS hl => va_mmin C.1 C.2.1 (C.2.2.1.trans hl.1.symm) C.2.2.2.1 (C.2.2.2.2.1 _ hlk) (C.2.2.2.2.1 _ wMs) (C.2.2.2.2.1 _ wMi) (C.2.2.2.2.1 _ wMc) hf hlo hcap.1 hcap.2 hd (h H locs ls hP hD hS hl)
theorem z_mmax (C : zC p s m args meth c g A cc own nL) {index : Nat} {x y : Int32} (hlk : Cond.methodLink own index Lib.Math.max.name ∈ zW) (hf : 1 ≤ R.frames) (hlo : (st.map fun v => v.category).sum + 13 ≤ R.locals) (hcap : k ≤ R.cells ∧ n ≤ R.slots) (hd : decode cc pc = .ok (.invokestatic index, 3)) (h : zJ p l e R s m args below meth c g A nL Q ws k n (pc + 3) lv (.int (zmax x y) :: st)) : zJ p l e R s m args below meth c g A nL Q ws k n pc lv (.int y :: .int x :: st) :=
  fun H locs ls hP hD hS hl => va_mmax C.1 C.2.1 (C.2.2.1.trans hl.1.symm) C.2.2.2.1 (C.2.2.2.2.1 _ hlk) (C.2.2.2.2.1 _ wXs) (C.2.2.2.2.1 _ wMi) (C.2.2.2.2.1 _ wXc) hf hlo hcap.1 hcap.2 hd (h H locs ls hP hD hS hl)
/-- arraycopy of ints, of longs: what it asks -/
def zcp (sp dp n : Int32) (n0 n1 : Nat) : Prop := ¬ sp < 0 ∧ ¬ dp < 0 ∧ ¬ n < 0 ∧ zn sp + zn n ≤ n0 ∧ zn dp + zn n ≤ n1
theorem z_copyi (C : zC p s m args meth c g A cc own nL) {index : Nat} (hlk : Cond.methodLink own index arraycopyName ∈ zW) (q0 q1 : Nat) {a0 a n0 n1 : Nat} {f f1 : Nat → Int32} (ha0 : ws[q0]? = some (a0, .inl (g.2.1 0, n0, .inl f))) (ha1 : ws[q1]? = some (a, .inl (g.2.1 0, n1, .inl f1))) {sp dp z : Int32} (hz : zcp sp dp z n0 n1) (hf : 1 ≤ R.frames) (hlo : (st.map fun v => v.category).sum + 18 ≤ R.locals) (hd : decode cc pc = .ok (.invokestatic index, 3)) {ws1 : va_W} (hw : ws.set q1 (a, .inl (g.2.1 0, n1, .inl (va_cpy f f1 (zn sp) (zn dp) (zn z)))) = ws1) (h : zJ p l e R s m args below meth c g A nL Q ws1 k n (pc + 3) lv st) : zJ p l e R s m args below meth c g A nL Q ws k n pc lv (.int z :: .int dp :: .ref a :: .int sp :: .ref a0 :: st) :=
  fun H locs ls hP hD hS hl => va_copyi C.1 C.2.1 (C.2.2.1.trans hl.1.symm) C.2.2.2.1 (C.2.2.2.2.1 _ hlk) (C.2.2.2.2.1 _ wAn) (C.2.2.2.2.1 _ wAs) (C.2.2.2.2.1 _ wSi) C.2.2.2.2.2.1 hP hD hS q0 q1 0 0 ha0 ha1 rfl rfl rfl hz.1 hz.2.1 hz.2.2.1 hz.2.2.2.1 hz.2.2.2.2 (fun i _ => rfl) hf (by rw [show nativeFrameWords "java/lang/System" "arraycopy" 5 = 7 by decide]; exact hlo) hd (fun H1 locs1 hP1 hD1 hS1 => h H1 locs1 ls (hw ▸ hP1) (hw ▸ hD1) hS1 hl)
theorem z_copyl (C : zC p s m args meth c g A cc own nL) {index : Nat} (hlk : Cond.methodLink own index arraycopyName ∈ zW) (q0 q1 : Nat) {a0 a n0 n1 : Nat} {f f1 : Nat → Int64} (ha0 : ws[q0]? = some (a0, .inl (g.2.1 1, n0, .inr (.inl f)))) (ha1 : ws[q1]? = some (a, .inl (g.2.1 1, n1, .inr (.inl f1)))) {sp dp z : Int32} (hz : zcp sp dp z n0 n1) (hf : 1 ≤ R.frames) (hlo : (st.map fun v => v.category).sum + 18 ≤ R.locals) (hd : decode cc pc = .ok (.invokestatic index, 3)) {ws1 : va_W} (hw : ws.set q1 (a, .inl (g.2.1 1, n1, .inr (.inl (va_cpy f f1 (zn sp) (zn dp) (zn z))))) = ws1) (h : zJ p l e R s m args below meth c g A nL Q ws1 k n (pc + 3) lv st) : zJ p l e R s m args below meth c g A nL Q ws k n pc lv (.int z :: .int dp :: .ref a :: .int sp :: .ref a0 :: st) :=
  fun H locs ls hP hD hS hl => va_copyl C.1 C.2.1 (C.2.2.1.trans hl.1.symm) C.2.2.2.1 (C.2.2.2.2.1 _ hlk) (C.2.2.2.2.1 _ wAn) (C.2.2.2.2.1 _ wAs) (C.2.2.2.2.1 _ wSi) C.2.2.2.2.2.1 hP hD hS q0 q1 1 1 ha0 ha1 rfl rfl rfl hz.1 hz.2.1 hz.2.2.1 hz.2.2.2.1 hz.2.2.2.2 (fun i _ => rfl) hf (by rw [show nativeFrameWords "java/lang/System" "arraycopy" 5 = 7 by decide]; exact hlo) hd (fun H1 locs1 hP1 hD1 hS1 => h H1 locs1 ls (hw ▸ hP1) (hw ▸ hD1) hS1 hl)
theorem z_ldcw (C : zC p s m args meth c g A cc own nL) {index : Nat} {v : Int32} (hd : decode cc pc = .ok (.ldc_w index, 3)) (hw : Cond.constant own index v ∈ zW) (h : zJ p l e R s m args below meth c g A nL Q ws k n (pc + 3) lv (.int v :: st)) : zJ p l e R s m args below meth c g A nL Q ws k n pc lv st :=
  fun H locs ls hP hD hS hl => lv_ldcw C.1 C.2.1 C.2.2.2.1 (C.2.2.2.2.1 _ hw) hd (h H locs ls hP hD hS hl)
/-- a nest mate's private static method, that needs no world -/
theorem cNi (C : zC p s m args meth c g A cc own nL) {y : MethodName} {cc1 : ByteArray} {n1 k1 index : Nat} {ret : Option FieldType} {host : String} {As : List Value} {post : Int32 → Prop} (hM : zMi l y cc1 n1 ret k1 0 0 g As [] (fun _ : Unit => []) (fun r _ => post r)) (hv : zSt y cc1 n1 ret As.length) (hlk : Cond.methodLinkNest own index y host ∈ zNest)
    (hR : k1 + 1 ≤ R.frames ∧ 8 + (n1 + 11) + 40 * k1 ≤ R.locals) (hcap : k ≤ R.cells ∧ n ≤ R.slots) (hroom : (st.map fun v => v.category).sum ≤ 8) (hst : st0 = As.reverse ++ st) (hd : decode cc pc = .ok (.invokestatic index, 3))
    (h : ∀ (r : Int32), post r → zJ p l e R s m args below meth c g A nL Q ws k n (pc + 3) lv (.int r :: st)) : zJ p l e R s m args below meth c g A nL Q ws k n pc lv st0 := by
  intro H locs ls hP hD hS hl
  have hts := C.2.2.2.2.1
  have hN := C.2.2.2.2.2.2.2.1.2.2.2.2.2.2 _ hlk
  have hF : ∀ q, va_A [] H.size q → A q := by
    intro q hq
    rcases hq with ⟨i, e1, hq⟩ | hq
    · simp at hq
    · exact C.2.2.2.2.2.2.1 q (Nat.le_trans hS.1 hq)
  have hD0 : va_D (fun _ => True) ([] : va_W) := ⟨fun i j p q hh => by simp at hh, fun k q hh => by simp at hh⟩
  refine va_calli (va_runSN (host := host) (As := As) (rest := st) ⟨C.1, C.2.1, C.2.2.1, C.2.2.2.1, hts⟩ (hM H.size) ⟨va_cnB As.length hts (zgood hv.1) rfl rfl rfl hN (hts _ hv.2.2.1) hv.2.2.2 hR, hts _ hv.2.1, trivial⟩ ⟨zB.blind, fun U hU hW => ⟨rfl, by rw [hU], fun k q hh => by simp at hh, va_K.moved hW.alike C.2.2.2.2.2.1, hD0, by rw [hU]; exact C.2.2.2.2.2.2.2.1.go hW hS.2.1 hF⟩⟩ rfl rfl hl.1 hst (lv_room hroom) hd hcap) hS (fun q _ hh => hF q hh) hF (fun r u t H1 locs1 ht hvm hw hB hz1 hk1 hS1 => ?_)
  refine h r hw H1 locs1 ls (hP.kept (fun k q hk => hk1 q.1 (hP k q hk).lt (fun z => ?_))) hD hS1 hl
  rcases z with ⟨i, e1, z⟩ | z
  · simp at z
  · have := (hP k q hk).lt
    omega
end ZM

set_option maxRecDepth 20000 in
theorem inX0 : ∀ w ∈ u_ws RX0 TX0 2, w ∈ zW := by
  intro w hw
  have hp : u_ws RX0 TX0 2 = ([106, 108] : List Nat).filterMap (fun i => lw_tbl[i]?) := by decide +kernel
  have hg : (u_ws RX0 TX0 2).all goodWord = true := by decide +kernel
  have h1 := List.all_eq_true.mp hg w hw
  rw [hp] at hw
  obtain ⟨i, -, hi⟩ := List.mem_filterMap.mp hw
  exact zW_at i hi h1
set_option maxRecDepth 20000 in
theorem inX1 : ∀ w ∈ u_ws RX1 TX1 4, w ∈ zW := by
  intro w hw
  have hp : u_ws RX1 TX1 4 = ([260, 262, 264, 266] : List Nat).filterMap (fun i => lw_tbl[i]?) := by decide +kernel
  have hg : (u_ws RX1 TX1 4).all goodWord = true := by decide +kernel
  have h1 := List.all_eq_true.mp hg w hw
  rw [hp] at hw
  obtain ⟨i, -, hi⟩ := List.mem_filterMap.mp hw
  exact zW_at i hi h1
set_option maxRecDepth 20000 in
theorem inX2 : ∀ w ∈ u_ws RX2 TX2 2, w ∈ zW := by
  intro w hw
  have hp : u_ws RX2 TX2 2 = ([90, 92] : List Nat).filterMap (fun i => lw_tbl[i]?) := by decide +kernel
  have hg : (u_ws RX2 TX2 2).all goodWord = true := by decide +kernel
  have h1 := List.all_eq_true.mp hg w hw
  rw [hp] at hw
  obtain ⟨i, -, hi⟩ := List.mem_filterMap.mp hw
  exact zW_at i hi h1
set_option maxRecDepth 20000 in
theorem inX3 : ∀ w ∈ u_ws RX3 TX3 9, w ∈ zW := by
  intro w hw
  have hp : u_ws RX3 TX3 9 = ([195, 197, 199, 201, 203, 205, 207, 209, 211] : List Nat).filterMap (fun i => lw_tbl[i]?) := by decide +kernel
  have hg : (u_ws RX3 TX3 9).all goodWord = true := by decide +kernel
  have h1 := List.all_eq_true.mp hg w hw
  rw [hp] at hw
  obtain ⟨i, -, hi⟩ := List.mem_filterMap.mp hw
  exact zW_at i hi h1
set_option maxRecDepth 20000 in
theorem inX4 : ∀ w ∈ u_ws RX4 TX4 7, w ∈ zW := by
  intro w hw
  have hp : u_ws RX4 TX4 7 = ([151, 153, 155, 157, 159, 161, 163] : List Nat).filterMap (fun i => lw_tbl[i]?) := by decide +kernel
  have hg : (u_ws RX4 TX4 7).all goodWord = true := by decide +kernel
  have h1 := List.all_eq_true.mp hg w hw
  rw [hp] at hw
  obtain ⟨i, -, hi⟩ := List.mem_filterMap.mp hw
  exact zW_at i hi h1
set_option maxRecDepth 20000 in
theorem inX5 : ∀ w ∈ u_ws RX5 TX5 8, w ∈ zW := by
  intro w hw
  have hp : u_ws RX5 TX5 8 = ([230, 232, 234, 236, 238, 240, 242, 244] : List Nat).filterMap (fun i => lw_tbl[i]?) := by decide +kernel
  have hg : (u_ws RX5 TX5 8).all goodWord = true := by decide +kernel
  have h1 := List.all_eq_true.mp hg w hw
  rw [hp] at hw
  obtain ⟨i, -, hi⟩ := List.mem_filterMap.mp hw
  exact zW_at i hi h1
set_option maxRecDepth 20000 in
theorem inX6 : ∀ w ∈ u_ws RX6 TX6 4, w ∈ zW := by
  intro w hw
  have hp : u_ws RX6 TX6 4 = ([125, 127, 129, 131] : List Nat).filterMap (fun i => lw_tbl[i]?) := by decide +kernel
  have hg : (u_ws RX6 TX6 4).all goodWord = true := by decide +kernel
  have h1 := List.all_eq_true.mp hg w hw
  rw [hp] at hw
  obtain ⟨i, -, hi⟩ := List.mem_filterMap.mp hw
  exact zW_at i hi h1
set_option maxRecDepth 20000 in
theorem inX7 : ∀ w ∈ u_ws RX7 TX7 7, w ∈ zW := by
  intro w hw
  have hp : u_ws RX7 TX7 7 = ([276, 278, 280, 282, 284, 286, 288] : List Nat).filterMap (fun i => lw_tbl[i]?) := by decide +kernel
  have hg : (u_ws RX7 TX7 7).all goodWord = true := by decide +kernel
  have h1 := List.all_eq_true.mp hg w hw
  rw [hp] at hw
  obtain ⟨i, -, hi⟩ := List.mem_filterMap.mp hw
  exact zW_at i hi h1
theorem fl0_15 : Cond.fieldLink RX0 15 "RxQueues$Flows" "number" "I" ∈ zW := zW_at 103 (by decide +kernel) rfl
theorem fl0_11 : Cond.fieldLink RX0 11 "RxQueues$Flows" "cells" "[I" ∈ zW := zW_at 105 (by decide +kernel) rfl
theorem fl2_9 : Cond.fieldLink RX2 9 "RxQueues$Key" "counting" "I" ∈ zW := zW_at 87 (by decide +kernel) rfl
theorem fl2_15 : Cond.fieldLink RX2 15 "RxQueues$Key" "windows" "[I" ∈ zW := zW_at 89 (by decide +kernel) rfl
theorem fl3_22 : Cond.fieldLink RX3 22 "RxQueues$Queue" "number" "I" ∈ zW := zW_at 181 (by decide +kernel) rfl
theorem fl3_25 : Cond.fieldLink RX3 25 "RxQueues$Queue" "calls" "I" ∈ zW := zW_at 184 (by decide +kernel) rfl
theorem fl3_28 : Cond.fieldLink RX3 28 "RxQueues$Queue" "lost" "I" ∈ zW := zW_at 187 (by decide +kernel) rfl
theorem fl3_9 : Cond.fieldLink RX3 9 "RxQueues$Queue" "delay" "I" ∈ zW := zW_at 189 (by decide +kernel) rfl
theorem fl3_15 : Cond.fieldLink RX3 15 "RxQueues$Queue" "since" "I" ∈ zW := zW_at 190 (by decide +kernel) rfl
theorem fl3_31 : Cond.fieldLink RX3 31 "RxQueues$Queue" "taken" "I" ∈ zW := zW_at 191 (by decide +kernel) rfl
theorem fl3_34 : Cond.fieldLink RX3 34 "RxQueues$Queue" "pace" "I" ∈ zW := zW_at 192 (by decide +kernel) rfl
theorem fl3_37 : Cond.fieldLink RX3 37 "RxQueues$Queue" "fresh" "I" ∈ zW := zW_at 193 (by decide +kernel) rfl
theorem fl3_18 : Cond.fieldLink RX3 18 "RxQueues$Queue" "cells" "[I" ∈ zW := zW_at 194 (by decide +kernel) rfl
theorem fl4_28 : Cond.fieldLink RX4 28 "RxQueues$Segments" "kept" "I" ∈ zW := zW_at 142 (by decide +kernel) rfl
theorem fl4_11 : Cond.fieldLink RX4 11 "RxQueues$Segments" "totals" "[J" ∈ zW := zW_at 144 (by decide +kernel) rfl
theorem fl4_32 : Cond.fieldLink RX4 32 "RxQueues$Segments" "latest" "I" ∈ zW := zW_at 146 (by decide +kernel) rfl
theorem fl4_15 : Cond.fieldLink RX4 15 "RxQueues$Segments" "last" "[I" ∈ zW := zW_at 147 (by decide +kernel) rfl
theorem fl4_19 : Cond.fieldLink RX4 19 "RxQueues$Segments" "place" "[I" ∈ zW := zW_at 148 (by decide +kernel) rfl
theorem fl4_22 : Cond.fieldLink RX4 22 "RxQueues$Segments" "size" "[I" ∈ zW := zW_at 149 (by decide +kernel) rfl
theorem fl4_25 : Cond.fieldLink RX4 25 "RxQueues$Segments" "packets" "[I" ∈ zW := zW_at 150 (by decide +kernel) rfl
theorem fl6_9 : Cond.fieldLink RX6 9 "RxQueues$Table" "queueOf" "[I" ∈ zW := zW_at 117 (by decide +kernel) rfl
theorem fl6_15 : Cond.fieldLink RX6 15 "RxQueues$Table" "hits" "[I" ∈ zW := zW_at 120 (by decide +kernel) rfl
theorem fl6_18 : Cond.fieldLink RX6 18 "RxQueues$Table" "order" "[I" ∈ zW := zW_at 123 (by decide +kernel) rfl
theorem fl6_21 : Cond.fieldLink RX6 21 "RxQueues$Table" "sums" "[I" ∈ zW := zW_at 124 (by decide +kernel) rfl
def fX0 (ad : Nat → Nat) (u : RS) : List Value := [.int (u.1 0 0), .ref (ad 1)]
def wX0 (g : zG) (ad : Nat → Nat) (u : RS) : va_W := [(ad 0, .inr (0, fX0 ad u)), (ad 1, .inl (g.2.1 0, 480, .inl (u.1 1)))]
section ZX0
variable {p : Program} {l : Launch} {e : Env} {R : Room} {s : State} {m : MethodId} {args : Array Value} {below : List Frame} {meth : Method} {c : Code} {g : zG} {A : Nat → Prop} {nL : Nat} {Q : State → Prop} {k n pc : Nat} {lv : List (Nat × Value)} {st st0 : List Value} {cc : ByteArray} {ad : Nat → Nat} {u : RS}
theorem g0_number (C : zC p s m args meth c g A cc RX0 nL) (hd : decode cc pc = .ok (.getfield 15, 3)) (h : zJ p l e R s m args below meth c g A nL Q (wX0 g ad u) k n (pc + 3) lv (.int (u.1 0 0) :: st)) : zJ p l e R s m args below meth c g A nL Q (wX0 g ad u) k n pc lv (.ref (ad 0) :: st) :=
  z_get (T := TX0) (N := 2) C inX0 (ci := 0) rfl 0 (by decide) fl0_15 0 rfl rfl hd h
theorem p0_number (C : zC p s m args meth c g A cc RX0 nL) {x : Int32} (hd : decode cc pc = .ok (.putfield 15, 3)) (h : zJ p l e R s m args below meth c g A nL Q (wX0 g ad (rN u 0 x)) k n (pc + 3) lv st) : zJ p l e R s m args below meth c g A nL Q (wX0 g ad u) k n pc lv (.int x :: .ref (ad 0) :: st) :=
  z_puti (T := TX0) (N := 2) C inX0 tyX0 tyX0_ok nmX0 (ci := 0) rfl 0 (by decide) fl0_15 rfl (by decide +kernel) 0 (fs := fX0 ad u) rfl (Nat.le_of_ble_eq_true rfl) hd (ws1 := wX0 g ad (rN u 0 x)) rfl h
theorem g0_cells (C : zC p s m args meth c g A cc RX0 nL) (hd : decode cc pc = .ok (.getfield 11, 3)) (h : zJ p l e R s m args below meth c g A nL Q (wX0 g ad u) k n (pc + 3) lv (.ref (ad 1) :: st)) : zJ p l e R s m args below meth c g A nL Q (wX0 g ad u) k n pc lv (.ref (ad 0) :: st) :=
  z_get (T := TX0) (N := 2) C inX0 (ci := 0) rfl 1 (by decide) fl0_11 0 rfl rfl hd h
theorem l0_cells (C : zC p s m args meth c g A cc RX0 nL) {x : Int32} (hin : vp_in x 480) (hd : decode cc pc = .ok (.iaload, 1)) (h : zJ p l e R s m args below meth c g A nL Q (wX0 g ad u) k n (pc + 1) lv (.int (u.1 1 (zn x)) :: st)) : zJ p l e R s m args below meth c g A nL Q (wX0 g ad u) k n pc lv (.int x :: .ref (ad 1) :: st) :=
  z_iald C 1 rfl hin hd h
theorem s0_cells (C : zC p s m args meth c g A cc RX0 nL) {x : Int32} {v : Int32} (hin : vp_in x 480) (hd : decode cc pc = .ok (.iastore, 1)) (h : zJ p l e R s m args below meth c g A nL Q (wX0 g ad (rI u 1 (upd (u.1 1) (zn x) v))) k n (pc + 1) lv st) : zJ p l e R s m args below meth c g A nL Q (wX0 g ad u) k n pc lv (.int v :: .int x :: .ref (ad 1) :: st) :=
  z_iast C 1 rfl hin hd rfl h
theorem ln0_cells (C : zC p s m args meth c g A cc RX0 nL) {x : Int32} (j : Nat) (hj : zn x = j) (hin : vp_in x 480) (hd : decode cc pc = .ok (.iaload, 1)) (h : zJ p l e R s m args below meth c g A nL Q (wX0 g ad u) k n (pc + 1) lv (.int (u.1 1 j) :: st)) : zJ p l e R s m args below meth c g A nL Q (wX0 g ad u) k n pc lv (.int x :: .ref (ad 1) :: st) := by
  subst hj
  exact l0_cells C hin hd h
theorem sn0_cells (C : zC p s m args meth c g A cc RX0 nL) {x : Int32} {v : Int32} (j : Nat) (hj : zn x = j) (hin : vp_in x 480) (hd : decode cc pc = .ok (.iastore, 1)) (h : zJ p l e R s m args below meth c g A nL Q (wX0 g ad (rI u 1 (upd (u.1 1) j v))) k n (pc + 1) lv st) : zJ p l e R s m args below meth c g A nL Q (wX0 g ad u) k n pc lv (.int v :: .int x :: .ref (ad 1) :: st) := by
  subst hj
  exact s0_cells C hin hd h
theorem sT0 {u0 : RS} (h : ∀ u : RS, u = u0 → zJ p l e R s m args below meth c g A nL Q (wX0 g ad u) k n pc lv st) : zJ p l e R s m args below meth c g A nL Q (wX0 g ad u0) k n pc lv st := h u0 rfl
theorem c0i (C : zC p s m args meth c g A cc RX0 nL) {y : MethodName} {cc1 : ByteArray} {n1 k1 index : Nat} {ret : Option FieldType} {As : List Value} {post : Int32 → RS → Prop} (hM : zMi l y cc1 n1 ret k1 0 0 g (.ref (ad 0) :: As) (wX0 g ad u) (wX0 g ad) post) (hv : zV y cc1 n1 ret As.length) (hlk : Cond.methodLink RX0 index y ∈ zW) (hq : RX0 = y.cls)
    (hR : k1 + 1 ≤ R.frames ∧ 8 + (n1 + 11) + 40 * k1 ≤ R.locals) (hcap : k ≤ R.cells ∧ n ≤ R.slots) (hroom : (st.map fun v => v.category).sum ≤ 8) (hst : st0 = As.reverse ++ .ref (ad 0) :: st) (hd : decode cc pc = .ok (.invokevirtual index, 3))
    (h : ∀ (r : Int32) (u1 : RS), post r u1 → zJ p l e R s m args below meth c g A nL Q (wX0 g ad u1) k n (pc + 3) lv (.int r :: st)) : zJ p l e R s m args below meth c g A nL Q (wX0 g ad u) k n pc lv st0 :=
  z_Vi C [] (wX0 g ad u) [] (by simp) hM hv hlk 0 (q := (RX0, TX0, 2)) rfl hq 0 rfl hR hcap hroom hst hd (fun r u1 hw => z_ws (ws1 := wX0 g ad u1) (by simp) (h r u1 hw))
theorem c0v (C : zC p s m args meth c g A cc RX0 nL) {y : MethodName} {cc1 : ByteArray} {n1 k1 index : Nat} {ret : Option FieldType} {As : List Value} {post : RS → Prop} (hM : zMv l y cc1 n1 ret k1 0 0 g (.ref (ad 0) :: As) (wX0 g ad u) (wX0 g ad) post) (hv : zV y cc1 n1 ret As.length) (hlk : Cond.methodLink RX0 index y ∈ zW) (hq : RX0 = y.cls)
    (hR : k1 + 1 ≤ R.frames ∧ 8 + (n1 + 11) + 40 * k1 ≤ R.locals) (hcap : k ≤ R.cells ∧ n ≤ R.slots) (hroom : (st.map fun v => v.category).sum ≤ 8) (hst : st0 = As.reverse ++ .ref (ad 0) :: st) (hd : decode cc pc = .ok (.invokevirtual index, 3))
    (h : ∀ (u1 : RS), post u1 → zJ p l e R s m args below meth c g A nL Q (wX0 g ad u1) k n (pc + 3) lv (st)) : zJ p l e R s m args below meth c g A nL Q (wX0 g ad u) k n pc lv st0 :=
  z_Vv C [] (wX0 g ad u) [] (by simp) hM hv hlk 0 (q := (RX0, TX0, 2)) rfl hq 0 rfl hR hcap hroom hst hd (fun u1 hw => z_ws (ws1 := wX0 g ad u1) (by simp) (h u1 hw))
end ZX0
def fX2 (ad : Nat → Nat) (u : RS) : List Value := [.int (u.1 0 0), .ref (ad 1)]
def wX2 (g : zG) (ad : Nat → Nat) (u : RS) : va_W := [(ad 0, .inr (2, fX2 ad u)), (ad 1, .inl (g.2.1 0, 41, .inl (u.1 1)))]
section ZX2
variable {p : Program} {l : Launch} {e : Env} {R : Room} {s : State} {m : MethodId} {args : Array Value} {below : List Frame} {meth : Method} {c : Code} {g : zG} {A : Nat → Prop} {nL : Nat} {Q : State → Prop} {k n pc : Nat} {lv : List (Nat × Value)} {st st0 : List Value} {cc : ByteArray} {ad : Nat → Nat} {u : RS}
theorem g2_counting (C : zC p s m args meth c g A cc RX2 nL) (hd : decode cc pc = .ok (.getfield 9, 3)) (h : zJ p l e R s m args below meth c g A nL Q (wX2 g ad u) k n (pc + 3) lv (.int (u.1 0 0) :: st)) : zJ p l e R s m args below meth c g A nL Q (wX2 g ad u) k n pc lv (.ref (ad 0) :: st) :=
  z_get (T := TX2) (N := 2) C inX2 (ci := 2) rfl 0 (by decide) fl2_9 0 rfl rfl hd h
theorem p2_counting (C : zC p s m args meth c g A cc RX2 nL) {x : Int32} (hd : decode cc pc = .ok (.putfield 9, 3)) (h : zJ p l e R s m args below meth c g A nL Q (wX2 g ad (rN u 0 x)) k n (pc + 3) lv st) : zJ p l e R s m args below meth c g A nL Q (wX2 g ad u) k n pc lv (.int x :: .ref (ad 0) :: st) :=
  z_puti (T := TX2) (N := 2) C inX2 tyX2 tyX2_ok nmX2 (ci := 2) rfl 0 (by decide) fl2_9 rfl (by decide +kernel) 0 (fs := fX2 ad u) rfl (Nat.le_of_ble_eq_true rfl) hd (ws1 := wX2 g ad (rN u 0 x)) rfl h
theorem g2_windows (C : zC p s m args meth c g A cc RX2 nL) (hd : decode cc pc = .ok (.getfield 15, 3)) (h : zJ p l e R s m args below meth c g A nL Q (wX2 g ad u) k n (pc + 3) lv (.ref (ad 1) :: st)) : zJ p l e R s m args below meth c g A nL Q (wX2 g ad u) k n pc lv (.ref (ad 0) :: st) :=
  z_get (T := TX2) (N := 2) C inX2 (ci := 2) rfl 1 (by decide) fl2_15 0 rfl rfl hd h
theorem l2_windows (C : zC p s m args meth c g A cc RX2 nL) {x : Int32} (hin : vp_in x 41) (hd : decode cc pc = .ok (.iaload, 1)) (h : zJ p l e R s m args below meth c g A nL Q (wX2 g ad u) k n (pc + 1) lv (.int (u.1 1 (zn x)) :: st)) : zJ p l e R s m args below meth c g A nL Q (wX2 g ad u) k n pc lv (.int x :: .ref (ad 1) :: st) :=
  z_iald C 1 rfl hin hd h
theorem s2_windows (C : zC p s m args meth c g A cc RX2 nL) {x : Int32} {v : Int32} (hin : vp_in x 41) (hd : decode cc pc = .ok (.iastore, 1)) (h : zJ p l e R s m args below meth c g A nL Q (wX2 g ad (rI u 1 (upd (u.1 1) (zn x) v))) k n (pc + 1) lv st) : zJ p l e R s m args below meth c g A nL Q (wX2 g ad u) k n pc lv (.int v :: .int x :: .ref (ad 1) :: st) :=
  z_iast C 1 rfl hin hd rfl h
theorem ln2_windows (C : zC p s m args meth c g A cc RX2 nL) {x : Int32} (j : Nat) (hj : zn x = j) (hin : vp_in x 41) (hd : decode cc pc = .ok (.iaload, 1)) (h : zJ p l e R s m args below meth c g A nL Q (wX2 g ad u) k n (pc + 1) lv (.int (u.1 1 j) :: st)) : zJ p l e R s m args below meth c g A nL Q (wX2 g ad u) k n pc lv (.int x :: .ref (ad 1) :: st) := by
  subst hj
  exact l2_windows C hin hd h
theorem sn2_windows (C : zC p s m args meth c g A cc RX2 nL) {x : Int32} {v : Int32} (j : Nat) (hj : zn x = j) (hin : vp_in x 41) (hd : decode cc pc = .ok (.iastore, 1)) (h : zJ p l e R s m args below meth c g A nL Q (wX2 g ad (rI u 1 (upd (u.1 1) j v))) k n (pc + 1) lv st) : zJ p l e R s m args below meth c g A nL Q (wX2 g ad u) k n pc lv (.int v :: .int x :: .ref (ad 1) :: st) := by
  subst hj
  exact s2_windows C hin hd h
theorem sT2 {u0 : RS} (h : ∀ u : RS, u = u0 → zJ p l e R s m args below meth c g A nL Q (wX2 g ad u) k n pc lv st) : zJ p l e R s m args below meth c g A nL Q (wX2 g ad u0) k n pc lv st := h u0 rfl
theorem c2i (C : zC p s m args meth c g A cc RX2 nL) {y : MethodName} {cc1 : ByteArray} {n1 k1 index : Nat} {ret : Option FieldType} {As : List Value} {post : Int32 → RS → Prop} (hM : zMi l y cc1 n1 ret k1 0 0 g (.ref (ad 0) :: As) (wX2 g ad u) (wX2 g ad) post) (hv : zV y cc1 n1 ret As.length) (hlk : Cond.methodLink RX2 index y ∈ zW) (hq : RX2 = y.cls)
    (hR : k1 + 1 ≤ R.frames ∧ 8 + (n1 + 11) + 40 * k1 ≤ R.locals) (hcap : k ≤ R.cells ∧ n ≤ R.slots) (hroom : (st.map fun v => v.category).sum ≤ 8) (hst : st0 = As.reverse ++ .ref (ad 0) :: st) (hd : decode cc pc = .ok (.invokevirtual index, 3))
    (h : ∀ (r : Int32) (u1 : RS), post r u1 → zJ p l e R s m args below meth c g A nL Q (wX2 g ad u1) k n (pc + 3) lv (.int r :: st)) : zJ p l e R s m args below meth c g A nL Q (wX2 g ad u) k n pc lv st0 :=
  z_Vi C [] (wX2 g ad u) [] (by simp) hM hv hlk 2 (q := (RX2, TX2, 2)) rfl hq 0 rfl hR hcap hroom hst hd (fun r u1 hw => z_ws (ws1 := wX2 g ad u1) (by simp) (h r u1 hw))
theorem c2v (C : zC p s m args meth c g A cc RX2 nL) {y : MethodName} {cc1 : ByteArray} {n1 k1 index : Nat} {ret : Option FieldType} {As : List Value} {post : RS → Prop} (hM : zMv l y cc1 n1 ret k1 0 0 g (.ref (ad 0) :: As) (wX2 g ad u) (wX2 g ad) post) (hv : zV y cc1 n1 ret As.length) (hlk : Cond.methodLink RX2 index y ∈ zW) (hq : RX2 = y.cls)
    (hR : k1 + 1 ≤ R.frames ∧ 8 + (n1 + 11) + 40 * k1 ≤ R.locals) (hcap : k ≤ R.cells ∧ n ≤ R.slots) (hroom : (st.map fun v => v.category).sum ≤ 8) (hst : st0 = As.reverse ++ .ref (ad 0) :: st) (hd : decode cc pc = .ok (.invokevirtual index, 3))
    (h : ∀ (u1 : RS), post u1 → zJ p l e R s m args below meth c g A nL Q (wX2 g ad u1) k n (pc + 3) lv (st)) : zJ p l e R s m args below meth c g A nL Q (wX2 g ad u) k n pc lv st0 :=
  z_Vv C [] (wX2 g ad u) [] (by simp) hM hv hlk 2 (q := (RX2, TX2, 2)) rfl hq 0 rfl hR hcap hroom hst hd (fun u1 hw => z_ws (ws1 := wX2 g ad u1) (by simp) (h u1 hw))
end ZX2
def fX3 (ad : Nat → Nat) (u : RS) : List Value := [.int (u.1 0 0), .int (u.1 1 0), .int (u.1 2 0), .int (u.1 3 0), .int (u.1 4 0), .int (u.1 5 0), .int (u.1 6 0), .int (u.1 7 0), .ref (ad 1)]
def wX3 (g : zG) (ad : Nat → Nat) (u : RS) : va_W := [(ad 0, .inr (3, fX3 ad u)), (ad 1, .inl (g.2.1 0, 128, .inl (u.1 8)))]
section ZX3
variable {p : Program} {l : Launch} {e : Env} {R : Room} {s : State} {m : MethodId} {args : Array Value} {below : List Frame} {meth : Method} {c : Code} {g : zG} {A : Nat → Prop} {nL : Nat} {Q : State → Prop} {k n pc : Nat} {lv : List (Nat × Value)} {st st0 : List Value} {cc : ByteArray} {ad : Nat → Nat} {u : RS}
theorem g3_number (C : zC p s m args meth c g A cc RX3 nL) (hd : decode cc pc = .ok (.getfield 22, 3)) (h : zJ p l e R s m args below meth c g A nL Q (wX3 g ad u) k n (pc + 3) lv (.int (u.1 0 0) :: st)) : zJ p l e R s m args below meth c g A nL Q (wX3 g ad u) k n pc lv (.ref (ad 0) :: st) :=
  z_get (T := TX3) (N := 9) C inX3 (ci := 3) rfl 0 (by decide) fl3_22 0 rfl rfl hd h
theorem p3_number (C : zC p s m args meth c g A cc RX3 nL) {x : Int32} (hd : decode cc pc = .ok (.putfield 22, 3)) (h : zJ p l e R s m args below meth c g A nL Q (wX3 g ad (rN u 0 x)) k n (pc + 3) lv st) : zJ p l e R s m args below meth c g A nL Q (wX3 g ad u) k n pc lv (.int x :: .ref (ad 0) :: st) :=
  z_puti (T := TX3) (N := 9) C inX3 tyX3 tyX3_ok nmX3 (ci := 3) rfl 0 (by decide) fl3_22 rfl (by decide +kernel) 0 (fs := fX3 ad u) rfl (Nat.le_of_ble_eq_true rfl) hd (ws1 := wX3 g ad (rN u 0 x)) rfl h
theorem g3_calls (C : zC p s m args meth c g A cc RX3 nL) (hd : decode cc pc = .ok (.getfield 25, 3)) (h : zJ p l e R s m args below meth c g A nL Q (wX3 g ad u) k n (pc + 3) lv (.int (u.1 1 0) :: st)) : zJ p l e R s m args below meth c g A nL Q (wX3 g ad u) k n pc lv (.ref (ad 0) :: st) :=
  z_get (T := TX3) (N := 9) C inX3 (ci := 3) rfl 1 (by decide) fl3_25 0 rfl rfl hd h
theorem p3_calls (C : zC p s m args meth c g A cc RX3 nL) {x : Int32} (hd : decode cc pc = .ok (.putfield 25, 3)) (h : zJ p l e R s m args below meth c g A nL Q (wX3 g ad (rN u 1 x)) k n (pc + 3) lv st) : zJ p l e R s m args below meth c g A nL Q (wX3 g ad u) k n pc lv (.int x :: .ref (ad 0) :: st) :=
  z_puti (T := TX3) (N := 9) C inX3 tyX3 tyX3_ok nmX3 (ci := 3) rfl 1 (by decide) fl3_25 rfl (by decide +kernel) 0 (fs := fX3 ad u) rfl (Nat.le_of_ble_eq_true rfl) hd (ws1 := wX3 g ad (rN u 1 x)) rfl h
theorem g3_lost (C : zC p s m args meth c g A cc RX3 nL) (hd : decode cc pc = .ok (.getfield 28, 3)) (h : zJ p l e R s m args below meth c g A nL Q (wX3 g ad u) k n (pc + 3) lv (.int (u.1 2 0) :: st)) : zJ p l e R s m args below meth c g A nL Q (wX3 g ad u) k n pc lv (.ref (ad 0) :: st) :=
  z_get (T := TX3) (N := 9) C inX3 (ci := 3) rfl 2 (by decide) fl3_28 0 rfl rfl hd h
theorem p3_lost (C : zC p s m args meth c g A cc RX3 nL) {x : Int32} (hd : decode cc pc = .ok (.putfield 28, 3)) (h : zJ p l e R s m args below meth c g A nL Q (wX3 g ad (rN u 2 x)) k n (pc + 3) lv st) : zJ p l e R s m args below meth c g A nL Q (wX3 g ad u) k n pc lv (.int x :: .ref (ad 0) :: st) :=
  z_puti (T := TX3) (N := 9) C inX3 tyX3 tyX3_ok nmX3 (ci := 3) rfl 2 (by decide) fl3_28 rfl (by decide +kernel) 0 (fs := fX3 ad u) rfl (Nat.le_of_ble_eq_true rfl) hd (ws1 := wX3 g ad (rN u 2 x)) rfl h
theorem g3_delay (C : zC p s m args meth c g A cc RX3 nL) (hd : decode cc pc = .ok (.getfield 9, 3)) (h : zJ p l e R s m args below meth c g A nL Q (wX3 g ad u) k n (pc + 3) lv (.int (u.1 3 0) :: st)) : zJ p l e R s m args below meth c g A nL Q (wX3 g ad u) k n pc lv (.ref (ad 0) :: st) :=
  z_get (T := TX3) (N := 9) C inX3 (ci := 3) rfl 3 (by decide) fl3_9 0 rfl rfl hd h
theorem p3_delay (C : zC p s m args meth c g A cc RX3 nL) {x : Int32} (hd : decode cc pc = .ok (.putfield 9, 3)) (h : zJ p l e R s m args below meth c g A nL Q (wX3 g ad (rN u 3 x)) k n (pc + 3) lv st) : zJ p l e R s m args below meth c g A nL Q (wX3 g ad u) k n pc lv (.int x :: .ref (ad 0) :: st) :=
  z_puti (T := TX3) (N := 9) C inX3 tyX3 tyX3_ok nmX3 (ci := 3) rfl 3 (by decide) fl3_9 rfl (by decide +kernel) 0 (fs := fX3 ad u) rfl (Nat.le_of_ble_eq_true rfl) hd (ws1 := wX3 g ad (rN u 3 x)) rfl h
theorem g3_since (C : zC p s m args meth c g A cc RX3 nL) (hd : decode cc pc = .ok (.getfield 15, 3)) (h : zJ p l e R s m args below meth c g A nL Q (wX3 g ad u) k n (pc + 3) lv (.int (u.1 4 0) :: st)) : zJ p l e R s m args below meth c g A nL Q (wX3 g ad u) k n pc lv (.ref (ad 0) :: st) :=
  z_get (T := TX3) (N := 9) C inX3 (ci := 3) rfl 4 (by decide) fl3_15 0 rfl rfl hd h
theorem p3_since (C : zC p s m args meth c g A cc RX3 nL) {x : Int32} (hd : decode cc pc = .ok (.putfield 15, 3)) (h : zJ p l e R s m args below meth c g A nL Q (wX3 g ad (rN u 4 x)) k n (pc + 3) lv st) : zJ p l e R s m args below meth c g A nL Q (wX3 g ad u) k n pc lv (.int x :: .ref (ad 0) :: st) :=
  z_puti (T := TX3) (N := 9) C inX3 tyX3 tyX3_ok nmX3 (ci := 3) rfl 4 (by decide) fl3_15 rfl (by decide +kernel) 0 (fs := fX3 ad u) rfl (Nat.le_of_ble_eq_true rfl) hd (ws1 := wX3 g ad (rN u 4 x)) rfl h
theorem g3_taken (C : zC p s m args meth c g A cc RX3 nL) (hd : decode cc pc = .ok (.getfield 31, 3)) (h : zJ p l e R s m args below meth c g A nL Q (wX3 g ad u) k n (pc + 3) lv (.int (u.1 5 0) :: st)) : zJ p l e R s m args below meth c g A nL Q (wX3 g ad u) k n pc lv (.ref (ad 0) :: st) :=
  z_get (T := TX3) (N := 9) C inX3 (ci := 3) rfl 5 (by decide) fl3_31 0 rfl rfl hd h
theorem p3_taken (C : zC p s m args meth c g A cc RX3 nL) {x : Int32} (hd : decode cc pc = .ok (.putfield 31, 3)) (h : zJ p l e R s m args below meth c g A nL Q (wX3 g ad (rN u 5 x)) k n (pc + 3) lv st) : zJ p l e R s m args below meth c g A nL Q (wX3 g ad u) k n pc lv (.int x :: .ref (ad 0) :: st) :=
  z_puti (T := TX3) (N := 9) C inX3 tyX3 tyX3_ok nmX3 (ci := 3) rfl 5 (by decide) fl3_31 rfl (by decide +kernel) 0 (fs := fX3 ad u) rfl (Nat.le_of_ble_eq_true rfl) hd (ws1 := wX3 g ad (rN u 5 x)) rfl h
theorem g3_pace (C : zC p s m args meth c g A cc RX3 nL) (hd : decode cc pc = .ok (.getfield 34, 3)) (h : zJ p l e R s m args below meth c g A nL Q (wX3 g ad u) k n (pc + 3) lv (.int (u.1 6 0) :: st)) : zJ p l e R s m args below meth c g A nL Q (wX3 g ad u) k n pc lv (.ref (ad 0) :: st) :=
  z_get (T := TX3) (N := 9) C inX3 (ci := 3) rfl 6 (by decide) fl3_34 0 rfl rfl hd h
theorem p3_pace (C : zC p s m args meth c g A cc RX3 nL) {x : Int32} (hd : decode cc pc = .ok (.putfield 34, 3)) (h : zJ p l e R s m args below meth c g A nL Q (wX3 g ad (rN u 6 x)) k n (pc + 3) lv st) : zJ p l e R s m args below meth c g A nL Q (wX3 g ad u) k n pc lv (.int x :: .ref (ad 0) :: st) :=
  z_puti (T := TX3) (N := 9) C inX3 tyX3 tyX3_ok nmX3 (ci := 3) rfl 6 (by decide) fl3_34 rfl (by decide +kernel) 0 (fs := fX3 ad u) rfl (Nat.le_of_ble_eq_true rfl) hd (ws1 := wX3 g ad (rN u 6 x)) rfl h
theorem g3_fresh (C : zC p s m args meth c g A cc RX3 nL) (hd : decode cc pc = .ok (.getfield 37, 3)) (h : zJ p l e R s m args below meth c g A nL Q (wX3 g ad u) k n (pc + 3) lv (.int (u.1 7 0) :: st)) : zJ p l e R s m args below meth c g A nL Q (wX3 g ad u) k n pc lv (.ref (ad 0) :: st) :=
  z_get (T := TX3) (N := 9) C inX3 (ci := 3) rfl 7 (by decide) fl3_37 0 rfl rfl hd h
theorem p3_fresh (C : zC p s m args meth c g A cc RX3 nL) {x : Int32} (hd : decode cc pc = .ok (.putfield 37, 3)) (h : zJ p l e R s m args below meth c g A nL Q (wX3 g ad (rN u 7 x)) k n (pc + 3) lv st) : zJ p l e R s m args below meth c g A nL Q (wX3 g ad u) k n pc lv (.int x :: .ref (ad 0) :: st) :=
  z_puti (T := TX3) (N := 9) C inX3 tyX3 tyX3_ok nmX3 (ci := 3) rfl 7 (by decide) fl3_37 rfl (by decide +kernel) 0 (fs := fX3 ad u) rfl (Nat.le_of_ble_eq_true rfl) hd (ws1 := wX3 g ad (rN u 7 x)) rfl h
theorem g3_cells (C : zC p s m args meth c g A cc RX3 nL) (hd : decode cc pc = .ok (.getfield 18, 3)) (h : zJ p l e R s m args below meth c g A nL Q (wX3 g ad u) k n (pc + 3) lv (.ref (ad 1) :: st)) : zJ p l e R s m args below meth c g A nL Q (wX3 g ad u) k n pc lv (.ref (ad 0) :: st) :=
  z_get (T := TX3) (N := 9) C inX3 (ci := 3) rfl 8 (by decide) fl3_18 0 rfl rfl hd h
theorem l3_cells (C : zC p s m args meth c g A cc RX3 nL) {x : Int32} (hin : vp_in x 128) (hd : decode cc pc = .ok (.iaload, 1)) (h : zJ p l e R s m args below meth c g A nL Q (wX3 g ad u) k n (pc + 1) lv (.int (u.1 8 (zn x)) :: st)) : zJ p l e R s m args below meth c g A nL Q (wX3 g ad u) k n pc lv (.int x :: .ref (ad 1) :: st) :=
  z_iald C 1 rfl hin hd h
theorem s3_cells (C : zC p s m args meth c g A cc RX3 nL) {x : Int32} {v : Int32} (hin : vp_in x 128) (hd : decode cc pc = .ok (.iastore, 1)) (h : zJ p l e R s m args below meth c g A nL Q (wX3 g ad (rI u 8 (upd (u.1 8) (zn x) v))) k n (pc + 1) lv st) : zJ p l e R s m args below meth c g A nL Q (wX3 g ad u) k n pc lv (.int v :: .int x :: .ref (ad 1) :: st) :=
  z_iast C 1 rfl hin hd rfl h
theorem ln3_cells (C : zC p s m args meth c g A cc RX3 nL) {x : Int32} (j : Nat) (hj : zn x = j) (hin : vp_in x 128) (hd : decode cc pc = .ok (.iaload, 1)) (h : zJ p l e R s m args below meth c g A nL Q (wX3 g ad u) k n (pc + 1) lv (.int (u.1 8 j) :: st)) : zJ p l e R s m args below meth c g A nL Q (wX3 g ad u) k n pc lv (.int x :: .ref (ad 1) :: st) := by
  subst hj
  exact l3_cells C hin hd h
theorem sn3_cells (C : zC p s m args meth c g A cc RX3 nL) {x : Int32} {v : Int32} (j : Nat) (hj : zn x = j) (hin : vp_in x 128) (hd : decode cc pc = .ok (.iastore, 1)) (h : zJ p l e R s m args below meth c g A nL Q (wX3 g ad (rI u 8 (upd (u.1 8) j v))) k n (pc + 1) lv st) : zJ p l e R s m args below meth c g A nL Q (wX3 g ad u) k n pc lv (.int v :: .int x :: .ref (ad 1) :: st) := by
  subst hj
  exact s3_cells C hin hd h
theorem sT3 {u0 : RS} (h : ∀ u : RS, u = u0 → zJ p l e R s m args below meth c g A nL Q (wX3 g ad u) k n pc lv st) : zJ p l e R s m args below meth c g A nL Q (wX3 g ad u0) k n pc lv st := h u0 rfl
theorem c3i (C : zC p s m args meth c g A cc RX3 nL) {y : MethodName} {cc1 : ByteArray} {n1 k1 index : Nat} {ret : Option FieldType} {As : List Value} {post : Int32 → RS → Prop} (hM : zMi l y cc1 n1 ret k1 0 0 g (.ref (ad 0) :: As) (wX3 g ad u) (wX3 g ad) post) (hv : zV y cc1 n1 ret As.length) (hlk : Cond.methodLink RX3 index y ∈ zW) (hq : RX3 = y.cls)
    (hR : k1 + 1 ≤ R.frames ∧ 8 + (n1 + 11) + 40 * k1 ≤ R.locals) (hcap : k ≤ R.cells ∧ n ≤ R.slots) (hroom : (st.map fun v => v.category).sum ≤ 8) (hst : st0 = As.reverse ++ .ref (ad 0) :: st) (hd : decode cc pc = .ok (.invokevirtual index, 3))
    (h : ∀ (r : Int32) (u1 : RS), post r u1 → zJ p l e R s m args below meth c g A nL Q (wX3 g ad u1) k n (pc + 3) lv (.int r :: st)) : zJ p l e R s m args below meth c g A nL Q (wX3 g ad u) k n pc lv st0 :=
  z_Vi C [] (wX3 g ad u) [] (by simp) hM hv hlk 3 (q := (RX3, TX3, 9)) rfl hq 0 rfl hR hcap hroom hst hd (fun r u1 hw => z_ws (ws1 := wX3 g ad u1) (by simp) (h r u1 hw))
theorem c3v (C : zC p s m args meth c g A cc RX3 nL) {y : MethodName} {cc1 : ByteArray} {n1 k1 index : Nat} {ret : Option FieldType} {As : List Value} {post : RS → Prop} (hM : zMv l y cc1 n1 ret k1 0 0 g (.ref (ad 0) :: As) (wX3 g ad u) (wX3 g ad) post) (hv : zV y cc1 n1 ret As.length) (hlk : Cond.methodLink RX3 index y ∈ zW) (hq : RX3 = y.cls)
    (hR : k1 + 1 ≤ R.frames ∧ 8 + (n1 + 11) + 40 * k1 ≤ R.locals) (hcap : k ≤ R.cells ∧ n ≤ R.slots) (hroom : (st.map fun v => v.category).sum ≤ 8) (hst : st0 = As.reverse ++ .ref (ad 0) :: st) (hd : decode cc pc = .ok (.invokevirtual index, 3))
    (h : ∀ (u1 : RS), post u1 → zJ p l e R s m args below meth c g A nL Q (wX3 g ad u1) k n (pc + 3) lv (st)) : zJ p l e R s m args below meth c g A nL Q (wX3 g ad u) k n pc lv st0 :=
  z_Vv C [] (wX3 g ad u) [] (by simp) hM hv hlk 3 (q := (RX3, TX3, 9)) rfl hq 0 rfl hR hcap hroom hst hd (fun u1 hw => z_ws (ws1 := wX3 g ad u1) (by simp) (h u1 hw))
end ZX3
def fX4 (ad : Nat → Nat) (u : RS) : List Value := [.int (u.1 0 0), .ref (ad 1), .int (u.1 2 0), .ref (ad 2), .ref (ad 3), .ref (ad 4), .ref (ad 5)]
def wX4 (g : zG) (ad : Nat → Nat) (u : RS) : va_W := [(ad 0, .inr (4, fX4 ad u)), (ad 1, .inl (g.2.1 1, 7, .inr (.inl (u.2 1)))), (ad 2, .inl (g.2.1 0, 72, .inl (u.1 3))), (ad 3, .inl (g.2.1 0, 24, .inl (u.1 4))), (ad 4, .inl (g.2.1 0, 24, .inl (u.1 5))), (ad 5, .inl (g.2.1 0, 24, .inl (u.1 6)))]
section ZX4
variable {p : Program} {l : Launch} {e : Env} {R : Room} {s : State} {m : MethodId} {args : Array Value} {below : List Frame} {meth : Method} {c : Code} {g : zG} {A : Nat → Prop} {nL : Nat} {Q : State → Prop} {k n pc : Nat} {lv : List (Nat × Value)} {st st0 : List Value} {cc : ByteArray} {ad : Nat → Nat} {u : RS}
theorem g4_kept (C : zC p s m args meth c g A cc RX4 nL) (hd : decode cc pc = .ok (.getfield 28, 3)) (h : zJ p l e R s m args below meth c g A nL Q (wX4 g ad u) k n (pc + 3) lv (.int (u.1 0 0) :: st)) : zJ p l e R s m args below meth c g A nL Q (wX4 g ad u) k n pc lv (.ref (ad 0) :: st) :=
  z_get (T := TX4) (N := 7) C inX4 (ci := 4) rfl 0 (by decide) fl4_28 0 rfl rfl hd h
theorem p4_kept (C : zC p s m args meth c g A cc RX4 nL) {x : Int32} (hd : decode cc pc = .ok (.putfield 28, 3)) (h : zJ p l e R s m args below meth c g A nL Q (wX4 g ad (rN u 0 x)) k n (pc + 3) lv st) : zJ p l e R s m args below meth c g A nL Q (wX4 g ad u) k n pc lv (.int x :: .ref (ad 0) :: st) :=
  z_puti (T := TX4) (N := 7) C inX4 tyX4 tyX4_ok nmX4 (ci := 4) rfl 0 (by decide) fl4_28 rfl (by decide +kernel) 0 (fs := fX4 ad u) rfl (Nat.le_of_ble_eq_true rfl) hd (ws1 := wX4 g ad (rN u 0 x)) rfl h
theorem g4_totals (C : zC p s m args meth c g A cc RX4 nL) (hd : decode cc pc = .ok (.getfield 11, 3)) (h : zJ p l e R s m args below meth c g A nL Q (wX4 g ad u) k n (pc + 3) lv (.ref (ad 1) :: st)) : zJ p l e R s m args below meth c g A nL Q (wX4 g ad u) k n pc lv (.ref (ad 0) :: st) :=
  z_get (T := TX4) (N := 7) C inX4 (ci := 4) rfl 1 (by decide) fl4_11 0 rfl rfl hd h
theorem l4_totals (C : zC p s m args meth c g A cc RX4 nL) {x : Int32} (hin : vp_in x 7) (hd : decode cc pc = .ok (.laload, 1)) (h : zJ p l e R s m args below meth c g A nL Q (wX4 g ad u) k n (pc + 1) lv (.long (u.2 1 (zn x)) :: st)) : zJ p l e R s m args below meth c g A nL Q (wX4 g ad u) k n pc lv (.int x :: .ref (ad 1) :: st) :=
  z_lald C 1 rfl hin hd h
theorem s4_totals (C : zC p s m args meth c g A cc RX4 nL) {x : Int32} {v : Int64} (hin : vp_in x 7) (hd : decode cc pc = .ok (.lastore, 1)) (h : zJ p l e R s m args below meth c g A nL Q (wX4 g ad (rL u 1 (vp_updL (u.2 1) (zn x) v))) k n (pc + 1) lv st) : zJ p l e R s m args below meth c g A nL Q (wX4 g ad u) k n pc lv (.long v :: .int x :: .ref (ad 1) :: st) :=
  z_last C 1 rfl hin hd rfl h
theorem ln4_totals (C : zC p s m args meth c g A cc RX4 nL) {x : Int32} (j : Nat) (hj : zn x = j) (hin : vp_in x 7) (hd : decode cc pc = .ok (.laload, 1)) (h : zJ p l e R s m args below meth c g A nL Q (wX4 g ad u) k n (pc + 1) lv (.long (u.2 1 j) :: st)) : zJ p l e R s m args below meth c g A nL Q (wX4 g ad u) k n pc lv (.int x :: .ref (ad 1) :: st) := by
  subst hj
  exact l4_totals C hin hd h
theorem sn4_totals (C : zC p s m args meth c g A cc RX4 nL) {x : Int32} {v : Int64} (j : Nat) (hj : zn x = j) (hin : vp_in x 7) (hd : decode cc pc = .ok (.lastore, 1)) (h : zJ p l e R s m args below meth c g A nL Q (wX4 g ad (rL u 1 (vp_updL (u.2 1) j v))) k n (pc + 1) lv st) : zJ p l e R s m args below meth c g A nL Q (wX4 g ad u) k n pc lv (.long v :: .int x :: .ref (ad 1) :: st) := by
  subst hj
  exact s4_totals C hin hd h
theorem g4_latest (C : zC p s m args meth c g A cc RX4 nL) (hd : decode cc pc = .ok (.getfield 32, 3)) (h : zJ p l e R s m args below meth c g A nL Q (wX4 g ad u) k n (pc + 3) lv (.int (u.1 2 0) :: st)) : zJ p l e R s m args below meth c g A nL Q (wX4 g ad u) k n pc lv (.ref (ad 0) :: st) :=
  z_get (T := TX4) (N := 7) C inX4 (ci := 4) rfl 2 (by decide) fl4_32 0 rfl rfl hd h
theorem p4_latest (C : zC p s m args meth c g A cc RX4 nL) {x : Int32} (hd : decode cc pc = .ok (.putfield 32, 3)) (h : zJ p l e R s m args below meth c g A nL Q (wX4 g ad (rN u 2 x)) k n (pc + 3) lv st) : zJ p l e R s m args below meth c g A nL Q (wX4 g ad u) k n pc lv (.int x :: .ref (ad 0) :: st) :=
  z_puti (T := TX4) (N := 7) C inX4 tyX4 tyX4_ok nmX4 (ci := 4) rfl 2 (by decide) fl4_32 rfl (by decide +kernel) 0 (fs := fX4 ad u) rfl (Nat.le_of_ble_eq_true rfl) hd (ws1 := wX4 g ad (rN u 2 x)) rfl h
theorem g4_last (C : zC p s m args meth c g A cc RX4 nL) (hd : decode cc pc = .ok (.getfield 15, 3)) (h : zJ p l e R s m args below meth c g A nL Q (wX4 g ad u) k n (pc + 3) lv (.ref (ad 2) :: st)) : zJ p l e R s m args below meth c g A nL Q (wX4 g ad u) k n pc lv (.ref (ad 0) :: st) :=
  z_get (T := TX4) (N := 7) C inX4 (ci := 4) rfl 3 (by decide) fl4_15 0 rfl rfl hd h
theorem l4_last (C : zC p s m args meth c g A cc RX4 nL) {x : Int32} (hin : vp_in x 72) (hd : decode cc pc = .ok (.iaload, 1)) (h : zJ p l e R s m args below meth c g A nL Q (wX4 g ad u) k n (pc + 1) lv (.int (u.1 3 (zn x)) :: st)) : zJ p l e R s m args below meth c g A nL Q (wX4 g ad u) k n pc lv (.int x :: .ref (ad 2) :: st) :=
  z_iald C 2 rfl hin hd h
theorem s4_last (C : zC p s m args meth c g A cc RX4 nL) {x : Int32} {v : Int32} (hin : vp_in x 72) (hd : decode cc pc = .ok (.iastore, 1)) (h : zJ p l e R s m args below meth c g A nL Q (wX4 g ad (rI u 3 (upd (u.1 3) (zn x) v))) k n (pc + 1) lv st) : zJ p l e R s m args below meth c g A nL Q (wX4 g ad u) k n pc lv (.int v :: .int x :: .ref (ad 2) :: st) :=
  z_iast C 2 rfl hin hd rfl h
theorem ln4_last (C : zC p s m args meth c g A cc RX4 nL) {x : Int32} (j : Nat) (hj : zn x = j) (hin : vp_in x 72) (hd : decode cc pc = .ok (.iaload, 1)) (h : zJ p l e R s m args below meth c g A nL Q (wX4 g ad u) k n (pc + 1) lv (.int (u.1 3 j) :: st)) : zJ p l e R s m args below meth c g A nL Q (wX4 g ad u) k n pc lv (.int x :: .ref (ad 2) :: st) := by
  subst hj
  exact l4_last C hin hd h
theorem sn4_last (C : zC p s m args meth c g A cc RX4 nL) {x : Int32} {v : Int32} (j : Nat) (hj : zn x = j) (hin : vp_in x 72) (hd : decode cc pc = .ok (.iastore, 1)) (h : zJ p l e R s m args below meth c g A nL Q (wX4 g ad (rI u 3 (upd (u.1 3) j v))) k n (pc + 1) lv st) : zJ p l e R s m args below meth c g A nL Q (wX4 g ad u) k n pc lv (.int v :: .int x :: .ref (ad 2) :: st) := by
  subst hj
  exact s4_last C hin hd h
theorem g4_place (C : zC p s m args meth c g A cc RX4 nL) (hd : decode cc pc = .ok (.getfield 19, 3)) (h : zJ p l e R s m args below meth c g A nL Q (wX4 g ad u) k n (pc + 3) lv (.ref (ad 3) :: st)) : zJ p l e R s m args below meth c g A nL Q (wX4 g ad u) k n pc lv (.ref (ad 0) :: st) :=
  z_get (T := TX4) (N := 7) C inX4 (ci := 4) rfl 4 (by decide) fl4_19 0 rfl rfl hd h
theorem l4_place (C : zC p s m args meth c g A cc RX4 nL) {x : Int32} (hin : vp_in x 24) (hd : decode cc pc = .ok (.iaload, 1)) (h : zJ p l e R s m args below meth c g A nL Q (wX4 g ad u) k n (pc + 1) lv (.int (u.1 4 (zn x)) :: st)) : zJ p l e R s m args below meth c g A nL Q (wX4 g ad u) k n pc lv (.int x :: .ref (ad 3) :: st) :=
  z_iald C 3 rfl hin hd h
theorem s4_place (C : zC p s m args meth c g A cc RX4 nL) {x : Int32} {v : Int32} (hin : vp_in x 24) (hd : decode cc pc = .ok (.iastore, 1)) (h : zJ p l e R s m args below meth c g A nL Q (wX4 g ad (rI u 4 (upd (u.1 4) (zn x) v))) k n (pc + 1) lv st) : zJ p l e R s m args below meth c g A nL Q (wX4 g ad u) k n pc lv (.int v :: .int x :: .ref (ad 3) :: st) :=
  z_iast C 3 rfl hin hd rfl h
theorem ln4_place (C : zC p s m args meth c g A cc RX4 nL) {x : Int32} (j : Nat) (hj : zn x = j) (hin : vp_in x 24) (hd : decode cc pc = .ok (.iaload, 1)) (h : zJ p l e R s m args below meth c g A nL Q (wX4 g ad u) k n (pc + 1) lv (.int (u.1 4 j) :: st)) : zJ p l e R s m args below meth c g A nL Q (wX4 g ad u) k n pc lv (.int x :: .ref (ad 3) :: st) := by
  subst hj
  exact l4_place C hin hd h
theorem sn4_place (C : zC p s m args meth c g A cc RX4 nL) {x : Int32} {v : Int32} (j : Nat) (hj : zn x = j) (hin : vp_in x 24) (hd : decode cc pc = .ok (.iastore, 1)) (h : zJ p l e R s m args below meth c g A nL Q (wX4 g ad (rI u 4 (upd (u.1 4) j v))) k n (pc + 1) lv st) : zJ p l e R s m args below meth c g A nL Q (wX4 g ad u) k n pc lv (.int v :: .int x :: .ref (ad 3) :: st) := by
  subst hj
  exact s4_place C hin hd h
theorem g4_size (C : zC p s m args meth c g A cc RX4 nL) (hd : decode cc pc = .ok (.getfield 22, 3)) (h : zJ p l e R s m args below meth c g A nL Q (wX4 g ad u) k n (pc + 3) lv (.ref (ad 4) :: st)) : zJ p l e R s m args below meth c g A nL Q (wX4 g ad u) k n pc lv (.ref (ad 0) :: st) :=
  z_get (T := TX4) (N := 7) C inX4 (ci := 4) rfl 5 (by decide) fl4_22 0 rfl rfl hd h
theorem l4_size (C : zC p s m args meth c g A cc RX4 nL) {x : Int32} (hin : vp_in x 24) (hd : decode cc pc = .ok (.iaload, 1)) (h : zJ p l e R s m args below meth c g A nL Q (wX4 g ad u) k n (pc + 1) lv (.int (u.1 5 (zn x)) :: st)) : zJ p l e R s m args below meth c g A nL Q (wX4 g ad u) k n pc lv (.int x :: .ref (ad 4) :: st) :=
  z_iald C 4 rfl hin hd h
theorem s4_size (C : zC p s m args meth c g A cc RX4 nL) {x : Int32} {v : Int32} (hin : vp_in x 24) (hd : decode cc pc = .ok (.iastore, 1)) (h : zJ p l e R s m args below meth c g A nL Q (wX4 g ad (rI u 5 (upd (u.1 5) (zn x) v))) k n (pc + 1) lv st) : zJ p l e R s m args below meth c g A nL Q (wX4 g ad u) k n pc lv (.int v :: .int x :: .ref (ad 4) :: st) :=
  z_iast C 4 rfl hin hd rfl h
theorem ln4_size (C : zC p s m args meth c g A cc RX4 nL) {x : Int32} (j : Nat) (hj : zn x = j) (hin : vp_in x 24) (hd : decode cc pc = .ok (.iaload, 1)) (h : zJ p l e R s m args below meth c g A nL Q (wX4 g ad u) k n (pc + 1) lv (.int (u.1 5 j) :: st)) : zJ p l e R s m args below meth c g A nL Q (wX4 g ad u) k n pc lv (.int x :: .ref (ad 4) :: st) := by
  subst hj
  exact l4_size C hin hd h
theorem sn4_size (C : zC p s m args meth c g A cc RX4 nL) {x : Int32} {v : Int32} (j : Nat) (hj : zn x = j) (hin : vp_in x 24) (hd : decode cc pc = .ok (.iastore, 1)) (h : zJ p l e R s m args below meth c g A nL Q (wX4 g ad (rI u 5 (upd (u.1 5) j v))) k n (pc + 1) lv st) : zJ p l e R s m args below meth c g A nL Q (wX4 g ad u) k n pc lv (.int v :: .int x :: .ref (ad 4) :: st) := by
  subst hj
  exact s4_size C hin hd h
theorem g4_packets (C : zC p s m args meth c g A cc RX4 nL) (hd : decode cc pc = .ok (.getfield 25, 3)) (h : zJ p l e R s m args below meth c g A nL Q (wX4 g ad u) k n (pc + 3) lv (.ref (ad 5) :: st)) : zJ p l e R s m args below meth c g A nL Q (wX4 g ad u) k n pc lv (.ref (ad 0) :: st) :=
  z_get (T := TX4) (N := 7) C inX4 (ci := 4) rfl 6 (by decide) fl4_25 0 rfl rfl hd h
theorem l4_packets (C : zC p s m args meth c g A cc RX4 nL) {x : Int32} (hin : vp_in x 24) (hd : decode cc pc = .ok (.iaload, 1)) (h : zJ p l e R s m args below meth c g A nL Q (wX4 g ad u) k n (pc + 1) lv (.int (u.1 6 (zn x)) :: st)) : zJ p l e R s m args below meth c g A nL Q (wX4 g ad u) k n pc lv (.int x :: .ref (ad 5) :: st) :=
  z_iald C 5 rfl hin hd h
theorem s4_packets (C : zC p s m args meth c g A cc RX4 nL) {x : Int32} {v : Int32} (hin : vp_in x 24) (hd : decode cc pc = .ok (.iastore, 1)) (h : zJ p l e R s m args below meth c g A nL Q (wX4 g ad (rI u 6 (upd (u.1 6) (zn x) v))) k n (pc + 1) lv st) : zJ p l e R s m args below meth c g A nL Q (wX4 g ad u) k n pc lv (.int v :: .int x :: .ref (ad 5) :: st) :=
  z_iast C 5 rfl hin hd rfl h
theorem ln4_packets (C : zC p s m args meth c g A cc RX4 nL) {x : Int32} (j : Nat) (hj : zn x = j) (hin : vp_in x 24) (hd : decode cc pc = .ok (.iaload, 1)) (h : zJ p l e R s m args below meth c g A nL Q (wX4 g ad u) k n (pc + 1) lv (.int (u.1 6 j) :: st)) : zJ p l e R s m args below meth c g A nL Q (wX4 g ad u) k n pc lv (.int x :: .ref (ad 5) :: st) := by
  subst hj
  exact l4_packets C hin hd h
theorem sn4_packets (C : zC p s m args meth c g A cc RX4 nL) {x : Int32} {v : Int32} (j : Nat) (hj : zn x = j) (hin : vp_in x 24) (hd : decode cc pc = .ok (.iastore, 1)) (h : zJ p l e R s m args below meth c g A nL Q (wX4 g ad (rI u 6 (upd (u.1 6) j v))) k n (pc + 1) lv st) : zJ p l e R s m args below meth c g A nL Q (wX4 g ad u) k n pc lv (.int v :: .int x :: .ref (ad 5) :: st) := by
  subst hj
  exact s4_packets C hin hd h
theorem sT4 {u0 : RS} (h : ∀ u : RS, u = u0 → zJ p l e R s m args below meth c g A nL Q (wX4 g ad u) k n pc lv st) : zJ p l e R s m args below meth c g A nL Q (wX4 g ad u0) k n pc lv st := h u0 rfl
theorem c4i (C : zC p s m args meth c g A cc RX4 nL) {y : MethodName} {cc1 : ByteArray} {n1 k1 index : Nat} {ret : Option FieldType} {As : List Value} {post : Int32 → RS → Prop} (hM : zMi l y cc1 n1 ret k1 0 0 g (.ref (ad 0) :: As) (wX4 g ad u) (wX4 g ad) post) (hv : zV y cc1 n1 ret As.length) (hlk : Cond.methodLink RX4 index y ∈ zW) (hq : RX4 = y.cls)
    (hR : k1 + 1 ≤ R.frames ∧ 8 + (n1 + 11) + 40 * k1 ≤ R.locals) (hcap : k ≤ R.cells ∧ n ≤ R.slots) (hroom : (st.map fun v => v.category).sum ≤ 8) (hst : st0 = As.reverse ++ .ref (ad 0) :: st) (hd : decode cc pc = .ok (.invokevirtual index, 3))
    (h : ∀ (r : Int32) (u1 : RS), post r u1 → zJ p l e R s m args below meth c g A nL Q (wX4 g ad u1) k n (pc + 3) lv (.int r :: st)) : zJ p l e R s m args below meth c g A nL Q (wX4 g ad u) k n pc lv st0 :=
  z_Vi C [] (wX4 g ad u) [] (by simp) hM hv hlk 4 (q := (RX4, TX4, 7)) rfl hq 0 rfl hR hcap hroom hst hd (fun r u1 hw => z_ws (ws1 := wX4 g ad u1) (by simp) (h r u1 hw))
theorem c4v (C : zC p s m args meth c g A cc RX4 nL) {y : MethodName} {cc1 : ByteArray} {n1 k1 index : Nat} {ret : Option FieldType} {As : List Value} {post : RS → Prop} (hM : zMv l y cc1 n1 ret k1 0 0 g (.ref (ad 0) :: As) (wX4 g ad u) (wX4 g ad) post) (hv : zV y cc1 n1 ret As.length) (hlk : Cond.methodLink RX4 index y ∈ zW) (hq : RX4 = y.cls)
    (hR : k1 + 1 ≤ R.frames ∧ 8 + (n1 + 11) + 40 * k1 ≤ R.locals) (hcap : k ≤ R.cells ∧ n ≤ R.slots) (hroom : (st.map fun v => v.category).sum ≤ 8) (hst : st0 = As.reverse ++ .ref (ad 0) :: st) (hd : decode cc pc = .ok (.invokevirtual index, 3))
    (h : ∀ (u1 : RS), post u1 → zJ p l e R s m args below meth c g A nL Q (wX4 g ad u1) k n (pc + 3) lv (st)) : zJ p l e R s m args below meth c g A nL Q (wX4 g ad u) k n pc lv st0 :=
  z_Vv C [] (wX4 g ad u) [] (by simp) hM hv hlk 4 (q := (RX4, TX4, 7)) rfl hq 0 rfl hR hcap hroom hst hd (fun u1 hw => z_ws (ws1 := wX4 g ad u1) (by simp) (h u1 hw))
end ZX4
def fX6 (ad : Nat → Nat) (u : RS) : List Value := [.ref (ad 1), .ref (ad 2), .ref (ad 3), .ref (ad 4)]
def wX6 (g : zG) (ad : Nat → Nat) (u : RS) : va_W := [(ad 0, .inr (6, fX6 ad u)), (ad 1, .inl (g.2.1 0, 16, .inl (u.1 0))), (ad 2, .inl (g.2.1 0, 16, .inl (u.1 1))), (ad 3, .inl (g.2.1 0, 16, .inl (u.1 2))), (ad 4, .inl (g.2.1 0, 4, .inl (u.1 3)))]
section ZX6
variable {p : Program} {l : Launch} {e : Env} {R : Room} {s : State} {m : MethodId} {args : Array Value} {below : List Frame} {meth : Method} {c : Code} {g : zG} {A : Nat → Prop} {nL : Nat} {Q : State → Prop} {k n pc : Nat} {lv : List (Nat × Value)} {st st0 : List Value} {cc : ByteArray} {ad : Nat → Nat} {u : RS}
theorem g6_queueOf (C : zC p s m args meth c g A cc RX6 nL) (hd : decode cc pc = .ok (.getfield 9, 3)) (h : zJ p l e R s m args below meth c g A nL Q (wX6 g ad u) k n (pc + 3) lv (.ref (ad 1) :: st)) : zJ p l e R s m args below meth c g A nL Q (wX6 g ad u) k n pc lv (.ref (ad 0) :: st) :=
  z_get (T := TX6) (N := 4) C inX6 (ci := 6) rfl 0 (by decide) fl6_9 0 rfl rfl hd h
theorem l6_queueOf (C : zC p s m args meth c g A cc RX6 nL) {x : Int32} (hin : vp_in x 16) (hd : decode cc pc = .ok (.iaload, 1)) (h : zJ p l e R s m args below meth c g A nL Q (wX6 g ad u) k n (pc + 1) lv (.int (u.1 0 (zn x)) :: st)) : zJ p l e R s m args below meth c g A nL Q (wX6 g ad u) k n pc lv (.int x :: .ref (ad 1) :: st) :=
  z_iald C 1 rfl hin hd h
theorem s6_queueOf (C : zC p s m args meth c g A cc RX6 nL) {x : Int32} {v : Int32} (hin : vp_in x 16) (hd : decode cc pc = .ok (.iastore, 1)) (h : zJ p l e R s m args below meth c g A nL Q (wX6 g ad (rI u 0 (upd (u.1 0) (zn x) v))) k n (pc + 1) lv st) : zJ p l e R s m args below meth c g A nL Q (wX6 g ad u) k n pc lv (.int v :: .int x :: .ref (ad 1) :: st) :=
  z_iast C 1 rfl hin hd rfl h
theorem ln6_queueOf (C : zC p s m args meth c g A cc RX6 nL) {x : Int32} (j : Nat) (hj : zn x = j) (hin : vp_in x 16) (hd : decode cc pc = .ok (.iaload, 1)) (h : zJ p l e R s m args below meth c g A nL Q (wX6 g ad u) k n (pc + 1) lv (.int (u.1 0 j) :: st)) : zJ p l e R s m args below meth c g A nL Q (wX6 g ad u) k n pc lv (.int x :: .ref (ad 1) :: st) := by
  subst hj
  exact l6_queueOf C hin hd h
theorem sn6_queueOf (C : zC p s m args meth c g A cc RX6 nL) {x : Int32} {v : Int32} (j : Nat) (hj : zn x = j) (hin : vp_in x 16) (hd : decode cc pc = .ok (.iastore, 1)) (h : zJ p l e R s m args below meth c g A nL Q (wX6 g ad (rI u 0 (upd (u.1 0) j v))) k n (pc + 1) lv st) : zJ p l e R s m args below meth c g A nL Q (wX6 g ad u) k n pc lv (.int v :: .int x :: .ref (ad 1) :: st) := by
  subst hj
  exact s6_queueOf C hin hd h
theorem g6_hits (C : zC p s m args meth c g A cc RX6 nL) (hd : decode cc pc = .ok (.getfield 15, 3)) (h : zJ p l e R s m args below meth c g A nL Q (wX6 g ad u) k n (pc + 3) lv (.ref (ad 2) :: st)) : zJ p l e R s m args below meth c g A nL Q (wX6 g ad u) k n pc lv (.ref (ad 0) :: st) :=
  z_get (T := TX6) (N := 4) C inX6 (ci := 6) rfl 1 (by decide) fl6_15 0 rfl rfl hd h
theorem l6_hits (C : zC p s m args meth c g A cc RX6 nL) {x : Int32} (hin : vp_in x 16) (hd : decode cc pc = .ok (.iaload, 1)) (h : zJ p l e R s m args below meth c g A nL Q (wX6 g ad u) k n (pc + 1) lv (.int (u.1 1 (zn x)) :: st)) : zJ p l e R s m args below meth c g A nL Q (wX6 g ad u) k n pc lv (.int x :: .ref (ad 2) :: st) :=
  z_iald C 2 rfl hin hd h
theorem s6_hits (C : zC p s m args meth c g A cc RX6 nL) {x : Int32} {v : Int32} (hin : vp_in x 16) (hd : decode cc pc = .ok (.iastore, 1)) (h : zJ p l e R s m args below meth c g A nL Q (wX6 g ad (rI u 1 (upd (u.1 1) (zn x) v))) k n (pc + 1) lv st) : zJ p l e R s m args below meth c g A nL Q (wX6 g ad u) k n pc lv (.int v :: .int x :: .ref (ad 2) :: st) :=
  z_iast C 2 rfl hin hd rfl h
theorem ln6_hits (C : zC p s m args meth c g A cc RX6 nL) {x : Int32} (j : Nat) (hj : zn x = j) (hin : vp_in x 16) (hd : decode cc pc = .ok (.iaload, 1)) (h : zJ p l e R s m args below meth c g A nL Q (wX6 g ad u) k n (pc + 1) lv (.int (u.1 1 j) :: st)) : zJ p l e R s m args below meth c g A nL Q (wX6 g ad u) k n pc lv (.int x :: .ref (ad 2) :: st) := by
  subst hj
  exact l6_hits C hin hd h
theorem sn6_hits (C : zC p s m args meth c g A cc RX6 nL) {x : Int32} {v : Int32} (j : Nat) (hj : zn x = j) (hin : vp_in x 16) (hd : decode cc pc = .ok (.iastore, 1)) (h : zJ p l e R s m args below meth c g A nL Q (wX6 g ad (rI u 1 (upd (u.1 1) j v))) k n (pc + 1) lv st) : zJ p l e R s m args below meth c g A nL Q (wX6 g ad u) k n pc lv (.int v :: .int x :: .ref (ad 2) :: st) := by
  subst hj
  exact s6_hits C hin hd h
theorem g6_order (C : zC p s m args meth c g A cc RX6 nL) (hd : decode cc pc = .ok (.getfield 18, 3)) (h : zJ p l e R s m args below meth c g A nL Q (wX6 g ad u) k n (pc + 3) lv (.ref (ad 3) :: st)) : zJ p l e R s m args below meth c g A nL Q (wX6 g ad u) k n pc lv (.ref (ad 0) :: st) :=
  z_get (T := TX6) (N := 4) C inX6 (ci := 6) rfl 2 (by decide) fl6_18 0 rfl rfl hd h
theorem l6_order (C : zC p s m args meth c g A cc RX6 nL) {x : Int32} (hin : vp_in x 16) (hd : decode cc pc = .ok (.iaload, 1)) (h : zJ p l e R s m args below meth c g A nL Q (wX6 g ad u) k n (pc + 1) lv (.int (u.1 2 (zn x)) :: st)) : zJ p l e R s m args below meth c g A nL Q (wX6 g ad u) k n pc lv (.int x :: .ref (ad 3) :: st) :=
  z_iald C 3 rfl hin hd h
theorem s6_order (C : zC p s m args meth c g A cc RX6 nL) {x : Int32} {v : Int32} (hin : vp_in x 16) (hd : decode cc pc = .ok (.iastore, 1)) (h : zJ p l e R s m args below meth c g A nL Q (wX6 g ad (rI u 2 (upd (u.1 2) (zn x) v))) k n (pc + 1) lv st) : zJ p l e R s m args below meth c g A nL Q (wX6 g ad u) k n pc lv (.int v :: .int x :: .ref (ad 3) :: st) :=
  z_iast C 3 rfl hin hd rfl h
theorem ln6_order (C : zC p s m args meth c g A cc RX6 nL) {x : Int32} (j : Nat) (hj : zn x = j) (hin : vp_in x 16) (hd : decode cc pc = .ok (.iaload, 1)) (h : zJ p l e R s m args below meth c g A nL Q (wX6 g ad u) k n (pc + 1) lv (.int (u.1 2 j) :: st)) : zJ p l e R s m args below meth c g A nL Q (wX6 g ad u) k n pc lv (.int x :: .ref (ad 3) :: st) := by
  subst hj
  exact l6_order C hin hd h
theorem sn6_order (C : zC p s m args meth c g A cc RX6 nL) {x : Int32} {v : Int32} (j : Nat) (hj : zn x = j) (hin : vp_in x 16) (hd : decode cc pc = .ok (.iastore, 1)) (h : zJ p l e R s m args below meth c g A nL Q (wX6 g ad (rI u 2 (upd (u.1 2) j v))) k n (pc + 1) lv st) : zJ p l e R s m args below meth c g A nL Q (wX6 g ad u) k n pc lv (.int v :: .int x :: .ref (ad 3) :: st) := by
  subst hj
  exact s6_order C hin hd h
theorem g6_sums (C : zC p s m args meth c g A cc RX6 nL) (hd : decode cc pc = .ok (.getfield 21, 3)) (h : zJ p l e R s m args below meth c g A nL Q (wX6 g ad u) k n (pc + 3) lv (.ref (ad 4) :: st)) : zJ p l e R s m args below meth c g A nL Q (wX6 g ad u) k n pc lv (.ref (ad 0) :: st) :=
  z_get (T := TX6) (N := 4) C inX6 (ci := 6) rfl 3 (by decide) fl6_21 0 rfl rfl hd h
theorem l6_sums (C : zC p s m args meth c g A cc RX6 nL) {x : Int32} (hin : vp_in x 4) (hd : decode cc pc = .ok (.iaload, 1)) (h : zJ p l e R s m args below meth c g A nL Q (wX6 g ad u) k n (pc + 1) lv (.int (u.1 3 (zn x)) :: st)) : zJ p l e R s m args below meth c g A nL Q (wX6 g ad u) k n pc lv (.int x :: .ref (ad 4) :: st) :=
  z_iald C 4 rfl hin hd h
theorem s6_sums (C : zC p s m args meth c g A cc RX6 nL) {x : Int32} {v : Int32} (hin : vp_in x 4) (hd : decode cc pc = .ok (.iastore, 1)) (h : zJ p l e R s m args below meth c g A nL Q (wX6 g ad (rI u 3 (upd (u.1 3) (zn x) v))) k n (pc + 1) lv st) : zJ p l e R s m args below meth c g A nL Q (wX6 g ad u) k n pc lv (.int v :: .int x :: .ref (ad 4) :: st) :=
  z_iast C 4 rfl hin hd rfl h
theorem ln6_sums (C : zC p s m args meth c g A cc RX6 nL) {x : Int32} (j : Nat) (hj : zn x = j) (hin : vp_in x 4) (hd : decode cc pc = .ok (.iaload, 1)) (h : zJ p l e R s m args below meth c g A nL Q (wX6 g ad u) k n (pc + 1) lv (.int (u.1 3 j) :: st)) : zJ p l e R s m args below meth c g A nL Q (wX6 g ad u) k n pc lv (.int x :: .ref (ad 4) :: st) := by
  subst hj
  exact l6_sums C hin hd h
theorem sn6_sums (C : zC p s m args meth c g A cc RX6 nL) {x : Int32} {v : Int32} (j : Nat) (hj : zn x = j) (hin : vp_in x 4) (hd : decode cc pc = .ok (.iastore, 1)) (h : zJ p l e R s m args below meth c g A nL Q (wX6 g ad (rI u 3 (upd (u.1 3) j v))) k n (pc + 1) lv st) : zJ p l e R s m args below meth c g A nL Q (wX6 g ad u) k n pc lv (.int v :: .int x :: .ref (ad 4) :: st) := by
  subst hj
  exact s6_sums C hin hd h
theorem sT6 {u0 : RS} (h : ∀ u : RS, u = u0 → zJ p l e R s m args below meth c g A nL Q (wX6 g ad u) k n pc lv st) : zJ p l e R s m args below meth c g A nL Q (wX6 g ad u0) k n pc lv st := h u0 rfl
theorem c6i (C : zC p s m args meth c g A cc RX6 nL) {y : MethodName} {cc1 : ByteArray} {n1 k1 index : Nat} {ret : Option FieldType} {As : List Value} {post : Int32 → RS → Prop} (hM : zMi l y cc1 n1 ret k1 0 0 g (.ref (ad 0) :: As) (wX6 g ad u) (wX6 g ad) post) (hv : zV y cc1 n1 ret As.length) (hlk : Cond.methodLink RX6 index y ∈ zW) (hq : RX6 = y.cls)
    (hR : k1 + 1 ≤ R.frames ∧ 8 + (n1 + 11) + 40 * k1 ≤ R.locals) (hcap : k ≤ R.cells ∧ n ≤ R.slots) (hroom : (st.map fun v => v.category).sum ≤ 8) (hst : st0 = As.reverse ++ .ref (ad 0) :: st) (hd : decode cc pc = .ok (.invokevirtual index, 3))
    (h : ∀ (r : Int32) (u1 : RS), post r u1 → zJ p l e R s m args below meth c g A nL Q (wX6 g ad u1) k n (pc + 3) lv (.int r :: st)) : zJ p l e R s m args below meth c g A nL Q (wX6 g ad u) k n pc lv st0 :=
  z_Vi C [] (wX6 g ad u) [] (by simp) hM hv hlk 6 (q := (RX6, TX6, 4)) rfl hq 0 rfl hR hcap hroom hst hd (fun r u1 hw => z_ws (ws1 := wX6 g ad u1) (by simp) (h r u1 hw))
theorem c6v (C : zC p s m args meth c g A cc RX6 nL) {y : MethodName} {cc1 : ByteArray} {n1 k1 index : Nat} {ret : Option FieldType} {As : List Value} {post : RS → Prop} (hM : zMv l y cc1 n1 ret k1 0 0 g (.ref (ad 0) :: As) (wX6 g ad u) (wX6 g ad) post) (hv : zV y cc1 n1 ret As.length) (hlk : Cond.methodLink RX6 index y ∈ zW) (hq : RX6 = y.cls)
    (hR : k1 + 1 ≤ R.frames ∧ 8 + (n1 + 11) + 40 * k1 ≤ R.locals) (hcap : k ≤ R.cells ∧ n ≤ R.slots) (hroom : (st.map fun v => v.category).sum ≤ 8) (hst : st0 = As.reverse ++ .ref (ad 0) :: st) (hd : decode cc pc = .ok (.invokevirtual index, 3))
    (h : ∀ (u1 : RS), post u1 → zJ p l e R s m args below meth c g A nL Q (wX6 g ad u1) k n (pc + 3) lv (st)) : zJ p l e R s m args below meth c g A nL Q (wX6 g ad u) k n pc lv st0 :=
  z_Vv C [] (wX6 g ad u) [] (by simp) hM hv hlk 6 (q := (RX6, TX6, 4)) rfl hq 0 rfl hR hcap hroom hst hd (fun u1 hw => z_ws (ws1 := wX6 g ad u1) (by simp) (h u1 hw))
end ZX6
