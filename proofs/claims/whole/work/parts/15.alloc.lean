-- rows that make arrays and objects; a constructor's call; statics
def zad (l : List Nat) : Nat → Nat := fun k => l.getD k 0
def zad2 (l : List (Nat → Nat)) : Nat → Nat → Nat := fun k => l.getD k (fun _ => 0)
def z0 : RS := (fun _ _ => 0, fun _ _ => 0)
theorem wAi : Cond.arrayClass .int ∈ zW := zW_at 95 (by decide +kernel) rfl
theorem wAl : Cond.arrayClass .long ∈ zW := zW_at 166 (by decide +kernel) rfl
theorem wAz : Cond.arrayClass .boolean ∈ zW := zW_at 915 (by decide +kernel) rfl
theorem wOi : Cond.instanceMethod objectInit ∈ zW := zW_at 73 (by decide +kernel) rfl
theorem wOc : Cond.code objectInit ⟨#[0xb1]⟩ 1 none ∈ zW := zW_at 74 (by decide +kernel) rfl
theorem mo0 : Cond.methodLink RX0 3 objectInit ∈ zW := zW_at 101 (by decide +kernel) rfl
theorem wI0 : Cond.instantiable RX0 2 ∈ zW := zW_at 97 (by decide +kernel) rfl
theorem wN0 : Cond.initialized RX0 ∈ zW := zW_at 58 (by decide +kernel) rfl
theorem mo1 : Cond.methodLink RX1 3 objectInit ∈ zW := zW_at 252 (by decide +kernel) rfl
theorem wI1 : Cond.instantiable RX1 4 ∈ zW := zW_at 248 (by decide +kernel) rfl
theorem wN1 : Cond.initialized RX1 ∈ zW := zW_at 62 (by decide +kernel) rfl
theorem mo2 : Cond.methodLink RX2 3 objectInit ∈ zW := zW_at 86 (by decide +kernel) rfl
theorem wI2 : Cond.instantiable RX2 2 ∈ zW := zW_at 82 (by decide +kernel) rfl
theorem wN2 : Cond.initialized RX2 ∈ zW := zW_at 57 (by decide +kernel) rfl
theorem mo3 : Cond.methodLink RX3 3 objectInit ∈ zW := zW_at 180 (by decide +kernel) rfl
theorem wI3 : Cond.instantiable RX3 9 ∈ zW := zW_at 176 (by decide +kernel) rfl
theorem wN3 : Cond.initialized RX3 ∈ zW := zW_at 61 (by decide +kernel) rfl
theorem mo4 : Cond.methodLink RX4 3 objectInit ∈ zW := zW_at 141 (by decide +kernel) rfl
theorem wI4 : Cond.instantiable RX4 7 ∈ zW := zW_at 137 (by decide +kernel) rfl
theorem wN4 : Cond.initialized RX4 ∈ zW := zW_at 60 (by decide +kernel) rfl
theorem mo5 : Cond.methodLink RX5 3 objectInit ∈ zW := zW_at 80 (by decide +kernel) rfl
theorem wI5 : Cond.instantiable RX5 8 ∈ zW := zW_at 76 (by decide +kernel) rfl
theorem wN5 : Cond.initialized RX5 ∈ zW := zW_at 56 (by decide +kernel) rfl
theorem mo6 : Cond.methodLink RX6 3 objectInit ∈ zW := zW_at 116 (by decide +kernel) rfl
theorem wI6 : Cond.instantiable RX6 4 ∈ zW := zW_at 112 (by decide +kernel) rfl
theorem wN6 : Cond.initialized RX6 ∈ zW := zW_at 59 (by decide +kernel) rfl
theorem mo7 : Cond.methodLink RX7 1 objectInit ∈ zW := zW_at 72 (by decide +kernel) rfl
theorem wI7 : Cond.instantiable RX7 7 ∈ zW := zW_at 68 (by decide +kernel) rfl
theorem wN7 : Cond.initialized RX7 ∈ zW := zW_at 55 (by decide +kernel) rfl
theorem mo8 : Cond.methodLink RX8 1 objectInit ∈ zW := zW_at 850 (by decide +kernel) rfl
theorem wI8 : Cond.instantiable RX8 20 ∈ zW := zW_at 846 (by decide +kernel) rfl
theorem wN8 : Cond.initialized RX8 ∈ zW := zW_at 63 (by decide +kernel) rfl
theorem wV3 : Cond.arrayOver (.object "RxQueues$State") ∈ zNest := List.mem_filter.mpr ⟨List.mem_of_getElem? (i := 254) (by decide +kernel), rfl⟩
theorem wV4 : Cond.arrayOver (.object "RxQueues$Queue") ∈ zNest := List.mem_filter.mpr ⟨List.mem_of_getElem? (i := 135) (by decide +kernel), rfl⟩
theorem wCl : Cond.castable "[I" "java/lang/Cloneable" ∈ zNest := List.mem_filter.mpr ⟨List.mem_of_getElem? (i := 174) (by decide +kernel), rfl⟩
theorem wC1 : Cond.sameMethod "[I" "java/lang/Object" "clone" "()Ljava/lang/Object;" ∈ zW := zW_at 170 (by decide +kernel) rfl
theorem wC2 : Cond.native ⟨"java/lang/Object", "clone", "()Ljava/lang/Object;"⟩ ∈ zW := zW_at 171 (by decide +kernel) rfl
theorem wC3 : Cond.instanceMethod ⟨"java/lang/Object", "clone", "()Ljava/lang/Object;"⟩ ∈ zW := zW_at 172 (by decide +kernel) rfl
theorem wC4 : Cond.selects "[I" ⟨"[I", "clone", "()Ljava/lang/Object;"⟩ ⟨"java/lang/Object", "clone", "()Ljava/lang/Object;"⟩ ∈ zW := zW_at 173 (by decide +kernel) rfl
theorem wC5 : Cond.methodLink RX5 49 ⟨"[I", "clone", "()Ljava/lang/Object;"⟩ ∈ zW := zW_at 169 (by decide +kernel) rfl
theorem wC6 : Cond.classLink RX5 50 "[I" ∈ zW := zW_at 175 (by decide +kernel) rfl
theorem wC7 : Cond.fieldLinkNest RX5 45 "RxQueues" "FIRST_TERMS" "[I" "RxQueues" ∈ zNest := List.mem_filter.mpr ⟨List.mem_of_getElem? (i := 167) (by decide +kernel), rfl⟩
section ZA
variable {p : Program} {l : Launch} {e : Env} {R : Room} {s : State} {m : MethodId} {args : Array Value} {below : List Frame} {meth : Method} {c : Code} {g : zG} {A : Nat → Prop} {nL : Nat} {Q : State → Prop} {ws : va_W} {k n pc : Nat} {lv : List (Nat × Value)} {st st0 : List Value} {cc : ByteArray} {own : String}
theorem zcA_i {cA : ClassId} (hK : va_K g.1 vwCl (zT g) s) (hK1 : va_K g.1 vwCl (zT g ++ [(cA, .int)]) s) : cA = g.2.1 0 := by
  have h1 : s.vm.findClass ("[" ++ (FieldType.int).toString) = some cA := (hK1.2 5 (cA, .int) rfl).2
  have h2 : s.vm.findClass ("[" ++ (FieldType.int).toString) = some (g.2.1 0) := (hK.2 0 (g.2.1 0, .int) rfl).2
  exact Option.some.inj (h1.symm.trans h2)
theorem z_newi (C : zC p s m args meth c g A cc own nL) {v : Int32} (N : Nat) (hn : ¬ v < 0) (hN : v.toNatClampNeg = N) (hb : N * componentBytes .int ≤ 536870912) (hcap : k + 1 ≤ R.cells ∧ n + N ≤ R.slots) (hd : decode cc pc = .ok (.newarray .int, 2)) (h : ∀ q : Nat, zJ p l e R s m args below meth c g A nL Q (ws ++ [(q, .inl (g.2.1 0, N, .inl (fun _ => 0)))]) (k + 1) (n + N) (pc + 2) lv (.ref q :: st)) : zJ p l e R s m args below meth c g A nL Q ws k n pc lv (.int v :: st) :=
  fun H locs ls hP hD hS hl => va_newa (atype := .int) C.1 C.2.1 (C.2.2.2.2.1 _ wAi) rfl C.2.2.2.2.2.1 hP hD hS C.2.2.2.2.2.2.1 (a0 := (N, .inl (fun _ => 0))) (fun cA => rfl) hn hN hb hcap.1 hcap.2 hd (fun q cA H1 hK1 hP1 hD1 hS1 => by
    obtain rfl := zcA_i C.2.2.2.2.2.1 hK1
    exact h q H1 locs ls hP1 hD1 hS1 hl)
theorem zcA_l {cA : ClassId} (hK : va_K g.1 vwCl (zT g) s) (hK1 : va_K g.1 vwCl (zT g ++ [(cA, .long)]) s) : cA = g.2.1 1 := by
  have h1 : s.vm.findClass ("[" ++ (FieldType.long).toString) = some cA := (hK1.2 5 (cA, .long) rfl).2
  have h2 : s.vm.findClass ("[" ++ (FieldType.long).toString) = some (g.2.1 1) := (hK.2 1 (g.2.1 1, .long) rfl).2
  exact Option.some.inj (h1.symm.trans h2)
theorem z_newl (C : zC p s m args meth c g A cc own nL) {v : Int32} (N : Nat) (hn : ¬ v < 0) (hN : v.toNatClampNeg = N) (hb : N * componentBytes .long ≤ 536870912) (hcap : k + 1 ≤ R.cells ∧ n + N ≤ R.slots) (hd : decode cc pc = .ok (.newarray .long, 2)) (h : ∀ q : Nat, zJ p l e R s m args below meth c g A nL Q (ws ++ [(q, .inl (g.2.1 1, N, .inr (.inl (fun _ => 0))))]) (k + 1) (n + N) (pc + 2) lv (.ref q :: st)) : zJ p l e R s m args below meth c g A nL Q ws k n pc lv (.int v :: st) :=
  fun H locs ls hP hD hS hl => va_newa (atype := .long) C.1 C.2.1 (C.2.2.2.2.1 _ wAl) rfl C.2.2.2.2.2.1 hP hD hS C.2.2.2.2.2.2.1 (a0 := (N, .inr (.inl (fun _ => 0)))) (fun cA => rfl) hn hN hb hcap.1 hcap.2 hd (fun q cA H1 hK1 hP1 hD1 hS1 => by
    obtain rfl := zcA_l C.2.2.2.2.2.1 hK1
    exact h q H1 locs ls hP1 hD1 hS1 hl)
theorem zcA_z {cA : ClassId} (hK : va_K g.1 vwCl (zT g) s) (hK1 : va_K g.1 vwCl (zT g ++ [(cA, .boolean)]) s) : cA = g.2.1 2 := by
  have h1 : s.vm.findClass ("[" ++ (FieldType.boolean).toString) = some cA := (hK1.2 5 (cA, .boolean) rfl).2
  have h2 : s.vm.findClass ("[" ++ (FieldType.boolean).toString) = some (g.2.1 2) := (hK.2 2 (g.2.1 2, .boolean) rfl).2
  exact Option.some.inj (h1.symm.trans h2)
theorem z_newz (C : zC p s m args meth c g A cc own nL) {v : Int32} (N : Nat) (hn : ¬ v < 0) (hN : v.toNatClampNeg = N) (hb : N * componentBytes .boolean ≤ 536870912) (hcap : k + 1 ≤ R.cells ∧ n + N ≤ R.slots) (hd : decode cc pc = .ok (.newarray .boolean, 2)) (h : ∀ q : Nat, zJ p l e R s m args below meth c g A nL Q (ws ++ [(q, .inl (g.2.1 2, N, .inl (fun _ => 0)))]) (k + 1) (n + N) (pc + 2) lv (.ref q :: st)) : zJ p l e R s m args below meth c g A nL Q ws k n pc lv (.int v :: st) :=
  fun H locs ls hP hD hS hl => va_newa (atype := .boolean) C.1 C.2.1 (C.2.2.2.2.1 _ wAz) rfl C.2.2.2.2.2.1 hP hD hS C.2.2.2.2.2.2.1 (a0 := (N, .inl (fun _ => 0))) (fun cA => rfl) hn hN hb hcap.1 hcap.2 hd (fun q cA H1 hK1 hP1 hD1 hS1 => by
    obtain rfl := zcA_z C.2.2.2.2.2.1 hK1
    exact h q H1 locs ls hP1 hD1 hS1 hl)
theorem zcA_3 {cA : ClassId} (hK : va_K g.1 vwCl (zT g) s) (hK1 : va_K g.1 vwCl (zT g ++ [(cA, .object "RxQueues$State")]) s) : cA = g.2.1 3 := by
  obtain ⟨-, -, -, -, -, h1⟩ := (hK1.2 5 (cA, .object "RxQueues$State") rfl).2
  obtain ⟨-, -, -, -, -, h2⟩ := (hK.2 3 (g.2.1 3, .object "RxQueues$State") rfl).2
  exact Option.some.inj (h1.symm.trans h2)
theorem z_newq3 (C : zC p s m args meth c g A cc own nL) {index : Nat} {v : Int32} (N : Nat) (hcl : Cond.classLink own index "RxQueues$State" ∈ zW) (hn : ¬ v < 0) (hN : v.toNatClampNeg = N) (hb : N * 4 ≤ 536870912) (hcap : k + 1 ≤ R.cells ∧ n + N ≤ R.slots) (hd : decode cc pc = .ok (.anewarray index, 3)) (h : ∀ q : Nat, zJ p l e R s m args below meth c g A nL Q (ws ++ [(q, .inl (g.2.1 3, N, .inr (.inr (.inr (.inr (fun _ => none))))))]) (k + 1) (n + N) (pc + 3) lv (.ref q :: st)) : zJ p l e R s m args below meth c g A nL Q ws k n pc lv (.int v :: st) :=
  fun H locs ls hP hD hS hl => va_newq C.1 C.2.1 C.2.2.2.1 (C.2.2.2.2.1 _ hcl) (va_AO.of (C.2.2.2.2.2.2.2.1.2.2.2.2.2.2 _ wV3)) C.2.2.2.2.2.1 hP hD hS C.2.2.2.2.2.2.1 hn hN hb hcap.1 hcap.2 hd (fun q cA H1 hK1 hP1 hD1 hS1 => by
    obtain rfl := zcA_3 C.2.2.2.2.2.1 hK1
    exact h q H1 locs ls hP1 hD1 hS1 hl)
theorem zcA_4 {cA : ClassId} (hK : va_K g.1 vwCl (zT g) s) (hK1 : va_K g.1 vwCl (zT g ++ [(cA, .object "RxQueues$Queue")]) s) : cA = g.2.1 4 := by
  obtain ⟨-, -, -, -, -, h1⟩ := (hK1.2 5 (cA, .object "RxQueues$Queue") rfl).2
  obtain ⟨-, -, -, -, -, h2⟩ := (hK.2 4 (g.2.1 4, .object "RxQueues$Queue") rfl).2
  exact Option.some.inj (h1.symm.trans h2)
theorem z_newq4 (C : zC p s m args meth c g A cc own nL) {index : Nat} {v : Int32} (N : Nat) (hcl : Cond.classLink own index "RxQueues$Queue" ∈ zW) (hn : ¬ v < 0) (hN : v.toNatClampNeg = N) (hb : N * 4 ≤ 536870912) (hcap : k + 1 ≤ R.cells ∧ n + N ≤ R.slots) (hd : decode cc pc = .ok (.anewarray index, 3)) (h : ∀ q : Nat, zJ p l e R s m args below meth c g A nL Q (ws ++ [(q, .inl (g.2.1 4, N, .inr (.inr (.inr (.inr (fun _ => none))))))]) (k + 1) (n + N) (pc + 3) lv (.ref q :: st)) : zJ p l e R s m args below meth c g A nL Q ws k n pc lv (.int v :: st) :=
  fun H locs ls hP hD hS hl => va_newq C.1 C.2.1 C.2.2.2.1 (C.2.2.2.2.1 _ hcl) (va_AO.of (C.2.2.2.2.2.2.2.1.2.2.2.2.2.2 _ wV4)) C.2.2.2.2.2.1 hP hD hS C.2.2.2.2.2.2.1 hn hN hb hcap.1 hcap.2 hd (fun q cA H1 hK1 hP1 hD1 hS1 => by
    obtain rfl := zcA_4 C.2.2.2.2.2.1 hK1
    exact h q H1 locs ls hP1 hD1 hS1 hl)
theorem z_new (C : zC p s m args meth c g A cc own nL) {Cn : String} {T : u_T} {N ci index : Nat} (hin : ∀ w ∈ u_ws Cn T N, w ∈ zW) (ty : Nat → FieldType) (hty : ∀ k, k < N → parseFieldDescriptor (T k).2.2.1 = some (ty k)) (hcl : Cond.classLink own index Cn ∈ zW) (hinst : Cond.instantiable Cn N ∈ zW) (hini : Cond.initialized Cn ∈ zW) (hc : vwCl[ci]? = some (Cn, T, N)) (fs : List Value) (hfs : ∀ j, j < N → defaultValue (ty j) = vp_V fs j) (hcap : k + 1 ≤ R.cells ∧ n + N ≤ R.slots) (hd : decode cc pc = .ok (.new index, 3)) (h : ∀ q : Nat, zJ p l e R s m args below meth c g A nL Q (ws ++ [(q, .inr (ci, fs))]) (k + 1) (n + N) (pc + 3) lv (.ref q :: st)) : zJ p l e R s m args below meth c g A nL Q ws k n pc lv st :=
  fun H locs ls hP hD hS hl => va_new C.1 C.2.1 C.2.2.2.2.1 hin ty hty C.2.2.2.1 (C.2.2.2.2.1 _ hcl) (C.2.2.2.2.1 _ hinst) (C.2.2.2.2.1 _ hini) C.2.2.2.2.2.1 hP hD hS C.2.2.2.2.2.2.1 hc hfs hcap.1 hcap.2 hd (fun q H1 hP1 hD1 hS1 => h q H1 locs ls hP1 hD1 hS1 hl)
theorem z_objI (C : zC p s m args meth c g A cc own nL) {idx a : Nat} (hlk : Cond.methodLink own idx objectInit ∈ zW) (hf : 1 ≤ R.frames) (hlo : (st.map fun v => v.category).sum + 12 ≤ R.locals) (hd : decode cc pc = .ok (.invokespecial idx, 3)) (h : zJ p l e R s m args below meth c g A nL Q ws k n (pc + 3) lv st) : zJ p l e R s m args below meth c g A nL Q ws k n pc lv (.ref a :: st) :=
  fun H locs ls hP hD hS hl => W.objInit C.1 C.2.1 C.2.2.2.1 (C.2.2.2.2.1 _ hlk) (C.2.2.2.2.1 _ wOi) (C.2.2.2.2.1 _ wOc) rfl (by show ls.size = _; rw [hl.1]; exact C.2.2.1.symm) rfl hd hf (by show 2 * 0 + _ + 12 ≤ _; omega) (h H locs ls hP hD hS hl)
theorem z_putF (C : zC p s m args meth c g A cc own nL) (hmn : meth.name = "<init>") {Cn : String} {T : u_T} {N ci index : Nat} (hin : ∀ w ∈ u_ws Cn T N, w ∈ zW) (ty0 : Nat → FieldType) (hty : ∀ k, k < N → parseFieldDescriptor (T k).2.2.1 = some (ty0 k)) (hnm : ∀ a, a < N → ∀ b, b < N → a ≠ b → (T a).2.1 ≠ (T b).2.1) (hc : vwCl[ci]? = some (Cn, T, N)) (kk : Nat) (hk : kk < N) (hlk : Cond.fieldLink own index (T kk).1 (T kk).2.1 (T kk).2.2.1 ∈ zW) (hfin : (T kk).2.2.2 = true) (hdecl : (T kk).1 = own) {ty : FieldType} (hde : parseFieldDescriptor (T kk).2.2.1 = some ty) (q0 : Nat) {a v : Nat} (hn : narrow ty (.ref v) = .ref v) (hfit : fits ty (.ref v) = true) (fs : List Value) (he : ws[q0]? = some (a, .inr (ci, fs))) (hlen : kk < fs.length) (hd : decode cc pc = .ok (.putfield index, 3)) (ws1 : va_W) (hw : ws.set q0 (a, .inr (ci, fs.set kk (.ref v))) = ws1) (h : zJ p l e R s m args below meth c g A nL Q ws1 k n (pc + 3) lv st) : zJ p l e R s m args below meth c g A nL Q ws k n pc lv (.ref v :: .ref a :: st) :=
  fun H locs ls hP hD hS hl => va_putF C.1 C.2.1 C.2.2.2.2.1 hin ty0 hty hnm C.2.2.2.1 C.2.2.2.2.2.1 hP hD hS q0 he hc kk hk (C.2.2.2.2.1 _ hlk) (fun _ h9 => h9) hfin hmn hdecl hde hn hfit hlen hd (fun H1 locs1 hP1 hD1 hS1 => h H1 locs1 ls (hw ▸ hP1) (hw ▸ hD1) hS1 hl)
theorem z_putr (C : zC p s m args meth c g A cc own nL) {Cn : String} {T : u_T} {N ci index : Nat} (hin : ∀ w ∈ u_ws Cn T N, w ∈ zW) (ty0 : Nat → FieldType) (hty : ∀ k, k < N → parseFieldDescriptor (T k).2.2.1 = some (ty0 k)) (hnm : ∀ a, a < N → ∀ b, b < N → a ≠ b → (T a).2.1 ≠ (T b).2.1) (hc : vwCl[ci]? = some (Cn, T, N)) (kk : Nat) (hk : kk < N) (hlk : Cond.fieldLink own index (T kk).1 (T kk).2.1 (T kk).2.2.1 ∈ zW) (hfin : (T kk).2.2.2 = false) {ty : FieldType} (hde : parseFieldDescriptor (T kk).2.2.1 = some ty) (q0 : Nat) {a v : Nat} (hn : narrow ty (.ref v) = .ref v) (hfit : fits ty (.ref v) = true) (fs : List Value) (he : ws[q0]? = some (a, .inr (ci, fs))) (hlen : kk < fs.length) (hd : decode cc pc = .ok (.putfield index, 3)) (ws1 : va_W) (hw : ws.set q0 (a, .inr (ci, fs.set kk (.ref v))) = ws1) (h : zJ p l e R s m args below meth c g A nL Q ws1 k n (pc + 3) lv st) : zJ p l e R s m args below meth c g A nL Q ws k n pc lv (.ref v :: .ref a :: st) :=
  fun H locs ls hP hD hS hl => va_put C.1 C.2.1 C.2.2.2.2.1 hin ty0 hty hnm C.2.2.2.1 C.2.2.2.2.2.1 hP hD hS q0 he hc kk hk (C.2.2.2.2.1 _ hlk) (fun _ h9 => h9) hfin hde hn hfit hlen hd (fun H1 locs1 hP1 hD1 hS1 => h H1 locs1 ls (hw ▸ hP1) (hw ▸ hD1) hS1 hl)
theorem z_fold {x : Int32} (v : Int32) (hv : x = v) (h : zJ p l e R s m args below meth c g A nL Q ws k n pc lv (.int v :: st)) : zJ p l e R s m args below meth c g A nL Q ws k n pc lv (.int x :: st) := hv ▸ h
theorem z_sub (is : List Nat) (hn : va_nd is = true) {ws1 : va_W} (hs : is.map (fun i => ws[i]?) = ws1.map some) (h : zJ p l e R s m args below meth c g A nL Q ws1 k n pc lv st) : zJ p l e R s m args below meth c g A nL Q ws k n pc lv st := by
  intro H locs ls hP hD hS hl
  refine h H locs ls (fun k q hk => ?_) (hD.sub is hn hs) hS hl
  have h1 : (is.map (fun i => ws[i]?))[k]? = some (some q) := by rw [hs, List.getElem?_map, hk]; rfl
  rw [List.getElem?_map] at h1
  cases hi : is[k]? with
  | none => rw [hi] at h1; cases h1
  | some i => rw [hi] at h1; exact hP i q (Option.some.inj h1)
theorem z_aastq (C : zC p s m args meth c g A cc own nL) (q0 t0 qk ci : Nat) {a v n0 : Nat} {cA : ClassId} {r : vw_C} {vs : List Value} {f : Nat → Option Nat} (ha : ws[q0]? = some (a, .inl (cA, n0, .inr (.inr (.inr (.inr f)))))) (ht : (zT g)[t0]? = some (cA, .object r.1)) (hv : ws[qk]? = some (v, .inr (ci, vs))) (hc : vwCl[ci]? = some r) {i : Int32} (hin : vp_in i n0) (hd : decode cc pc = .ok (.aastore, 1)) (ws1 : va_W) (hw : ws.set q0 (a, .inl (cA, n0, .inr (.inr (.inr (.inr (va_up f i.toNatClampNeg (some v))))))) = ws1) (h : zJ p l e R s m args below meth c g A nL Q ws1 k n (pc + 1) lv st) : zJ p l e R s m args below meth c g A nL Q ws k n pc lv (.ref v :: .int i :: .ref a :: st) :=
  fun H locs ls hP hD hS hl => va_astq C.1 C.2.1 C.2.2.2.2.2.1 hP hD hS q0 t0 qk ci ha ht hv hc hin hd (fun H1 locs1 hP1 hD1 hS1 => h H1 locs1 ls (hw ▸ hP1) (hw ▸ hD1) hS1 hl)
theorem z_castA (C : zC p s m args meth c g A cc own nL) {index : Nat} {nm : String} (hlk : Cond.classLink own index "[I" ∈ zW) (q0 : Nat) {a : Nat} {x : vp_A} (ha : ws[q0]? = some (a, .inl (g.2.1 0, x))) (hd : decode cc pc = .ok (.checkcast index, 3)) (h : zJ p l e R s m args below meth c g A nL Q ws k n (pc + 3) lv (.ref a :: st)) : zJ p l e R s m args below meth c g A nL Q ws k n pc lv (.ref a :: st) :=
  fun H locs ls hP hD hS hl => va_castA C.1 C.2.1 C.2.2.2.1 (C.2.2.2.2.1 _ hlk) hP q0 ha (show s.vm.findClass "[I" = some (g.2.1 0) from (C.2.2.2.2.2.1.2 0 (g.2.1 0, .int) rfl).2) hd (h H locs ls hP hD hS hl)
theorem z_gets (C : zC p s m args meth c g A cc own nL) {index t : Nat} {Cn nm : String} (hZ : va_Z Cn nm "[I" (.ref t) A s s.heap) (hlk : Cond.fieldLink own index Cn nm "[I" ∈ zW) (hd : decode cc pc = .ok (.getstatic index, 3)) (h : zJ p l e R s m args below meth c g A nL Q ws k n (pc + 3) lv (.ref t :: st)) : zJ p l e R s m args below meth c g A nL Q ws k n pc lv st :=
  fun H locs ls hP hD hS hl => va_gets C.1 C.2.1 hZ hS C.2.2.2.1 (C.2.2.2.2.1 _ hlk) (fun _ h9 => h9) hd (h H locs ls hP hD hS hl)
/-- getstatic of a nest mate's private static -/
theorem z_getsN (C : zC p s m args meth c g A cc own nL) {index t : Nat} {Cn nm host : String} (hZ : va_Z Cn nm "[I" (.ref t) A s s.heap) (hlk : Cond.fieldLinkNest own index Cn nm "[I" host ∈ zNest) (hd : decode cc pc = .ok (.getstatic index, 3)) (h : zJ p l e R s m args below meth c g A nL Q ws k n (pc + 3) lv (.ref t :: st)) : zJ p l e R s m args below meth c g A nL Q ws k n pc lv st := by
  intro H locs ls hP hD hS hl T hT X
  obtain ⟨cf, kf, fi, f, a, cell, h1, h2, h3, h4, h5, h6, h7, h8⟩ := hZ
  have hlink : (Cond.fieldLinkNest own index Cn nm "[I" host).before args s = true := va_Nw.use rfl (C.2.2.2.2.2.2.2.1.2.2.2.2.2.2 _ hlk)
  have hcell : T.heap[a]? = some cell := by rw [hT, hS.2.1 a (Array.getElem?_eq_some_iff.mp h5).1 h8]; exact h5
  have hknown : cell.vm ≠ .unknown := fun z => by rw [z] at h6; cases h6
  have hexec := C.1
  have hdg : decode c.code pc = .ok (.getstatic index, 3) := by rw [C.2.1]; exact hd
  have hpl : e.platform.magicAccessors = ({} : Platform).magicAccessors := by rw [X.admits.platform]
  obtain ⟨ci', cfl, k', i', f', hh, -, hi', hlinks, hright⟩ := Cond.fieldLinkNest_spec C.2.2.2.1 hlink e.platform hpl
  cases h1.symm.trans hi'
  obtain ⟨hk, hf⟩ := State.fieldFound?_spec h1
  obtain ⟨vm', hgives, hW', hready, hfi⟩ := State.fieldEntryNest (e := e) X.warmed hlinks hright hk hf
  obtain ⟨kc, hkc, hekc⟩ := hW'.alike.2.2 _ _ hk
  obtain ⟨t2, a1, b1⟩ := h H locs ls hP hD hS hl (T.setVm vm') hT (X.noted hW')
  refine ⟨t2, ?_, b1⟩
  jvm_step X.here [hexec, hdg, getstatic.wp_cold (e := e) (s := T) (f := F0 m pc ls st) X.here.top hgives hready hfi,
    getstatic.wp_ready (e := e) (s := T.setVm vm') (f := F0 m pc ls st) X.here.top hready h2 hkc (by rw [hekc]; exact h3) (by rw [hekc]; exact h4) (show (T.setVm vm').heap[a]? = some cell from hcell) hknown h7]
  exact a1
/-- the clone of FIRST_TERMS -/
theorem z_clone (C : zC p s m args meth c g A cc own nL) {index : Nat} (hlk : Cond.methodLink own index ⟨"[I", "clone", "()Ljava/lang/Object;"⟩ ∈ zW) (hf : 1 ≤ R.frames) (hlo : (st.map fun v => v.category).sum + 14 ≤ R.locals) (hcap : k + 1 ≤ R.cells ∧ n + 9 ≤ R.slots) (hd : decode cc pc = .ok (.invokevirtual index, 3)) (h : ∀ q : Nat, zJ p l e R s m args below meth c g A nL Q (ws ++ [(q, .inl (g.2.1 0, 9, .inl zFirst))]) (k + 1) (n + 9) (pc + 3) lv (.ref q :: st)) : zJ p l e R s m args below meth c g A nL Q ws k n pc lv (.ref (g.2.2 1) :: st) := by
  intro H locs ls hP hD hS hl T hT X
  have hts := C.2.2.2.2.1
  have hK := C.2.2.2.2.2.1
  obtain ⟨cell, h1, h2, h3, h4, h5, h6⟩ := C.2.2.2.2.2.2.2.1.2.2.2.2.1
  have hcell : T.heap[g.2.2 1]? = some cell := by rw [hT, hS.2.1 _ (Array.getElem?_eq_some_iff.mp h1).1 h6]; exact h1
  have hnm : s.vm.findClass "[I" = some (g.2.1 0) := (hK.2 0 (g.2.1 0, .int) rfl).2
  obtain ⟨c0, t0', f1, f2, f3⟩ := Cond.castable_spec (va_Nw.use (A := args) rfl (C.2.2.2.2.2.2.2.1.2.2.2.2.2.2 _ wCl))
  cases hnm.symm.trans f1
  obtain ⟨-, kA, hkA, comp, hkind⟩ := State.isArrayOf_alike X.warmed.alike ((hK.2 0 (g.2.1 0, .int) rfl).1 0 (fun _ => .null))
  obtain ⟨-, kS, hkS, compS, hkindS⟩ := (hK.2 0 (g.2.1 0, .int) rfl).1 0 (fun _ => .null)
  have hsz : cell.slots.size = 9 := by rw [h5]; exact arrV_size _ _ _
  have hcE : ({ cls := cell.cls, slots := cell.slots } : Cell) = vp_cell (g.2.1 0) (9, .inl zFirst) := by rw [h2, h5]; rfl
  obtain ⟨vm', X', st'⟩ := X.cloneArray C.1 C.2.2.2.1 (hts _ hlk) (hts _ wC1) (hts _ wC2) (hts _ wC3) (hts _ wC4) (a := g.2.2 1) (cell := cell) hcell h3 h4 (by rw [h2]; exact hnm) f2 (by rw [h2]; exact f3)
    (fun i v hv => by
      rw [h2]
      have hk' : T.vm.classes[g.2.1 0]? = some kA := hkA
      have hfit : fits .int v = true := by
        rw [h5] at hv
        have hi : i < 9 := by
          have := (Array.getElem?_eq_some_iff.mp hv).1
          rw [arrV_size] at this
          exact this
        rw [arrV_read _ _ hi] at hv
        cases hv
        rfl
      simpa [State.fitsSlot, State.slotType?, hk', hkind] using hfit)
    (g := F0 m pc ls (.ref (g.2.2 1) :: st)) rfl (by show ls.size = _; rw [hl.1]; exact C.2.2.1.symm) rfl (by rw [C.2.1]; exact hd) hf (by show 2 * 0 + _ + 14 ≤ _; omega) hcap.1 (by rw [hsz]; exact hcap.2) (hloader := by rw [h2]; exact Vm.clonesLoader_of_array hkS hkindS)
  rw [hcE, hsz] at X'
  generalize hH1 : H.push (vp_cell (g.2.1 0) (9, .inl zFirst)) = H1
  have z1 : H1.size = H.size + 1 := by rw [← hH1, Array.size_push]
  have e1 : H1[H.size]? = some (vp_cell (g.2.1 0) (9, .inl zFirst)) := by rw [← hH1, Array.getElem?_push_size]
  have o1 : ∀ q : Nat, q < H.size → H1[q]? = H[q]? := fun q hq => by rw [← hH1, Array.getElem?_push, if_neg (Nat.ne_of_lt hq)]
  have hk2 : ∀ (k : Nat) (y : Nat × va_E), ws[k]? = some y → H1[y.1]? = H[y.1]? := fun k y hy => o1 y.1 ((hP k y hy).lt)
  obtain ⟨t, b1, b2⟩ := h H.size H1 locs ls ((hP.kept hk2).app (fun k y hy => by
      have hz : k < 1 := (List.getElem?_eq_some_iff.mp hy).1
      rw [show k = 0 by omega] at hy
      cases hy
      exact e1)) (hD.push hP rfl (C.2.2.2.2.2.2.1 _ hS.1)) ⟨Nat.le_trans hS.1 (by omega), fun y q1 q2 => (o1 y (Nat.lt_of_lt_of_le q1 hS.1)).trans (hS.2.1 y q1 q2), hS.2.2⟩ hl
    ((T.setVm vm').pushCell (vp_cell (g.2.1 0) (9, .inl zFirst))) (by rw [← hH1, ← hT]; rfl) X'
  refine ⟨t, st' t ?_, b2⟩
  rw [hcE, hT]
  exact b1
variable {y : MethodName} {cc1 : ByteArray} {n1 k1 mc ms index : Nat} {As : List Value} {b : Nat}
theorem z_Iv (C : zC p s m args meth c g A cc own nL) (X Cw Y : va_W) (hws : ws = X ++ (Cw ++ Y)) {S : Type} {w : S → va_W} {post : S → Prop} (hM : zMv l y cc1 n1 none k1 mc ms g (.ref b :: As) Cw w post) (hv : zI y cc1 n1 As.length) (hlk : Cond.methodLink own index y ∈ zW) (hR : k1 + 1 ≤ R.frames ∧ 8 + (n1 + 11) + 40 * k1 ≤ R.locals) (hcap : k + mc ≤ R.cells ∧ n + ms ≤ R.slots) (hroom : (st.map fun v => v.category).sum ≤ 8) (hst : st0 = As.reverse ++ .ref b :: st) (hd : decode cc pc = .ok (.invokespecial index, 3)) (h : ∀ (u : S), post u → zJ p l e R s m args below meth c g A nL Q (X ++ (w u ++ Y)) (k + mc) (n + ms) (pc + 3) lv st) : zJ p l e R s m args below meth c g A nL Q ws k n pc lv st0 := by
  intro H locs ls hP hD hS hl
  subst hws
  obtain ⟨hPc, hDc⟩ := zmidC hP hD
  have hF : ∀ q, va_A Cw H.size q → A q := by
    intro q h
    rcases h with ⟨i, e1, h⟩ | h
    · exact hDc.2 i _ h
    · exact C.2.2.2.2.2.2.1 q (Nat.le_trans hS.1 h)
  have hts := C.2.2.2.2.1
  refine va_callv (va_runI (As := As) (rest := st) ⟨C.1, C.2.1, C.2.2.1, C.2.2.2.1, hts⟩ (hM H.size) ⟨callB_of As.length hts (zgood hv.1) rfl rfl rfl (hts _ hv.2.2.1) (hts _ hlk) hv.2.2.2.2 hR, hv.2.2.2.1, hts _ hv.2.1⟩ ⟨zB.blind, fun U hU hW => ⟨rfl, by rw [hU], by rw [hU]; exact hPc, va_K.moved hW.alike C.2.2.2.2.2.1, hDc.weaken (fun _ _ _ _ => trivial), by rw [hU]; exact C.2.2.2.2.2.2.2.1.go hW hS.2.1 hF⟩⟩ rfl rfl hl.1 hst (lv_room hroom) hd hcap) hS (fun q _ h => hF q h) hF (fun u t H1 locs1 ht hvm hw hB hz1 hk1 hS1 => ?_)
  obtain ⟨h1, h2⟩ := hB
  rw [ht] at h1
  obtain ⟨hP2, hD2⟩ := zmid hP hD hF hk1 h1 h2
  exact h u hw H1 locs1 ls hP2 hD2 hS1 hl
theorem z_INv (C : zC p s m args meth c g A cc own nL) (X Cw Y : va_W) (hws : ws = X ++ (Cw ++ Y)) {host : String} {S : Type} {w : S → va_W} {post : S → Prop} (hM : zMv l y cc1 n1 none k1 mc ms g (.ref b :: As) Cw w post) (hv : zI y cc1 n1 As.length) (hlk : Cond.methodLinkNest own index y host ∈ zNest) (hR : k1 + 1 ≤ R.frames ∧ 8 + (n1 + 11) + 40 * k1 ≤ R.locals) (hcap : k + mc ≤ R.cells ∧ n + ms ≤ R.slots) (hroom : (st.map fun v => v.category).sum ≤ 8) (hst : st0 = As.reverse ++ .ref b :: st) (hd : decode cc pc = .ok (.invokespecial index, 3)) (h : ∀ (u : S), post u → zJ p l e R s m args below meth c g A nL Q (X ++ (w u ++ Y)) (k + mc) (n + ms) (pc + 3) lv st) : zJ p l e R s m args below meth c g A nL Q ws k n pc lv st0 := by
  intro H locs ls hP hD hS hl
  subst hws
  obtain ⟨hPc, hDc⟩ := zmidC hP hD
  have hF : ∀ q, va_A Cw H.size q → A q := by
    intro q h
    rcases h with ⟨i, e1, h⟩ | h
    · exact hDc.2 i _ h
    · exact C.2.2.2.2.2.2.1 q (Nat.le_trans hS.1 h)
  have hts := C.2.2.2.2.1
  refine va_callv (va_runIN (As := As) (rest := st) ⟨C.1, C.2.1, C.2.2.1, C.2.2.2.1, hts⟩ (hM H.size) ⟨va_cnB As.length hts (zgood hv.1) rfl rfl rfl (C.2.2.2.2.2.2.2.1.2.2.2.2.2.2 _ hlk) (hts _ hv.2.2.1) hv.2.2.2.2 hR, hv.2.2.2.1, hts _ hv.2.1⟩ ⟨zB.blind, fun U hU hW => ⟨rfl, by rw [hU], by rw [hU]; exact hPc, va_K.moved hW.alike C.2.2.2.2.2.1, hDc.weaken (fun _ _ _ _ => trivial), by rw [hU]; exact C.2.2.2.2.2.2.2.1.go hW hS.2.1 hF⟩⟩ rfl rfl hl.1 hst (lv_room hroom) hd hcap) hS (fun q _ h => hF q h) hF (fun u t H1 locs1 ht hvm hw hB hz1 hk1 hS1 => ?_)
  obtain ⟨h1, h2⟩ := hB
  rw [ht] at h1
  obtain ⟨hP2, hD2⟩ := zmid hP hD hF hk1 h1 h2
  exact h u hw H1 locs1 ls hP2 hD2 hS1 hl
end ZA
