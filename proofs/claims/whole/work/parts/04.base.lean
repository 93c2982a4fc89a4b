-- base: the tables' words for every method, the judgement zJ over worlds, a row an instruction, a row a call
def zW : List Cond := lw_tbl.filter goodWord
theorem zW_in {w : Cond} (h : w ∈ lw_tbl) (hg : goodWord w = true) : w ∈ zW := List.mem_filter.mpr ⟨h, hg⟩
theorem zW_at (i : Nat) {w : Cond} (h : lw_tbl[i]? = some w) (hg : goodWord w = true) : w ∈ zW := zW_in (List.mem_of_getElem? h) hg
abbrev zws (y : MethodName) (cc : ByteArray) (n : Nat) (ret : Option FieldType) : List Cond := .code y cc n ret :: zW
theorem zgood {y : MethodName} {cc : ByteArray} {n : Nat} {ret : Option FieldType} (h : Cond.code y cc n ret ∈ zW) : GoodIn zW (zws y cc n ret) := by
  intro w hw
  have hm : w ∈ zW := by
    rcases List.mem_cons.mp hw with h1 | h1
    · rw [h1]; exact h
    · exact h1
  exact ⟨hm, good_of_word (List.mem_filter.mp hm).2⟩
abbrev zR (k mc ms : Nat) : Room := { frames := k, cells := mc, slots := ms, locals := 40 * k }
/-- the classes, the array classes, the static tables' addresses -/
abbrev zG : Type := va_G × (Nat → ClassId) × (Nat → Nat)
abbrev zT (g : zG) : List (ClassId × FieldType) := [(g.2.1 0, .int), (g.2.1 1, .long), (g.2.1 2, .boolean), (g.2.1 3, .object "RxQueues$State"), (g.2.1 4, .object "RxQueues$Queue")]
def zLeast : Nat → Int32 := fun k => ([1, 1, 1, 1, 0, 64, 0, 0, 1] : List Int32).getD k 0
def zFirst : Nat → Int32 := fun k => ([16, 8, 40, 4000, 40, 1024, 0, 0, 12] : List Int32).getD k 0
def zMost : Nat → Int32 := fun k => ([32, 32, 999, 9999, 64, 4096, 1, 256, 32] : List Int32).getD k 0
def zIsNest : Cond → Bool
  | .methodLinkNest .. => true
  | .fieldLinkNest .. => true
  | .castable .. => true
  | .arrayOver (.object _) => true
  | _ => false
def zNest : List Cond := lw_tbl.filter zIsNest
def zN (U : State) : Prop := ∀ w ∈ zNest, w.before #[] U = true
theorem zN.warm {s U : State} (hW : s.WarmedH U.vm) (h : zN s) : zN U := by
  intro w hw
  have h1 := h w hw
  have h2 := (List.mem_filter.mp hw).2
  cases w with
  | methodLinkNest a i x hh => exact va_Nw.warmM hW h1
  | fieldLinkNest a i b n d hh => exact va_Nw.warmF hW h1
  | castable a b => exact va_Nw.warmC hW h1
  | arrayOver t =>
    cases t with
    | object C => exact va_AO.moved hW.alike h1
    | _ => simp [zIsNest] at h2
  | _ => simp [zIsNest] at h2
theorem zN.same {s U : State} (hv : s.vm = U.vm) (h : zN s) : zN U := by
  intro w hw
  have h1 := h w hw
  have h2 := (List.mem_filter.mp hw).2
  cases w with
  | methodLinkNest a i x hh => exact va_Nw.same rfl hv h1
  | fieldLinkNest a i b n d hh => exact va_Nw.same rfl hv h1
  | castable a b => exact va_Nw.same rfl hv h1
  | arrayOver t =>
    cases t with
    | object C => exact va_AO.moved (by rw [hv]; exact Vm.Alike.refl _) h1
    | _ => simp [zIsNest] at h2
  | _ => simp [zIsNest] at h2
/-- the static table FIRST_TERMS, whole -/
def zTab (g : zG) (A : Nat → Prop) (H : Heap) : Prop := ∃ cell : Cell, H[g.2.2 1]? = some cell ∧ cell.cls = g.2.1 0 ∧ (∀ k, cell.vm ≠ .statics k) ∧ cell.vm ≠ .unknown ∧ cell.slots = (arrV (g.2.1 0) 9 (fun j => .int (zFirst j))).slots ∧ ¬ A (g.2.2 1)
theorem zTab.kept {g : zG} {A B : Nat → Prop} {H0 H : Heap} (h : zTab g A H0) (hk : ∀ a : Nat, a < H0.size → ¬ A a → H[a]? = H0[a]?) (hB : ∀ q, B q → A q) : zTab g B H := by
  obtain ⟨cell, h1, h2, h3, h4, h5, h6⟩ := h
  exact ⟨cell, by rw [hk _ (Array.getElem?_eq_some_iff.mp h1).1 h6]; exact h1, h2, h3, h4, h5, fun z => h6 (hB _ z)⟩
/-- what nobody writes: the three static tables; the links between nest mates -/
def zS (g : zG) (A : Nat → Prop) (U : State) (H : Heap) : Prop :=
  va_Z "RxQueues" "LEAST_TERMS" "[I" (.ref (g.2.2 0)) A U H ∧ va_Z "RxQueues" "FIRST_TERMS" "[I" (.ref (g.2.2 1)) A U H ∧ va_Z "RxQueues" "MOST_TERMS" "[I" (.ref (g.2.2 2)) A U H ∧
  va_T .int (g.2.2 0) 9 (fun k => .int (zLeast k)) A U H ∧ zTab g A H ∧ va_T .int (g.2.2 2) 9 (fun k => .int (zMost k)) A U H ∧ zN U
theorem zS.go {g : zG} {A B : Nat → Prop} {s U : State} {H0 H : Heap} (h : zS g A s H0) (hW : s.WarmedH U.vm) (hk : ∀ a : Nat, a < H0.size → ¬ A a → H[a]? = H0[a]?) (hB : ∀ q, B q → A q) : zS g B U H := by
  obtain ⟨h1, h2, h3, h4, h5, h6, h7⟩ := h
  exact ⟨((h1.kept hk).moved hW.alike).narrow hB, ((h2.kept hk).moved hW.alike).narrow hB, ((h3.kept hk).moved hW.alike).narrow hB, ((h4.kept hk).moved hW.alike).narrow hB, h5.kept hk hB, ((h6.kept hk).moved hW.alike).narrow hB, h7.warm hW⟩
theorem zS.same {g : zG} {A : Nat → Prop} {s U : State} {H : Heap} (hv : s.vm = U.vm) (h : zS g A s H) : zS g A U H := by
  obtain ⟨h1, h2, h3, h4, h5, h6, h7⟩ := h
  have ha : s.vm.Alike U.vm := by rw [hv]; exact Vm.Alike.refl _
  exact ⟨h1.moved ha, h2.moved ha, h3.moved ha, h4.moved ha, h5, h6.moved ha, h7.same hv⟩
/-- what stands all through a method's walk -/
def zC (p : Program) (s : State) (m : MethodId) (args : Array Value) (meth : Method) (c : Code) (g : zG) (A : Nat → Prop) (cc : ByteArray) (own : String) (nL : Nat) : Prop :=
  p.tables.exec = Jvm.exec ∧ c.code = cc ∧ c.maxLocals = nL ∧ s.vm.findClass own = some m.cls ∧ (∀ w ∈ zW, w.before args s = true) ∧ va_K g.1 vwCl (zT g) s ∧ (∀ q : Nat, s.heap.size ≤ q → A q) ∧ zS g A s s.heap ∧ meth.locks = false
/-- the machine at pc, with these locals, this stack, the world ws -/
def zJ (p : Program) (l : Launch) (e : Env) (R : Room) (s : State) (m : MethodId) (args : Array Value) (below : List Frame) (meth : Method) (c : Code) (g : zG) (A : Nat → Prop) (nL : Nat) (Q : State → Prop) (ws : va_W) (k n : Nat) (pc : Nat) (lv : List (Nat × Value)) (st : List Value) : Prop :=
  ∀ (H : Heap) (locs : List Loc) (ls : Array Slot), va_P g.1 vwCl ws H → va_D A ws → va_S A s.heap H locs → lv_has ls nL lv → W p l e R s m args below meth c H locs k n Q (F0 m pc ls st)
section ZJ
variable {p : Program} {l : Launch} {e : Env} {R : Room} {s : State} {m : MethodId} {args : Array Value} {below : List Frame} {meth : Method} {c : Code} {g : zG} {A : Nat → Prop} {nL : Nat} {Q : State → Prop} {ws : va_W} {k n pc : Nat} {lv : List (Nat × Value)} {st : List Value} {cc : ByteArray} {own : String}
theorem z_iconst (C : zC p s m args meth c g A cc own nL) {z : Int} {v : Int32} (hd : decode cc pc = .ok (.iconst z, 1)) (hv : Int32.ofInt z = v) (h : zJ p l e R s m args below meth c g A nL Q ws k n (pc + 1) lv (.int v :: st)) : zJ p l e R s m args below meth c g A nL Q ws k n pc lv (st) :=
  fun H locs ls hP hD hS hl => lv_iconst C.1 C.2.1 hd hv (h H locs ls hP hD hS hl)
theorem z_bipush (C : zC p s m args meth c g A cc own nL) {z : Int} {v : Int32} (hd : decode cc pc = .ok (.bipush z, 2)) (hv : (Int8.ofInt z).toInt32 = v) (h : zJ p l e R s m args below meth c g A nL Q ws k n (pc + 2) lv (.int v :: st)) : zJ p l e R s m args below meth c g A nL Q ws k n pc lv (st) :=
  fun H locs ls hP hD hS hl => lv_bipush C.1 C.2.1 hd hv (h H locs ls hP hD hS hl)
theorem z_sipush (C : zC p s m args meth c g A cc own nL) {z : Int} {v : Int32} (hd : decode cc pc = .ok (.sipush z, 3)) (hv : (Int16.ofInt z).toInt32 = v) (h : zJ p l e R s m args below meth c g A nL Q ws k n (pc + 3) lv (.int v :: st)) : zJ p l e R s m args below meth c g A nL Q ws k n pc lv (st) :=
  fun H locs ls hP hD hS hl => lv_sipush C.1 C.2.1 hd hv (h H locs ls hP hD hS hl)
theorem z_lconst (C : zC p s m args meth c g A cc own nL) {z : Fin 2} {v : Int64} (hd : decode cc pc = .ok (.lconst z, 1)) (hv : Int64.ofNat (z : Nat) = v) (h : zJ p l e R s m args below meth c g A nL Q ws k n (pc + 1) lv (.long v :: st)) : zJ p l e R s m args below meth c g A nL Q ws k n pc lv (st) :=
  fun H locs ls hP hD hS hl => lv_lconst C.1 C.2.1 hd hv (h H locs ls hP hD hS hl)
theorem z_iload_n (C : zC p s m args meth c g A cc own nL) {kf : Fin 4} {i : Nat} {x : Int32} (hd : decode cc pc = .ok (.iload_n kf, 1)) (hi : (kf : Nat) = i) (j : Nat) (hj : lv[j]? = some (i, .int x)) (h : zJ p l e R s m args below meth c g A nL Q ws k n (pc + 1) lv (.int x :: st)) : zJ p l e R s m args below meth c g A nL Q ws k n pc lv (st) :=
  fun H locs ls hP hD hS hl => lv_iload_n C.1 C.2.1 hd hi (lv_at hl j hj) (h H locs ls hP hD hS hl)
theorem z_iload (C : zC p s m args meth c g A cc own nL) {i : Nat} {x : Int32} (hd : decode cc pc = .ok (.iload i, 2)) (j : Nat) (hj : lv[j]? = some (i, .int x)) (h : zJ p l e R s m args below meth c g A nL Q ws k n (pc + 2) lv (.int x :: st)) : zJ p l e R s m args below meth c g A nL Q ws k n pc lv (st) :=
  fun H locs ls hP hD hS hl => lv_iload C.1 C.2.1 hd (lv_at hl j hj) (h H locs ls hP hD hS hl)
theorem z_istore_n (C : zC p s m args meth c g A cc own nL) {kf : Fin 4} {i : Nat} {x : Int32} {lv1 : List (Nat × Value)} (hd : decode cc pc = .ok (.istore_n kf, 1)) (hi : (kf : Nat) = i) (hn : i < nL) (hlv : (i, Value.int x) :: lv.filter (fun q => !(q.1 == i) && !(q.1 + 1 == i && q.2.category == 2)) = lv1) (h : zJ p l e R s m args below meth c g A nL Q ws k n (pc + 1) lv1 (st)) : zJ p l e R s m args below meth c g A nL Q ws k n pc lv (.int x :: st) :=
  fun H locs ls hP hD hS hl => lv_istore_n C.1 C.2.1 hd hi hl hn hlv (fun ls1 hl1 => h H locs ls1 hP hD hS hl1)
theorem z_istore (C : zC p s m args meth c g A cc own nL) {i : Nat} {x : Int32} {lv1 : List (Nat × Value)} (hd : decode cc pc = .ok (.istore i, 2)) (hn : i < nL) (hlv : (i, Value.int x) :: lv.filter (fun q => !(q.1 == i) && !(q.1 + 1 == i && q.2.category == 2)) = lv1) (h : zJ p l e R s m args below meth c g A nL Q ws k n (pc + 2) lv1 (st)) : zJ p l e R s m args below meth c g A nL Q ws k n pc lv (.int x :: st) :=
  fun H locs ls hP hD hS hl => lv_istore C.1 C.2.1 hd hl hn hlv (fun ls1 hl1 => h H locs ls1 hP hD hS hl1)
theorem z_lload_n (C : zC p s m args meth c g A cc own nL) {kf : Fin 4} {i : Nat} {x : Int64} (hd : decode cc pc = .ok (.lload_n kf, 1)) (hi : (kf : Nat) = i) (j : Nat) (hj : lv[j]? = some (i, .long x)) (h : zJ p l e R s m args below meth c g A nL Q ws k n (pc + 1) lv (.long x :: st)) : zJ p l e R s m args below meth c g A nL Q ws k n pc lv (st) :=
  fun H locs ls hP hD hS hl => lv_lload_n C.1 C.2.1 hd hi (lv_at hl j hj) (h H locs ls hP hD hS hl)
theorem z_lload (C : zC p s m args meth c g A cc own nL) {i : Nat} {x : Int64} (hd : decode cc pc = .ok (.lload i, 2)) (j : Nat) (hj : lv[j]? = some (i, .long x)) (h : zJ p l e R s m args below meth c g A nL Q ws k n (pc + 2) lv (.long x :: st)) : zJ p l e R s m args below meth c g A nL Q ws k n pc lv (st) :=
  fun H locs ls hP hD hS hl => lv_lload C.1 C.2.1 hd (lv_at hl j hj) (h H locs ls hP hD hS hl)
theorem z_lstore_n (C : zC p s m args meth c g A cc own nL) {kf : Fin 4} {i : Nat} {x : Int64} {lv1 : List (Nat × Value)} (hd : decode cc pc = .ok (.lstore_n kf, 1)) (hi : (kf : Nat) = i) (hn : i + 1 < nL) (hlv : (i, Value.long x) :: lv.filter (fun q => !(q.1 == i) && (!(q.1 == i + 1) && !(q.1 + 1 == i && q.2.category == 2))) = lv1) (h : zJ p l e R s m args below meth c g A nL Q ws k n (pc + 1) lv1 (st)) : zJ p l e R s m args below meth c g A nL Q ws k n pc lv (.long x :: st) :=
  fun H locs ls hP hD hS hl => lv_lstore_n C.1 C.2.1 hd hi hl hn hlv (fun ls1 hl1 => h H locs ls1 hP hD hS hl1)
theorem z_lstore (C : zC p s m args meth c g A cc own nL) {i : Nat} {x : Int64} {lv1 : List (Nat × Value)} (hd : decode cc pc = .ok (.lstore i, 2)) (hn : i + 1 < nL) (hlv : (i, Value.long x) :: lv.filter (fun q => !(q.1 == i) && (!(q.1 == i + 1) && !(q.1 + 1 == i && q.2.category == 2))) = lv1) (h : zJ p l e R s m args below meth c g A nL Q ws k n (pc + 2) lv1 (st)) : zJ p l e R s m args below meth c g A nL Q ws k n pc lv (.long x :: st) :=
  fun H locs ls hP hD hS hl => lv_lstore C.1 C.2.1 hd hl hn hlv (fun ls1 hl1 => h H locs ls1 hP hD hS hl1)
theorem z_aload_n (C : zC p s m args meth c g A cc own nL) {kf : Fin 4} {i : Nat} {x : Nat} (hd : decode cc pc = .ok (.aload_n kf, 1)) (hi : (kf : Nat) = i) (j : Nat) (hj : lv[j]? = some (i, .ref x)) (h : zJ p l e R s m args below meth c g A nL Q ws k n (pc + 1) lv (.ref x :: st)) : zJ p l e R s m args below meth c g A nL Q ws k n pc lv (st) :=
  fun H locs ls hP hD hS hl => lv_aload_n C.1 C.2.1 hd hi (lv_at hl j hj) (h H locs ls hP hD hS hl)
theorem z_aload (C : zC p s m args meth c g A cc own nL) {i : Nat} {x : Nat} (hd : decode cc pc = .ok (.aload i, 2)) (j : Nat) (hj : lv[j]? = some (i, .ref x)) (h : zJ p l e R s m args below meth c g A nL Q ws k n (pc + 2) lv (.ref x :: st)) : zJ p l e R s m args below meth c g A nL Q ws k n pc lv (st) :=
  fun H locs ls hP hD hS hl => lv_aload C.1 C.2.1 hd (lv_at hl j hj) (h H locs ls hP hD hS hl)
theorem z_astore_n (C : zC p s m args meth c g A cc own nL) {kf : Fin 4} {i : Nat} {x : Nat} {lv1 : List (Nat × Value)} (hd : decode cc pc = .ok (.astore_n kf, 1)) (hi : (kf : Nat) = i) (hn : i < nL) (hlv : (i, Value.ref x) :: lv.filter (fun q => !(q.1 == i) && !(q.1 + 1 == i && q.2.category == 2)) = lv1) (h : zJ p l e R s m args below meth c g A nL Q ws k n (pc + 1) lv1 (st)) : zJ p l e R s m args below meth c g A nL Q ws k n pc lv (.ref x :: st) :=
  fun H locs ls hP hD hS hl => lv_astore_n C.1 C.2.1 hd hi hl hn hlv (fun ls1 hl1 => h H locs ls1 hP hD hS hl1)
theorem z_astore (C : zC p s m args meth c g A cc own nL) {i : Nat} {x : Nat} {lv1 : List (Nat × Value)} (hd : decode cc pc = .ok (.astore i, 2)) (hn : i < nL) (hlv : (i, Value.ref x) :: lv.filter (fun q => !(q.1 == i) && !(q.1 + 1 == i && q.2.category == 2)) = lv1) (h : zJ p l e R s m args below meth c g A nL Q ws k n (pc + 2) lv1 (st)) : zJ p l e R s m args below meth c g A nL Q ws k n pc lv (.ref x :: st) :=
  fun H locs ls hP hD hS hl => lv_astore C.1 C.2.1 hd hl hn hlv (fun ls1 hl1 => h H locs ls1 hP hD hS hl1)
theorem z_iinc (C : zC p s m args meth c g A cc own nL) {i : Nat} {z : Int} {x v : Int32} {lv1 : List (Nat × Value)} (hd : decode cc pc = .ok (.iinc i z, 3)) (j : Nat) (hj : lv[j]? = some (i, .int x)) (hv : x + Int32.ofInt z = v) (hn : i < nL) (hlv : (i, Value.int v) :: lv.filter (fun q => !(q.1 == i) && !(q.1 + 1 == i && q.2.category == 2)) = lv1) (h : zJ p l e R s m args below meth c g A nL Q ws k n (pc + 3) lv1 (st)) : zJ p l e R s m args below meth c g A nL Q ws k n pc lv (st) :=
  fun H locs ls hP hD hS hl => lv_iinc C.1 C.2.1 hd hl hj hv hn hlv (fun ls1 hl1 => h H locs ls1 hP hD hS hl1)
theorem z_iadd (C : zC p s m args meth c g A cc own nL) {x y : Int32} (hd : decode cc pc = .ok (.iadd, 1)) (h : zJ p l e R s m args below meth c g A nL Q ws k n (pc + 1) lv (.int (x + y) :: st)) : zJ p l e R s m args below meth c g A nL Q ws k n pc lv (.int y :: .int x :: st) :=
  fun H locs ls hP hD hS hl => lv_iadd C.1 C.2.1 hd (h H locs ls hP hD hS hl)
theorem z_isub (C : zC p s m args meth c g A cc own nL) {x y : Int32} (hd : decode cc pc = .ok (.isub, 1)) (h : zJ p l e R s m args below meth c g A nL Q ws k n (pc + 1) lv (.int (x - y) :: st)) : zJ p l e R s m args below meth c g A nL Q ws k n pc lv (.int y :: .int x :: st) :=
  fun H locs ls hP hD hS hl => lv_isub C.1 C.2.1 hd (h H locs ls hP hD hS hl)
theorem z_imul (C : zC p s m args meth c g A cc own nL) {x y : Int32} (hd : decode cc pc = .ok (.imul, 1)) (h : zJ p l e R s m args below meth c g A nL Q ws k n (pc + 1) lv (.int (x * y) :: st)) : zJ p l e R s m args below meth c g A nL Q ws k n pc lv (.int y :: .int x :: st) :=
  fun H locs ls hP hD hS hl => lv_imul C.1 C.2.1 hd (h H locs ls hP hD hS hl)
theorem z_iand (C : zC p s m args meth c g A cc own nL) {x y : Int32} (hd : decode cc pc = .ok (.iand, 1)) (h : zJ p l e R s m args below meth c g A nL Q ws k n (pc + 1) lv (.int (x &&& y) :: st)) : zJ p l e R s m args below meth c g A nL Q ws k n pc lv (.int y :: .int x :: st) :=
  fun H locs ls hP hD hS hl => lv_iand C.1 C.2.1 hd (h H locs ls hP hD hS hl)
theorem z_ior (C : zC p s m args meth c g A cc own nL) {x y : Int32} (hd : decode cc pc = .ok (.ior, 1)) (h : zJ p l e R s m args below meth c g A nL Q ws k n (pc + 1) lv (.int (x ||| y) :: st)) : zJ p l e R s m args below meth c g A nL Q ws k n pc lv (.int y :: .int x :: st) :=
  fun H locs ls hP hD hS hl => lv_ior C.1 C.2.1 hd (h H locs ls hP hD hS hl)
theorem z_ixor (C : zC p s m args meth c g A cc own nL) {x y : Int32} (hd : decode cc pc = .ok (.ixor, 1)) (h : zJ p l e R s m args below meth c g A nL Q ws k n (pc + 1) lv (.int (x ^^^ y) :: st)) : zJ p l e R s m args below meth c g A nL Q ws k n pc lv (.int y :: .int x :: st) :=
  fun H locs ls hP hD hS hl => lv_ixor C.1 C.2.1 hd (h H locs ls hP hD hS hl)
theorem z_ishl (C : zC p s m args meth c g A cc own nL) {x y : Int32} (hd : decode cc pc = .ok (.ishl, 1)) (h : zJ p l e R s m args below meth c g A nL Q ws k n (pc + 1) lv (.int (x <<< (y &&& 31)) :: st)) : zJ p l e R s m args below meth c g A nL Q ws k n pc lv (.int y :: .int x :: st) :=
  fun H locs ls hP hD hS hl => lv_ishl C.1 C.2.1 hd (h H locs ls hP hD hS hl)
theorem z_ishr (C : zC p s m args meth c g A cc own nL) {x y : Int32} (hd : decode cc pc = .ok (.ishr, 1)) (h : zJ p l e R s m args below meth c g A nL Q ws k n (pc + 1) lv (.int (x >>> (y &&& 31)) :: st)) : zJ p l e R s m args below meth c g A nL Q ws k n pc lv (.int y :: .int x :: st) :=
  fun H locs ls hP hD hS hl => lv_ishr C.1 C.2.1 hd (h H locs ls hP hD hS hl)
theorem z_iushr (C : zC p s m args meth c g A cc own nL) {x y : Int32} (hd : decode cc pc = .ok (.iushr, 1)) (h : zJ p l e R s m args below meth c g A nL Q ws k n (pc + 1) lv (.int ((x.toUInt32 >>> (y.toUInt32 &&& Int32.toUInt32 31)).toInt32) :: st)) : zJ p l e R s m args below meth c g A nL Q ws k n pc lv (.int y :: .int x :: st) :=
  fun H locs ls hP hD hS hl => lv_iushr C.1 C.2.1 hd rfl (h H locs ls hP hD hS hl)
theorem z_ineg (C : zC p s m args meth c g A cc own nL) {x : Int32} (hd : decode cc pc = .ok (.ineg, 1)) (h : zJ p l e R s m args below meth c g A nL Q ws k n (pc + 1) lv (.int (-x) :: st)) : zJ p l e R s m args below meth c g A nL Q ws k n pc lv (.int x :: st) :=
  fun H locs ls hP hD hS hl => lv_ineg C.1 C.2.1 hd (h H locs ls hP hD hS hl)
theorem z_idiv (C : zC p s m args meth c g A cc own nL) {x y : Int32} (hd : decode cc pc = .ok (.idiv, 1)) (hne : ¬ y = 0) (h : zJ p l e R s m args below meth c g A nL Q ws k n (pc + 1) lv (.int (x / y) :: st)) : zJ p l e R s m args below meth c g A nL Q ws k n pc lv (.int y :: .int x :: st) :=
  fun H locs ls hP hD hS hl => lv_idiv C.1 C.2.1 hd hne (h H locs ls hP hD hS hl)
theorem z_irem (C : zC p s m args meth c g A cc own nL) {x y : Int32} (hd : decode cc pc = .ok (.irem, 1)) (hne : ¬ y = 0) (h : zJ p l e R s m args below meth c g A nL Q ws k n (pc + 1) lv (.int (x - x / y * y) :: st)) : zJ p l e R s m args below meth c g A nL Q ws k n pc lv (.int y :: .int x :: st) :=
  fun H locs ls hP hD hS hl => lv_irem C.1 C.2.1 hd hne (h H locs ls hP hD hS hl)
theorem z_ladd (C : zC p s m args meth c g A cc own nL) {x y : Int64} (hd : decode cc pc = .ok (.ladd, 1)) (h : zJ p l e R s m args below meth c g A nL Q ws k n (pc + 1) lv (.long (x + y) :: st)) : zJ p l e R s m args below meth c g A nL Q ws k n pc lv (.long y :: .long x :: st) :=
  fun H locs ls hP hD hS hl => lv_ladd C.1 C.2.1 hd (h H locs ls hP hD hS hl)
theorem z_lsub (C : zC p s m args meth c g A cc own nL) {x y : Int64} (hd : decode cc pc = .ok (.lsub, 1)) (h : zJ p l e R s m args below meth c g A nL Q ws k n (pc + 1) lv (.long (x - y) :: st)) : zJ p l e R s m args below meth c g A nL Q ws k n pc lv (.long y :: .long x :: st) :=
  fun H locs ls hP hD hS hl => lv_lsub C.1 C.2.1 hd (h H locs ls hP hD hS hl)
theorem z_land (C : zC p s m args meth c g A cc own nL) {x y : Int64} (hd : decode cc pc = .ok (.land, 1)) (h : zJ p l e R s m args below meth c g A nL Q ws k n (pc + 1) lv (.long (x &&& y) :: st)) : zJ p l e R s m args below meth c g A nL Q ws k n pc lv (.long y :: .long x :: st) :=
  fun H locs ls hP hD hS hl => lv_land C.1 C.2.1 hd (h H locs ls hP hD hS hl)
theorem z_lor (C : zC p s m args meth c g A cc own nL) {x y : Int64} (hd : decode cc pc = .ok (.lor, 1)) (h : zJ p l e R s m args below meth c g A nL Q ws k n (pc + 1) lv (.long (x ||| y) :: st)) : zJ p l e R s m args below meth c g A nL Q ws k n pc lv (.long y :: .long x :: st) :=
  fun H locs ls hP hD hS hl => lv_lor C.1 C.2.1 hd (h H locs ls hP hD hS hl)
theorem z_ldiv (C : zC p s m args meth c g A cc own nL) {x y : Int64} (hd : decode cc pc = .ok (.ldiv, 1)) (hne : ¬ y = 0) (h : zJ p l e R s m args below meth c g A nL Q ws k n (pc + 1) lv (.long (x / y) :: st)) : zJ p l e R s m args below meth c g A nL Q ws k n pc lv (.long y :: .long x :: st) :=
  fun H locs ls hP hD hS hl => lv_ldiv C.1 C.2.1 hd hne (h H locs ls hP hD hS hl)
theorem z_lrem (C : zC p s m args meth c g A cc own nL) {x y : Int64} (hd : decode cc pc = .ok (.lrem, 1)) (hne : ¬ y = 0) (h : zJ p l e R s m args below meth c g A nL Q ws k n (pc + 1) lv (.long (x - x / y * y) :: st)) : zJ p l e R s m args below meth c g A nL Q ws k n pc lv (.long y :: .long x :: st) :=
  fun H locs ls hP hD hS hl => lv_lrem C.1 C.2.1 hd hne (h H locs ls hP hD hS hl)
theorem z_lshl (C : zC p s m args meth c g A cc own nL) {x : Int64} {y : Int32} (hd : decode cc pc = .ok (.lshl, 1)) (h : zJ p l e R s m args below meth c g A nL Q ws k n (pc + 1) lv (.long (x <<< (y.toInt64 &&& 63)) :: st)) : zJ p l e R s m args below meth c g A nL Q ws k n pc lv (.int y :: .long x :: st) :=
  fun H locs ls hP hD hS hl => lv_lshl C.1 C.2.1 hd rfl (h H locs ls hP hD hS hl)
theorem z_lushr (C : zC p s m args meth c g A cc own nL) {x : Int64} {y : Int32} (hd : decode cc pc = .ok (.lushr, 1)) (h : zJ p l e R s m args below meth c g A nL Q ws k n (pc + 1) lv (.long ((x.toUInt64 >>> (y.toInt64.toUInt64 &&& Int64.toUInt64 63)).toInt64) :: st)) : zJ p l e R s m args below meth c g A nL Q ws k n pc lv (.int y :: .long x :: st) :=
  fun H locs ls hP hD hS hl => lv_lushr C.1 C.2.1 hd rfl (h H locs ls hP hD hS hl)
theorem z_lcmp (C : zC p s m args meth c g A cc own nL) {x y : Int64} (hd : decode cc pc = .ok (.lcmp, 1)) (h : zJ p l e R s m args below meth c g A nL Q ws k n (pc + 1) lv (.int (lg_cmp x y) :: st)) : zJ p l e R s m args below meth c g A nL Q ws k n pc lv (.long y :: .long x :: st) :=
  fun H locs ls hP hD hS hl => W.lcmp C.1 C.2.1 hd (h H locs ls hP hD hS hl)
theorem z_i2l (C : zC p s m args meth c g A cc own nL) {x : Int32} (hd : decode cc pc = .ok (.i2l, 1)) (h : zJ p l e R s m args below meth c g A nL Q ws k n (pc + 1) lv (.long (x.toInt64) :: st)) : zJ p l e R s m args below meth c g A nL Q ws k n pc lv (.int x :: st) :=
  fun H locs ls hP hD hS hl => lv_i2l C.1 C.2.1 hd rfl (h H locs ls hP hD hS hl)
theorem z_l2i (C : zC p s m args meth c g A cc own nL) {x : Int64} (hd : decode cc pc = .ok (.l2i, 1)) (h : zJ p l e R s m args below meth c g A nL Q ws k n (pc + 1) lv (.int (x.toInt32) :: st)) : zJ p l e R s m args below meth c g A nL Q ws k n pc lv (.long x :: st) :=
  fun H locs ls hP hD hS hl => lv_l2i C.1 C.2.1 hd rfl (h H locs ls hP hD hS hl)
theorem z_dup (C : zC p s m args meth c g A cc own nL) {v : Value} (hd : decode cc pc = .ok (.dup, 1)) (hv : v.category = 1) (h : zJ p l e R s m args below meth c g A nL Q ws k n (pc + 1) lv (v :: v :: st)) : zJ p l e R s m args below meth c g A nL Q ws k n pc lv (v :: st) :=
  fun H locs ls hP hD hS hl => lv_dup C.1 C.2.1 hd hv (h H locs ls hP hD hS hl)
theorem z_pop (C : zC p s m args meth c g A cc own nL) {v : Value} (hd : decode cc pc = .ok (.pop, 1)) (hv : v.category = 1) (h : zJ p l e R s m args below meth c g A nL Q ws k n (pc + 1) lv (st)) : zJ p l e R s m args below meth c g A nL Q ws k n pc lv (v :: st) :=
  fun H locs ls hP hD hS hl => lv_pop C.1 C.2.1 hd hv (h H locs ls hP hD hS hl)
theorem z_dup2 (C : zC p s m args meth c g A cc own nL) {v v2 : Value} (hd : decode cc pc = .ok (.dup2, 1)) (hv : v.category = 1) (hv2 : v2.category = 1) (h : zJ p l e R s m args below meth c g A nL Q ws k n (pc + 1) lv (v :: v2 :: v :: v2 :: st)) : zJ p l e R s m args below meth c g A nL Q ws k n pc lv (v :: v2 :: st) :=
  fun H locs ls hP hD hS hl => lv_dup2_11 C.1 C.2.1 hd hv hv2 (h H locs ls hP hD hS hl)
theorem z_dup2l (C : zC p s m args meth c g A cc own nL) {x : Int64} (hd : decode cc pc = .ok (.dup2, 1)) (h : zJ p l e R s m args below meth c g A nL Q ws k n (pc + 1) lv (.long x :: .long x :: st)) : zJ p l e R s m args below meth c g A nL Q ws k n pc lv (.long x :: st) :=
  fun H locs ls hP hD hS hl => lv_dup2_2 C.1 C.2.1 hd rfl (h H locs ls hP hD hS hl)
theorem z_goto (C : zC p s m args meth c g A cc own nL) {off : Int} {tgt : Nat} (hd : decode cc pc = .ok (.goto off, 3)) (ht : (pc : Int) + off = (tgt : Int)) (h : zJ p l e R s m args below meth c g A nL Q ws k n tgt lv st) : zJ p l e R s m args below meth c g A nL Q ws k n pc lv st :=
  fun H locs ls hP hD hS hl => lv_goto C.1 C.2.1 hd ht (h H locs ls hP hD hS hl)
theorem z_topi {x : Int32} (h : ∀ y : Int32, y = x → zJ p l e R s m args below meth c g A nL Q ws k n pc lv (.int y :: st)) : zJ p l e R s m args below meth c g A nL Q ws k n pc lv (.int x :: st) := h x rfl
theorem z_topl {x : Int64} (h : ∀ y : Int64, y = x → zJ p l e R s m args below meth c g A nL Q ws k n pc lv (.long y :: st)) : zJ p l e R s m args below meth c g A nL Q ws k n pc lv (.long x :: st) := h x rfl
theorem z_lv {lv1 : List (Nat × Value)} (ks : List Nat) (hk : lv_pick lv ks = lv1) (h : zJ p l e R s m args below meth c g A nL Q ws k n pc lv1 st) : zJ p l e R s m args below meth c g A nL Q ws k n pc lv st :=
  fun H locs ls hP hD hS hl => h H locs ls hP hD hS (lv_sub hl ks hk)
theorem z_ws {ws1 : va_W} (hw : ws = ws1) (h : zJ p l e R s m args below meth c g A nL Q ws1 k n pc lv st) : zJ p l e R s m args below meth c g A nL Q ws k n pc lv st := hw ▸ h
theorem z_wide {k1 n1 : Nat} (h1 : k ≤ k1) (h2 : n ≤ n1) (h : zJ p l e R s m args below meth c g A nL Q ws k1 n1 pc lv st) : zJ p l e R s m args below meth c g A nL Q ws k n pc lv st :=
  fun H locs ls hP hD hS hl => W.widen h1 h2 (h H locs ls hP hD hS hl)
theorem z_if_eq (C : zC p s m args meth c g A cc own nL) {x : Int32} {off : Int} {tgt : Nat} (hd : decode cc pc = .ok (.ifCond .eq off, 3)) (ht : (pc : Int) + off = (tgt : Int)) (kt : x = 0 → zJ p l e R s m args below meth c g A nL Q ws k n tgt lv st) (kf : ¬ x = 0 → zJ p l e R s m args below meth c g A nL Q ws k n (pc + 3) lv st) : zJ p l e R s m args below meth c g A nL Q ws k n pc lv (.int x :: st) :=
  fun H locs ls hP hD hS hl => lv_if_eq C.1 C.2.1 hd ht (fun q => kt q H locs ls hP hD hS hl) (fun q => kf q H locs ls hP hD hS hl)
theorem z_if_ne (C : zC p s m args meth c g A cc own nL) {x : Int32} {off : Int} {tgt : Nat} (hd : decode cc pc = .ok (.ifCond .ne off, 3)) (ht : (pc : Int) + off = (tgt : Int)) (kt : ¬ x = 0 → zJ p l e R s m args below meth c g A nL Q ws k n tgt lv st) (kf : x = 0 → zJ p l e R s m args below meth c g A nL Q ws k n (pc + 3) lv st) : zJ p l e R s m args below meth c g A nL Q ws k n pc lv (.int x :: st) :=
  fun H locs ls hP hD hS hl => lv_if_ne C.1 C.2.1 hd ht (fun q => kt q H locs ls hP hD hS hl) (fun q => kf q H locs ls hP hD hS hl)
theorem z_if_lt (C : zC p s m args meth c g A cc own nL) {x : Int32} {off : Int} {tgt : Nat} (hd : decode cc pc = .ok (.ifCond .lt off, 3)) (ht : (pc : Int) + off = (tgt : Int)) (kt : x < 0 → zJ p l e R s m args below meth c g A nL Q ws k n tgt lv st) (kf : ¬ x < 0 → zJ p l e R s m args below meth c g A nL Q ws k n (pc + 3) lv st) : zJ p l e R s m args below meth c g A nL Q ws k n pc lv (.int x :: st) :=
  fun H locs ls hP hD hS hl => lv_if_lt C.1 C.2.1 hd ht (fun q => kt q H locs ls hP hD hS hl) (fun q => kf q H locs ls hP hD hS hl)
theorem z_if_ge (C : zC p s m args meth c g A cc own nL) {x : Int32} {off : Int} {tgt : Nat} (hd : decode cc pc = .ok (.ifCond .ge off, 3)) (ht : (pc : Int) + off = (tgt : Int)) (kt : 0 ≤ x → zJ p l e R s m args below meth c g A nL Q ws k n tgt lv st) (kf : ¬ 0 ≤ x → zJ p l e R s m args below meth c g A nL Q ws k n (pc + 3) lv st) : zJ p l e R s m args below meth c g A nL Q ws k n pc lv (.int x :: st) :=
  fun H locs ls hP hD hS hl => lv_if_ge C.1 C.2.1 hd ht (fun q => kt q H locs ls hP hD hS hl) (fun q => kf q H locs ls hP hD hS hl)
theorem z_if_gt (C : zC p s m args meth c g A cc own nL) {x : Int32} {off : Int} {tgt : Nat} (hd : decode cc pc = .ok (.ifCond .gt off, 3)) (ht : (pc : Int) + off = (tgt : Int)) (kt : 0 < x → zJ p l e R s m args below meth c g A nL Q ws k n tgt lv st) (kf : ¬ 0 < x → zJ p l e R s m args below meth c g A nL Q ws k n (pc + 3) lv st) : zJ p l e R s m args below meth c g A nL Q ws k n pc lv (.int x :: st) :=
  fun H locs ls hP hD hS hl => lv_if_gt C.1 C.2.1 hd ht (fun q => kt q H locs ls hP hD hS hl) (fun q => kf q H locs ls hP hD hS hl)
theorem z_if_le (C : zC p s m args meth c g A cc own nL) {x : Int32} {off : Int} {tgt : Nat} (hd : decode cc pc = .ok (.ifCond .le off, 3)) (ht : (pc : Int) + off = (tgt : Int)) (kt : x ≤ 0 → zJ p l e R s m args below meth c g A nL Q ws k n tgt lv st) (kf : ¬ x ≤ 0 → zJ p l e R s m args below meth c g A nL Q ws k n (pc + 3) lv st) : zJ p l e R s m args below meth c g A nL Q ws k n pc lv (.int x :: st) :=
  fun H locs ls hP hD hS hl => lv_if_le C.1 C.2.1 hd ht (fun q => kt q H locs ls hP hD hS hl) (fun q => kf q H locs ls hP hD hS hl)
theorem z_icmp_eq (C : zC p s m args meth c g A cc own nL) {x y : Int32} {off : Int} {tgt : Nat} (hd : decode cc pc = .ok (.if_icmp .eq off, 3)) (ht : (pc : Int) + off = (tgt : Int)) (kt : x = y → zJ p l e R s m args below meth c g A nL Q ws k n tgt lv st) (kf : ¬ x = y → zJ p l e R s m args below meth c g A nL Q ws k n (pc + 3) lv st) : zJ p l e R s m args below meth c g A nL Q ws k n pc lv (.int y :: .int x :: st) :=
  fun H locs ls hP hD hS hl => lv_icmp_eq C.1 C.2.1 hd ht (fun q => kt q H locs ls hP hD hS hl) (fun q => kf q H locs ls hP hD hS hl)
theorem z_icmp_ne (C : zC p s m args meth c g A cc own nL) {x y : Int32} {off : Int} {tgt : Nat} (hd : decode cc pc = .ok (.if_icmp .ne off, 3)) (ht : (pc : Int) + off = (tgt : Int)) (kt : ¬ x = y → zJ p l e R s m args below meth c g A nL Q ws k n tgt lv st) (kf : x = y → zJ p l e R s m args below meth c g A nL Q ws k n (pc + 3) lv st) : zJ p l e R s m args below meth c g A nL Q ws k n pc lv (.int y :: .int x :: st) :=
  fun H locs ls hP hD hS hl => lv_icmp_ne C.1 C.2.1 hd ht (fun q => kt q H locs ls hP hD hS hl) (fun q => kf q H locs ls hP hD hS hl)
theorem z_icmp_lt (C : zC p s m args meth c g A cc own nL) {x y : Int32} {off : Int} {tgt : Nat} (hd : decode cc pc = .ok (.if_icmp .lt off, 3)) (ht : (pc : Int) + off = (tgt : Int)) (kt : x < y → zJ p l e R s m args below meth c g A nL Q ws k n tgt lv st) (kf : ¬ x < y → zJ p l e R s m args below meth c g A nL Q ws k n (pc + 3) lv st) : zJ p l e R s m args below meth c g A nL Q ws k n pc lv (.int y :: .int x :: st) :=
  fun H locs ls hP hD hS hl => lv_icmp_lt C.1 C.2.1 hd ht (fun q => kt q H locs ls hP hD hS hl) (fun q => kf q H locs ls hP hD hS hl)
theorem z_icmp_ge (C : zC p s m args meth c g A cc own nL) {x y : Int32} {off : Int} {tgt : Nat} (hd : decode cc pc = .ok (.if_icmp .ge off, 3)) (ht : (pc : Int) + off = (tgt : Int)) (kt : y ≤ x → zJ p l e R s m args below meth c g A nL Q ws k n tgt lv st) (kf : ¬ y ≤ x → zJ p l e R s m args below meth c g A nL Q ws k n (pc + 3) lv st) : zJ p l e R s m args below meth c g A nL Q ws k n pc lv (.int y :: .int x :: st) :=
  fun H locs ls hP hD hS hl => lv_icmp_ge C.1 C.2.1 hd ht (fun q => kt q H locs ls hP hD hS hl) (fun q => kf q H locs ls hP hD hS hl)
theorem z_icmp_gt (C : zC p s m args meth c g A cc own nL) {x y : Int32} {off : Int} {tgt : Nat} (hd : decode cc pc = .ok (.if_icmp .gt off, 3)) (ht : (pc : Int) + off = (tgt : Int)) (kt : y < x → zJ p l e R s m args below meth c g A nL Q ws k n tgt lv st) (kf : ¬ y < x → zJ p l e R s m args below meth c g A nL Q ws k n (pc + 3) lv st) : zJ p l e R s m args below meth c g A nL Q ws k n pc lv (.int y :: .int x :: st) :=
  fun H locs ls hP hD hS hl => lv_icmp_gt C.1 C.2.1 hd ht (fun q => kt q H locs ls hP hD hS hl) (fun q => kf q H locs ls hP hD hS hl)
theorem z_icmp_le (C : zC p s m args meth c g A cc own nL) {x y : Int32} {off : Int} {tgt : Nat} (hd : decode cc pc = .ok (.if_icmp .le off, 3)) (ht : (pc : Int) + off = (tgt : Int)) (kt : x ≤ y → zJ p l e R s m args below meth c g A nL Q ws k n tgt lv st) (kf : ¬ x ≤ y → zJ p l e R s m args below meth c g A nL Q ws k n (pc + 3) lv st) : zJ p l e R s m args below meth c g A nL Q ws k n pc lv (.int y :: .int x :: st) :=
  fun H locs ls hP hD hS hl => lv_icmp_le C.1 C.2.1 hd ht (fun q => kt q H locs ls hP hD hS hl) (fun q => kf q H locs ls hP hD hS hl)
theorem z_ldc (C : zC p s m args meth c g A cc own nL) {index : Nat} {v : Int32} (hd : decode cc pc = .ok (.ldc index, 2)) (hw : Cond.constant own index v ∈ zW) (h : zJ p l e R s m args below meth c g A nL Q ws k n (pc + 2) lv (.int v :: st)) : zJ p l e R s m args below meth c g A nL Q ws k n pc lv st :=
  fun H locs ls hP hD hS hl => lv_ldc C.1 C.2.1 C.2.2.2.1 (C.2.2.2.2.1 _ hw) hd (h H locs ls hP hD hS hl)
theorem z_ldc2 (C : zC p s m args meth c g A cc own nL) {index : Nat} {v : Int64} (hd : decode cc pc = .ok (.ldc2_w index, 3)) (hw : Cond.constantLong own index v ∈ zW) (h : zJ p l e R s m args below meth c g A nL Q ws k n (pc + 3) lv (.long v :: st)) : zJ p l e R s m args below meth c g A nL Q ws k n pc lv st :=
  fun H locs ls hP hD hS hl => lv_ldc2 C.1 C.2.1 C.2.2.2.1 (C.2.2.2.2.1 _ hw) hd (h H locs ls hP hD hS hl)
theorem z_tIn (C : zC p s m args meth c g A cc own nL) {dflt lo hi : Int} {offs : Array Int} {len : Nat} {x : Int32} {off : Int} {tgt : Nat} (hd : decode cc pc = .ok (.tableswitch dflt lo hi offs, len)) (v : Int) (hx : x.toInt = v) (h1 : ¬ v < lo) (h2 : ¬ hi < v) (ho : offs[(v - lo).toNat]? = some off) (ht : (pc : Int) + off = (tgt : Int)) (h : zJ p l e R s m args below meth c g A nL Q ws k n tgt lv st) : zJ p l e R s m args below meth c g A nL Q ws k n pc lv (.int x :: st) :=
  fun H locs ls hP hD hS hl => lv_tableIn C.1 C.2.1 hd (hx ▸ h1) (hx ▸ h2) (hx ▸ ho) ht (h H locs ls hP hD hS hl)
theorem z_tOut (C : zC p s m args meth c g A cc own nL) {dflt lo hi : Int} {offs : Array Int} {len : Nat} {x : Int32} {tgt : Nat} (hd : decode cc pc = .ok (.tableswitch dflt lo hi offs, len)) (hx : x.toInt < lo ∨ hi < x.toInt) (ht : (pc : Int) + dflt = (tgt : Int)) (h : zJ p l e R s m args below meth c g A nL Q ws k n tgt lv st) : zJ p l e R s m args below meth c g A nL Q ws k n pc lv (.int x :: st) :=
  fun H locs ls hP hD hS hl => lv_tableOut C.1 C.2.1 hd hx ht (h H locs ls hP hD hS hl)
theorem z_lsw (C : zC p s m args meth c g A cc own nL) {dflt : Int} {ps : Array (Int × Int)} {len : Nat} {x : Int32} {off : Int} {tgt : Nat} (hd : decode cc pc = .ok (.lookupswitch dflt ps, len)) (hp : (ps.toList.zip (ps.toList.drop 1)).all (fun (a, next) => a.1 < next.1) = true) (ho : Op.lookupswitch.offset ps.toList dflt x.toInt = off) (ht : (pc : Int) + off = (tgt : Int)) (h : zJ p l e R s m args below meth c g A nL Q ws k n tgt lv st) : zJ p l e R s m args below meth c g A nL Q ws k n pc lv (.int x :: st) :=
  fun H locs ls hP hD hS hl => lv_lookup C.1 C.2.1 hd hp ho ht (h H locs ls hP hD hS hl)
theorem z_iald (C : zC p s m args meth c g A cc own nL) (q0 : Nat) {a n0 : Nat} {f : Nat → Int32} (ha : ws[q0]? = some (a, .inl (g.2.1 0, n0, .inl f))) {i : Int32} (hin : vp_in i n0) (hd : decode cc pc = .ok (.iaload, 1)) (h : zJ p l e R s m args below meth c g A nL Q ws k n (pc + 1) lv (.int (f i.toNatClampNeg) :: st)) : zJ p l e R s m args below meth c g A nL Q ws k n pc lv (.int i :: .ref a :: st) :=
  fun H locs ls hP hD hS hl => va_iald C.1 C.2.1 C.2.2.2.2.2.1 hP q0 0 ha rfl hin hd (h H locs ls hP hD hS hl)
theorem z_iast (C : zC p s m args meth c g A cc own nL) (q0 : Nat) {a n0 : Nat} {f : Nat → Int32} (ha : ws[q0]? = some (a, .inl (g.2.1 0, n0, .inl f))) {i : Int32} {x : Int32} (hin : vp_in i n0) (hd : decode cc pc = .ok (.iastore, 1)) {ws1 : va_W} (hw : ws.set q0 (a, .inl (g.2.1 0, n0, .inl (upd f i.toNatClampNeg x))) = ws1) (h : zJ p l e R s m args below meth c g A nL Q ws1 k n (pc + 1) lv st) : zJ p l e R s m args below meth c g A nL Q ws k n pc lv (.int x :: .int i :: .ref a :: st) :=
  fun H locs ls hP hD hS hl => va_iast C.1 C.2.1 C.2.2.2.2.2.1 hP hD hS q0 0 ha rfl hin hd (fun H1 locs1 hP1 hD1 hS1 => h H1 locs1 ls (hw ▸ hP1) (hw ▸ hD1) hS1 hl)
theorem z_lald (C : zC p s m args meth c g A cc own nL) (q0 : Nat) {a n0 : Nat} {f : Nat → Int64} (ha : ws[q0]? = some (a, .inl (g.2.1 1, n0, .inr (.inl f)))) {i : Int32} (hin : vp_in i n0) (hd : decode cc pc = .ok (.laload, 1)) (h : zJ p l e R s m args below meth c g A nL Q ws k n (pc + 1) lv (.long (f i.toNatClampNeg) :: st)) : zJ p l e R s m args below meth c g A nL Q ws k n pc lv (.int i :: .ref a :: st) :=
  fun H locs ls hP hD hS hl => va_lald C.1 C.2.1 C.2.2.2.2.2.1 hP q0 1 ha rfl hin hd (h H locs ls hP hD hS hl)
theorem z_last (C : zC p s m args meth c g A cc own nL) (q0 : Nat) {a n0 : Nat} {f : Nat → Int64} (ha : ws[q0]? = some (a, .inl (g.2.1 1, n0, .inr (.inl f)))) {i : Int32} {x : Int64} (hin : vp_in i n0) (hd : decode cc pc = .ok (.lastore, 1)) {ws1 : va_W} (hw : ws.set q0 (a, .inl (g.2.1 1, n0, .inr (.inl (vp_updL f i.toNatClampNeg x)))) = ws1) (h : zJ p l e R s m args below meth c g A nL Q ws1 k n (pc + 1) lv st) : zJ p l e R s m args below meth c g A nL Q ws k n pc lv (.long x :: .int i :: .ref a :: st) :=
  fun H locs ls hP hD hS hl => va_last C.1 C.2.1 C.2.2.2.2.2.1 hP hD hS q0 1 ha rfl hin hd (fun H1 locs1 hP1 hD1 hS1 => h H1 locs1 ls (hw ▸ hP1) (hw ▸ hD1) hS1 hl)
theorem z_zald (C : zC p s m args meth c g A cc own nL) (q0 : Nat) {a n0 : Nat} {f : Nat → Int32} (ha : ws[q0]? = some (a, .inl (g.2.1 2, n0, .inl f))) {i : Int32} (hin : vp_in i n0) (hd : decode cc pc = .ok (.baload, 1)) (h : zJ p l e R s m args below meth c g A nL Q ws k n (pc + 1) lv (.int (f i.toNatClampNeg) :: st)) : zJ p l e R s m args below meth c g A nL Q ws k n pc lv (.int i :: .ref a :: st) :=
  fun H locs ls hP hD hS hl => va_zald C.1 C.2.1 C.2.2.2.2.2.1 hP q0 2 ha rfl hin hd (h H locs ls hP hD hS hl)
theorem z_zast (C : zC p s m args meth c g A cc own nL) (q0 : Nat) {a n0 : Nat} {f : Nat → Int32} (ha : ws[q0]? = some (a, .inl (g.2.1 2, n0, .inl f))) {i : Int32} {x : Int32} (hin : vp_in i n0) (hd : decode cc pc = .ok (.bastore, 1)) {ws1 : va_W} (hw : ws.set q0 (a, .inl (g.2.1 2, n0, .inl (upd f i.toNatClampNeg (vp_nar .boolean x)))) = ws1) (h : zJ p l e R s m args below meth c g A nL Q ws1 k n (pc + 1) lv st) : zJ p l e R s m args below meth c g A nL Q ws k n pc lv (.int x :: .int i :: .ref a :: st) :=
  fun H locs ls hP hD hS hl => va_zast C.1 C.2.1 C.2.2.2.2.2.1 hP hD hS q0 2 ha rfl hin hd (fun H1 locs1 hP1 hD1 hS1 => h H1 locs1 ls (hw ▸ hP1) (hw ▸ hD1) hS1 hl)
theorem z_aald (C : zC p s m args meth c g A cc own nL) (q0 t0 : Nat) {a n0 : Nat} {cA : ClassId} {Cn : String} {f : Nat → Option Nat} (ha : ws[q0]? = some (a, .inl (cA, n0, .inr (.inr (.inr (.inr f)))))) (ht : (zT g)[t0]? = some (cA, .object Cn)) {i : Int32} (hin : vp_in i n0) (hd : decode cc pc = .ok (.aaload, 1)) (h : zJ p l e R s m args below meth c g A nL Q ws k n (pc + 1) lv (va_rf (f i.toNatClampNeg) :: st)) : zJ p l e R s m args below meth c g A nL Q ws k n pc lv (.int i :: .ref a :: st) :=
  fun H locs ls hP hD hS hl => va_aldq C.1 C.2.1 C.2.2.2.2.2.1 hP q0 t0 ha ht hin hd (h H locs ls hP hD hS hl)
theorem z_alen (C : zC p s m args meth c g A cc own nL) (q0 : Nat) {a n0 : Nat} {f : Nat → Int32} (ha : ws[q0]? = some (a, .inl (g.2.1 0, n0, .inl f))) {v : Int32} (hv : Int32.ofNat n0 = v) (hd : decode cc pc = .ok (.arraylength, 1)) (h : zJ p l e R s m args below meth c g A nL Q ws k n (pc + 1) lv (.int v :: st)) : zJ p l e R s m args below meth c g A nL Q ws k n pc lv (.ref a :: st) :=
  fun H locs ls hP hD hS hl => va_alen C.1 C.2.1 C.2.2.2.2.2.1 hP q0 0 ha rfl hv hd (h H locs ls hP hD hS hl)
theorem z_get (C : zC p s m args meth c g A cc own nL) {Cn : String} {T : u_T} {N ci index : Nat} (hin : ∀ w ∈ u_ws Cn T N, w ∈ zW) (hc : vwCl[ci]? = some (Cn, T, N)) (kk : Nat) (hk : kk < N) (hlk : Cond.fieldLink own index (T kk).1 (T kk).2.1 (T kk).2.2.1 ∈ zW) (q0 : Nat) {a : Nat} {fs : List Value} (he : ws[q0]? = some (a, .inr (ci, fs))) {v : Value} (hv : fs[kk]? = some v) (hd : decode cc pc = .ok (.getfield index, 3)) (h : zJ p l e R s m args below meth c g A nL Q ws k n (pc + 3) lv (v :: st)) : zJ p l e R s m args below meth c g A nL Q ws k n pc lv (.ref a :: st) :=
  fun H locs ls hP hD hS hl => va_get C.1 C.2.1 C.2.2.2.2.1 hin C.2.2.2.1 C.2.2.2.2.2.1 hP q0 he hc kk hk (C.2.2.2.2.1 _ hlk) (fun _ h9 => h9) hv hd (h H locs ls hP hD hS hl)
theorem z_puti (C : zC p s m args meth c g A cc own nL) {Cn : String} {T : u_T} {N ci index : Nat} (hin : ∀ w ∈ u_ws Cn T N, w ∈ zW) (ty0 : Nat → FieldType) (hty : ∀ k, k < N → parseFieldDescriptor (T k).2.2.1 = some (ty0 k)) (hnm : ∀ a, a < N → ∀ b, b < N → a ≠ b → (T a).2.1 ≠ (T b).2.1) (hc : vwCl[ci]? = some (Cn, T, N)) (kk : Nat) (hk : kk < N) (hlk : Cond.fieldLink own index (T kk).1 (T kk).2.1 (T kk).2.2.1 ∈ zW) (hfin : (T kk).2.2.2 = false) (hde : parseFieldDescriptor (T kk).2.2.1 = some .int) (q0 : Nat) {a : Nat} {fs : List Value} (he : ws[q0]? = some (a, .inr (ci, fs))) {x : Int32} (hlen : kk < fs.length) (hd : decode cc pc = .ok (.putfield index, 3)) {ws1 : va_W} (hw : ws.set q0 (a, .inr (ci, fs.set kk (.int x))) = ws1) (h : zJ p l e R s m args below meth c g A nL Q ws1 k n (pc + 3) lv st) : zJ p l e R s m args below meth c g A nL Q ws k n pc lv (.int x :: .ref a :: st) :=
  fun H locs ls hP hD hS hl => va_put C.1 C.2.1 C.2.2.2.2.1 hin ty0 hty hnm C.2.2.2.1 C.2.2.2.2.2.1 hP hD hS q0 he hc kk hk (C.2.2.2.2.1 _ hlk) (fun _ h9 => h9) hfin hde rfl rfl hlen hd (fun H1 locs1 hP1 hD1 hS1 => h H1 locs1 ls (hw ▸ hP1) (hw ▸ hD1) hS1 hl)
end ZJ
/-- cells in the middle of a world are changed, the others stay -/
theorem zmid {A0 : Nat → Prop} {D : va_G} {cl : List vw_C} {X Cw Y w1 : va_W} {H H1 : Heap} (hP : va_P D cl (X ++ (Cw ++ Y)) H) (hD : va_D A0 (X ++ (Cw ++ Y))) (hF : ∀ q, va_A Cw H.size q → A0 q) (hk : ∀ q : Nat, q < H.size → ¬ va_A Cw H.size q → H1[q]? = H[q]?) (hP1 : va_P D cl w1 H1) (hD1 : va_D (va_A Cw H.size) w1) : va_P D cl (X ++ (w1 ++ Y)) H1 ∧ va_D A0 (X ++ (w1 ++ Y)) := by
  have iX : ∀ (i : Nat) (q : Nat × va_E), X[i]? = some q → (X ++ (Cw ++ Y))[i]? = some q := fun i q h => by
    rw [List.getElem?_append_left (List.getElem?_eq_some_iff.mp h).1]; exact h
  have iC : ∀ (i : Nat) (q : Nat × va_E), Cw[i]? = some q → (X ++ (Cw ++ Y))[X.length + i]? = some q := fun i q h => by
    rw [List.getElem?_append_right (by omega), Nat.add_sub_cancel_left, List.getElem?_append_left (List.getElem?_eq_some_iff.mp h).1]; exact h
  have iY : ∀ (i : Nat) (q : Nat × va_E), Y[i]? = some q → (X ++ (Cw ++ Y))[X.length + (Cw.length + i)]? = some q := fun i q h => by
    rw [List.getElem?_append_right (by omega), Nat.add_sub_cancel_left, List.getElem?_append_right (by omega), Nat.add_sub_cancel_left]; exact h
  have lX : ∀ (i : Nat) (q : Nat × va_E), X[i]? = some q → i < X.length := fun i q h => (List.getElem?_eq_some_iff.mp h).1
  have lC : ∀ (i : Nat) (q : Nat × va_E), Cw[i]? = some q → i < Cw.length := fun i q h => (List.getElem?_eq_some_iff.mp h).1
  have oX : ∀ (i : Nat) (q : Nat × va_E), X[i]? = some q → q.1 < H.size ∧ ¬ va_A Cw H.size q.1 := by
    intro i q h
    have hl := (hP i q (iX i q h)).lt
    refine ⟨hl, fun z => ?_⟩
    rcases z with ⟨j, e, hj⟩ | z
    · have := hD.1 i (X.length + j) q (q.1, e) (iX i q h) (iC j _ hj) rfl
      have := lX i q h
      omega
    · omega
  have oY : ∀ (i : Nat) (q : Nat × va_E), Y[i]? = some q → q.1 < H.size ∧ ¬ va_A Cw H.size q.1 := by
    intro i q h
    have hl := (hP _ q (iY i q h)).lt
    refine ⟨hl, fun z => ?_⟩
    rcases z with ⟨j, e, hj⟩ | z
    · have := hD.1 _ (X.length + j) q (q.1, e) (iY i q h) (iC j _ hj) rfl
      have := lC j _ hj
      omega
    · omega
  have pX : va_P D cl X H1 := fun i q h => (hP i q (iX i q h)).kept (hk q.1 (oX i q h).1 (oX i q h).2)
  have pY : va_P D cl Y H1 := fun i q h => (hP _ q (iY i q h)).kept (hk q.1 (oY i q h).1 (oY i q h).2)
  have dX : va_D A0 X := ⟨fun i j x y hx hy hxy => hD.1 i j x y (iX i x hx) (iX j y hy) hxy, fun i q h => hD.2 i q (iX i q h)⟩
  have dY : va_D A0 Y := ⟨fun i j x y hx hy hxy => by have := hD.1 _ _ x y (iY i x hx) (iY j y hy) hxy; omega, fun i q h => hD.2 _ q (iY i q h)⟩
  refine ⟨pX.app (hP1.app pY), va_D.app dX (va_D.app (hD1.weaken (fun k q _ h => hF q.1 h)) dY (fun i j x y hx hy hxy => ?_)) (fun i j x y hx hy hxy => ?_)⟩
  · exact (oY j y hy).2 (by rw [← hxy]; exact hD1.2 i x hx)
  · rcases List.mem_append.mp (List.mem_of_getElem? hy) with hm | hm
    · obtain ⟨j2, hj2⟩ := List.getElem?_of_mem hm
      exact (oX i x hx).2 (by rw [hxy]; exact hD1.2 j2 y hj2)
    · obtain ⟨j2, hj2⟩ := List.getElem?_of_mem hm
      have := hD.1 i _ x y (iX i x hx) (iY j2 y hj2) hxy
      have := lX i x hx
      omega
theorem zmidC {A0 : Nat → Prop} {D : va_G} {cl : List vw_C} {X Cw Y : va_W} {H : Heap} (hP : va_P D cl (X ++ (Cw ++ Y)) H) (hD : va_D A0 (X ++ (Cw ++ Y))) : va_P D cl Cw H ∧ va_D A0 Cw := by
  have iC : ∀ (i : Nat) (q : Nat × va_E), Cw[i]? = some q → (X ++ (Cw ++ Y))[X.length + i]? = some q := fun i q h => by
    rw [List.getElem?_append_right (by omega), Nat.add_sub_cancel_left, List.getElem?_append_left (List.getElem?_eq_some_iff.mp h).1]; exact h
  exact ⟨fun i q h => hP _ q (iC i q h), fun i j x y hx hy hxy => by have := hD.1 _ _ x y (iC i x hx) (iC j y hy) hxy; omega, fun i q h => hD.2 _ q (iC i q h)⟩
/-- a method's start -/
def zB (g : zG) (ws : va_W) (sz : Nat) (U : State) : Prop := U.heap.size = sz ∧ va_P g.1 vwCl ws U.heap ∧ va_K g.1 vwCl (zT g) U ∧ va_D (fun _ => True) ws ∧ zS g (va_A ws sz) U U.heap
theorem zB.blind {g : zG} {ws : va_W} {sz : Nat} {av : List Value} : FrameBlind (va_Pc av (zB g ws sz)) := by
  intro a U f mk q
  obtain ⟨q0, q1, qP, qK, qD, qS⟩ := q
  exact ⟨q0, q1, qP, va_K.moved (u := U) (U := U.calling f mk a) (Vm.Alike.refl U.vm) qK, qD, zS.same (s := U) (U := U.calling f mk a) rfl qS⟩
/-- a method's contract: with the world ws, its answer and the world w u behind it meet Q -/
def zMi (l : Launch) (y : MethodName) (cc : ByteArray) (nL : Nat) (ret : Option FieldType) (k mc ms : Nat) (g : zG) (av : List Value) (ws : va_W) {S : Type} (w : S → va_W) (Q : Int32 → S → Prop) : Prop :=
  ∀ sz : Nat, Met l y (zws y cc nL ret) (zR k mc ms) (va_Pc av (zB g ws sz)) (va_Qi Q (fun u t => va_P g.1 vwCl (w u) t.heap ∧ va_D (va_A ws sz) (w u)) (va_A ws sz)) mc ms (va_A ws sz)
def zMl (l : Launch) (y : MethodName) (cc : ByteArray) (nL : Nat) (ret : Option FieldType) (k mc ms : Nat) (g : zG) (av : List Value) (ws : va_W) {S : Type} (w : S → va_W) (Q : Int64 → S → Prop) : Prop :=
  ∀ sz : Nat, Met l y (zws y cc nL ret) (zR k mc ms) (va_Pc av (zB g ws sz)) (va_Ql Q (fun u t => va_P g.1 vwCl (w u) t.heap ∧ va_D (va_A ws sz) (w u)) (va_A ws sz)) mc ms (va_A ws sz)
def zMv (l : Launch) (y : MethodName) (cc : ByteArray) (nL : Nat) (ret : Option FieldType) (k mc ms : Nat) (g : zG) (av : List Value) (ws : va_W) {S : Type} (w : S → va_W) (Q : S → Prop) : Prop :=
  ∀ sz : Nat, Met l y (zws y cc nL ret) (zR k mc ms) (va_Pc av (zB g ws sz)) (va_Qv Q (fun u t => va_P g.1 vwCl (w u) t.heap ∧ va_D (va_A ws sz) (w u)) (va_A ws sz)) mc ms (va_A ws sz)
def zMr (l : Launch) (y : MethodName) (cc : ByteArray) (nL : Nat) (ret : Option FieldType) (k mc ms : Nat) (g : zG) (av : List Value) (ws : va_W) {S : Type} (w : S → va_W) (ad : S → Nat) (Q : S → Prop) : Prop :=
  ∀ sz : Nat, Met l y (zws y cc nL ret) (zR k mc ms) (va_Pc av (zB g ws sz)) (va_Qr Q (fun u a t => a = ad u ∧ va_P g.1 vwCl (w u) t.heap ∧ va_D (va_A ws sz) (w u)) (va_A ws sz)) mc ms (va_A ws sz)
/-- the goal of a walk -/
abbrev zQi (below : List Frame) (args : Array Value) (s : State) (g : zG) (A : Nat → Prop) (k n : Nat) {S : Type} (w : S → va_W) (Q : Int32 → S → Prop) : State → Prop := MQ below (va_Qi Q (fun u t => va_P g.1 vwCl (w u) t.heap ∧ va_D A (w u)) A) args s k n A
abbrev zQl (below : List Frame) (args : Array Value) (s : State) (g : zG) (A : Nat → Prop) (k n : Nat) {S : Type} (w : S → va_W) (Q : Int64 → S → Prop) : State → Prop := MQ below (va_Ql Q (fun u t => va_P g.1 vwCl (w u) t.heap ∧ va_D A (w u)) A) args s k n A
abbrev zQv (below : List Frame) (args : Array Value) (s : State) (g : zG) (A : Nat → Prop) (k n : Nat) {S : Type} (w : S → va_W) (Q : S → Prop) : State → Prop := MQ below (va_Qv Q (fun u t => va_P g.1 vwCl (w u) t.heap ∧ va_D A (w u)) A) args s k n A
abbrev zQr (below : List Frame) (args : Array Value) (s : State) (g : zG) (A : Nat → Prop) (k n : Nat) {S : Type} (w : S → va_W) (ad : S → Nat) (Q : S → Prop) : State → Prop := MQ below (va_Qr Q (fun u a t => a = ad u ∧ va_P g.1 vwCl (w u) t.heap ∧ va_D A (w u)) A) args s k n A
theorem zMi_of {l : Launch} {y : MethodName} {cc : ByteArray} {nL : Nat} {ret : Option FieldType} {k mc ms : Nat} {g : zG} {av : List Value} {ws : va_W} {S : Type} {w : S → va_W} {Q : Int32 → S → Prop} (own : String) (hy : plainName y.cls = true) (ho : y.cls = own) (lv : List (Nat × Value)) (hlv : lv_args 0 av = lv) (hav : (lg_sl av).length ≤ nL)
    (h : ∀ (p : Program) (e : Env) (s : State) (m : MethodId) (args : Array Value) (below : List Frame) (meth : Method) (c : Code) (A : Nat → Prop), zC p s m args meth c g A cc own nL → meth.sig.returnType = ret → meth.name = y.name → zJ p l e (zR k mc ms) s m args below meth c g A nL (zQi below args s g A mc ms w Q) ws 0 0 0 lv []) : zMi l y cc nL ret k mc ms g av ws w Q := by
  intro sz
  refine Met.ofW (cc := cc) (maxL := nL) (ret := ret) hy rfl ?_
  intro p e s m args below meth c s₁ B hml hv
  obtain ⟨rfl, rfl, hP, hK, hD0, hZ⟩ := hv
  have hts := atoms_spec (ws := zws y cc nL ret) B.pre
  have hown : s.vm.findClass y.cls = some m.cls := findClass_of_methodNamed B.named
  subst ho
  have hD := hD0.self (sz := s.heap.size)
  have hl := lv_entry av (n := nL) hav
  rw [lg_entry_eq]
  generalize (lg_sl av ++ List.replicate (nL - (lg_sl av).length) Slot.unset).toArray = ls at hl ⊢
  exact h p e s m _ below meth c (va_A ws s.heap.size) ⟨B.exec, B.bytes, hml, hown, fun w hw => hts w (List.mem_cons_of_mem _ hw), hK, fun q h => Or.inr h, hZ, B.notSynchronized⟩ B.returns (name_of_methodNamed B.named B.method).1 s.heap [] ls hP hD va_S.rf (hlv ▸ hl)
theorem zMl_of {l : Launch} {y : MethodName} {cc : ByteArray} {nL : Nat} {ret : Option FieldType} {k mc ms : Nat} {g : zG} {av : List Value} {ws : va_W} {S : Type} {w : S → va_W} {Q : Int64 → S → Prop} (own : String) (hy : plainName y.cls = true) (ho : y.cls = own) (lv : List (Nat × Value)) (hlv : lv_args 0 av = lv) (hav : (lg_sl av).length ≤ nL)
    (h : ∀ (p : Program) (e : Env) (s : State) (m : MethodId) (args : Array Value) (below : List Frame) (meth : Method) (c : Code) (A : Nat → Prop), zC p s m args meth c g A cc own nL → meth.sig.returnType = ret → meth.name = y.name → zJ p l e (zR k mc ms) s m args below meth c g A nL (zQl below args s g A mc ms w Q) ws 0 0 0 lv []) : zMl l y cc nL ret k mc ms g av ws w Q := by
  intro sz
  refine Met.ofW (cc := cc) (maxL := nL) (ret := ret) hy rfl ?_
  intro p e s m args below meth c s₁ B hml hv
  obtain ⟨rfl, rfl, hP, hK, hD0, hZ⟩ := hv
  have hts := atoms_spec (ws := zws y cc nL ret) B.pre
  have hown : s.vm.findClass y.cls = some m.cls := findClass_of_methodNamed B.named
  subst ho
  have hD := hD0.self (sz := s.heap.size)
  have hl := lv_entry av (n := nL) hav
  rw [lg_entry_eq]
  generalize (lg_sl av ++ List.replicate (nL - (lg_sl av).length) Slot.unset).toArray = ls at hl ⊢
  exact h p e s m _ below meth c (va_A ws s.heap.size) ⟨B.exec, B.bytes, hml, hown, fun w hw => hts w (List.mem_cons_of_mem _ hw), hK, fun q h => Or.inr h, hZ, B.notSynchronized⟩ B.returns (name_of_methodNamed B.named B.method).1 s.heap [] ls hP hD va_S.rf (hlv ▸ hl)
theorem zMv_of {l : Launch} {y : MethodName} {cc : ByteArray} {nL : Nat} {ret : Option FieldType} {k mc ms : Nat} {g : zG} {av : List Value} {ws : va_W} {S : Type} {w : S → va_W} {Q : S → Prop} (own : String) (hy : plainName y.cls = true) (ho : y.cls = own) (lv : List (Nat × Value)) (hlv : lv_args 0 av = lv) (hav : (lg_sl av).length ≤ nL)
    (h : ∀ (p : Program) (e : Env) (s : State) (m : MethodId) (args : Array Value) (below : List Frame) (meth : Method) (c : Code) (A : Nat → Prop), zC p s m args meth c g A cc own nL → meth.sig.returnType = ret → meth.name = y.name → zJ p l e (zR k mc ms) s m args below meth c g A nL (zQv below args s g A mc ms w Q) ws 0 0 0 lv []) : zMv l y cc nL ret k mc ms g av ws w Q := by
  intro sz
  refine Met.ofW (cc := cc) (maxL := nL) (ret := ret) hy rfl ?_
  intro p e s m args below meth c s₁ B hml hv
  obtain ⟨rfl, rfl, hP, hK, hD0, hZ⟩ := hv
  have hts := atoms_spec (ws := zws y cc nL ret) B.pre
  have hown : s.vm.findClass y.cls = some m.cls := findClass_of_methodNamed B.named
  subst ho
  have hD := hD0.self (sz := s.heap.size)
  have hl := lv_entry av (n := nL) hav
  rw [lg_entry_eq]
  generalize (lg_sl av ++ List.replicate (nL - (lg_sl av).length) Slot.unset).toArray = ls at hl ⊢
  exact h p e s m _ below meth c (va_A ws s.heap.size) ⟨B.exec, B.bytes, hml, hown, fun w hw => hts w (List.mem_cons_of_mem _ hw), hK, fun q h => Or.inr h, hZ, B.notSynchronized⟩ B.returns (name_of_methodNamed B.named B.method).1 s.heap [] ls hP hD va_S.rf (hlv ▸ hl)
theorem zMr_of {l : Launch} {y : MethodName} {cc : ByteArray} {nL : Nat} {ret : Option FieldType} {k mc ms : Nat} {g : zG} {av : List Value} {ws : va_W} {S : Type} {w : S → va_W} {ad : S → Nat} {Q : S → Prop} (own : String) (hy : plainName y.cls = true) (ho : y.cls = own) (lv : List (Nat × Value)) (hlv : lv_args 0 av = lv) (hav : (lg_sl av).length ≤ nL)
    (h : ∀ (p : Program) (e : Env) (s : State) (m : MethodId) (args : Array Value) (below : List Frame) (meth : Method) (c : Code) (A : Nat → Prop), zC p s m args meth c g A cc own nL → meth.sig.returnType = ret → meth.name = y.name → zJ p l e (zR k mc ms) s m args below meth c g A nL (zQr below args s g A mc ms w ad Q) ws 0 0 0 lv []) : zMr l y cc nL ret k mc ms g av ws w ad Q := by
  intro sz
  refine Met.ofW (cc := cc) (maxL := nL) (ret := ret) hy rfl ?_
  intro p e s m args below meth c s₁ B hml hv
  obtain ⟨rfl, rfl, hP, hK, hD0, hZ⟩ := hv
  have hts := atoms_spec (ws := zws y cc nL ret) B.pre
  have hown : s.vm.findClass y.cls = some m.cls := findClass_of_methodNamed B.named
  subst ho
  have hD := hD0.self (sz := s.heap.size)
  have hl := lv_entry av (n := nL) hav
  rw [lg_entry_eq]
  generalize (lg_sl av ++ List.replicate (nL - (lg_sl av).length) Slot.unset).toArray = ls at hl ⊢
  exact h p e s m _ below meth c (va_A ws s.heap.size) ⟨B.exec, B.bytes, hml, hown, fun w hw => hts w (List.mem_cons_of_mem _ hw), hK, fun q h => Or.inr h, hZ, B.notSynchronized⟩ B.returns (name_of_methodNamed B.named B.method).1 s.heap [] ls hP hD va_S.rf (hlv ▸ hl)
def zBool (v : Int32) : Prop := v = 0 ∨ v = 1
theorem zBool_nar {v : Int32} (h : zBool v) : narrow .boolean (.int v) = .int v := by
  rcases h with rfl | rfl <;> rfl
/-- what the tables say of a method that is called: an instance's, a static one -/
def zV (y : MethodName) (cc : ByteArray) (n : Nat) (ret : Option FieldType) (a : Nat) : Prop :=
  Cond.code y cc n ret ∈ zW ∧ Cond.instanceMethod y ∈ zW ∧ Cond.selects y.cls y y ∈ zW ∧ Cond.initialized y.cls ∈ zW ∧ (y.cls ≠ "java/lang/invoke/MethodHandle" ∧ y.cls ≠ "java/lang/invoke/VarHandle" ∧ (parseMethodDescriptor y.desc).map (fun d => d.parameters.length) = some a)
def zSt (y : MethodName) (cc : ByteArray) (n : Nat) (ret : Option FieldType) (a : Nat) : Prop :=
  Cond.code y cc n ret ∈ zW ∧ Cond.static y ∈ zW ∧ Cond.initialized y.cls ∈ zW ∧ (y.cls ≠ "java/lang/invoke/MethodHandle" ∧ y.cls ≠ "java/lang/invoke/VarHandle" ∧ (parseMethodDescriptor y.desc).map (fun d => d.parameters.length) = some a)
/-- a constructor -/
def zI (y : MethodName) (cc : ByteArray) (n : Nat) (a : Nat) : Prop :=
  Cond.code y cc n none ∈ zW ∧ Cond.instanceMethod y ∈ zW ∧ Cond.initialized y.cls ∈ zW ∧ y.name = "<init>" ∧ (y.cls ≠ "java/lang/invoke/MethodHandle" ∧ y.cls ≠ "java/lang/invoke/VarHandle" ∧ (parseMethodDescriptor y.desc).map (fun d => d.parameters.length) = some a)
section ZK
variable {p : Program} {l : Launch} {e : Env} {R : Room} {s : State} {m : MethodId} {args : Array Value} {below : List Frame} {meth : Method} {c : Code} {g : zG} {A : Nat → Prop} {nL : Nat} {Q : State → Prop} {ws : va_W} {k n pc : Nat} {lv : List (Nat × Value)} {st st0 : List Value} {cc : ByteArray} {own : String}
variable {y : MethodName} {cc1 : ByteArray} {n1 k1 mc ms index : Nat} {ret : Option FieldType} {As : List Value} {b : Nat} {Qc : Nat → Array Value → State → Outcome → State → Prop}
theorem zrunV (C : zC p s m args meth c g A cc own nL) {H : Heap} {locs : List Loc} {ls : Array Slot} (X Cw Y : va_W) (hP : va_P g.1 vwCl (X ++ (Cw ++ Y)) H) (hD : va_D A (X ++ (Cw ++ Y))) (hS : va_S A s.heap H locs) (hl : lv_has ls nL lv)
    (hM : ∀ sz : Nat, Met l y (zws y cc1 n1 ret) (zR k1 mc ms) (va_Pc (.ref b :: As) (zB g Cw sz)) (Qc sz) mc ms (va_A Cw sz)) (hv : zV y cc1 n1 ret As.length) (hlk : Cond.methodLink own index y ∈ zW) (ci : Nat) {q : vw_C} (hc : vwCl[ci]? = some q) (hq : q.1 = y.cls) {fs : List Value} (q0 : Nat) (he : Cw[q0]? = some (b, .inr (ci, fs)))
    (hR : k1 + 1 ≤ R.frames ∧ 8 + (n1 + 11) + 40 * k1 ≤ R.locals) (hcap : k + mc ≤ R.cells ∧ n + ms ≤ R.slots) (hroom : (st.map fun v => v.category).sum ≤ 8) (hst : st0 = As.reverse ++ .ref b :: st) (hd : decode cc pc = .ok (.invokevirtual index, 3)) :
    va_Run p l e R s m args below meth c H locs k n mc ms (F0 m pc ls st0) st (Qc H.size (Value.ref b :: As).toArray) (va_A Cw H.size) := by
  obtain ⟨hPc, hDc⟩ := zmidC hP hD
  have hF : ∀ q, va_A Cw H.size q → A q := by
    intro q h
    rcases h with ⟨i, e1, h⟩ | h
    · exact hDc.2 i _ h
    · exact C.2.2.2.2.2.2.1 q (Nat.le_trans hS.1 h)
  have hts := C.2.2.2.2.1
  refine va_runV (As := As) (rest := st) ⟨C.1, C.2.1, C.2.2.1, C.2.2.2.1, hts⟩ (hM H.size) ⟨callB_of As.length hts (zgood hv.1) rfl rfl rfl (hts _ hv.2.2.2.1) (hts _ hlk) hv.2.2.2.2 hR, hts _ hv.2.1, hts _ hv.2.2.1⟩ ⟨zB.blind, ?_, fun U hU hW => ⟨rfl, by rw [hU], by rw [hU]; exact hPc, va_K.moved hW.alike C.2.2.2.2.2.1, hDc.weaken (fun _ _ _ _ => trivial), by rw [hU]; exact C.2.2.2.2.2.2.2.1.go hW hS.2.1 hF⟩⟩ rfl rfl hl.1 hst (lv_room hroom) hd hcap
  have hr := va_recv (ci := ci) (q0 := q0) C.2.2.2.2.2.1 hPc hc he
  rw [hq] at hr
  exact hr
theorem zrunS (C : zC p s m args meth c g A cc own nL) {H : Heap} {locs : List Loc} {ls : Array Slot} (X Cw Y : va_W) (hP : va_P g.1 vwCl (X ++ (Cw ++ Y)) H) (hD : va_D A (X ++ (Cw ++ Y))) (hS : va_S A s.heap H locs) (hl : lv_has ls nL lv)
    (hM : ∀ sz : Nat, Met l y (zws y cc1 n1 ret) (zR k1 mc ms) (va_Pc As (zB g Cw sz)) (Qc sz) mc ms (va_A Cw sz)) (hv : zSt y cc1 n1 ret As.length) (hlk : Cond.methodLink own index y ∈ zW)
    (hR : k1 + 1 ≤ R.frames ∧ 8 + (n1 + 11) + 40 * k1 ≤ R.locals) (hcap : k + mc ≤ R.cells ∧ n + ms ≤ R.slots) (hroom : (st.map fun v => v.category).sum ≤ 8) (hst : st0 = As.reverse ++ st) (hd : decode cc pc = .ok (.invokestatic index, 3)) :
    va_Run p l e R s m args below meth c H locs k n mc ms (F0 m pc ls st0) st (Qc H.size As.toArray) (va_A Cw H.size) := by
  obtain ⟨hPc, hDc⟩ := zmidC hP hD
  have hF : ∀ q, va_A Cw H.size q → A q := by
    intro q h
    rcases h with ⟨i, e1, h⟩ | h
    · exact hDc.2 i _ h
    · exact C.2.2.2.2.2.2.1 q (Nat.le_trans hS.1 h)
  have hts := C.2.2.2.2.1
  exact va_runS (As := As) (rest := st) ⟨C.1, C.2.1, C.2.2.1, C.2.2.2.1, hts⟩ (hM H.size) ⟨callB_of As.length hts (zgood hv.1) rfl rfl rfl (hts _ hv.2.2.1) (hts _ hlk) hv.2.2.2 hR, hts _ hv.2.1⟩ ⟨zB.blind, fun U hU hW => ⟨rfl, by rw [hU], by rw [hU]; exact hPc, va_K.moved hW.alike C.2.2.2.2.2.1, hDc.weaken (fun _ _ _ _ => trivial), by rw [hU]; exact C.2.2.2.2.2.2.2.1.go hW hS.2.1 hF⟩⟩ rfl rfl hl.1 hst (lv_room hroom) hd hcap
theorem z_Vi (C : zC p s m args meth c g A cc own nL) (X Cw Y : va_W) (hws : ws = X ++ (Cw ++ Y)) {S : Type} {w : S → va_W} {post : Int32 → S → Prop} (hM : zMi l y cc1 n1 ret k1 mc ms g (.ref b :: As) Cw w post) (hv : zV y cc1 n1 ret As.length) (hlk : Cond.methodLink own index y ∈ zW) (ci : Nat) {q : vw_C} (hc : vwCl[ci]? = some q) (hq : q.1 = y.cls) {fs : List Value} (q0 : Nat) (he : Cw[q0]? = some (b, .inr (ci, fs)))
    (hR : k1 + 1 ≤ R.frames ∧ 8 + (n1 + 11) + 40 * k1 ≤ R.locals) (hcap : k + mc ≤ R.cells ∧ n + ms ≤ R.slots) (hroom : (st.map fun v => v.category).sum ≤ 8) (hst : st0 = As.reverse ++ .ref b :: st) (hd : decode cc pc = .ok (.invokevirtual index, 3))
    (h : ∀ (r : Int32) (u : S), post r u → zJ p l e R s m args below meth c g A nL Q (X ++ (w u ++ Y)) (k + mc) (n + ms) (pc + 3) lv (.int r :: st)) : zJ p l e R s m args below meth c g A nL Q ws k n pc lv st0 := by
  intro H locs ls hP hD hS hl
  subst hws
  obtain ⟨hPc, hDc⟩ := zmidC hP hD
  have hF : ∀ q, va_A Cw H.size q → A q := by
    intro q h
    rcases h with ⟨i, e1, h⟩ | h
    · exact hDc.2 i _ h
    · exact C.2.2.2.2.2.2.1 q (Nat.le_trans hS.1 h)
  refine va_calli (zrunV C X Cw Y hP hD hS hl hM hv hlk ci hc hq q0 he hR hcap hroom hst hd) hS (fun q _ h => hF q h) hF (fun r u t H1 locs1 ht hvm hw hB hz1 hk1 hS1 => ?_)
  obtain ⟨h1, h2⟩ := hB
  rw [ht] at h1
  obtain ⟨hP2, hD2⟩ := zmid hP hD hF hk1 h1 h2
  exact h r u hw H1 locs1 ls hP2 hD2 hS1 hl
theorem z_Si (C : zC p s m args meth c g A cc own nL) (X Cw Y : va_W) (hws : ws = X ++ (Cw ++ Y)) {S : Type} {w : S → va_W} {post : Int32 → S → Prop} (hM : zMi l y cc1 n1 ret k1 mc ms g As Cw w post) (hv : zSt y cc1 n1 ret As.length) (hlk : Cond.methodLink own index y ∈ zW)
    (hR : k1 + 1 ≤ R.frames ∧ 8 + (n1 + 11) + 40 * k1 ≤ R.locals) (hcap : k + mc ≤ R.cells ∧ n + ms ≤ R.slots) (hroom : (st.map fun v => v.category).sum ≤ 8) (hst : st0 = As.reverse ++ st) (hd : decode cc pc = .ok (.invokestatic index, 3))
    (h : ∀ (r : Int32) (u : S), post r u → zJ p l e R s m args below meth c g A nL Q (X ++ (w u ++ Y)) (k + mc) (n + ms) (pc + 3) lv (.int r :: st)) : zJ p l e R s m args below meth c g A nL Q ws k n pc lv st0 := by
  intro H locs ls hP hD hS hl
  subst hws
  obtain ⟨hPc, hDc⟩ := zmidC hP hD
  have hF : ∀ q, va_A Cw H.size q → A q := by
    intro q h
    rcases h with ⟨i, e1, h⟩ | h
    · exact hDc.2 i _ h
    · exact C.2.2.2.2.2.2.1 q (Nat.le_trans hS.1 h)
  refine va_calli (zrunS C X Cw Y hP hD hS hl hM hv hlk hR hcap hroom hst hd) hS (fun q _ h => hF q h) hF (fun r u t H1 locs1 ht hvm hw hB hz1 hk1 hS1 => ?_)
  obtain ⟨h1, h2⟩ := hB
  rw [ht] at h1
  obtain ⟨hP2, hD2⟩ := zmid hP hD hF hk1 h1 h2
  exact h r u hw H1 locs1 ls hP2 hD2 hS1 hl
theorem z_Vl (C : zC p s m args meth c g A cc own nL) (X Cw Y : va_W) (hws : ws = X ++ (Cw ++ Y)) {S : Type} {w : S → va_W} {post : Int64 → S → Prop} (hM : zMl l y cc1 n1 ret k1 mc ms g (.ref b :: As) Cw w post) (hv : zV y cc1 n1 ret As.length) (hlk : Cond.methodLink own index y ∈ zW) (ci : Nat) {q : vw_C} (hc : vwCl[ci]? = some q) (hq : q.1 = y.cls) {fs : List Value} (q0 : Nat) (he : Cw[q0]? = some (b, .inr (ci, fs)))
    (hR : k1 + 1 ≤ R.frames ∧ 8 + (n1 + 11) + 40 * k1 ≤ R.locals) (hcap : k + mc ≤ R.cells ∧ n + ms ≤ R.slots) (hroom : (st.map fun v => v.category).sum ≤ 8) (hst : st0 = As.reverse ++ .ref b :: st) (hd : decode cc pc = .ok (.invokevirtual index, 3))
    (h : ∀ (r : Int64) (u : S), post r u → zJ p l e R s m args below meth c g A nL Q (X ++ (w u ++ Y)) (k + mc) (n + ms) (pc + 3) lv (.long r :: st)) : zJ p l e R s m args below meth c g A nL Q ws k n pc lv st0 := by
  intro H locs ls hP hD hS hl
  subst hws
  obtain ⟨hPc, hDc⟩ := zmidC hP hD
  have hF : ∀ q, va_A Cw H.size q → A q := by
    intro q h
    rcases h with ⟨i, e1, h⟩ | h
    · exact hDc.2 i _ h
    · exact C.2.2.2.2.2.2.1 q (Nat.le_trans hS.1 h)
  refine va_calll (zrunV C X Cw Y hP hD hS hl hM hv hlk ci hc hq q0 he hR hcap hroom hst hd) hS (fun q _ h => hF q h) hF (fun r u t H1 locs1 ht hvm hw hB hz1 hk1 hS1 => ?_)
  obtain ⟨h1, h2⟩ := hB
  rw [ht] at h1
  obtain ⟨hP2, hD2⟩ := zmid hP hD hF hk1 h1 h2
  exact h r u hw H1 locs1 ls hP2 hD2 hS1 hl
theorem z_Sl (C : zC p s m args meth c g A cc own nL) (X Cw Y : va_W) (hws : ws = X ++ (Cw ++ Y)) {S : Type} {w : S → va_W} {post : Int64 → S → Prop} (hM : zMl l y cc1 n1 ret k1 mc ms g As Cw w post) (hv : zSt y cc1 n1 ret As.length) (hlk : Cond.methodLink own index y ∈ zW)
    (hR : k1 + 1 ≤ R.frames ∧ 8 + (n1 + 11) + 40 * k1 ≤ R.locals) (hcap : k + mc ≤ R.cells ∧ n + ms ≤ R.slots) (hroom : (st.map fun v => v.category).sum ≤ 8) (hst : st0 = As.reverse ++ st) (hd : decode cc pc = .ok (.invokestatic index, 3))
    (h : ∀ (r : Int64) (u : S), post r u → zJ p l e R s m args below meth c g A nL Q (X ++ (w u ++ Y)) (k + mc) (n + ms) (pc + 3) lv (.long r :: st)) : zJ p l e R s m args below meth c g A nL Q ws k n pc lv st0 := by
  intro H locs ls hP hD hS hl
  subst hws
  obtain ⟨hPc, hDc⟩ := zmidC hP hD
  have hF : ∀ q, va_A Cw H.size q → A q := by
    intro q h
    rcases h with ⟨i, e1, h⟩ | h
    · exact hDc.2 i _ h
    · exact C.2.2.2.2.2.2.1 q (Nat.le_trans hS.1 h)
  refine va_calll (zrunS C X Cw Y hP hD hS hl hM hv hlk hR hcap hroom hst hd) hS (fun q _ h => hF q h) hF (fun r u t H1 locs1 ht hvm hw hB hz1 hk1 hS1 => ?_)
  obtain ⟨h1, h2⟩ := hB
  rw [ht] at h1
  obtain ⟨hP2, hD2⟩ := zmid hP hD hF hk1 h1 h2
  exact h r u hw H1 locs1 ls hP2 hD2 hS1 hl
theorem z_Vv (C : zC p s m args meth c g A cc own nL) (X Cw Y : va_W) (hws : ws = X ++ (Cw ++ Y)) {S : Type} {w : S → va_W} {post : S → Prop} (hM : zMv l y cc1 n1 ret k1 mc ms g (.ref b :: As) Cw w post) (hv : zV y cc1 n1 ret As.length) (hlk : Cond.methodLink own index y ∈ zW) (ci : Nat) {q : vw_C} (hc : vwCl[ci]? = some q) (hq : q.1 = y.cls) {fs : List Value} (q0 : Nat) (he : Cw[q0]? = some (b, .inr (ci, fs)))
    (hR : k1 + 1 ≤ R.frames ∧ 8 + (n1 + 11) + 40 * k1 ≤ R.locals) (hcap : k + mc ≤ R.cells ∧ n + ms ≤ R.slots) (hroom : (st.map fun v => v.category).sum ≤ 8) (hst : st0 = As.reverse ++ .ref b :: st) (hd : decode cc pc = .ok (.invokevirtual index, 3))
    (h : ∀ (u : S), post u → zJ p l e R s m args below meth c g A nL Q (X ++ (w u ++ Y)) (k + mc) (n + ms) (pc + 3) lv (st)) : zJ p l e R s m args below meth c g A nL Q ws k n pc lv st0 := by
  intro H locs ls hP hD hS hl
  subst hws
  obtain ⟨hPc, hDc⟩ := zmidC hP hD
  have hF : ∀ q, va_A Cw H.size q → A q := by
    intro q h
    rcases h with ⟨i, e1, h⟩ | h
    · exact hDc.2 i _ h
    · exact C.2.2.2.2.2.2.1 q (Nat.le_trans hS.1 h)
  refine va_callv (zrunV C X Cw Y hP hD hS hl hM hv hlk ci hc hq q0 he hR hcap hroom hst hd) hS (fun q _ h => hF q h) hF (fun u t H1 locs1 ht hvm hw hB hz1 hk1 hS1 => ?_)
  obtain ⟨h1, h2⟩ := hB
  rw [ht] at h1
  obtain ⟨hP2, hD2⟩ := zmid hP hD hF hk1 h1 h2
  exact h u hw H1 locs1 ls hP2 hD2 hS1 hl
theorem z_Sv (C : zC p s m args meth c g A cc own nL) (X Cw Y : va_W) (hws : ws = X ++ (Cw ++ Y)) {S : Type} {w : S → va_W} {post : S → Prop} (hM : zMv l y cc1 n1 ret k1 mc ms g As Cw w post) (hv : zSt y cc1 n1 ret As.length) (hlk : Cond.methodLink own index y ∈ zW)
    (hR : k1 + 1 ≤ R.frames ∧ 8 + (n1 + 11) + 40 * k1 ≤ R.locals) (hcap : k + mc ≤ R.cells ∧ n + ms ≤ R.slots) (hroom : (st.map fun v => v.category).sum ≤ 8) (hst : st0 = As.reverse ++ st) (hd : decode cc pc = .ok (.invokestatic index, 3))
    (h : ∀ (u : S), post u → zJ p l e R s m args below meth c g A nL Q (X ++ (w u ++ Y)) (k + mc) (n + ms) (pc + 3) lv (st)) : zJ p l e R s m args below meth c g A nL Q ws k n pc lv st0 := by
  intro H locs ls hP hD hS hl
  subst hws
  obtain ⟨hPc, hDc⟩ := zmidC hP hD
  have hF : ∀ q, va_A Cw H.size q → A q := by
    intro q h
    rcases h with ⟨i, e1, h⟩ | h
    · exact hDc.2 i _ h
    · exact C.2.2.2.2.2.2.1 q (Nat.le_trans hS.1 h)
  refine va_callv (zrunS C X Cw Y hP hD hS hl hM hv hlk hR hcap hroom hst hd) hS (fun q _ h => hF q h) hF (fun u t H1 locs1 ht hvm hw hB hz1 hk1 hS1 => ?_)
  obtain ⟨h1, h2⟩ := hB
  rw [ht] at h1
  obtain ⟨hP2, hD2⟩ := zmid hP hD hF hk1 h1 h2
  exact h u hw H1 locs1 ls hP2 hD2 hS1 hl
theorem z_iret (C : zC p s m args meth c g A cc own nL) (hr : meth.sig.returnType = some .int) {S : Type} {w : S → va_W} {post : Int32 → S → Prop} (u : S) {v : Int32} (hw : ws = w u) (hq : post v u) (hd : decode cc pc = .ok (.ireturn, 1)) : zJ p l e R s m args below meth c g A nL (zQi below args s g A k n w post) ws k n pc lv [.int v] :=
  fun H locs ls hP hD hS hl => W.iret C.1 C.2.1 hr (fun t ht hW => ⟨⟨v, u, rfl, hq, by rw [ht]; exact hw ▸ hP, hw ▸ hD⟩, hS.F ht⟩) hS.2.2 hd C.2.2.2.2.2.2.2.2
theorem z_zret (C : zC p s m args meth c g A cc own nL) (hr : meth.sig.returnType = some .boolean) {S : Type} {w : S → va_W} {post : Int32 → S → Prop} (u : S) {v : Int32} (hw : ws = w u) (hz : zBool v) (hq : post v u) (hd : decode cc pc = .ok (.ireturn, 1)) : zJ p l e R s m args below meth c g A nL (zQi below args s g A k n w post) ws k n pc lv [.int v] :=
  fun H locs ls hP hD hS hl => W.zret C.1 C.2.1 hr (zBool_nar hz) (fun t ht hW => ⟨⟨v, u, rfl, hq, by rw [ht]; exact hw ▸ hP, hw ▸ hD⟩, hS.F ht⟩) hS.2.2 hd C.2.2.2.2.2.2.2.2
theorem z_lret (C : zC p s m args meth c g A cc own nL) (hr : meth.sig.returnType = some .long) {S : Type} {w : S → va_W} {post : Int64 → S → Prop} (u : S) {v : Int64} (hw : ws = w u) (hq : post v u) (hd : decode cc pc = .ok (.lreturn, 1)) : zJ p l e R s m args below meth c g A nL (zQl below args s g A k n w post) ws k n pc lv [.long v] :=
  fun H locs ls hP hD hS hl => W.lret C.1 C.2.1 hr (fun t ht hW => ⟨⟨v, u, rfl, hq, by rw [ht]; exact hw ▸ hP, hw ▸ hD⟩, hS.F ht⟩) hS.2.2 hd C.2.2.2.2.2.2.2.2
theorem z_vret (C : zC p s m args meth c g A cc own nL) (hr : meth.sig.returnType = none) {S : Type} {w : S → va_W} {post : S → Prop} (u : S) (hw : ws = w u) (hq : post u) (hd : decode cc pc = .ok (.return_, 1)) : zJ p l e R s m args below meth c g A nL (zQv below args s g A k n w post) ws k n pc lv [] :=
  fun H locs ls hP hD hS hl => W.vret C.1 C.2.1 hr (fun t ht hW => ⟨⟨u, rfl, hq, by rw [ht]; exact hw ▸ hP, hw ▸ hD⟩, hS.F ht⟩) hS.2.2 hd C.2.2.2.2.2.2.2.2
end ZK
