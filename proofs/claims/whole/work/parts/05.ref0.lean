-- the reference: its state, its world, a row a field
abbrev RS : Type := (Nat → Nat → Int32) × (Nat → Nat → Int64)
def rI (u : RS) (k : Nat) (f : Nat → Int32) : RS := (va_up u.1 k f, u.2)
def rN (u : RS) (k : Nat) (x : Int32) : RS := (va_up u.1 k (fun _ => x), u.2)
def rL (u : RS) (k : Nat) (f : Nat → Int64) : RS := (u.1, va_up u.2 k f)
abbrev zn (i : Int32) : Nat := i.toNatClampNeg
def fR (ad : Nat → Nat) (u : RS) : List Value := [.int (u.1 0 0), .int (u.1 1 0), .ref (ad 1), .ref (ad 2), .ref (ad 3), .ref (ad 4), .ref (ad 5), .ref (ad 6), .int (u.1 8 0), .ref (ad 7), .ref (ad 8), .ref (ad 9), .ref (ad 10), .ref (ad 11), .ref (ad 12), .ref (ad 13), .ref (ad 14), .ref (ad 15), .int (u.1 18 0), .int (u.1 19 0)]
def wR (g : zG) (ad : Nat → Nat) (u : RS) : va_W := [(ad 0, .inr (8, fR ad u)), (ad 1, .inl (g.2.1 0, 6, .inl (u.1 2))), (ad 2, .inl (g.2.1 0, 1065, .inl (u.1 3))), (ad 3, .inl (g.2.1 1, 7, .inr (.inl (u.2 4)))), (ad 4, .inl (g.2.1 0, 8520, .inl (u.1 5))), (ad 5, .inl (g.2.1 1, 56, .inr (.inl (u.2 6)))), (ad 6, .inl (g.2.1 0, 8, .inl (u.1 7))), (ad 7, .inl (g.2.1 0, 2130, .inl (u.1 9))), (ad 8, .inl (g.2.1 1, 14, .inr (.inl (u.2 10)))), (ad 9, .inl (g.2.1 2, 2, .inl (u.1 11))), (ad 10, .inl (g.2.1 0, 1065, .inl (u.1 12))), (ad 11, .inl (g.2.1 1, 7, .inr (.inl (u.2 13)))), (ad 12, .inl (g.2.1 0, 5, .inl (u.1 14))), (ad 13, .inl (g.2.1 0, 4, .inl (u.1 15))), (ad 14, .inl (g.2.1 2, 16, .inl (u.1 16))), (ad 15, .inl (g.2.1 0, 72, .inl (u.1 17)))]
set_option maxRecDepth 20000 in
theorem inX8 : ∀ w ∈ u_ws RX8 TX8 20, w ∈ zW := by
  intro w hw
  have hp : u_ws RX8 TX8 20 = ([874, 876, 878, 880, 882, 884, 886, 888, 890, 892, 894, 896, 898, 900, 902, 904, 906, 908, 910, 912] : List Nat).filterMap (fun i => lw_tbl[i]?) := by decide +kernel
  have hg : (u_ws RX8 TX8 20).all goodWord = true := by decide +kernel
  have h1 := List.all_eq_true.mp hg w hw
  rw [hp] at hw
  obtain ⟨i, -, hi⟩ := List.mem_filterMap.mp hw
  exact zW_at i hi h1
theorem fl8_thrown : Cond.fieldLink RX8 61 "RxQueuesModel" "thrown" "I" ∈ zW := zW_at 854 (by decide +kernel) rfl
theorem fl8_status : Cond.fieldLink RX8 65 "RxQueuesModel" "status" "I" ∈ zW := zW_at 855 (by decide +kernel) rfl
theorem fl8_refusals : Cond.fieldLink RX8 7 "RxQueuesModel" "refusals" "[I" ∈ zW := zW_at 856 (by decide +kernel) rfl
theorem fl8_row : Cond.fieldLink RX8 13 "RxQueuesModel" "row" "[I" ∈ zW := zW_at 857 (by decide +kernel) rfl
theorem fl8_sums : Cond.fieldLink RX8 16 "RxQueuesModel" "sums" "[J" ∈ zW := zW_at 858 (by decide +kernel) rfl
theorem fl8_undos : Cond.fieldLink RX8 20 "RxQueuesModel" "undos" "[I" ∈ zW := zW_at 859 (by decide +kernel) rfl
theorem fl8_undoSums : Cond.fieldLink RX8 23 "RxQueuesModel" "undoSums" "[J" ∈ zW := zW_at 860 (by decide +kernel) rfl
theorem fl8_sorts : Cond.fieldLink RX8 26 "RxQueuesModel" "sorts" "[I" ∈ zW := zW_at 861 (by decide +kernel) rfl
theorem fl8_nUndo : Cond.fieldLink RX8 68 "RxQueuesModel" "nUndo" "I" ∈ zW := zW_at 862 (by decide +kernel) rfl
theorem fl8_images : Cond.fieldLink RX8 29 "RxQueuesModel" "images" "[I" ∈ zW := zW_at 863 (by decide +kernel) rfl
theorem fl8_imageSums : Cond.fieldLink RX8 32 "RxQueuesModel" "imageSums" "[J" ∈ zW := zW_at 864 (by decide +kernel) rfl
theorem fl8_isKept : Cond.fieldLink RX8 35 "RxQueuesModel" "isKept" "[Z" ∈ zW := zW_at 865 (by decide +kernel) rfl
theorem fl8_ahead : Cond.fieldLink RX8 39 "RxQueuesModel" "ahead" "[I" ∈ zW := zW_at 866 (by decide +kernel) rfl
theorem fl8_aheadSums : Cond.fieldLink RX8 42 "RxQueuesModel" "aheadSums" "[J" ∈ zW := zW_at 867 (by decide +kernel) rfl
theorem fl8_fields : Cond.fieldLink RX8 45 "RxQueuesModel" "fields" "[I" ∈ zW := zW_at 868 (by decide +kernel) rfl
theorem fl8_share : Cond.fieldLink RX8 48 "RxQueuesModel" "share" "[I" ∈ zW := zW_at 869 (by decide +kernel) rfl
theorem fl8_laid : Cond.fieldLink RX8 51 "RxQueuesModel" "laid" "[Z" ∈ zW := zW_at 870 (by decide +kernel) rfl
theorem fl8_open : Cond.fieldLink RX8 54 "RxQueuesModel" "open" "[I" ∈ zW := zW_at 871 (by decide +kernel) rfl
theorem fl8_givenMany : Cond.fieldLink RX8 209 "RxQueuesModel" "givenMany" "I" ∈ zW := zW_at 872 (by decide +kernel) rfl
theorem fl8_callMany : Cond.fieldLink RX8 222 "RxQueuesModel" "callMany" "I" ∈ zW := zW_at 873 (by decide +kernel) rfl
section ZR
variable {p : Program} {l : Launch} {e : Env} {R : Room} {s : State} {m : MethodId} {args : Array Value} {below : List Frame} {meth : Method} {c : Code} {g : zG} {A : Nat → Prop} {nL : Nat} {Q : State → Prop} {k n pc : Nat} {lv : List (Nat × Value)} {st st0 : List Value} {cc : ByteArray} {ad : Nat → Nat} {u : RS}
theorem gR_thrown (C : zC p s m args meth c g A cc RX8 nL) (hd : decode cc pc = .ok (.getfield 61, 3)) (h : zJ p l e R s m args below meth c g A nL Q (wR g ad u) k n (pc + 3) lv (.int (u.1 0 0) :: st)) : zJ p l e R s m args below meth c g A nL Q (wR g ad u) k n pc lv (.ref (ad 0) :: st) :=
  z_get (T := TX8) (N := 20) C inX8 (ci := 8) rfl 0 (by decide) fl8_thrown 0 rfl rfl hd h
theorem pR_thrown (C : zC p s m args meth c g A cc RX8 nL) {x : Int32} (hd : decode cc pc = .ok (.putfield 61, 3)) (h : zJ p l e R s m args below meth c g A nL Q (wR g ad (rN u 0 x)) k n (pc + 3) lv st) : zJ p l e R s m args below meth c g A nL Q (wR g ad u) k n pc lv (.int x :: .ref (ad 0) :: st) :=
  z_puti (T := TX8) (N := 20) C inX8 tyX8 tyX8_ok nmX8 (ci := 8) rfl 0 (by decide) fl8_thrown rfl (by decide +kernel) 0 (fs := fR ad u) rfl (Nat.le_of_ble_eq_true rfl) hd (ws1 := wR g ad (rN u 0 x)) rfl h
theorem gR_status (C : zC p s m args meth c g A cc RX8 nL) (hd : decode cc pc = .ok (.getfield 65, 3)) (h : zJ p l e R s m args below meth c g A nL Q (wR g ad u) k n (pc + 3) lv (.int (u.1 1 0) :: st)) : zJ p l e R s m args below meth c g A nL Q (wR g ad u) k n pc lv (.ref (ad 0) :: st) :=
  z_get (T := TX8) (N := 20) C inX8 (ci := 8) rfl 1 (by decide) fl8_status 0 rfl rfl hd h
theorem pR_status (C : zC p s m args meth c g A cc RX8 nL) {x : Int32} (hd : decode cc pc = .ok (.putfield 65, 3)) (h : zJ p l e R s m args below meth c g A nL Q (wR g ad (rN u 1 x)) k n (pc + 3) lv st) : zJ p l e R s m args below meth c g A nL Q (wR g ad u) k n pc lv (.int x :: .ref (ad 0) :: st) :=
  z_puti (T := TX8) (N := 20) C inX8 tyX8 tyX8_ok nmX8 (ci := 8) rfl 1 (by decide) fl8_status rfl (by decide +kernel) 0 (fs := fR ad u) rfl (Nat.le_of_ble_eq_true rfl) hd (ws1 := wR g ad (rN u 1 x)) rfl h
theorem gR_refusals (C : zC p s m args meth c g A cc RX8 nL) (hd : decode cc pc = .ok (.getfield 7, 3)) (h : zJ p l e R s m args below meth c g A nL Q (wR g ad u) k n (pc + 3) lv (.ref (ad 1) :: st)) : zJ p l e R s m args below meth c g A nL Q (wR g ad u) k n pc lv (.ref (ad 0) :: st) :=
  z_get (T := TX8) (N := 20) C inX8 (ci := 8) rfl 2 (by decide) fl8_refusals 0 rfl rfl hd h
theorem lR_refusals (C : zC p s m args meth c g A cc RX8 nL) {x : Int32} (hin : vp_in x 6) (hd : decode cc pc = .ok (.iaload, 1)) (h : zJ p l e R s m args below meth c g A nL Q (wR g ad u) k n (pc + 1) lv (.int (u.1 2 (zn x)) :: st)) : zJ p l e R s m args below meth c g A nL Q (wR g ad u) k n pc lv (.int x :: .ref (ad 1) :: st) :=
  z_iald C 1 rfl hin hd h
theorem sR_refusals (C : zC p s m args meth c g A cc RX8 nL) {x : Int32} {v : Int32} (hin : vp_in x 6) (hd : decode cc pc = .ok (.iastore, 1)) (h : zJ p l e R s m args below meth c g A nL Q (wR g ad (rI u 2 (upd (u.1 2) (zn x) v))) k n (pc + 1) lv st) : zJ p l e R s m args below meth c g A nL Q (wR g ad u) k n pc lv (.int v :: .int x :: .ref (ad 1) :: st) :=
  z_iast C 1 rfl hin hd rfl h
theorem lRn_refusals (C : zC p s m args meth c g A cc RX8 nL) {x : Int32} (j : Nat) (hj : zn x = j) (hin : vp_in x 6) (hd : decode cc pc = .ok (.iaload, 1)) (h : zJ p l e R s m args below meth c g A nL Q (wR g ad u) k n (pc + 1) lv (.int (u.1 2 j) :: st)) : zJ p l e R s m args below meth c g A nL Q (wR g ad u) k n pc lv (.int x :: .ref (ad 1) :: st) := by
  subst hj
  exact lR_refusals C hin hd h
theorem sRn_refusals (C : zC p s m args meth c g A cc RX8 nL) {x : Int32} {v : Int32} (j : Nat) (hj : zn x = j) (hin : vp_in x 6) (hd : decode cc pc = .ok (.iastore, 1)) (h : zJ p l e R s m args below meth c g A nL Q (wR g ad (rI u 2 (upd (u.1 2) j v))) k n (pc + 1) lv st) : zJ p l e R s m args below meth c g A nL Q (wR g ad u) k n pc lv (.int v :: .int x :: .ref (ad 1) :: st) := by
  subst hj
  exact sR_refusals C hin hd h
theorem gR_row (C : zC p s m args meth c g A cc RX8 nL) (hd : decode cc pc = .ok (.getfield 13, 3)) (h : zJ p l e R s m args below meth c g A nL Q (wR g ad u) k n (pc + 3) lv (.ref (ad 2) :: st)) : zJ p l e R s m args below meth c g A nL Q (wR g ad u) k n pc lv (.ref (ad 0) :: st) :=
  z_get (T := TX8) (N := 20) C inX8 (ci := 8) rfl 3 (by decide) fl8_row 0 rfl rfl hd h
theorem lR_row (C : zC p s m args meth c g A cc RX8 nL) {x : Int32} (hin : vp_in x 1065) (hd : decode cc pc = .ok (.iaload, 1)) (h : zJ p l e R s m args below meth c g A nL Q (wR g ad u) k n (pc + 1) lv (.int (u.1 3 (zn x)) :: st)) : zJ p l e R s m args below meth c g A nL Q (wR g ad u) k n pc lv (.int x :: .ref (ad 2) :: st) :=
  z_iald C 2 rfl hin hd h
theorem sR_row (C : zC p s m args meth c g A cc RX8 nL) {x : Int32} {v : Int32} (hin : vp_in x 1065) (hd : decode cc pc = .ok (.iastore, 1)) (h : zJ p l e R s m args below meth c g A nL Q (wR g ad (rI u 3 (upd (u.1 3) (zn x) v))) k n (pc + 1) lv st) : zJ p l e R s m args below meth c g A nL Q (wR g ad u) k n pc lv (.int v :: .int x :: .ref (ad 2) :: st) :=
  z_iast C 2 rfl hin hd rfl h
theorem lRn_row (C : zC p s m args meth c g A cc RX8 nL) {x : Int32} (j : Nat) (hj : zn x = j) (hin : vp_in x 1065) (hd : decode cc pc = .ok (.iaload, 1)) (h : zJ p l e R s m args below meth c g A nL Q (wR g ad u) k n (pc + 1) lv (.int (u.1 3 j) :: st)) : zJ p l e R s m args below meth c g A nL Q (wR g ad u) k n pc lv (.int x :: .ref (ad 2) :: st) := by
  subst hj
  exact lR_row C hin hd h
theorem sRn_row (C : zC p s m args meth c g A cc RX8 nL) {x : Int32} {v : Int32} (j : Nat) (hj : zn x = j) (hin : vp_in x 1065) (hd : decode cc pc = .ok (.iastore, 1)) (h : zJ p l e R s m args below meth c g A nL Q (wR g ad (rI u 3 (upd (u.1 3) j v))) k n (pc + 1) lv st) : zJ p l e R s m args below meth c g A nL Q (wR g ad u) k n pc lv (.int v :: .int x :: .ref (ad 2) :: st) := by
  subst hj
  exact sR_row C hin hd h
theorem gR_sums (C : zC p s m args meth c g A cc RX8 nL) (hd : decode cc pc = .ok (.getfield 16, 3)) (h : zJ p l e R s m args below meth c g A nL Q (wR g ad u) k n (pc + 3) lv (.ref (ad 3) :: st)) : zJ p l e R s m args below meth c g A nL Q (wR g ad u) k n pc lv (.ref (ad 0) :: st) :=
  z_get (T := TX8) (N := 20) C inX8 (ci := 8) rfl 4 (by decide) fl8_sums 0 rfl rfl hd h
theorem lR_sums (C : zC p s m args meth c g A cc RX8 nL) {x : Int32} (hin : vp_in x 7) (hd : decode cc pc = .ok (.laload, 1)) (h : zJ p l e R s m args below meth c g A nL Q (wR g ad u) k n (pc + 1) lv (.long (u.2 4 (zn x)) :: st)) : zJ p l e R s m args below meth c g A nL Q (wR g ad u) k n pc lv (.int x :: .ref (ad 3) :: st) :=
  z_lald C 3 rfl hin hd h
theorem sR_sums (C : zC p s m args meth c g A cc RX8 nL) {x : Int32} {v : Int64} (hin : vp_in x 7) (hd : decode cc pc = .ok (.lastore, 1)) (h : zJ p l e R s m args below meth c g A nL Q (wR g ad (rL u 4 (vp_updL (u.2 4) (zn x) v))) k n (pc + 1) lv st) : zJ p l e R s m args below meth c g A nL Q (wR g ad u) k n pc lv (.long v :: .int x :: .ref (ad 3) :: st) :=
  z_last C 3 rfl hin hd rfl h
theorem lRn_sums (C : zC p s m args meth c g A cc RX8 nL) {x : Int32} (j : Nat) (hj : zn x = j) (hin : vp_in x 7) (hd : decode cc pc = .ok (.laload, 1)) (h : zJ p l e R s m args below meth c g A nL Q (wR g ad u) k n (pc + 1) lv (.long (u.2 4 j) :: st)) : zJ p l e R s m args below meth c g A nL Q (wR g ad u) k n pc lv (.int x :: .ref (ad 3) :: st) := by
  subst hj
  exact lR_sums C hin hd h
theorem sRn_sums (C : zC p s m args meth c g A cc RX8 nL) {x : Int32} {v : Int64} (j : Nat) (hj : zn x = j) (hin : vp_in x 7) (hd : decode cc pc = .ok (.lastore, 1)) (h : zJ p l e R s m args below meth c g A nL Q (wR g ad (rL u 4 (vp_updL (u.2 4) j v))) k n (pc + 1) lv st) : zJ p l e R s m args below meth c g A nL Q (wR g ad u) k n pc lv (.long v :: .int x :: .ref (ad 3) :: st) := by
  subst hj
  exact sR_sums C hin hd h
theorem gR_undos (C : zC p s m args meth c g A cc RX8 nL) (hd : decode cc pc = .ok (.getfield 20, 3)) (h : zJ p l e R s m args below meth c g A nL Q (wR g ad u) k n (pc + 3) lv (.ref (ad 4) :: st)) : zJ p l e R s m args below meth c g A nL Q (wR g ad u) k n pc lv (.ref (ad 0) :: st) :=
  z_get (T := TX8) (N := 20) C inX8 (ci := 8) rfl 5 (by decide) fl8_undos 0 rfl rfl hd h
theorem lR_undos (C : zC p s m args meth c g A cc RX8 nL) {x : Int32} (hin : vp_in x 8520) (hd : decode cc pc = .ok (.iaload, 1)) (h : zJ p l e R s m args below meth c g A nL Q (wR g ad u) k n (pc + 1) lv (.int (u.1 5 (zn x)) :: st)) : zJ p l e R s m args below meth c g A nL Q (wR g ad u) k n pc lv (.int x :: .ref (ad 4) :: st) :=
  z_iald C 4 rfl hin hd h
theorem sR_undos (C : zC p s m args meth c g A cc RX8 nL) {x : Int32} {v : Int32} (hin : vp_in x 8520) (hd : decode cc pc = .ok (.iastore, 1)) (h : zJ p l e R s m args below meth c g A nL Q (wR g ad (rI u 5 (upd (u.1 5) (zn x) v))) k n (pc + 1) lv st) : zJ p l e R s m args below meth c g A nL Q (wR g ad u) k n pc lv (.int v :: .int x :: .ref (ad 4) :: st) :=
  z_iast C 4 rfl hin hd rfl h
theorem lRn_undos (C : zC p s m args meth c g A cc RX8 nL) {x : Int32} (j : Nat) (hj : zn x = j) (hin : vp_in x 8520) (hd : decode cc pc = .ok (.iaload, 1)) (h : zJ p l e R s m args below meth c g A nL Q (wR g ad u) k n (pc + 1) lv (.int (u.1 5 j) :: st)) : zJ p l e R s m args below meth c g A nL Q (wR g ad u) k n pc lv (.int x :: .ref (ad 4) :: st) := by
  subst hj
  exact lR_undos C hin hd h
theorem sRn_undos (C : zC p s m args meth c g A cc RX8 nL) {x : Int32} {v : Int32} (j : Nat) (hj : zn x = j) (hin : vp_in x 8520) (hd : decode cc pc = .ok (.iastore, 1)) (h : zJ p l e R s m args below meth c g A nL Q (wR g ad (rI u 5 (upd (u.1 5) j v))) k n (pc + 1) lv st) : zJ p l e R s m args below meth c g A nL Q (wR g ad u) k n pc lv (.int v :: .int x :: .ref (ad 4) :: st) := by
  subst hj
  exact sR_undos C hin hd h
theorem gR_undoSums (C : zC p s m args meth c g A cc RX8 nL) (hd : decode cc pc = .ok (.getfield 23, 3)) (h : zJ p l e R s m args below meth c g A nL Q (wR g ad u) k n (pc + 3) lv (.ref (ad 5) :: st)) : zJ p l e R s m args below meth c g A nL Q (wR g ad u) k n pc lv (.ref (ad 0) :: st) :=
  z_get (T := TX8) (N := 20) C inX8 (ci := 8) rfl 6 (by decide) fl8_undoSums 0 rfl rfl hd h
theorem lR_undoSums (C : zC p s m args meth c g A cc RX8 nL) {x : Int32} (hin : vp_in x 56) (hd : decode cc pc = .ok (.laload, 1)) (h : zJ p l e R s m args below meth c g A nL Q (wR g ad u) k n (pc + 1) lv (.long (u.2 6 (zn x)) :: st)) : zJ p l e R s m args below meth c g A nL Q (wR g ad u) k n pc lv (.int x :: .ref (ad 5) :: st) :=
  z_lald C 5 rfl hin hd h
theorem sR_undoSums (C : zC p s m args meth c g A cc RX8 nL) {x : Int32} {v : Int64} (hin : vp_in x 56) (hd : decode cc pc = .ok (.lastore, 1)) (h : zJ p l e R s m args below meth c g A nL Q (wR g ad (rL u 6 (vp_updL (u.2 6) (zn x) v))) k n (pc + 1) lv st) : zJ p l e R s m args below meth c g A nL Q (wR g ad u) k n pc lv (.long v :: .int x :: .ref (ad 5) :: st) :=
  z_last C 5 rfl hin hd rfl h
theorem lRn_undoSums (C : zC p s m args meth c g A cc RX8 nL) {x : Int32} (j : Nat) (hj : zn x = j) (hin : vp_in x 56) (hd : decode cc pc = .ok (.laload, 1)) (h : zJ p l e R s m args below meth c g A nL Q (wR g ad u) k n (pc + 1) lv (.long (u.2 6 j) :: st)) : zJ p l e R s m args below meth c g A nL Q (wR g ad u) k n pc lv (.int x :: .ref (ad 5) :: st) := by
  subst hj
  exact lR_undoSums C hin hd h
theorem sRn_undoSums (C : zC p s m args meth c g A cc RX8 nL) {x : Int32} {v : Int64} (j : Nat) (hj : zn x = j) (hin : vp_in x 56) (hd : decode cc pc = .ok (.lastore, 1)) (h : zJ p l e R s m args below meth c g A nL Q (wR g ad (rL u 6 (vp_updL (u.2 6) j v))) k n (pc + 1) lv st) : zJ p l e R s m args below meth c g A nL Q (wR g ad u) k n pc lv (.long v :: .int x :: .ref (ad 5) :: st) := by
  subst hj
  exact sR_undoSums C hin hd h
theorem gR_sorts (C : zC p s m args meth c g A cc RX8 nL) (hd : decode cc pc = .ok (.getfield 26, 3)) (h : zJ p l e R s m args below meth c g A nL Q (wR g ad u) k n (pc + 3) lv (.ref (ad 6) :: st)) : zJ p l e R s m args below meth c g A nL Q (wR g ad u) k n pc lv (.ref (ad 0) :: st) :=
  z_get (T := TX8) (N := 20) C inX8 (ci := 8) rfl 7 (by decide) fl8_sorts 0 rfl rfl hd h
theorem lR_sorts (C : zC p s m args meth c g A cc RX8 nL) {x : Int32} (hin : vp_in x 8) (hd : decode cc pc = .ok (.iaload, 1)) (h : zJ p l e R s m args below meth c g A nL Q (wR g ad u) k n (pc + 1) lv (.int (u.1 7 (zn x)) :: st)) : zJ p l e R s m args below meth c g A nL Q (wR g ad u) k n pc lv (.int x :: .ref (ad 6) :: st) :=
  z_iald C 6 rfl hin hd h
theorem sR_sorts (C : zC p s m args meth c g A cc RX8 nL) {x : Int32} {v : Int32} (hin : vp_in x 8) (hd : decode cc pc = .ok (.iastore, 1)) (h : zJ p l e R s m args below meth c g A nL Q (wR g ad (rI u 7 (upd (u.1 7) (zn x) v))) k n (pc + 1) lv st) : zJ p l e R s m args below meth c g A nL Q (wR g ad u) k n pc lv (.int v :: .int x :: .ref (ad 6) :: st) :=
  z_iast C 6 rfl hin hd rfl h
theorem lRn_sorts (C : zC p s m args meth c g A cc RX8 nL) {x : Int32} (j : Nat) (hj : zn x = j) (hin : vp_in x 8) (hd : decode cc pc = .ok (.iaload, 1)) (h : zJ p l e R s m args below meth c g A nL Q (wR g ad u) k n (pc + 1) lv (.int (u.1 7 j) :: st)) : zJ p l e R s m args below meth c g A nL Q (wR g ad u) k n pc lv (.int x :: .ref (ad 6) :: st) := by
  subst hj
  exact lR_sorts C hin hd h
theorem sRn_sorts (C : zC p s m args meth c g A cc RX8 nL) {x : Int32} {v : Int32} (j : Nat) (hj : zn x = j) (hin : vp_in x 8) (hd : decode cc pc = .ok (.iastore, 1)) (h : zJ p l e R s m args below meth c g A nL Q (wR g ad (rI u 7 (upd (u.1 7) j v))) k n (pc + 1) lv st) : zJ p l e R s m args below meth c g A nL Q (wR g ad u) k n pc lv (.int v :: .int x :: .ref (ad 6) :: st) := by
  subst hj
  exact sR_sorts C hin hd h
theorem gR_nUndo (C : zC p s m args meth c g A cc RX8 nL) (hd : decode cc pc = .ok (.getfield 68, 3)) (h : zJ p l e R s m args below meth c g A nL Q (wR g ad u) k n (pc + 3) lv (.int (u.1 8 0) :: st)) : zJ p l e R s m args below meth c g A nL Q (wR g ad u) k n pc lv (.ref (ad 0) :: st) :=
  z_get (T := TX8) (N := 20) C inX8 (ci := 8) rfl 8 (by decide) fl8_nUndo 0 rfl rfl hd h
theorem pR_nUndo (C : zC p s m args meth c g A cc RX8 nL) {x : Int32} (hd : decode cc pc = .ok (.putfield 68, 3)) (h : zJ p l e R s m args below meth c g A nL Q (wR g ad (rN u 8 x)) k n (pc + 3) lv st) : zJ p l e R s m args below meth c g A nL Q (wR g ad u) k n pc lv (.int x :: .ref (ad 0) :: st) :=
  z_puti (T := TX8) (N := 20) C inX8 tyX8 tyX8_ok nmX8 (ci := 8) rfl 8 (by decide) fl8_nUndo rfl (by decide +kernel) 0 (fs := fR ad u) rfl (Nat.le_of_ble_eq_true rfl) hd (ws1 := wR g ad (rN u 8 x)) rfl h
theorem gR_images (C : zC p s m args meth c g A cc RX8 nL) (hd : decode cc pc = .ok (.getfield 29, 3)) (h : zJ p l e R s m args below meth c g A nL Q (wR g ad u) k n (pc + 3) lv (.ref (ad 7) :: st)) : zJ p l e R s m args below meth c g A nL Q (wR g ad u) k n pc lv (.ref (ad 0) :: st) :=
  z_get (T := TX8) (N := 20) C inX8 (ci := 8) rfl 9 (by decide) fl8_images 0 rfl rfl hd h
theorem lR_images (C : zC p s m args meth c g A cc RX8 nL) {x : Int32} (hin : vp_in x 2130) (hd : decode cc pc = .ok (.iaload, 1)) (h : zJ p l e R s m args below meth c g A nL Q (wR g ad u) k n (pc + 1) lv (.int (u.1 9 (zn x)) :: st)) : zJ p l e R s m args below meth c g A nL Q (wR g ad u) k n pc lv (.int x :: .ref (ad 7) :: st) :=
  z_iald C 7 rfl hin hd h
theorem sR_images (C : zC p s m args meth c g A cc RX8 nL) {x : Int32} {v : Int32} (hin : vp_in x 2130) (hd : decode cc pc = .ok (.iastore, 1)) (h : zJ p l e R s m args below meth c g A nL Q (wR g ad (rI u 9 (upd (u.1 9) (zn x) v))) k n (pc + 1) lv st) : zJ p l e R s m args below meth c g A nL Q (wR g ad u) k n pc lv (.int v :: .int x :: .ref (ad 7) :: st) :=
  z_iast C 7 rfl hin hd rfl h
theorem lRn_images (C : zC p s m args meth c g A cc RX8 nL) {x : Int32} (j : Nat) (hj : zn x = j) (hin : vp_in x 2130) (hd : decode cc pc = .ok (.iaload, 1)) (h : zJ p l e R s m args below meth c g A nL Q (wR g ad u) k n (pc + 1) lv (.int (u.1 9 j) :: st)) : zJ p l e R s m args below meth c g A nL Q (wR g ad u) k n pc lv (.int x :: .ref (ad 7) :: st) := by
  subst hj
  exact lR_images C hin hd h
theorem sRn_images (C : zC p s m args meth c g A cc RX8 nL) {x : Int32} {v : Int32} (j : Nat) (hj : zn x = j) (hin : vp_in x 2130) (hd : decode cc pc = .ok (.iastore, 1)) (h : zJ p l e R s m args below meth c g A nL Q (wR g ad (rI u 9 (upd (u.1 9) j v))) k n (pc + 1) lv st) : zJ p l e R s m args below meth c g A nL Q (wR g ad u) k n pc lv (.int v :: .int x :: .ref (ad 7) :: st) := by
  subst hj
  exact sR_images C hin hd h
theorem gR_imageSums (C : zC p s m args meth c g A cc RX8 nL) (hd : decode cc pc = .ok (.getfield 32, 3)) (h : zJ p l e R s m args below meth c g A nL Q (wR g ad u) k n (pc + 3) lv (.ref (ad 8) :: st)) : zJ p l e R s m args below meth c g A nL Q (wR g ad u) k n pc lv (.ref (ad 0) :: st) :=
  z_get (T := TX8) (N := 20) C inX8 (ci := 8) rfl 10 (by decide) fl8_imageSums 0 rfl rfl hd h
theorem lR_imageSums (C : zC p s m args meth c g A cc RX8 nL) {x : Int32} (hin : vp_in x 14) (hd : decode cc pc = .ok (.laload, 1)) (h : zJ p l e R s m args below meth c g A nL Q (wR g ad u) k n (pc + 1) lv (.long (u.2 10 (zn x)) :: st)) : zJ p l e R s m args below meth c g A nL Q (wR g ad u) k n pc lv (.int x :: .ref (ad 8) :: st) :=
  z_lald C 8 rfl hin hd h
theorem sR_imageSums (C : zC p s m args meth c g A cc RX8 nL) {x : Int32} {v : Int64} (hin : vp_in x 14) (hd : decode cc pc = .ok (.lastore, 1)) (h : zJ p l e R s m args below meth c g A nL Q (wR g ad (rL u 10 (vp_updL (u.2 10) (zn x) v))) k n (pc + 1) lv st) : zJ p l e R s m args below meth c g A nL Q (wR g ad u) k n pc lv (.long v :: .int x :: .ref (ad 8) :: st) :=
  z_last C 8 rfl hin hd rfl h
theorem lRn_imageSums (C : zC p s m args meth c g A cc RX8 nL) {x : Int32} (j : Nat) (hj : zn x = j) (hin : vp_in x 14) (hd : decode cc pc = .ok (.laload, 1)) (h : zJ p l e R s m args below meth c g A nL Q (wR g ad u) k n (pc + 1) lv (.long (u.2 10 j) :: st)) : zJ p l e R s m args below meth c g A nL Q (wR g ad u) k n pc lv (.int x :: .ref (ad 8) :: st) := by
  subst hj
  exact lR_imageSums C hin hd h
theorem sRn_imageSums (C : zC p s m args meth c g A cc RX8 nL) {x : Int32} {v : Int64} (j : Nat) (hj : zn x = j) (hin : vp_in x 14) (hd : decode cc pc = .ok (.lastore, 1)) (h : zJ p l e R s m args below meth c g A nL Q (wR g ad (rL u 10 (vp_updL (u.2 10) j v))) k n (pc + 1) lv st) : zJ p l e R s m args below meth c g A nL Q (wR g ad u) k n pc lv (.long v :: .int x :: .ref (ad 8) :: st) := by
  subst hj
  exact sR_imageSums C hin hd h
theorem gR_isKept (C : zC p s m args meth c g A cc RX8 nL) (hd : decode cc pc = .ok (.getfield 35, 3)) (h : zJ p l e R s m args below meth c g A nL Q (wR g ad u) k n (pc + 3) lv (.ref (ad 9) :: st)) : zJ p l e R s m args below meth c g A nL Q (wR g ad u) k n pc lv (.ref (ad 0) :: st) :=
  z_get (T := TX8) (N := 20) C inX8 (ci := 8) rfl 11 (by decide) fl8_isKept 0 rfl rfl hd h
theorem lR_isKept (C : zC p s m args meth c g A cc RX8 nL) {x : Int32} (hin : vp_in x 2) (hd : decode cc pc = .ok (.baload, 1)) (h : zJ p l e R s m args below meth c g A nL Q (wR g ad u) k n (pc + 1) lv (.int (u.1 11 (zn x)) :: st)) : zJ p l e R s m args below meth c g A nL Q (wR g ad u) k n pc lv (.int x :: .ref (ad 9) :: st) :=
  z_zald C 9 rfl hin hd h
theorem sR_isKept (C : zC p s m args meth c g A cc RX8 nL) {x : Int32} {v : Int32} (hin : vp_in x 2) (hd : decode cc pc = .ok (.bastore, 1)) (h : zJ p l e R s m args below meth c g A nL Q (wR g ad (rI u 11 (upd (u.1 11) (zn x) (vp_nar .boolean v)))) k n (pc + 1) lv st) : zJ p l e R s m args below meth c g A nL Q (wR g ad u) k n pc lv (.int v :: .int x :: .ref (ad 9) :: st) :=
  z_zast C 9 rfl hin hd rfl h
theorem lRn_isKept (C : zC p s m args meth c g A cc RX8 nL) {x : Int32} (j : Nat) (hj : zn x = j) (hin : vp_in x 2) (hd : decode cc pc = .ok (.baload, 1)) (h : zJ p l e R s m args below meth c g A nL Q (wR g ad u) k n (pc + 1) lv (.int (u.1 11 j) :: st)) : zJ p l e R s m args below meth c g A nL Q (wR g ad u) k n pc lv (.int x :: .ref (ad 9) :: st) := by
  subst hj
  exact lR_isKept C hin hd h
theorem sRn_isKept (C : zC p s m args meth c g A cc RX8 nL) {x : Int32} {v : Int32} (j : Nat) (hj : zn x = j) (hin : vp_in x 2) (hd : decode cc pc = .ok (.bastore, 1)) (h : zJ p l e R s m args below meth c g A nL Q (wR g ad (rI u 11 (upd (u.1 11) j (vp_nar .boolean v)))) k n (pc + 1) lv st) : zJ p l e R s m args below meth c g A nL Q (wR g ad u) k n pc lv (.int v :: .int x :: .ref (ad 9) :: st) := by
  subst hj
  exact sR_isKept C hin hd h
theorem gR_ahead (C : zC p s m args meth c g A cc RX8 nL) (hd : decode cc pc = .ok (.getfield 39, 3)) (h : zJ p l e R s m args below meth c g A nL Q (wR g ad u) k n (pc + 3) lv (.ref (ad 10) :: st)) : zJ p l e R s m args below meth c g A nL Q (wR g ad u) k n pc lv (.ref (ad 0) :: st) :=
  z_get (T := TX8) (N := 20) C inX8 (ci := 8) rfl 12 (by decide) fl8_ahead 0 rfl rfl hd h
theorem lR_ahead (C : zC p s m args meth c g A cc RX8 nL) {x : Int32} (hin : vp_in x 1065) (hd : decode cc pc = .ok (.iaload, 1)) (h : zJ p l e R s m args below meth c g A nL Q (wR g ad u) k n (pc + 1) lv (.int (u.1 12 (zn x)) :: st)) : zJ p l e R s m args below meth c g A nL Q (wR g ad u) k n pc lv (.int x :: .ref (ad 10) :: st) :=
  z_iald C 10 rfl hin hd h
theorem sR_ahead (C : zC p s m args meth c g A cc RX8 nL) {x : Int32} {v : Int32} (hin : vp_in x 1065) (hd : decode cc pc = .ok (.iastore, 1)) (h : zJ p l e R s m args below meth c g A nL Q (wR g ad (rI u 12 (upd (u.1 12) (zn x) v))) k n (pc + 1) lv st) : zJ p l e R s m args below meth c g A nL Q (wR g ad u) k n pc lv (.int v :: .int x :: .ref (ad 10) :: st) :=
  z_iast C 10 rfl hin hd rfl h
theorem lRn_ahead (C : zC p s m args meth c g A cc RX8 nL) {x : Int32} (j : Nat) (hj : zn x = j) (hin : vp_in x 1065) (hd : decode cc pc = .ok (.iaload, 1)) (h : zJ p l e R s m args below meth c g A nL Q (wR g ad u) k n (pc + 1) lv (.int (u.1 12 j) :: st)) : zJ p l e R s m args below meth c g A nL Q (wR g ad u) k n pc lv (.int x :: .ref (ad 10) :: st) := by
  subst hj
  exact lR_ahead C hin hd h
theorem sRn_ahead (C : zC p s m args meth c g A cc RX8 nL) {x : Int32} {v : Int32} (j : Nat) (hj : zn x = j) (hin : vp_in x 1065) (hd : decode cc pc = .ok (.iastore, 1)) (h : zJ p l e R s m args below meth c g A nL Q (wR g ad (rI u 12 (upd (u.1 12) j v))) k n (pc + 1) lv st) : zJ p l e R s m args below meth c g A nL Q (wR g ad u) k n pc lv (.int v :: .int x :: .ref (ad 10) :: st) := by
  subst hj
  exact sR_ahead C hin hd h
theorem gR_aheadSums (C : zC p s m args meth c g A cc RX8 nL) (hd : decode cc pc = .ok (.getfield 42, 3)) (h : zJ p l e R s m args below meth c g A nL Q (wR g ad u) k n (pc + 3) lv (.ref (ad 11) :: st)) : zJ p l e R s m args below meth c g A nL Q (wR g ad u) k n pc lv (.ref (ad 0) :: st) :=
  z_get (T := TX8) (N := 20) C inX8 (ci := 8) rfl 13 (by decide) fl8_aheadSums 0 rfl rfl hd h
theorem lR_aheadSums (C : zC p s m args meth c g A cc RX8 nL) {x : Int32} (hin : vp_in x 7) (hd : decode cc pc = .ok (.laload, 1)) (h : zJ p l e R s m args below meth c g A nL Q (wR g ad u) k n (pc + 1) lv (.long (u.2 13 (zn x)) :: st)) : zJ p l e R s m args below meth c g A nL Q (wR g ad u) k n pc lv (.int x :: .ref (ad 11) :: st) :=
  z_lald C 11 rfl hin hd h
theorem sR_aheadSums (C : zC p s m args meth c g A cc RX8 nL) {x : Int32} {v : Int64} (hin : vp_in x 7) (hd : decode cc pc = .ok (.lastore, 1)) (h : zJ p l e R s m args below meth c g A nL Q (wR g ad (rL u 13 (vp_updL (u.2 13) (zn x) v))) k n (pc + 1) lv st) : zJ p l e R s m args below meth c g A nL Q (wR g ad u) k n pc lv (.long v :: .int x :: .ref (ad 11) :: st) :=
  z_last C 11 rfl hin hd rfl h
theorem lRn_aheadSums (C : zC p s m args meth c g A cc RX8 nL) {x : Int32} (j : Nat) (hj : zn x = j) (hin : vp_in x 7) (hd : decode cc pc = .ok (.laload, 1)) (h : zJ p l e R s m args below meth c g A nL Q (wR g ad u) k n (pc + 1) lv (.long (u.2 13 j) :: st)) : zJ p l e R s m args below meth c g A nL Q (wR g ad u) k n pc lv (.int x :: .ref (ad 11) :: st) := by
  subst hj
  exact lR_aheadSums C hin hd h
theorem sRn_aheadSums (C : zC p s m args meth c g A cc RX8 nL) {x : Int32} {v : Int64} (j : Nat) (hj : zn x = j) (hin : vp_in x 7) (hd : decode cc pc = .ok (.lastore, 1)) (h : zJ p l e R s m args below meth c g A nL Q (wR g ad (rL u 13 (vp_updL (u.2 13) j v))) k n (pc + 1) lv st) : zJ p l e R s m args below meth c g A nL Q (wR g ad u) k n pc lv (.long v :: .int x :: .ref (ad 11) :: st) := by
  subst hj
  exact sR_aheadSums C hin hd h
theorem gR_fields (C : zC p s m args meth c g A cc RX8 nL) (hd : decode cc pc = .ok (.getfield 45, 3)) (h : zJ p l e R s m args below meth c g A nL Q (wR g ad u) k n (pc + 3) lv (.ref (ad 12) :: st)) : zJ p l e R s m args below meth c g A nL Q (wR g ad u) k n pc lv (.ref (ad 0) :: st) :=
  z_get (T := TX8) (N := 20) C inX8 (ci := 8) rfl 14 (by decide) fl8_fields 0 rfl rfl hd h
theorem lR_fields (C : zC p s m args meth c g A cc RX8 nL) {x : Int32} (hin : vp_in x 5) (hd : decode cc pc = .ok (.iaload, 1)) (h : zJ p l e R s m args below meth c g A nL Q (wR g ad u) k n (pc + 1) lv (.int (u.1 14 (zn x)) :: st)) : zJ p l e R s m args below meth c g A nL Q (wR g ad u) k n pc lv (.int x :: .ref (ad 12) :: st) :=
  z_iald C 12 rfl hin hd h
theorem sR_fields (C : zC p s m args meth c g A cc RX8 nL) {x : Int32} {v : Int32} (hin : vp_in x 5) (hd : decode cc pc = .ok (.iastore, 1)) (h : zJ p l e R s m args below meth c g A nL Q (wR g ad (rI u 14 (upd (u.1 14) (zn x) v))) k n (pc + 1) lv st) : zJ p l e R s m args below meth c g A nL Q (wR g ad u) k n pc lv (.int v :: .int x :: .ref (ad 12) :: st) :=
  z_iast C 12 rfl hin hd rfl h
theorem lRn_fields (C : zC p s m args meth c g A cc RX8 nL) {x : Int32} (j : Nat) (hj : zn x = j) (hin : vp_in x 5) (hd : decode cc pc = .ok (.iaload, 1)) (h : zJ p l e R s m args below meth c g A nL Q (wR g ad u) k n (pc + 1) lv (.int (u.1 14 j) :: st)) : zJ p l e R s m args below meth c g A nL Q (wR g ad u) k n pc lv (.int x :: .ref (ad 12) :: st) := by
  subst hj
  exact lR_fields C hin hd h
theorem sRn_fields (C : zC p s m args meth c g A cc RX8 nL) {x : Int32} {v : Int32} (j : Nat) (hj : zn x = j) (hin : vp_in x 5) (hd : decode cc pc = .ok (.iastore, 1)) (h : zJ p l e R s m args below meth c g A nL Q (wR g ad (rI u 14 (upd (u.1 14) j v))) k n (pc + 1) lv st) : zJ p l e R s m args below meth c g A nL Q (wR g ad u) k n pc lv (.int v :: .int x :: .ref (ad 12) :: st) := by
  subst hj
  exact sR_fields C hin hd h
theorem gR_share (C : zC p s m args meth c g A cc RX8 nL) (hd : decode cc pc = .ok (.getfield 48, 3)) (h : zJ p l e R s m args below meth c g A nL Q (wR g ad u) k n (pc + 3) lv (.ref (ad 13) :: st)) : zJ p l e R s m args below meth c g A nL Q (wR g ad u) k n pc lv (.ref (ad 0) :: st) :=
  z_get (T := TX8) (N := 20) C inX8 (ci := 8) rfl 15 (by decide) fl8_share 0 rfl rfl hd h
theorem lR_share (C : zC p s m args meth c g A cc RX8 nL) {x : Int32} (hin : vp_in x 4) (hd : decode cc pc = .ok (.iaload, 1)) (h : zJ p l e R s m args below meth c g A nL Q (wR g ad u) k n (pc + 1) lv (.int (u.1 15 (zn x)) :: st)) : zJ p l e R s m args below meth c g A nL Q (wR g ad u) k n pc lv (.int x :: .ref (ad 13) :: st) :=
  z_iald C 13 rfl hin hd h
theorem sR_share (C : zC p s m args meth c g A cc RX8 nL) {x : Int32} {v : Int32} (hin : vp_in x 4) (hd : decode cc pc = .ok (.iastore, 1)) (h : zJ p l e R s m args below meth c g A nL Q (wR g ad (rI u 15 (upd (u.1 15) (zn x) v))) k n (pc + 1) lv st) : zJ p l e R s m args below meth c g A nL Q (wR g ad u) k n pc lv (.int v :: .int x :: .ref (ad 13) :: st) :=
  z_iast C 13 rfl hin hd rfl h
theorem lRn_share (C : zC p s m args meth c g A cc RX8 nL) {x : Int32} (j : Nat) (hj : zn x = j) (hin : vp_in x 4) (hd : decode cc pc = .ok (.iaload, 1)) (h : zJ p l e R s m args below meth c g A nL Q (wR g ad u) k n (pc + 1) lv (.int (u.1 15 j) :: st)) : zJ p l e R s m args below meth c g A nL Q (wR g ad u) k n pc lv (.int x :: .ref (ad 13) :: st) := by
  subst hj
  exact lR_share C hin hd h
theorem sRn_share (C : zC p s m args meth c g A cc RX8 nL) {x : Int32} {v : Int32} (j : Nat) (hj : zn x = j) (hin : vp_in x 4) (hd : decode cc pc = .ok (.iastore, 1)) (h : zJ p l e R s m args below meth c g A nL Q (wR g ad (rI u 15 (upd (u.1 15) j v))) k n (pc + 1) lv st) : zJ p l e R s m args below meth c g A nL Q (wR g ad u) k n pc lv (.int v :: .int x :: .ref (ad 13) :: st) := by
  subst hj
  exact sR_share C hin hd h
theorem gR_laid (C : zC p s m args meth c g A cc RX8 nL) (hd : decode cc pc = .ok (.getfield 51, 3)) (h : zJ p l e R s m args below meth c g A nL Q (wR g ad u) k n (pc + 3) lv (.ref (ad 14) :: st)) : zJ p l e R s m args below meth c g A nL Q (wR g ad u) k n pc lv (.ref (ad 0) :: st) :=
  z_get (T := TX8) (N := 20) C inX8 (ci := 8) rfl 16 (by decide) fl8_laid 0 rfl rfl hd h
theorem lR_laid (C : zC p s m args meth c g A cc RX8 nL) {x : Int32} (hin : vp_in x 16) (hd : decode cc pc = .ok (.baload, 1)) (h : zJ p l e R s m args below meth c g A nL Q (wR g ad u) k n (pc + 1) lv (.int (u.1 16 (zn x)) :: st)) : zJ p l e R s m args below meth c g A nL Q (wR g ad u) k n pc lv (.int x :: .ref (ad 14) :: st) :=
  z_zald C 14 rfl hin hd h
theorem sR_laid (C : zC p s m args meth c g A cc RX8 nL) {x : Int32} {v : Int32} (hin : vp_in x 16) (hd : decode cc pc = .ok (.bastore, 1)) (h : zJ p l e R s m args below meth c g A nL Q (wR g ad (rI u 16 (upd (u.1 16) (zn x) (vp_nar .boolean v)))) k n (pc + 1) lv st) : zJ p l e R s m args below meth c g A nL Q (wR g ad u) k n pc lv (.int v :: .int x :: .ref (ad 14) :: st) :=
  z_zast C 14 rfl hin hd rfl h
theorem lRn_laid (C : zC p s m args meth c g A cc RX8 nL) {x : Int32} (j : Nat) (hj : zn x = j) (hin : vp_in x 16) (hd : decode cc pc = .ok (.baload, 1)) (h : zJ p l e R s m args below meth c g A nL Q (wR g ad u) k n (pc + 1) lv (.int (u.1 16 j) :: st)) : zJ p l e R s m args below meth c g A nL Q (wR g ad u) k n pc lv (.int x :: .ref (ad 14) :: st) := by
  subst hj
  exact lR_laid C hin hd h
theorem sRn_laid (C : zC p s m args meth c g A cc RX8 nL) {x : Int32} {v : Int32} (j : Nat) (hj : zn x = j) (hin : vp_in x 16) (hd : decode cc pc = .ok (.bastore, 1)) (h : zJ p l e R s m args below meth c g A nL Q (wR g ad (rI u 16 (upd (u.1 16) j (vp_nar .boolean v)))) k n (pc + 1) lv st) : zJ p l e R s m args below meth c g A nL Q (wR g ad u) k n pc lv (.int v :: .int x :: .ref (ad 14) :: st) := by
  subst hj
  exact sR_laid C hin hd h
theorem gR_open (C : zC p s m args meth c g A cc RX8 nL) (hd : decode cc pc = .ok (.getfield 54, 3)) (h : zJ p l e R s m args below meth c g A nL Q (wR g ad u) k n (pc + 3) lv (.ref (ad 15) :: st)) : zJ p l e R s m args below meth c g A nL Q (wR g ad u) k n pc lv (.ref (ad 0) :: st) :=
  z_get (T := TX8) (N := 20) C inX8 (ci := 8) rfl 17 (by decide) fl8_open 0 rfl rfl hd h
theorem lR_open (C : zC p s m args meth c g A cc RX8 nL) {x : Int32} (hin : vp_in x 72) (hd : decode cc pc = .ok (.iaload, 1)) (h : zJ p l e R s m args below meth c g A nL Q (wR g ad u) k n (pc + 1) lv (.int (u.1 17 (zn x)) :: st)) : zJ p l e R s m args below meth c g A nL Q (wR g ad u) k n pc lv (.int x :: .ref (ad 15) :: st) :=
  z_iald C 15 rfl hin hd h
theorem sR_open (C : zC p s m args meth c g A cc RX8 nL) {x : Int32} {v : Int32} (hin : vp_in x 72) (hd : decode cc pc = .ok (.iastore, 1)) (h : zJ p l e R s m args below meth c g A nL Q (wR g ad (rI u 17 (upd (u.1 17) (zn x) v))) k n (pc + 1) lv st) : zJ p l e R s m args below meth c g A nL Q (wR g ad u) k n pc lv (.int v :: .int x :: .ref (ad 15) :: st) :=
  z_iast C 15 rfl hin hd rfl h
theorem lRn_open (C : zC p s m args meth c g A cc RX8 nL) {x : Int32} (j : Nat) (hj : zn x = j) (hin : vp_in x 72) (hd : decode cc pc = .ok (.iaload, 1)) (h : zJ p l e R s m args below meth c g A nL Q (wR g ad u) k n (pc + 1) lv (.int (u.1 17 j) :: st)) : zJ p l e R s m args below meth c g A nL Q (wR g ad u) k n pc lv (.int x :: .ref (ad 15) :: st) := by
  subst hj
  exact lR_open C hin hd h
theorem sRn_open (C : zC p s m args meth c g A cc RX8 nL) {x : Int32} {v : Int32} (j : Nat) (hj : zn x = j) (hin : vp_in x 72) (hd : decode cc pc = .ok (.iastore, 1)) (h : zJ p l e R s m args below meth c g A nL Q (wR g ad (rI u 17 (upd (u.1 17) j v))) k n (pc + 1) lv st) : zJ p l e R s m args below meth c g A nL Q (wR g ad u) k n pc lv (.int v :: .int x :: .ref (ad 15) :: st) := by
  subst hj
  exact sR_open C hin hd h
theorem gR_givenMany (C : zC p s m args meth c g A cc RX8 nL) (hd : decode cc pc = .ok (.getfield 209, 3)) (h : zJ p l e R s m args below meth c g A nL Q (wR g ad u) k n (pc + 3) lv (.int (u.1 18 0) :: st)) : zJ p l e R s m args below meth c g A nL Q (wR g ad u) k n pc lv (.ref (ad 0) :: st) :=
  z_get (T := TX8) (N := 20) C inX8 (ci := 8) rfl 18 (by decide) fl8_givenMany 0 rfl rfl hd h
theorem pR_givenMany (C : zC p s m args meth c g A cc RX8 nL) {x : Int32} (hd : decode cc pc = .ok (.putfield 209, 3)) (h : zJ p l e R s m args below meth c g A nL Q (wR g ad (rN u 18 x)) k n (pc + 3) lv st) : zJ p l e R s m args below meth c g A nL Q (wR g ad u) k n pc lv (.int x :: .ref (ad 0) :: st) :=
  z_puti (T := TX8) (N := 20) C inX8 tyX8 tyX8_ok nmX8 (ci := 8) rfl 18 (by decide) fl8_givenMany rfl (by decide +kernel) 0 (fs := fR ad u) rfl (Nat.le_of_ble_eq_true rfl) hd (ws1 := wR g ad (rN u 18 x)) rfl h
theorem gR_callMany (C : zC p s m args meth c g A cc RX8 nL) (hd : decode cc pc = .ok (.getfield 222, 3)) (h : zJ p l e R s m args below meth c g A nL Q (wR g ad u) k n (pc + 3) lv (.int (u.1 19 0) :: st)) : zJ p l e R s m args below meth c g A nL Q (wR g ad u) k n pc lv (.ref (ad 0) :: st) :=
  z_get (T := TX8) (N := 20) C inX8 (ci := 8) rfl 19 (by decide) fl8_callMany 0 rfl rfl hd h
theorem pR_callMany (C : zC p s m args meth c g A cc RX8 nL) {x : Int32} (hd : decode cc pc = .ok (.putfield 222, 3)) (h : zJ p l e R s m args below meth c g A nL Q (wR g ad (rN u 19 x)) k n (pc + 3) lv st) : zJ p l e R s m args below meth c g A nL Q (wR g ad u) k n pc lv (.int x :: .ref (ad 0) :: st) :=
  z_puti (T := TX8) (N := 20) C inX8 tyX8 tyX8_ok nmX8 (ci := 8) rfl 19 (by decide) fl8_callMany rfl (by decide +kernel) 0 (fs := fR ad u) rfl (Nat.le_of_ble_eq_true rfl) hd (ws1 := wR g ad (rN u 19 x)) rfl h
theorem z_stR {u0 : RS} (h : ∀ u : RS, u = u0 → zJ p l e R s m args below meth c g A nL Q (wR g ad u) k n pc lv st) : zJ p l e R s m args below meth c g A nL Q (wR g ad u0) k n pc lv st := h u0 rfl
theorem cRi (C : zC p s m args meth c g A cc RX8 nL) {y : MethodName} {cc1 : ByteArray} {n1 k1 index : Nat} {ret : Option FieldType} {As : List Value} {post : Int32 → RS → Prop} (hM : zMi l y cc1 n1 ret k1 0 0 g (.ref (ad 0) :: As) (wR g ad u) (wR g ad) post) (hv : zV y cc1 n1 ret As.length) (hlk : Cond.methodLink RX8 index y ∈ zW) (hq : RX8 = y.cls)
    (hR : k1 + 1 ≤ R.frames ∧ 8 + (n1 + 11) + 40 * k1 ≤ R.locals) (hcap : k ≤ R.cells ∧ n ≤ R.slots) (hroom : (st.map fun v => v.category).sum ≤ 8) (hst : st0 = As.reverse ++ .ref (ad 0) :: st) (hd : decode cc pc = .ok (.invokevirtual index, 3))
    (h : ∀ (r : Int32) (u1 : RS), post r u1 → zJ p l e R s m args below meth c g A nL Q (wR g ad u1) k n (pc + 3) lv (.int r :: st)) : zJ p l e R s m args below meth c g A nL Q (wR g ad u) k n pc lv st0 :=
  z_Vi C [] (wR g ad u) [] (by simp) hM hv hlk 8 (q := (RX8, TX8, 20)) rfl hq 0 rfl hR hcap hroom hst hd (fun r u1 hw => z_ws (ws1 := wR g ad u1) (by simp) (h r u1 hw))
theorem cRl (C : zC p s m args meth c g A cc RX8 nL) {y : MethodName} {cc1 : ByteArray} {n1 k1 index : Nat} {ret : Option FieldType} {As : List Value} {post : Int64 → RS → Prop} (hM : zMl l y cc1 n1 ret k1 0 0 g (.ref (ad 0) :: As) (wR g ad u) (wR g ad) post) (hv : zV y cc1 n1 ret As.length) (hlk : Cond.methodLink RX8 index y ∈ zW) (hq : RX8 = y.cls)
    (hR : k1 + 1 ≤ R.frames ∧ 8 + (n1 + 11) + 40 * k1 ≤ R.locals) (hcap : k ≤ R.cells ∧ n ≤ R.slots) (hroom : (st.map fun v => v.category).sum ≤ 8) (hst : st0 = As.reverse ++ .ref (ad 0) :: st) (hd : decode cc pc = .ok (.invokevirtual index, 3))
    (h : ∀ (r : Int64) (u1 : RS), post r u1 → zJ p l e R s m args below meth c g A nL Q (wR g ad u1) k n (pc + 3) lv (.long r :: st)) : zJ p l e R s m args below meth c g A nL Q (wR g ad u) k n pc lv st0 :=
  z_Vl C [] (wR g ad u) [] (by simp) hM hv hlk 8 (q := (RX8, TX8, 20)) rfl hq 0 rfl hR hcap hroom hst hd (fun r u1 hw => z_ws (ws1 := wR g ad u1) (by simp) (h r u1 hw))
theorem cRv (C : zC p s m args meth c g A cc RX8 nL) {y : MethodName} {cc1 : ByteArray} {n1 k1 index : Nat} {ret : Option FieldType} {As : List Value} {post : RS → Prop} (hM : zMv l y cc1 n1 ret k1 0 0 g (.ref (ad 0) :: As) (wR g ad u) (wR g ad) post) (hv : zV y cc1 n1 ret As.length) (hlk : Cond.methodLink RX8 index y ∈ zW) (hq : RX8 = y.cls)
    (hR : k1 + 1 ≤ R.frames ∧ 8 + (n1 + 11) + 40 * k1 ≤ R.locals) (hcap : k ≤ R.cells ∧ n ≤ R.slots) (hroom : (st.map fun v => v.category).sum ≤ 8) (hst : st0 = As.reverse ++ .ref (ad 0) :: st) (hd : decode cc pc = .ok (.invokevirtual index, 3))
    (h : ∀ (u1 : RS), post u1 → zJ p l e R s m args below meth c g A nL Q (wR g ad u1) k n (pc + 3) lv (st)) : zJ p l e R s m args below meth c g A nL Q (wR g ad u) k n pc lv st0 :=
  z_Vv C [] (wR g ad u) [] (by simp) hM hv hlk 8 (q := (RX8, TX8, 20)) rfl hq 0 rfl hR hcap hroom hst hd (fun u1 hw => z_ws (ws1 := wR g ad u1) (by simp) (h u1 hw))
variable {ws : va_W} {own : String}
theorem cSi (C : zC p s m args meth c g A cc own nL) {y : MethodName} {cc1 : ByteArray} {n1 k1 index : Nat} {ret : Option FieldType} {As : List Value} {post : Int32 → Prop} (hM : zMi l y cc1 n1 ret k1 0 0 g As [] (fun _ : Unit => []) (fun r _ => post r)) (hv : zSt y cc1 n1 ret As.length) (hlk : Cond.methodLink own index y ∈ zW)
    (hR : k1 + 1 ≤ R.frames ∧ 8 + (n1 + 11) + 40 * k1 ≤ R.locals) (hcap : k ≤ R.cells ∧ n ≤ R.slots) (hroom : (st.map fun v => v.category).sum ≤ 8) (hst : st0 = As.reverse ++ st) (hd : decode cc pc = .ok (.invokestatic index, 3))
    (h : ∀ (r : Int32), post r → zJ p l e R s m args below meth c g A nL Q ws k n (pc + 3) lv (.int r :: st)) : zJ p l e R s m args below meth c g A nL Q ws k n pc lv st0 :=
  z_Si C [] [] ws rfl hM hv hlk hR hcap hroom hst hd (fun r _ hw => h r hw)
theorem cSl (C : zC p s m args meth c g A cc own nL) {y : MethodName} {cc1 : ByteArray} {n1 k1 index : Nat} {ret : Option FieldType} {As : List Value} {post : Int64 → Prop} (hM : zMl l y cc1 n1 ret k1 0 0 g As [] (fun _ : Unit => []) (fun r _ => post r)) (hv : zSt y cc1 n1 ret As.length) (hlk : Cond.methodLink own index y ∈ zW)
    (hR : k1 + 1 ≤ R.frames ∧ 8 + (n1 + 11) + 40 * k1 ≤ R.locals) (hcap : k ≤ R.cells ∧ n ≤ R.slots) (hroom : (st.map fun v => v.category).sum ≤ 8) (hst : st0 = As.reverse ++ st) (hd : decode cc pc = .ok (.invokestatic index, 3))
    (h : ∀ (r : Int64), post r → zJ p l e R s m args below meth c g A nL Q ws k n (pc + 3) lv (.long r :: st)) : zJ p l e R s m args below meth c g A nL Q ws k n pc lv st0 :=
  z_Sl C [] [] ws rfl hM hv hlk hR hcap hroom hst hd (fun r _ hw => h r hw)
end ZR
def zit1 {A1 : Type} (F : (A1 → Prop) → A1 → Prop) : Nat → A1 → Prop
  | 0 => fun _ => False
  | n + 1 => F (zit1 F n)
def zit2 {A1 A2 : Type} (F : (A1 → A2 → Prop) → A1 → A2 → Prop) : Nat → A1 → A2 → Prop
  | 0 => fun _ _ => False
  | n + 1 => F (zit2 F n)
def zit3 {A1 A2 A3 : Type} (F : (A1 → A2 → A3 → Prop) → A1 → A2 → A3 → Prop) : Nat → A1 → A2 → A3 → Prop
  | 0 => fun _ _ _ => False
  | n + 1 => F (zit3 F n)
def zit4 {A1 A2 A3 A4 : Type} (F : (A1 → A2 → A3 → A4 → Prop) → A1 → A2 → A3 → A4 → Prop) : Nat → A1 → A2 → A3 → A4 → Prop
  | 0 => fun _ _ _ _ => False
  | n + 1 => F (zit4 F n)
def zit5 {A1 A2 A3 A4 A5 : Type} (F : (A1 → A2 → A3 → A4 → A5 → Prop) → A1 → A2 → A3 → A4 → A5 → Prop) : Nat → A1 → A2 → A3 → A4 → A5 → Prop
  | 0 => fun _ _ _ _ _ => False
  | n + 1 => F (zit5 F n)
def zit6 {A1 A2 A3 A4 A5 A6 : Type} (F : (A1 → A2 → A3 → A4 → A5 → A6 → Prop) → A1 → A2 → A3 → A4 → A5 → A6 → Prop) : Nat → A1 → A2 → A3 → A4 → A5 → A6 → Prop
  | 0 => fun _ _ _ _ _ _ => False
  | n + 1 => F (zit6 F n)
def zit7 {A1 A2 A3 A4 A5 A6 A7 : Type} (F : (A1 → A2 → A3 → A4 → A5 → A6 → A7 → Prop) → A1 → A2 → A3 → A4 → A5 → A6 → A7 → Prop) : Nat → A1 → A2 → A3 → A4 → A5 → A6 → A7 → Prop
  | 0 => fun _ _ _ _ _ _ _ => False
  | n + 1 => F (zit7 F n)
def zit8 {A1 A2 A3 A4 A5 A6 A7 A8 : Type} (F : (A1 → A2 → A3 → A4 → A5 → A6 → A7 → A8 → Prop) → A1 → A2 → A3 → A4 → A5 → A6 → A7 → A8 → Prop) : Nat → A1 → A2 → A3 → A4 → A5 → A6 → A7 → A8 → Prop
  | 0 => fun _ _ _ _ _ _ _ _ => False
  | n + 1 => F (zit8 F n)
def zit9 {A1 A2 A3 A4 A5 A6 A7 A8 A9 : Type} (F : (A1 → A2 → A3 → A4 → A5 → A6 → A7 → A8 → A9 → Prop) → A1 → A2 → A3 → A4 → A5 → A6 → A7 → A8 → A9 → Prop) : Nat → A1 → A2 → A3 → A4 → A5 → A6 → A7 → A8 → A9 → Prop
  | 0 => fun _ _ _ _ _ _ _ _ _ => False
  | n + 1 => F (zit9 F n)
