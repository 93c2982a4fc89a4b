section WR
variable {p : Program} {l : Launch} {e : Env} {s : State} {m : MethodId} {args : Array Value} {below : List Frame} {meth : Method} {c : Code} {g : zG} {A : Nat → Prop}
abbrev j_X8_isByte (p : Program) (l : Launch) (e : Env) (s : State) (m : MethodId) (args : Array Value) (below : List Frame) (meth : Method) (c : Code) (g : zG) (A : Nat → Prop) (Q : Int32 → Prop) (pc : Nat) (lv : List (Nat × Value)) (st : List Value) : Prop := zJ p l e (zR 1 0 0) s m args below meth c g A 1 (zQi below args s g A 0 0 (fun _ : Unit => []) (fun r _ => Q r)) [] 0 0 pc lv st
def wp_X8_isByte (x0 : Int32) (Q : Int32 → Prop) : Prop :=
  wp_X8_in ((x0).toInt64) 0 255 (fun r101 => (zBool r101 ∧ Q r101))
set_option maxRecDepth 20000 in
theorem c_X8_isByte (l : Launch) (g : zG) (x0 : Int32) (Q : Int32 → Prop) (h : wp_X8_isByte x0 Q) : zMi l yX8_isByte cX8_isByte 1 (some .boolean) 1 0 0 g [.int x0] [] (fun _ : Unit => []) (fun r _ => Q r) := by
  refine zMi_of RX8 (by decide) rfl [(0, .int x0)] rfl (Nat.le_of_ble_eq_true rfl) (fun p e s m args below meth c A C hr hnm => ?_)
  unfold wp_X8_isByte at h
  refine z_iload_n C dX8_isByte_0 rfl 0 rfl ?_
  refine z_i2l C dX8_isByte_1 ?_
  refine z_lconst (v := 0) C dX8_isByte_2 (by decide) ?_
  refine z_ldc2 (v := 255) C dX8_isByte_3 k8_96 ?_
  refine cSi (As := [.long ((x0).toInt64), .long 0, .long 255]) C (c_X8_in l g ((x0).toInt64) 0 255 _ h) s_X8_in ml8_84 ⟨Nat.le_of_ble_eq_true rfl, Nat.le_of_ble_eq_true rfl⟩ ⟨Nat.zero_le _, Nat.zero_le _⟩ (Nat.le_of_ble_eq_true rfl) rfl dX8_isByte_6 ?_
  intro r101 h
  exact z_zret C hr () rfl h.1 h.2 dX8_isByte_9
abbrev j_X8_takeFlow (p : Program) (l : Launch) (e : Env) (s : State) (m : MethodId) (args : Array Value) (below : List Frame) (meth : Method) (c : Code) (g : zG) (A : Nat → Prop) (ad : Nat → Nat) (Q : RS → Prop) (u : RS) (pc : Nat) (lv : List (Nat × Value)) (st : List Value) : Prop := zJ p l e (zR 1 0 0) s m args below meth c g A 3 (zQv below args s g A 0 0 (wR g ad) Q) (wR g ad u) 0 0 pc lv st
def wp_X8_takeFlow_2 (Q : RS → Prop) (B2 : RS → Int32 → Int32 → Prop) (u : RS) (x1 : Int32) (x2 : Int32) : Prop :=
  ((5 ≤ x2 → Q u) ∧ (¬ 5 ≤ x2 → wp_X8_flowAt x1 (fun r102 => vp_in (r102 + x2) 1065 ∧ vp_in x2 5 ∧ ∀ u105 : RS, u105 = rI u 14 (upd (u.1 14) (zn x2) (u.1 3 (zn (r102 + x2)))) → ∀ x106 : Int32, x106 = x2 + 1 → B2 u105 x1 x106)))
set_option maxRecDepth 20000 in
theorem b_X8_takeFlow_2 (C : zC p s m args meth c g A cX8_takeFlow RX8 3) (hr : meth.sig.returnType = none) (ad : Nat → Nat) (Q : RS → Prop) (B2 : RS → Int32 → Int32 → Prop) (hB2 : ∀ (u : RS) (x1 : Int32) (x2 : Int32), B2 u x1 x2 → j_X8_takeFlow p l e s m args below meth c g A ad Q u 2 [(0, .ref (ad 0)), (1, .int x1), (2, .int x2)] []) (u : RS) (x1 : Int32) (x2 : Int32) (h : wp_X8_takeFlow_2 Q B2 u x1 x2) : j_X8_takeFlow p l e s m args below meth c g A ad Q u 2 [(0, .ref (ad 0)), (1, .int x1), (2, .int x2)] [] := by
  unfold wp_X8_takeFlow_2 at h
  refine z_iload_n C dX8_takeFlow_2 rfl 2 rfl ?_
  refine z_iconst (v := 5) C dX8_takeFlow_3 (by decide) ?_
  refine z_icmp_ge C dX8_takeFlow_4 (tgt := 30) (by decide) (fun hc101 => ?_) (fun hc101 => ?_)
  · have h := h.1 hc101
    exact z_vret C hr u rfl h dX8_takeFlow_30
  · have h := h.2 hc101
    refine z_aload_n C dX8_takeFlow_7 rfl 0 rfl ?_
    refine gR_fields C dX8_takeFlow_8 ?_
    refine z_iload_n C dX8_takeFlow_11 rfl 2 rfl ?_
    refine z_aload_n C dX8_takeFlow_12 rfl 0 rfl ?_
    refine gR_row C dX8_takeFlow_13 ?_
    refine z_iload_n C dX8_takeFlow_16 rfl 1 rfl ?_
    refine cSi (As := [.int x1]) C (c_X8_flowAt l g x1 _ h) s_X8_flowAt ml8_102 ⟨Nat.le_of_ble_eq_true rfl, Nat.le_of_ble_eq_true rfl⟩ ⟨Nat.zero_le _, Nat.zero_le _⟩ (Nat.le_of_ble_eq_true rfl) rfl dX8_takeFlow_17 ?_
    intro r102 h
    refine z_iload_n C dX8_takeFlow_20 rfl 2 rfl ?_
    refine z_iadd C dX8_takeFlow_21 ?_
    obtain ⟨hi103, h⟩ := h
    refine lR_row C hi103 dX8_takeFlow_22 ?_
    obtain ⟨hi104, h⟩ := h
    refine sR_fields C hi104 dX8_takeFlow_23 ?_
    refine z_stR (fun u105 eu105 => ?_)
    have h := h u105 eu105
    obtain ⟨x106, ex106⟩ : ∃ y : Int32, y = x2 + 1 := ⟨_, rfl⟩
    have h := h x106 ex106
    refine z_iinc (v := x106) (lv1 := [(2, .int x106), (0, .ref (ad 0)), (1, .int x1)]) C dX8_takeFlow_24 2 rfl (by rw [ex106]; rfl) (by decide) rfl ?_
    refine z_goto C dX8_takeFlow_27 (tgt := 2) (by decide) ?_
    refine z_lv (lv1 := [(0, .ref (ad 0)), (1, .int x1), (2, .int x106)]) [1, 2, 0] rfl ?_
    exact hB2 u105 x1 x106 h
theorem l_X8_takeFlow_2 (C : zC p s m args meth c g A cX8_takeFlow RX8 3) (hr : meth.sig.returnType = none) (ad : Nat → Nat) (Q : RS → Prop) : ∀ (n : Nat) (u : RS) (x1 : Int32) (x2 : Int32), zit3 (wp_X8_takeFlow_2 Q) n u x1 x2 → j_X8_takeFlow p l e s m args below meth c g A ad Q u 2 [(0, .ref (ad 0)), (1, .int x1), (2, .int x2)] [] := by
  intro n
  induction n with
  | zero => exact fun u x1 x2 h => h.elim
  | succ n ih => exact fun u x1 x2 h => b_X8_takeFlow_2 C hr ad Q (zit3 (wp_X8_takeFlow_2 Q) n) ih u x1 x2 h
def wp_X8_takeFlow (u : RS) (x1 : Int32) (Q : RS → Prop) : Prop :=
  (∃ n, zit3 (wp_X8_takeFlow_2 Q) n u x1 0)
set_option maxRecDepth 20000 in
theorem c_X8_takeFlow (l : Launch) (g : zG) (ad : Nat → Nat) (u : RS) (x1 : Int32) (Q : RS → Prop) (h : wp_X8_takeFlow u x1 Q) : zMv l yX8_takeFlow cX8_takeFlow 3 none 1 0 0 g [.ref (ad 0), .int x1] (wR g ad u) (wR g ad) Q := by
  refine zMv_of RX8 (by decide) rfl [(0, .ref (ad 0)), (1, .int x1)] rfl (Nat.le_of_ble_eq_true rfl) (fun p e s m args below meth c A C hr hnm => ?_)
  unfold wp_X8_takeFlow at h
  refine z_iconst (v := 0) C dX8_takeFlow_0 (by decide) ?_
  refine z_istore_n (lv1 := [(2, .int 0), (0, .ref (ad 0)), (1, .int x1)]) C dX8_takeFlow_1 rfl (by decide) rfl ?_
  refine z_lv (lv1 := [(0, .ref (ad 0)), (1, .int x1), (2, .int 0)]) [1, 2, 0] rfl ?_
  obtain ⟨n9, h⟩ := h
  exact l_X8_takeFlow_2 C hr ad Q n9 u x1 0 h
abbrev j_X8_entryOf (p : Program) (l : Launch) (e : Env) (s : State) (m : MethodId) (args : Array Value) (below : List Frame) (meth : Method) (c : Code) (g : zG) (A : Nat → Prop) (ad : Nat → Nat) (Q : Int32 → RS → Prop) (u : RS) (pc : Nat) (lv : List (Nat × Value)) (st : List Value) : Prop := zJ p l e (zR 1 0 0) s m args below meth c g A 2 (zQi below args s g A 0 0 (wR g ad) Q) (wR g ad u) 0 0 pc lv st
def wp_X8_entryOf (u : RS) (x1 : Int32) (Q : Int32 → RS → Prop) : Prop :=
  wp_X8_flowAt x1 (fun r101 => vp_in (r101 + 14) 1065 ∧ Q ((u.1 3 (zn (r101 + 14))) &&& 15) u)
set_option maxRecDepth 20000 in
theorem c_X8_entryOf (l : Launch) (g : zG) (ad : Nat → Nat) (u : RS) (x1 : Int32) (Q : Int32 → RS → Prop) (h : wp_X8_entryOf u x1 Q) : zMi l yX8_entryOf cX8_entryOf 2 (some .int) 1 0 0 g [.ref (ad 0), .int x1] (wR g ad u) (wR g ad) Q := by
  refine zMi_of RX8 (by decide) rfl [(0, .ref (ad 0)), (1, .int x1)] rfl (Nat.le_of_ble_eq_true rfl) (fun p e s m args below meth c A C hr hnm => ?_)
  unfold wp_X8_entryOf at h
  refine z_aload_n C dX8_entryOf_0 rfl 0 rfl ?_
  refine gR_row C dX8_entryOf_1 ?_
  refine z_iload_n C dX8_entryOf_4 rfl 1 rfl ?_
  refine cSi (As := [.int x1]) C (c_X8_flowAt l g x1 _ h) s_X8_flowAt ml8_102 ⟨Nat.le_of_ble_eq_true rfl, Nat.le_of_ble_eq_true rfl⟩ ⟨Nat.zero_le _, Nat.zero_le _⟩ (Nat.le_of_ble_eq_true rfl) rfl dX8_entryOf_5 ?_
  intro r101 h
  refine z_bipush (v := 14) C dX8_entryOf_8 (by decide) ?_
  refine z_iadd C dX8_entryOf_10 ?_
  obtain ⟨hi102, h⟩ := h
  refine lR_row C hi102 dX8_entryOf_11 ?_
  refine z_bipush (v := 15) C dX8_entryOf_12 (by decide) ?_
  refine z_iand C dX8_entryOf_14 ?_
  exact z_iret C hr u rfl h dX8_entryOf_15
abbrev j_X8_ruleOf (p : Program) (l : Launch) (e : Env) (s : State) (m : MethodId) (args : Array Value) (below : List Frame) (meth : Method) (c : Code) (g : zG) (A : Nat → Prop) (ad : Nat → Nat) (Q : Int32 → RS → Prop) (u : RS) (pc : Nat) (lv : List (Nat × Value)) (st : List Value) : Prop := zJ p l e (zR 1 0 0) s m args below meth c g A 4 (zQi below args s g A 0 0 (wR g ad) Q) (wR g ad u) 0 0 pc lv st
def wp_X8_ruleOf_32 (Q : Int32 → RS → Prop) (B4 : RS → Int32 → Int32 → Int32 → Prop) (u : RS) (x1 : Int32) (x3 : Int32) (t0 : Int32) : Prop :=
  ∀ x105 : Int32, x105 = x3 + 1 → B4 u x1 t0 x105
set_option maxRecDepth 20000 in
theorem b_X8_ruleOf_32 (C : zC p s m args meth c g A cX8_ruleOf RX8 4) (hr : meth.sig.returnType = (some .int)) (ad : Nat → Nat) (Q : Int32 → RS → Prop) (B4 : RS → Int32 → Int32 → Int32 → Prop) (hB4 : ∀ (u : RS) (x1 : Int32) (x2 : Int32) (x3 : Int32), B4 u x1 x2 x3 → j_X8_ruleOf p l e s m args below meth c g A ad Q u 4 [(0, .ref (ad 0)), (1, .int x1), (2, .int x2), (3, .int x3)] []) (u : RS) (x1 : Int32) (x3 : Int32) (t0 : Int32) (h : wp_X8_ruleOf_32 Q B4 u x1 x3 t0) : j_X8_ruleOf p l e s m args below meth c g A ad Q u 32 [(0, .ref (ad 0)), (1, .int x1), (3, .int x3)] [.int t0] := by
  unfold wp_X8_ruleOf_32 at h
  refine z_istore_n (lv1 := [(2, .int t0), (0, .ref (ad 0)), (1, .int x1), (3, .int x3)]) C dX8_ruleOf_32 rfl (by decide) rfl ?_
  obtain ⟨x105, ex105⟩ : ∃ y : Int32, y = x3 + 1 := ⟨_, rfl⟩
  have h := h x105 ex105
  refine z_iinc (v := x105) (lv1 := [(3, .int x105), (2, .int t0), (0, .ref (ad 0)), (1, .int x1)]) C dX8_ruleOf_33 3 rfl (by rw [ex105]; rfl) (by decide) rfl ?_
  refine z_goto C dX8_ruleOf_36 (tgt := 4) (by decide) ?_
  refine z_lv (lv1 := [(0, .ref (ad 0)), (1, .int x1), (2, .int t0), (3, .int x105)]) [2, 3, 1, 0] rfl ?_
  exact hB4 u x1 t0 x105 h
def wp_X8_ruleOf_4 (Q : Int32 → RS → Prop) (B4 : RS → Int32 → Int32 → Int32 → Prop) (u : RS) (x1 : Int32) (x2 : Int32) (x3 : Int32) : Prop :=
  ((u.1 3 5 ≤ x3 → Q x2 u) ∧ (¬ u.1 3 5 ≤ x3 → wp_X8_ruleAt x3 (fun r102 => vp_in r102 1065 ∧ ((¬ u.1 3 (zn r102) = x1 → wp_X8_ruleOf_32 Q B4 u x1 x3 x2) ∧ (u.1 3 (zn r102) = x1 → wp_X8_ruleOf_32 Q B4 u x1 x3 x3)))))
set_option maxRecDepth 20000 in
theorem b_X8_ruleOf_4 (C : zC p s m args meth c g A cX8_ruleOf RX8 4) (hr : meth.sig.returnType = (some .int)) (ad : Nat → Nat) (Q : Int32 → RS → Prop) (B4 : RS → Int32 → Int32 → Int32 → Prop) (hB4 : ∀ (u : RS) (x1 : Int32) (x2 : Int32) (x3 : Int32), B4 u x1 x2 x3 → j_X8_ruleOf p l e s m args below meth c g A ad Q u 4 [(0, .ref (ad 0)), (1, .int x1), (2, .int x2), (3, .int x3)] []) (u : RS) (x1 : Int32) (x2 : Int32) (x3 : Int32) (h : wp_X8_ruleOf_4 Q B4 u x1 x2 x3) : j_X8_ruleOf p l e s m args below meth c g A ad Q u 4 [(0, .ref (ad 0)), (1, .int x1), (2, .int x2), (3, .int x3)] [] := by
  unfold wp_X8_ruleOf_4 at h
  refine z_iload_n C dX8_ruleOf_4 rfl 3 rfl ?_
  refine z_aload_n C dX8_ruleOf_5 rfl 0 rfl ?_
  refine gR_row C dX8_ruleOf_6 ?_
  refine z_iconst (v := 5) C dX8_ruleOf_9 (by decide) ?_
  refine lRn_row C 5 (by decide +kernel) (vp_in_iff.mpr (by decide +kernel)) dX8_ruleOf_10 ?_
  refine z_icmp_ge C dX8_ruleOf_11 (tgt := 39) (by decide) (fun hc101 => ?_) (fun hc101 => ?_)
  · have h := h.1 hc101
    refine z_iload_n C dX8_ruleOf_39 rfl 2 rfl ?_
    exact z_iret C hr u rfl h dX8_ruleOf_40
  · have h := h.2 hc101
    refine z_aload_n C dX8_ruleOf_14 rfl 0 rfl ?_
    refine gR_row C dX8_ruleOf_15 ?_
    refine z_iload_n C dX8_ruleOf_18 rfl 3 rfl ?_
    refine cSi (As := [.int x3]) C (c_X8_ruleAt l g x3 _ h) s_X8_ruleAt ml8_116 ⟨Nat.le_of_ble_eq_true rfl, Nat.le_of_ble_eq_true rfl⟩ ⟨Nat.zero_le _, Nat.zero_le _⟩ (Nat.le_of_ble_eq_true rfl) rfl dX8_ruleOf_19 ?_
    intro r102 h
    obtain ⟨hi103, h⟩ := h
    refine lR_row C hi103 dX8_ruleOf_22 ?_
    refine z_iload_n C dX8_ruleOf_23 rfl 1 rfl ?_
    refine z_icmp_ne C dX8_ruleOf_24 (tgt := 31) (by decide) (fun hc104 => ?_) (fun hc104 => ?_)
    · have h := h.1 hc104
      refine z_iload_n C dX8_ruleOf_31 rfl 2 rfl ?_
      refine z_lv (lv1 := [(0, .ref (ad 0)), (1, .int x1), (3, .int x3)]) [0, 1, 3] rfl ?_
      exact b_X8_ruleOf_32 C hr ad Q B4 hB4 u x1 x3 x2 h
    · have h := h.2 hc104
      refine z_iload_n C dX8_ruleOf_27 rfl 3 rfl ?_
      refine z_goto C dX8_ruleOf_28 (tgt := 32) (by decide) ?_
      refine z_lv (lv1 := [(0, .ref (ad 0)), (1, .int x1), (3, .int x3)]) [0, 1, 3] rfl ?_
      exact b_X8_ruleOf_32 C hr ad Q B4 hB4 u x1 x3 x3 h
theorem l_X8_ruleOf_4 (C : zC p s m args meth c g A cX8_ruleOf RX8 4) (hr : meth.sig.returnType = (some .int)) (ad : Nat → Nat) (Q : Int32 → RS → Prop) : ∀ (n : Nat) (u : RS) (x1 : Int32) (x2 : Int32) (x3 : Int32), zit4 (wp_X8_ruleOf_4 Q) n u x1 x2 x3 → j_X8_ruleOf p l e s m args below meth c g A ad Q u 4 [(0, .ref (ad 0)), (1, .int x1), (2, .int x2), (3, .int x3)] [] := by
  intro n
  induction n with
  | zero => exact fun u x1 x2 x3 h => h.elim
  | succ n ih => exact fun u x1 x2 x3 h => b_X8_ruleOf_4 C hr ad Q (zit4 (wp_X8_ruleOf_4 Q) n) ih u x1 x2 x3 h
def wp_X8_ruleOf (u : RS) (x1 : Int32) (Q : Int32 → RS → Prop) : Prop :=
  (∃ n, zit4 (wp_X8_ruleOf_4 Q) n u x1 (-1) 0)
set_option maxRecDepth 20000 in
theorem c_X8_ruleOf (l : Launch) (g : zG) (ad : Nat → Nat) (u : RS) (x1 : Int32) (Q : Int32 → RS → Prop) (h : wp_X8_ruleOf u x1 Q) : zMi l yX8_ruleOf cX8_ruleOf 4 (some .int) 1 0 0 g [.ref (ad 0), .int x1] (wR g ad u) (wR g ad) Q := by
  refine zMi_of RX8 (by decide) rfl [(0, .ref (ad 0)), (1, .int x1)] rfl (Nat.le_of_ble_eq_true rfl) (fun p e s m args below meth c A C hr hnm => ?_)
  unfold wp_X8_ruleOf at h
  refine z_iconst (v := (-1)) C dX8_ruleOf_0 (by decide) ?_
  refine z_istore_n (lv1 := [(2, .int (-1)), (0, .ref (ad 0)), (1, .int x1)]) C dX8_ruleOf_1 rfl (by decide) rfl ?_
  refine z_iconst (v := 0) C dX8_ruleOf_2 (by decide) ?_
  refine z_istore_n (lv1 := [(3, .int 0), (2, .int (-1)), (0, .ref (ad 0)), (1, .int x1)]) C dX8_ruleOf_3 rfl (by decide) rfl ?_
  refine z_lv (lv1 := [(0, .ref (ad 0)), (1, .int x1), (2, .int (-1)), (3, .int 0)]) [2, 3, 1, 0] rfl ?_
  obtain ⟨n9, h⟩ := h
  exact l_X8_ruleOf_4 C hr ad Q n9 u x1 (-1) 0 h
abbrev j_X8_found (p : Program) (l : Launch) (e : Env) (s : State) (m : MethodId) (args : Array Value) (below : List Frame) (meth : Method) (c : Code) (g : zG) (A : Nat → Prop) (ad : Nat → Nat) (Q : Int32 → RS → Prop) (u : RS) (pc : Nat) (lv : List (Nat × Value)) (st : List Value) : Prop := zJ p l e (zR 1 0 0) s m args below meth c g A 5 (zQi below args s g A 0 0 (wR g ad) Q) (wR g ad u) 0 0 pc lv st
def wp_X8_found_73 (Q : Int32 → RS → Prop) (B11 : RS → Int32 → Int32 → Prop) (u : RS) (x2 : Int32) (t0 : Int32) : Prop :=
  ∀ x105 : Int32, x105 = x2 + (-1) → B11 u t0 x105
set_option maxRecDepth 20000 in
theorem b_X8_found_73 (C : zC p s m args meth c g A cX8_found RX8 5) (hr : meth.sig.returnType = (some .int)) (ad : Nat → Nat) (Q : Int32 → RS → Prop) (B11 : RS → Int32 → Int32 → Prop) (hB11 : ∀ (u : RS) (x1 : Int32) (x2 : Int32), B11 u x1 x2 → j_X8_found p l e s m args below meth c g A ad Q u 11 [(0, .ref (ad 0)), (1, .int x1), (2, .int x2)] []) (u : RS) (x2 : Int32) (t0 : Int32) (h : wp_X8_found_73 Q B11 u x2 t0) : j_X8_found p l e s m args below meth c g A ad Q u 73 [(0, .ref (ad 0)), (2, .int x2)] [.int t0] := by
  unfold wp_X8_found_73 at h
  refine z_istore_n (lv1 := [(1, .int t0), (0, .ref (ad 0)), (2, .int x2)]) C dX8_found_73 rfl (by decide) rfl ?_
  obtain ⟨x105, ex105⟩ : ∃ y : Int32, y = x2 + (-1) := ⟨_, rfl⟩
  have h := h x105 ex105
  refine z_iinc (v := x105) (lv1 := [(2, .int x105), (1, .int t0), (0, .ref (ad 0))]) C dX8_found_74 2 rfl (by rw [ex105]; rfl) (by decide) rfl ?_
  refine z_goto C dX8_found_77 (tgt := 11) (by decide) ?_
  refine z_lv (lv1 := [(0, .ref (ad 0)), (1, .int t0), (2, .int x105)]) [2, 1, 0] rfl ?_
  exact hB11 u t0 x105 h
def wp_X8_found_57 (Q : Int32 → RS → Prop) (B11 : RS → Int32 → Int32 → Prop) (B20 : RS → Int32 → Int32 → Int32 → Int32 → Prop) (u : RS) (x1 : Int32) (x2 : Int32) (x4 : Int32) (t0 : Int32) : Prop :=
  ∀ x107 : Int32, x107 = x4 + 1 → B20 u x1 x2 t0 x107
set_option maxRecDepth 20000 in
theorem b_X8_found_57 (C : zC p s m args meth c g A cX8_found RX8 5) (hr : meth.sig.returnType = (some .int)) (ad : Nat → Nat) (Q : Int32 → RS → Prop) (B11 : RS → Int32 → Int32 → Prop) (hB11 : ∀ (u : RS) (x1 : Int32) (x2 : Int32), B11 u x1 x2 → j_X8_found p l e s m args below meth c g A ad Q u 11 [(0, .ref (ad 0)), (1, .int x1), (2, .int x2)] []) (B20 : RS → Int32 → Int32 → Int32 → Int32 → Prop) (hB20 : ∀ (u : RS) (x1 : Int32) (x2 : Int32) (x3 : Int32) (x4 : Int32), B20 u x1 x2 x3 x4 → j_X8_found p l e s m args below meth c g A ad Q u 20 [(0, .ref (ad 0)), (1, .int x1), (2, .int x2), (3, .int x3), (4, .int x4)] []) (u : RS) (x1 : Int32) (x2 : Int32) (x4 : Int32) (t0 : Int32) (h : wp_X8_found_57 Q B11 B20 u x1 x2 x4 t0) : j_X8_found p l e s m args below meth c g A ad Q u 57 [(0, .ref (ad 0)), (1, .int x1), (2, .int x2), (4, .int x4)] [.int t0] := by
  unfold wp_X8_found_57 at h
  refine z_istore_n (lv1 := [(3, .int t0), (0, .ref (ad 0)), (1, .int x1), (2, .int x2), (4, .int x4)]) C dX8_found_57 rfl (by decide) rfl ?_
  obtain ⟨x107, ex107⟩ : ∃ y : Int32, y = x4 + 1 := ⟨_, rfl⟩
  have h := h x107 ex107
  refine z_iinc (v := x107) (lv1 := [(4, .int x107), (3, .int t0), (0, .ref (ad 0)), (1, .int x1), (2, .int x2)]) C dX8_found_58 4 rfl (by rw [ex107]; rfl) (by decide) rfl ?_
  refine z_goto C dX8_found_61 (tgt := 20) (by decide) ?_
  refine z_lv (lv1 := [(0, .ref (ad 0)), (1, .int x1), (2, .int x2), (3, .int t0), (4, .int x107)]) [2, 3, 4, 1, 0] rfl ?_
  exact hB20 u x1 x2 t0 x107 h
def wp_X8_found_56 (Q : Int32 → RS → Prop) (B11 : RS → Int32 → Int32 → Prop) (B20 : RS → Int32 → Int32 → Int32 → Int32 → Prop) (u : RS) (x1 : Int32) (x2 : Int32) (x4 : Int32) : Prop :=
  wp_X8_found_57 Q B11 B20 u x1 x2 x4 0
set_option maxRecDepth 20000 in
theorem b_X8_found_56 (C : zC p s m args meth c g A cX8_found RX8 5) (hr : meth.sig.returnType = (some .int)) (ad : Nat → Nat) (Q : Int32 → RS → Prop) (B11 : RS → Int32 → Int32 → Prop) (hB11 : ∀ (u : RS) (x1 : Int32) (x2 : Int32), B11 u x1 x2 → j_X8_found p l e s m args below meth c g A ad Q u 11 [(0, .ref (ad 0)), (1, .int x1), (2, .int x2)] []) (B20 : RS → Int32 → Int32 → Int32 → Int32 → Prop) (hB20 : ∀ (u : RS) (x1 : Int32) (x2 : Int32) (x3 : Int32) (x4 : Int32), B20 u x1 x2 x3 x4 → j_X8_found p l e s m args below meth c g A ad Q u 20 [(0, .ref (ad 0)), (1, .int x1), (2, .int x2), (3, .int x3), (4, .int x4)] []) (u : RS) (x1 : Int32) (x2 : Int32) (x4 : Int32) (h : wp_X8_found_56 Q B11 B20 u x1 x2 x4) : j_X8_found p l e s m args below meth c g A ad Q u 56 [(0, .ref (ad 0)), (1, .int x1), (2, .int x2), (4, .int x4)] [] := by
  unfold wp_X8_found_56 at h
  refine z_iconst (v := 0) C dX8_found_56 (by decide) ?_
  exact b_X8_found_57 C hr ad Q B11 hB11 B20 hB20 u x1 x2 x4 0 h
def wp_X8_found_20 (Q : Int32 → RS → Prop) (B11 : RS → Int32 → Int32 → Prop) (B20 : RS → Int32 → Int32 → Int32 → Int32 → Prop) (u : RS) (x1 : Int32) (x2 : Int32) (x3 : Int32) (x4 : Int32) : Prop :=
  ((5 ≤ x4 → ((x3 = 0 → wp_X8_found_73 Q B11 u x2 x1) ∧ (¬ x3 = 0 → wp_X8_found_73 Q B11 u x2 x2))) ∧ (¬ 5 ≤ x4 → ((x3 = 0 → wp_X8_found_56 Q B11 B20 u x1 x2 x4) ∧ (¬ x3 = 0 → wp_X8_flowAt x2 (fun r108 => vp_in (r108 + x4) 1065 ∧ vp_in x4 5 ∧ ((¬ u.1 3 (zn (r108 + x4)) = u.1 14 (zn x4) → wp_X8_found_56 Q B11 B20 u x1 x2 x4) ∧ (u.1 3 (zn (r108 + x4)) = u.1 14 (zn x4) → wp_X8_found_57 Q B11 B20 u x1 x2 x4 1)))))))
set_option maxRecDepth 20000 in
theorem b_X8_found_20 (C : zC p s m args meth c g A cX8_found RX8 5) (hr : meth.sig.returnType = (some .int)) (ad : Nat → Nat) (Q : Int32 → RS → Prop) (B11 : RS → Int32 → Int32 → Prop) (hB11 : ∀ (u : RS) (x1 : Int32) (x2 : Int32), B11 u x1 x2 → j_X8_found p l e s m args below meth c g A ad Q u 11 [(0, .ref (ad 0)), (1, .int x1), (2, .int x2)] []) (B20 : RS → Int32 → Int32 → Int32 → Int32 → Prop) (hB20 : ∀ (u : RS) (x1 : Int32) (x2 : Int32) (x3 : Int32) (x4 : Int32), B20 u x1 x2 x3 x4 → j_X8_found p l e s m args below meth c g A ad Q u 20 [(0, .ref (ad 0)), (1, .int x1), (2, .int x2), (3, .int x3), (4, .int x4)] []) (u : RS) (x1 : Int32) (x2 : Int32) (x3 : Int32) (x4 : Int32) (h : wp_X8_found_20 Q B11 B20 u x1 x2 x3 x4) : j_X8_found p l e s m args below meth c g A ad Q u 20 [(0, .ref (ad 0)), (1, .int x1), (2, .int x2), (3, .int x3), (4, .int x4)] [] := by
  unfold wp_X8_found_20 at h
  refine z_iload C dX8_found_20 4 rfl ?_
  refine z_iconst (v := 5) C dX8_found_22 (by decide) ?_
  refine z_icmp_ge C dX8_found_23 (tgt := 64) (by decide) (fun hc103 => ?_) (fun hc103 => ?_)
  · have h := h.1 hc103
    refine z_iload_n C dX8_found_64 rfl 3 rfl ?_
    refine z_if_eq C dX8_found_65 (tgt := 72) (by decide) (fun hc104 => ?_) (fun hc104 => ?_)
    · have h := h.1 hc104
      refine z_iload_n C dX8_found_72 rfl 1 rfl ?_
      refine z_lv (lv1 := [(0, .ref (ad 0)), (2, .int x2)]) [0, 2] rfl ?_
      exact b_X8_found_73 C hr ad Q B11 hB11 u x2 x1 h
    · have h := h.2 hc104
      refine z_iload_n C dX8_found_68 rfl 2 rfl ?_
      refine z_goto C dX8_found_69 (tgt := 73) (by decide) ?_
      refine z_lv (lv1 := [(0, .ref (ad 0)), (2, .int x2)]) [0, 2] rfl ?_
      exact b_X8_found_73 C hr ad Q B11 hB11 u x2 x2 h
  · have h := h.2 hc103
    refine z_iload_n C dX8_found_26 rfl 3 rfl ?_
    refine z_if_eq C dX8_found_27 (tgt := 56) (by decide) (fun hc106 => ?_) (fun hc106 => ?_)
    · have h := h.1 hc106
      refine z_lv (lv1 := [(0, .ref (ad 0)), (1, .int x1), (2, .int x2), (4, .int x4)]) [0, 1, 2, 4] rfl ?_
      exact b_X8_found_56 C hr ad Q B11 hB11 B20 hB20 u x1 x2 x4 h
    · have h := h.2 hc106
      refine z_aload_n C dX8_found_30 rfl 0 rfl ?_
      refine gR_row C dX8_found_31 ?_
      refine z_iload_n C dX8_found_34 rfl 2 rfl ?_
      refine cSi (As := [.int x2]) C (c_X8_flowAt l g x2 _ h) s_X8_flowAt ml8_102 ⟨Nat.le_of_ble_eq_true rfl, Nat.le_of_ble_eq_true rfl⟩ ⟨Nat.zero_le _, Nat.zero_le _⟩ (Nat.le_of_ble_eq_true rfl) rfl dX8_found_35 ?_
      intro r108 h
      refine z_iload C dX8_found_38 4 rfl ?_
      refine z_iadd C dX8_found_40 ?_
      obtain ⟨hi109, h⟩ := h
      refine lR_row C hi109 dX8_found_41 ?_
      refine z_aload_n C dX8_found_42 rfl 0 rfl ?_
      refine gR_fields C dX8_found_43 ?_
      refine z_iload C dX8_found_46 4 rfl ?_
      obtain ⟨hi110, h⟩ := h
      refine lR_fields C hi110 dX8_found_48 ?_
      refine z_icmp_ne C dX8_found_49 (tgt := 56) (by decide) (fun hc111 => ?_) (fun hc111 => ?_)
      · have h := h.1 hc111
        refine z_lv (lv1 := [(0, .ref (ad 0)), (1, .int x1), (2, .int x2), (4, .int x4)]) [0, 1, 2, 4] rfl ?_
        exact b_X8_found_56 C hr ad Q B11 hB11 B20 hB20 u x1 x2 x4 h
      · have h := h.2 hc111
        refine z_iconst (v := 1) C dX8_found_52 (by decide) ?_
        refine z_goto C dX8_found_53 (tgt := 57) (by decide) ?_
        refine z_lv (lv1 := [(0, .ref (ad 0)), (1, .int x1), (2, .int x2), (4, .int x4)]) [0, 1, 2, 4] rfl ?_
        exact b_X8_found_57 C hr ad Q B11 hB11 B20 hB20 u x1 x2 x4 1 h
theorem l_X8_found_20 (C : zC p s m args meth c g A cX8_found RX8 5) (hr : meth.sig.returnType = (some .int)) (ad : Nat → Nat) (Q : Int32 → RS → Prop) (B11 : RS → Int32 → Int32 → Prop) (hB11 : ∀ (u : RS) (x1 : Int32) (x2 : Int32), B11 u x1 x2 → j_X8_found p l e s m args below meth c g A ad Q u 11 [(0, .ref (ad 0)), (1, .int x1), (2, .int x2)] []) : ∀ (n : Nat) (u : RS) (x1 : Int32) (x2 : Int32) (x3 : Int32) (x4 : Int32), zit5 (wp_X8_found_20 Q B11) n u x1 x2 x3 x4 → j_X8_found p l e s m args below meth c g A ad Q u 20 [(0, .ref (ad 0)), (1, .int x1), (2, .int x2), (3, .int x3), (4, .int x4)] [] := by
  intro n
  induction n with
  | zero => exact fun u x1 x2 x3 x4 h => h.elim
  | succ n ih => exact fun u x1 x2 x3 x4 h => b_X8_found_20 C hr ad Q B11 hB11 (zit5 (wp_X8_found_20 Q B11) n) ih u x1 x2 x3 x4 h
def wp_X8_found_11 (Q : Int32 → RS → Prop) (B11 : RS → Int32 → Int32 → Prop) (u : RS) (x1 : Int32) (x2 : Int32) : Prop :=
  ((x2 < 0 → Q x1 u) ∧ (¬ x2 < 0 → (∃ n, zit5 (wp_X8_found_20 Q B11) n u x1 x2 1 0)))
set_option maxRecDepth 20000 in
theorem b_X8_found_11 (C : zC p s m args meth c g A cX8_found RX8 5) (hr : meth.sig.returnType = (some .int)) (ad : Nat → Nat) (Q : Int32 → RS → Prop) (B11 : RS → Int32 → Int32 → Prop) (hB11 : ∀ (u : RS) (x1 : Int32) (x2 : Int32), B11 u x1 x2 → j_X8_found p l e s m args below meth c g A ad Q u 11 [(0, .ref (ad 0)), (1, .int x1), (2, .int x2)] []) (u : RS) (x1 : Int32) (x2 : Int32) (h : wp_X8_found_11 Q B11 u x1 x2) : j_X8_found p l e s m args below meth c g A ad Q u 11 [(0, .ref (ad 0)), (1, .int x1), (2, .int x2)] [] := by
  unfold wp_X8_found_11 at h
  refine z_iload_n C dX8_found_11 rfl 2 rfl ?_
  refine z_if_lt C dX8_found_12 (tgt := 80) (by decide) (fun hc102 => ?_) (fun hc102 => ?_)
  · have h := h.1 hc102
    refine z_iload_n C dX8_found_80 rfl 1 rfl ?_
    exact z_iret C hr u rfl h dX8_found_81
  · have h := h.2 hc102
    refine z_iconst (v := 1) C dX8_found_15 (by decide) ?_
    refine z_istore_n (lv1 := [(3, .int 1), (0, .ref (ad 0)), (1, .int x1), (2, .int x2)]) C dX8_found_16 rfl (by decide) rfl ?_
    refine z_iconst (v := 0) C dX8_found_17 (by decide) ?_
    refine z_istore (lv1 := [(4, .int 0), (3, .int 1), (0, .ref (ad 0)), (1, .int x1), (2, .int x2)]) C dX8_found_18 (by decide) rfl ?_
    refine z_lv (lv1 := [(0, .ref (ad 0)), (1, .int x1), (2, .int x2), (3, .int 1), (4, .int 0)]) [2, 3, 4, 1, 0] rfl ?_
    obtain ⟨n9, h⟩ := h
    exact l_X8_found_20 C hr ad Q B11 hB11 n9 u x1 x2 1 0 h
theorem l_X8_found_11 (C : zC p s m args meth c g A cX8_found RX8 5) (hr : meth.sig.returnType = (some .int)) (ad : Nat → Nat) (Q : Int32 → RS → Prop) : ∀ (n : Nat) (u : RS) (x1 : Int32) (x2 : Int32), zit3 (wp_X8_found_11 Q) n u x1 x2 → j_X8_found p l e s m args below meth c g A ad Q u 11 [(0, .ref (ad 0)), (1, .int x1), (2, .int x2)] [] := by
  intro n
  induction n with
  | zero => exact fun u x1 x2 h => h.elim
  | succ n ih => exact fun u x1 x2 h => b_X8_found_11 C hr ad Q (zit3 (wp_X8_found_11 Q) n) ih u x1 x2 h
def wp_X8_found (u : RS) (Q : Int32 → RS → Prop) : Prop :=
  ∀ x101 : Int32, x101 = (u.1 3 4) - 1 → (∃ n, zit3 (wp_X8_found_11 Q) n u (-1) x101)
set_option maxRecDepth 20000 in
theorem c_X8_found (l : Launch) (g : zG) (ad : Nat → Nat) (u : RS) (Q : Int32 → RS → Prop) (h : wp_X8_found u Q) : zMi l yX8_found cX8_found 5 (some .int) 1 0 0 g [.ref (ad 0)] (wR g ad u) (wR g ad) Q := by
  refine zMi_of RX8 (by decide) rfl [(0, .ref (ad 0))] rfl (Nat.le_of_ble_eq_true rfl) (fun p e s m args below meth c A C hr hnm => ?_)
  unfold wp_X8_found at h
  refine z_iconst (v := (-1)) C dX8_found_0 (by decide) ?_
  refine z_istore_n (lv1 := [(1, .int (-1)), (0, .ref (ad 0))]) C dX8_found_1 rfl (by decide) rfl ?_
  refine z_aload_n C dX8_found_2 rfl 1 rfl ?_
  refine gR_row C dX8_found_3 ?_
  refine z_iconst (v := 4) C dX8_found_6 (by decide) ?_
  refine lRn_row C 4 (by decide +kernel) (vp_in_iff.mpr (by decide +kernel)) dX8_found_7 ?_
  refine z_iconst (v := 1) C dX8_found_8 (by decide) ?_
  refine z_isub C dX8_found_9 ?_
  refine z_topi (fun x101 ex101 => ?_)
  have h := h x101 ex101
  refine z_istore_n (lv1 := [(2, .int x101), (1, .int (-1)), (0, .ref (ad 0))]) C dX8_found_10 rfl (by decide) rfl ?_
  refine z_lv (lv1 := [(0, .ref (ad 0)), (1, .int (-1)), (2, .int x101)]) [2, 1, 0] rfl ?_
  obtain ⟨n9, h⟩ := h
  exact l_X8_found_11 C hr ad Q n9 u (-1) x101 h
abbrev j_X8_layBalanced (p : Program) (l : Launch) (e : Env) (s : State) (m : MethodId) (args : Array Value) (below : List Frame) (meth : Method) (c : Code) (g : zG) (A : Nat → Prop) (ad : Nat → Nat) (Q : Int32 → RS → Prop) (u : RS) (pc : Nat) (lv : List (Nat × Value)) (st : List Value) : Prop := zJ p l e (zR 1 0 0) s m args below meth c g A 4 (zQi below args s g A 0 0 (wR g ad) Q) (wR g ad u) 0 0 pc lv st
def wp_X8_layBalanced_78 (Q : Int32 → RS → Prop) (B48 : RS → Int32 → Int32 → Prop) (u : RS) (x2 : Int32) (x3 : Int32) (t0 : Int32) (t1 : Int32) : Prop :=
  ∀ x110 : Int32, x110 = t1 + t0 → vp_in (23 + x2) 1065 ∧ ∀ u112 : RS, u112 = rI u 3 (upd (u.1 3) (zn (23 + x2)) x3) → vp_in x3 4 ∧ vp_in (39 + x2) 1065 ∧ vp_in x3 4 ∧ ∀ u116 : RS, u116 = rI u112 15 (upd (u112.1 15) (zn x3) ((u112.1 15 (zn x3)) + (u112.1 3 (zn (39 + x2))))) → vp_in x2 16 ∧ ∀ u118 : RS, u118 = rI u116 16 (upd (u116.1 16) (zn x2) (vp_nar .boolean 1)) → wp_X8_nextEntry u118 (fun r119 u120 => B48 u120 x110 r119)
set_option maxRecDepth 20000 in
theorem b_X8_layBalanced_78 (C : zC p s m args meth c g A cX8_layBalanced RX8 4) (hr : meth.sig.returnType = (some .int)) (ad : Nat → Nat) (Q : Int32 → RS → Prop) (B48 : RS → Int32 → Int32 → Prop) (hB48 : ∀ (u : RS) (x1 : Int32) (x2 : Int32), B48 u x1 x2 → j_X8_layBalanced p l e s m args below meth c g A ad Q u 48 [(0, .ref (ad 0)), (1, .int x1), (2, .int x2)] []) (u : RS) (x2 : Int32) (x3 : Int32) (t0 : Int32) (t1 : Int32) (h : wp_X8_layBalanced_78 Q B48 u x2 x3 t0 t1) : j_X8_layBalanced p l e s m args below meth c g A ad Q u 78 [(0, .ref (ad 0)), (2, .int x2), (3, .int x3)] [.int t0, .int t1] := by
  unfold wp_X8_layBalanced_78 at h
  refine z_iadd C dX8_layBalanced_78 ?_
  refine z_topi (fun x110 ex110 => ?_)
  have h := h x110 ex110
  refine z_istore_n (lv1 := [(1, .int x110), (0, .ref (ad 0)), (2, .int x2), (3, .int x3)]) C dX8_layBalanced_79 rfl (by decide) rfl ?_
  refine z_aload_n C dX8_layBalanced_80 rfl 1 rfl ?_
  refine gR_row C dX8_layBalanced_81 ?_
  refine z_bipush (v := 23) C dX8_layBalanced_84 (by decide) ?_
  refine z_iload_n C dX8_layBalanced_86 rfl 2 rfl ?_
  refine z_iadd C dX8_layBalanced_87 ?_
  refine z_iload_n C dX8_layBalanced_88 rfl 3 rfl ?_
  obtain ⟨hi111, h⟩ := h
  refine sR_row C hi111 dX8_layBalanced_89 ?_
  refine z_stR (fun u112 eu112 => ?_)
  have h := h u112 eu112
  refine z_aload_n C dX8_layBalanced_90 rfl 1 rfl ?_
  refine gR_share C dX8_layBalanced_91 ?_
  refine z_iload_n C dX8_layBalanced_94 rfl 3 rfl ?_
  refine z_dup2 C dX8_layBalanced_95 rfl rfl ?_
  obtain ⟨hi113, h⟩ := h
  refine lR_share C hi113 dX8_layBalanced_96 ?_
  refine z_aload_n C dX8_layBalanced_97 rfl 1 rfl ?_
  refine gR_row C dX8_layBalanced_98 ?_
  refine z_bipush (v := 39) C dX8_layBalanced_101 (by decide) ?_
  refine z_iload_n C dX8_layBalanced_103 rfl 2 rfl ?_
  refine z_iadd C dX8_layBalanced_104 ?_
  obtain ⟨hi114, h⟩ := h
  refine lR_row C hi114 dX8_layBalanced_105 ?_
  refine z_iadd C dX8_layBalanced_106 ?_
  obtain ⟨hi115, h⟩ := h
  refine sR_share C hi115 dX8_layBalanced_107 ?_
  refine z_stR (fun u116 eu116 => ?_)
  have h := h u116 eu116
  refine z_aload_n C dX8_layBalanced_108 rfl 1 rfl ?_
  refine gR_laid C dX8_layBalanced_109 ?_
  refine z_iload_n C dX8_layBalanced_112 rfl 2 rfl ?_
  refine z_iconst (v := 1) C dX8_layBalanced_113 (by decide) ?_
  obtain ⟨hi117, h⟩ := h
  refine sR_laid C hi117 dX8_layBalanced_114 ?_
  refine z_stR (fun u118 eu118 => ?_)
  have h := h u118 eu118
  refine z_aload_n C dX8_layBalanced_115 rfl 1 rfl ?_
  refine cRi (As := []) C (c_X8_nextEntry l g ad u118 _ h) v_X8_nextEntry ml8_153 rfl ⟨Nat.le_of_ble_eq_true rfl, Nat.le_of_ble_eq_true rfl⟩ ⟨Nat.zero_le _, Nat.zero_le _⟩ (Nat.le_of_ble_eq_true rfl) rfl dX8_layBalanced_116 ?_
  intro r119 u120 h
  refine z_istore_n (lv1 := [(2, .int r119), (1, .int x110), (0, .ref (ad 0)), (3, .int x3)]) C dX8_layBalanced_119 rfl (by decide) rfl ?_
  refine z_goto C dX8_layBalanced_120 (tgt := 48) (by decide) ?_
  refine z_lv (lv1 := [(0, .ref (ad 0)), (1, .int x110), (2, .int r119)]) [2, 1, 0] rfl ?_
  exact hB48 u120 x110 r119 h
def wp_X8_layBalanced_48 (Q : Int32 → RS → Prop) (B48 : RS → Int32 → Int32 → Prop) (u : RS) (x1 : Int32) (x2 : Int32) : Prop :=
  ((x2 = (-1) → Q x1 u) ∧ (¬ x2 = (-1) → wp_X8_leastShare u (-1) (fun r106 u107 => vp_in (23 + x2) 1065 ∧ ((¬ u107.1 3 (zn (23 + x2)) = r106 → wp_X8_layBalanced_78 Q B48 u107 x2 r106 1 x1) ∧ (u107.1 3 (zn (23 + x2)) = r106 → wp_X8_layBalanced_78 Q B48 u107 x2 r106 0 x1)))))
set_option maxRecDepth 20000 in
theorem b_X8_layBalanced_48 (C : zC p s m args meth c g A cX8_layBalanced RX8 4) (hr : meth.sig.returnType = (some .int)) (ad : Nat → Nat) (Q : Int32 → RS → Prop) (B48 : RS → Int32 → Int32 → Prop) (hB48 : ∀ (u : RS) (x1 : Int32) (x2 : Int32), B48 u x1 x2 → j_X8_layBalanced p l e s m args below meth c g A ad Q u 48 [(0, .ref (ad 0)), (1, .int x1), (2, .int x2)] []) (u : RS) (x1 : Int32) (x2 : Int32) (h : wp_X8_layBalanced_48 Q B48 u x1 x2) : j_X8_layBalanced p l e s m args below meth c g A ad Q u 48 [(0, .ref (ad 0)), (1, .int x1), (2, .int x2)] [] := by
  unfold wp_X8_layBalanced_48 at h
  refine z_iload_n C dX8_layBalanced_48 rfl 2 rfl ?_
  refine z_iconst (v := (-1)) C dX8_layBalanced_49 (by decide) ?_
  refine z_icmp_eq C dX8_layBalanced_50 (tgt := 123) (by decide) (fun hc105 => ?_) (fun hc105 => ?_)
  · have h := h.1 hc105
    refine z_iload_n C dX8_layBalanced_123 rfl 1 rfl ?_
    exact z_iret C hr u rfl h dX8_layBalanced_124
  · have h := h.2 hc105
    refine z_aload_n C dX8_layBalanced_53 rfl 0 rfl ?_
    refine z_iconst (v := (-1)) C dX8_layBalanced_54 (by decide) ?_
    refine cRi (As := [.int (-1)]) C (c_X8_leastShare l g ad u (-1) _ h) v_X8_leastShare ml8_156 rfl ⟨Nat.le_of_ble_eq_true rfl, Nat.le_of_ble_eq_true rfl⟩ ⟨Nat.zero_le _, Nat.zero_le _⟩ (Nat.le_of_ble_eq_true rfl) rfl dX8_layBalanced_55 ?_
    intro r106 u107 h
    refine z_istore_n (lv1 := [(3, .int r106), (0, .ref (ad 0)), (1, .int x1), (2, .int x2)]) C dX8_layBalanced_58 rfl (by decide) rfl ?_
    refine z_iload_n C dX8_layBalanced_59 rfl 2 rfl ?_
    refine z_aload_n C dX8_layBalanced_60 rfl 1 rfl ?_
    refine gR_row C dX8_layBalanced_61 ?_
    refine z_bipush (v := 23) C dX8_layBalanced_64 (by decide) ?_
    refine z_iload_n C dX8_layBalanced_66 rfl 3 rfl ?_
    refine z_iadd C dX8_layBalanced_67 ?_
    obtain ⟨hi108, h⟩ := h
    refine lR_row C hi108 dX8_layBalanced_68 ?_
    refine z_iload_n C dX8_layBalanced_69 rfl 0 rfl ?_
    refine z_icmp_ne C dX8_layBalanced_70 (tgt := 77) (by decide) (fun hc109 => ?_) (fun hc109 => ?_)
    · have h := h.1 hc109
      refine z_iconst (v := 1) C dX8_layBalanced_77 (by decide) ?_
      refine z_lv (lv1 := [(0, .ref (ad 0)), (2, .int x2), (3, .int r106)]) [1, 3, 0] rfl ?_
      exact b_X8_layBalanced_78 C hr ad Q B48 hB48 u107 x2 r106 1 x1 h
    · have h := h.2 hc109
      refine z_iconst (v := 0) C dX8_layBalanced_73 (by decide) ?_
      refine z_goto C dX8_layBalanced_74 (tgt := 78) (by decide) ?_
      refine z_lv (lv1 := [(0, .ref (ad 0)), (2, .int x2), (3, .int r106)]) [1, 3, 0] rfl ?_
      exact b_X8_layBalanced_78 C hr ad Q B48 hB48 u107 x2 r106 0 x1 h
theorem l_X8_layBalanced_48 (C : zC p s m args meth c g A cX8_layBalanced RX8 4) (hr : meth.sig.returnType = (some .int)) (ad : Nat → Nat) (Q : Int32 → RS → Prop) : ∀ (n : Nat) (u : RS) (x1 : Int32) (x2 : Int32), zit3 (wp_X8_layBalanced_48 Q) n u x1 x2 → j_X8_layBalanced p l e s m args below meth c g A ad Q u 48 [(0, .ref (ad 0)), (1, .int x1), (2, .int x2)] [] := by
  intro n
  induction n with
  | zero => exact fun u x1 x2 h => h.elim
  | succ n ih => exact fun u x1 x2 h => b_X8_layBalanced_48 C hr ad Q (zit3 (wp_X8_layBalanced_48 Q) n) ih u x1 x2 h
def wp_X8_layBalanced_24 (Q : Int32 → RS → Prop) (B24 : RS → Int32 → Int32 → Prop) (u : RS) (x1 : Int32) (x2 : Int32) : Prop :=
  ((16 ≤ x2 → wp_X8_nextEntry u (fun r103 u104 => (∃ n, zit3 (wp_X8_layBalanced_48 Q) n u104 x1 r103))) ∧ (¬ 16 ≤ x2 → vp_in x2 16 ∧ ∀ u122 : RS, u122 = rI u 16 (upd (u.1 16) (zn x2) (vp_nar .boolean 0)) → ∀ x123 : Int32, x123 = x2 + 1 → B24 u122 x1 x123))
set_option maxRecDepth 20000 in
theorem b_X8_layBalanced_24 (C : zC p s m args meth c g A cX8_layBalanced RX8 4) (hr : meth.sig.returnType = (some .int)) (ad : Nat → Nat) (Q : Int32 → RS → Prop) (B24 : RS → Int32 → Int32 → Prop) (hB24 : ∀ (u : RS) (x1 : Int32) (x2 : Int32), B24 u x1 x2 → j_X8_layBalanced p l e s m args below meth c g A ad Q u 24 [(0, .ref (ad 0)), (1, .int x1), (2, .int x2)] []) (u : RS) (x1 : Int32) (x2 : Int32) (h : wp_X8_layBalanced_24 Q B24 u x1 x2) : j_X8_layBalanced p l e s m args below meth c g A ad Q u 24 [(0, .ref (ad 0)), (1, .int x1), (2, .int x2)] [] := by
  unfold wp_X8_layBalanced_24 at h
  refine z_iload_n C dX8_layBalanced_24 rfl 2 rfl ?_
  refine z_bipush (v := 16) C dX8_layBalanced_25 (by decide) ?_
  refine z_icmp_ge C dX8_layBalanced_27 (tgt := 43) (by decide) (fun hc102 => ?_) (fun hc102 => ?_)
  · have h := h.1 hc102
    refine z_aload_n C dX8_layBalanced_43 rfl 0 rfl ?_
    refine cRi (As := []) C (c_X8_nextEntry l g ad u _ h) v_X8_nextEntry ml8_153 rfl ⟨Nat.le_of_ble_eq_true rfl, Nat.le_of_ble_eq_true rfl⟩ ⟨Nat.zero_le _, Nat.zero_le _⟩ (Nat.le_of_ble_eq_true rfl) rfl dX8_layBalanced_44 ?_
    intro r103 u104 h
    refine z_istore_n (lv1 := [(2, .int r103), (0, .ref (ad 0)), (1, .int x1)]) C dX8_layBalanced_47 rfl (by decide) rfl ?_
    refine z_lv (lv1 := [(0, .ref (ad 0)), (1, .int x1), (2, .int r103)]) [1, 2, 0] rfl ?_
    obtain ⟨n9, h⟩ := h
    exact l_X8_layBalanced_48 C hr ad Q n9 u104 x1 r103 h
  · have h := h.2 hc102
    refine z_aload_n C dX8_layBalanced_30 rfl 0 rfl ?_
    refine gR_laid C dX8_layBalanced_31 ?_
    refine z_iload_n C dX8_layBalanced_34 rfl 2 rfl ?_
    refine z_iconst (v := 0) C dX8_layBalanced_35 (by decide) ?_
    obtain ⟨hi121, h⟩ := h
    refine sR_laid C hi121 dX8_layBalanced_36 ?_
    refine z_stR (fun u122 eu122 => ?_)
    have h := h u122 eu122
    obtain ⟨x123, ex123⟩ : ∃ y : Int32, y = x2 + 1 := ⟨_, rfl⟩
    have h := h x123 ex123
    refine z_iinc (v := x123) (lv1 := [(2, .int x123), (0, .ref (ad 0)), (1, .int x1)]) C dX8_layBalanced_37 2 rfl (by rw [ex123]; rfl) (by decide) rfl ?_
    refine z_goto C dX8_layBalanced_40 (tgt := 24) (by decide) ?_
    refine z_lv (lv1 := [(0, .ref (ad 0)), (1, .int x1), (2, .int x123)]) [1, 2, 0] rfl ?_
    exact hB24 u122 x1 x123 h
theorem l_X8_layBalanced_24 (C : zC p s m args meth c g A cX8_layBalanced RX8 4) (hr : meth.sig.returnType = (some .int)) (ad : Nat → Nat) (Q : Int32 → RS → Prop) : ∀ (n : Nat) (u : RS) (x1 : Int32) (x2 : Int32), zit3 (wp_X8_layBalanced_24 Q) n u x1 x2 → j_X8_layBalanced p l e s m args below meth c g A ad Q u 24 [(0, .ref (ad 0)), (1, .int x1), (2, .int x2)] [] := by
  intro n
  induction n with
  | zero => exact fun u x1 x2 h => h.elim
  | succ n ih => exact fun u x1 x2 h => b_X8_layBalanced_24 C hr ad Q (zit3 (wp_X8_layBalanced_24 Q) n) ih u x1 x2 h
def wp_X8_layBalanced_4 (Q : Int32 → RS → Prop) (B4 : RS → Int32 → Int32 → Prop) (u : RS) (x1 : Int32) (x2 : Int32) : Prop :=
  ((4 ≤ x2 → (∃ n, zit3 (wp_X8_layBalanced_24 Q) n u x1 0)) ∧ (¬ 4 ≤ x2 → vp_in x2 4 ∧ ∀ u125 : RS, u125 = rI u 15 (upd (u.1 15) (zn x2) 0) → ∀ x126 : Int32, x126 = x2 + 1 → B4 u125 x1 x126))
set_option maxRecDepth 20000 in
theorem b_X8_layBalanced_4 (C : zC p s m args meth c g A cX8_layBalanced RX8 4) (hr : meth.sig.returnType = (some .int)) (ad : Nat → Nat) (Q : Int32 → RS → Prop) (B4 : RS → Int32 → Int32 → Prop) (hB4 : ∀ (u : RS) (x1 : Int32) (x2 : Int32), B4 u x1 x2 → j_X8_layBalanced p l e s m args below meth c g A ad Q u 4 [(0, .ref (ad 0)), (1, .int x1), (2, .int x2)] []) (u : RS) (x1 : Int32) (x2 : Int32) (h : wp_X8_layBalanced_4 Q B4 u x1 x2) : j_X8_layBalanced p l e s m args below meth c g A ad Q u 4 [(0, .ref (ad 0)), (1, .int x1), (2, .int x2)] [] := by
  unfold wp_X8_layBalanced_4 at h
  refine z_iload_n C dX8_layBalanced_4 rfl 2 rfl ?_
  refine z_iconst (v := 4) C dX8_layBalanced_5 (by decide) ?_
  refine z_icmp_ge C dX8_layBalanced_6 (tgt := 22) (by decide) (fun hc101 => ?_) (fun hc101 => ?_)
  · have h := h.1 hc101
    refine z_iconst (v := 0) C dX8_layBalanced_22 (by decide) ?_
    refine z_istore_n (lv1 := [(2, .int 0), (0, .ref (ad 0)), (1, .int x1)]) C dX8_layBalanced_23 rfl (by decide) rfl ?_
    refine z_lv (lv1 := [(0, .ref (ad 0)), (1, .int x1), (2, .int 0)]) [1, 2, 0] rfl ?_
    obtain ⟨n9, h⟩ := h
    exact l_X8_layBalanced_24 C hr ad Q n9 u x1 0 h
  · have h := h.2 hc101
    refine z_aload_n C dX8_layBalanced_9 rfl 0 rfl ?_
    refine gR_share C dX8_layBalanced_10 ?_
    refine z_iload_n C dX8_layBalanced_13 rfl 2 rfl ?_
    refine z_iconst (v := 0) C dX8_layBalanced_14 (by decide) ?_
    obtain ⟨hi124, h⟩ := h
    refine sR_share C hi124 dX8_layBalanced_15 ?_
    refine z_stR (fun u125 eu125 => ?_)
    have h := h u125 eu125
    obtain ⟨x126, ex126⟩ : ∃ y : Int32, y = x2 + 1 := ⟨_, rfl⟩
    have h := h x126 ex126
    refine z_iinc (v := x126) (lv1 := [(2, .int x126), (0, .ref (ad 0)), (1, .int x1)]) C dX8_layBalanced_16 2 rfl (by rw [ex126]; rfl) (by decide) rfl ?_
    refine z_goto C dX8_layBalanced_19 (tgt := 4) (by decide) ?_
    refine z_lv (lv1 := [(0, .ref (ad 0)), (1, .int x1), (2, .int x126)]) [1, 2, 0] rfl ?_
    exact hB4 u125 x1 x126 h
theorem l_X8_layBalanced_4 (C : zC p s m args meth c g A cX8_layBalanced RX8 4) (hr : meth.sig.returnType = (some .int)) (ad : Nat → Nat) (Q : Int32 → RS → Prop) : ∀ (n : Nat) (u : RS) (x1 : Int32) (x2 : Int32), zit3 (wp_X8_layBalanced_4 Q) n u x1 x2 → j_X8_layBalanced p l e s m args below meth c g A ad Q u 4 [(0, .ref (ad 0)), (1, .int x1), (2, .int x2)] [] := by
  intro n
  induction n with
  | zero => exact fun u x1 x2 h => h.elim
  | succ n ih => exact fun u x1 x2 h => b_X8_layBalanced_4 C hr ad Q (zit3 (wp_X8_layBalanced_4 Q) n) ih u x1 x2 h
def wp_X8_layBalanced (u : RS) (Q : Int32 → RS → Prop) : Prop :=
  (∃ n, zit3 (wp_X8_layBalanced_4 Q) n u 0 0)
set_option maxRecDepth 20000 in
theorem c_X8_layBalanced (l : Launch) (g : zG) (ad : Nat → Nat) (u : RS) (Q : Int32 → RS → Prop) (h : wp_X8_layBalanced u Q) : zMi l yX8_layBalanced cX8_layBalanced 4 (some .int) 1 0 0 g [.ref (ad 0)] (wR g ad u) (wR g ad) Q := by
  refine zMi_of RX8 (by decide) rfl [(0, .ref (ad 0))] rfl (Nat.le_of_ble_eq_true rfl) (fun p e s m args below meth c A C hr hnm => ?_)
  unfold wp_X8_layBalanced at h
  refine z_iconst (v := 0) C dX8_layBalanced_0 (by decide) ?_
  refine z_istore_n (lv1 := [(1, .int 0), (0, .ref (ad 0))]) C dX8_layBalanced_1 rfl (by decide) rfl ?_
  refine z_iconst (v := 0) C dX8_layBalanced_2 (by decide) ?_
  refine z_istore_n (lv1 := [(2, .int 0), (1, .int 0), (0, .ref (ad 0))]) C dX8_layBalanced_3 rfl (by decide) rfl ?_
  refine z_lv (lv1 := [(0, .ref (ad 0)), (1, .int 0), (2, .int 0)]) [2, 1, 0] rfl ?_
  obtain ⟨n9, h⟩ := h
  exact l_X8_layBalanced_4 C hr ad Q n9 u 0 0 h
abbrev j_X8_dropRule (p : Program) (l : Launch) (e : Env) (s : State) (m : MethodId) (args : Array Value) (below : List Frame) (meth : Method) (c : Code) (g : zG) (A : Nat → Prop) (ad : Nat → Nat) (Q : RS → Prop) (u : RS) (pc : Nat) (lv : List (Nat × Value)) (st : List Value) : Prop := zJ p l e (zR 1 0 0) s m args below meth c g A 3 (zQv below args s g A 0 0 (wR g ad) Q) (wR g ad u) 0 0 pc lv st
def wp_X8_dropRule_15 (Q : RS → Prop) (B15 : RS → Int32 → Prop) (u : RS) (x2 : Int32) : Prop :=
  wp_X8_ruleAt (u.1 3 5) (fun r103 => ((r103 ≤ x2 → Q u) ∧ (¬ r103 ≤ x2 → vp_in (x2 + 3) 1065 ∧ vp_in x2 1065 ∧ ∀ u107 : RS, u107 = rI u 3 (upd (u.1 3) (zn x2) (u.1 3 (zn (x2 + 3)))) → ∀ x108 : Int32, x108 = x2 + 1 → B15 u107 x108)))
set_option maxRecDepth 20000 in
theorem b_X8_dropRule_15 (C : zC p s m args meth c g A cX8_dropRule RX8 3) (hr : meth.sig.returnType = none) (ad : Nat → Nat) (Q : RS → Prop) (B15 : RS → Int32 → Prop) (hB15 : ∀ (u : RS) (x2 : Int32), B15 u x2 → j_X8_dropRule p l e s m args below meth c g A ad Q u 15 [(0, .ref (ad 0)), (2, .int x2)] []) (u : RS) (x2 : Int32) (h : wp_X8_dropRule_15 Q B15 u x2) : j_X8_dropRule p l e s m args below meth c g A ad Q u 15 [(0, .ref (ad 0)), (2, .int x2)] [] := by
  unfold wp_X8_dropRule_15 at h
  refine z_iload_n C dX8_dropRule_15 rfl 1 rfl ?_
  refine z_aload_n C dX8_dropRule_16 rfl 0 rfl ?_
  refine gR_row C dX8_dropRule_17 ?_
  refine z_iconst (v := 5) C dX8_dropRule_20 (by decide) ?_
  refine lRn_row C 5 (by decide +kernel) (vp_in_iff.mpr (by decide +kernel)) dX8_dropRule_21 ?_
  refine cSi (As := [.int (u.1 3 5)]) C (c_X8_ruleAt l g (u.1 3 5) _ h) s_X8_ruleAt ml8_116 ⟨Nat.le_of_ble_eq_true rfl, Nat.le_of_ble_eq_true rfl⟩ ⟨Nat.zero_le _, Nat.zero_le _⟩ (Nat.le_of_ble_eq_true rfl) rfl dX8_dropRule_22 ?_
  intro r103 h
  refine z_icmp_ge C dX8_dropRule_25 (tgt := 48) (by decide) (fun hc104 => ?_) (fun hc104 => ?_)
  · have h := h.1 hc104
    exact z_vret C hr u rfl h dX8_dropRule_48
  · have h := h.2 hc104
    refine z_aload_n C dX8_dropRule_28 rfl 0 rfl ?_
    refine gR_row C dX8_dropRule_29 ?_
    refine z_iload_n C dX8_dropRule_32 rfl 1 rfl ?_
    refine z_aload_n C dX8_dropRule_33 rfl 0 rfl ?_
    refine gR_row C dX8_dropRule_34 ?_
    refine z_iload_n C dX8_dropRule_37 rfl 1 rfl ?_
    refine z_iconst (v := 3) C dX8_dropRule_38 (by decide) ?_
    refine z_iadd C dX8_dropRule_39 ?_
    obtain ⟨hi105, h⟩ := h
    refine lR_row C hi105 dX8_dropRule_40 ?_
    obtain ⟨hi106, h⟩ := h
    refine sR_row C hi106 dX8_dropRule_41 ?_
    refine z_stR (fun u107 eu107 => ?_)
    have h := h u107 eu107
    obtain ⟨x108, ex108⟩ : ∃ y : Int32, y = x2 + 1 := ⟨_, rfl⟩
    have h := h x108 ex108
    refine z_iinc (v := x108) (lv1 := [(2, .int x108), (0, .ref (ad 0))]) C dX8_dropRule_42 1 rfl (by rw [ex108]; rfl) (by decide) rfl ?_
    refine z_goto C dX8_dropRule_45 (tgt := 15) (by decide) ?_
    refine z_lv (lv1 := [(0, .ref (ad 0)), (2, .int x108)]) [1, 0] rfl ?_
    exact hB15 u107 x108 h
theorem l_X8_dropRule_15 (C : zC p s m args meth c g A cX8_dropRule RX8 3) (hr : meth.sig.returnType = none) (ad : Nat → Nat) (Q : RS → Prop) : ∀ (n : Nat) (u : RS) (x2 : Int32), zit2 (wp_X8_dropRule_15 Q) n u x2 → j_X8_dropRule p l e s m args below meth c g A ad Q u 15 [(0, .ref (ad 0)), (2, .int x2)] [] := by
  intro n
  induction n with
  | zero => exact fun u x2 h => h.elim
  | succ n ih => exact fun u x2 h => b_X8_dropRule_15 C hr ad Q (zit2 (wp_X8_dropRule_15 Q) n) ih u x2 h
def wp_X8_dropRule (u : RS) (x1 : Int32) (Q : RS → Prop) : Prop :=
  ∀ u101 : RS, u101 = rI u 3 (upd (u.1 3) 5 ((u.1 3 5) - 1)) → wp_X8_ruleAt x1 (fun r102 => (∃ n, zit2 (wp_X8_dropRule_15 Q) n u101 r102))
set_option maxRecDepth 20000 in
theorem c_X8_dropRule (l : Launch) (g : zG) (ad : Nat → Nat) (u : RS) (x1 : Int32) (Q : RS → Prop) (h : wp_X8_dropRule u x1 Q) : zMv l yX8_dropRule cX8_dropRule 3 none 1 0 0 g [.ref (ad 0), .int x1] (wR g ad u) (wR g ad) Q := by
  refine zMv_of RX8 (by decide) rfl [(0, .ref (ad 0)), (1, .int x1)] rfl (Nat.le_of_ble_eq_true rfl) (fun p e s m args below meth c A C hr hnm => ?_)
  unfold wp_X8_dropRule at h
  refine z_aload_n C dX8_dropRule_0 rfl 0 rfl ?_
  refine gR_row C dX8_dropRule_1 ?_
  refine z_iconst (v := 5) C dX8_dropRule_4 (by decide) ?_
  refine z_dup2 C dX8_dropRule_5 rfl rfl ?_
  refine lRn_row C 5 (by decide +kernel) (vp_in_iff.mpr (by decide +kernel)) dX8_dropRule_6 ?_
  refine z_iconst (v := 1) C dX8_dropRule_7 (by decide) ?_
  refine z_isub C dX8_dropRule_8 ?_
  refine sRn_row C 5 (by decide +kernel) (vp_in_iff.mpr (by decide +kernel)) dX8_dropRule_9 ?_
  refine z_stR (fun u101 eu101 => ?_)
  have h := h u101 eu101
  refine z_iload_n C dX8_dropRule_10 rfl 1 rfl ?_
  refine cSi (As := [.int x1]) C (c_X8_ruleAt l g x1 _ h) s_X8_ruleAt ml8_116 ⟨Nat.le_of_ble_eq_true rfl, Nat.le_of_ble_eq_true rfl⟩ ⟨Nat.zero_le _, Nat.zero_le _⟩ (Nat.le_of_ble_eq_true rfl) rfl dX8_dropRule_11 ?_
  intro r102 h
  refine z_istore_n (lv1 := [(2, .int r102), (0, .ref (ad 0)), (1, .int x1)]) C dX8_dropRule_14 rfl (by decide) rfl ?_
  refine z_lv (lv1 := [(0, .ref (ad 0)), (2, .int r102)]) [1, 0] rfl ?_
  obtain ⟨n9, h⟩ := h
  exact l_X8_dropRule_15 C hr ad Q n9 u101 r102 h
abbrev j_X8_isTerm (p : Program) (l : Launch) (e : Env) (s : State) (m : MethodId) (args : Array Value) (below : List Frame) (meth : Method) (c : Code) (g : zG) (A : Nat → Prop) (Q : Int32 → Prop) (pc : Nat) (lv : List (Nat × Value)) (st : List Value) : Prop := zJ p l e (zR 1 0 0) s m args below meth c g A 2 (zQi below args s g A 0 0 (fun _ : Unit => []) (fun r _ => Q r)) [] 0 0 pc lv st
def wp_X8_isTerm_52 (Q : Int32 → Prop) (x1 : Int32) : Prop :=
  wp_X8_in ((x1).toInt64) 1 32 (fun r102 => (zBool r102 ∧ Q r102))
set_option maxRecDepth 20000 in
theorem b_X8_isTerm_52 (C : zC p s m args meth c g A cX8_isTerm RX8 2) (hr : meth.sig.returnType = (some .boolean)) (Q : Int32 → Prop) (x1 : Int32) (h : wp_X8_isTerm_52 Q x1) : j_X8_isTerm p l e s m args below meth c g A Q 52 [(1, .int x1)] [] := by
  unfold wp_X8_isTerm_52 at h
  refine z_iload_n C dX8_isTerm_52 rfl 0 rfl ?_
  refine z_i2l C dX8_isTerm_53 ?_
  refine z_lconst (v := 1) C dX8_isTerm_54 (by decide) ?_
  refine z_ldc2 (v := 32) C dX8_isTerm_55 k8_173 ?_
  refine cSi (As := [.long ((x1).toInt64), .long 1, .long 32]) C (c_X8_in l g ((x1).toInt64) 1 32 _ h) s_X8_in ml8_84 ⟨Nat.le_of_ble_eq_true rfl, Nat.le_of_ble_eq_true rfl⟩ ⟨Nat.zero_le _, Nat.zero_le _⟩ (Nat.le_of_ble_eq_true rfl) rfl dX8_isTerm_58 ?_
  intro r102 h
  exact z_zret C hr () rfl h.1 h.2 dX8_isTerm_61
def wp_X8_isTerm (x0 : Int32) (x1 : Int32) (Q : Int32 → Prop) : Prop :=
  ((x0 = 0 → wp_X8_isTerm_52 Q x1) ∧ (x0 = 1 → wp_X8_isTerm_52 Q x1) ∧ (x0 = 2 → wp_X8_in ((x1).toInt64) 1 999 (fun r105 => (zBool r105 ∧ Q r105))) ∧ (x0 = 3 → wp_X8_in ((x1).toInt64) 1 9999 (fun r107 => (zBool r107 ∧ Q r107))) ∧ (x0 = 4 → wp_X8_in ((x1).toInt64) 0 64 (fun r109 => (zBool r109 ∧ Q r109))) ∧ (x0 = 5 → wp_X8_in ((x1).toInt64) 64 4096 (fun r111 => (zBool r111 ∧ Q r111))) ∧ (x0 = 6 → wp_X8_in ((x1).toInt64) 0 1 (fun r113 => (zBool r113 ∧ Q r113))) ∧ (x0 = 7 → wp_X8_in ((x1).toInt64) 0 256 (fun r115 => (zBool r115 ∧ Q r115))) ∧ (x0 = 8 → wp_X8_isTerm_52 Q x1) ∧ (¬ x0 = 0 → ¬ x0 = 1 → ¬ x0 = 2 → ¬ x0 = 3 → ¬ x0 = 4 → ¬ x0 = 5 → ¬ x0 = 6 → ¬ x0 = 7 → ¬ x0 = 8 → Q 0))
set_option maxRecDepth 20000 in
theorem c_X8_isTerm (l : Launch) (g : zG) (x0 : Int32) (x1 : Int32) (Q : Int32 → Prop) (h : wp_X8_isTerm x0 x1 Q) : zMi l yX8_isTerm cX8_isTerm 2 (some .boolean) 1 0 0 g [.int x0, .int x1] [] (fun _ : Unit => []) (fun r _ => Q r) := by
  refine zMi_of RX8 (by decide) rfl [(0, .int x0), (1, .int x1)] rfl (Nat.le_of_ble_eq_true rfl) (fun p e s m args below meth c A C hr hnm => ?_)
  unfold wp_X8_isTerm at h
  refine z_iload_n C dX8_isTerm_0 rfl 0 rfl ?_
  by_cases hx101 : x0 = 0
  · have h := h.1 hx101
    refine z_tIn C dX8_isTerm_1 (0) (by rw [hx101]; decide) (by decide) (by decide) rfl (tgt := 52) (by decide) ?_
    refine z_lv (lv1 := [(1, .int x1)]) [1] rfl ?_
    exact b_X8_isTerm_52 C hr Q x1 h
  have h := h.2
  by_cases hx103 : x0 = 1
  · have h := h.1 hx103
    refine z_tIn C dX8_isTerm_1 (1) (by rw [hx103]; decide) (by decide) (by decide) rfl (tgt := 52) (by decide) ?_
    refine z_lv (lv1 := [(1, .int x1)]) [1] rfl ?_
    exact b_X8_isTerm_52 C hr Q x1 h
  have h := h.2
  by_cases hx104 : x0 = 2
  · have h := h.1 hx104
    refine z_tIn C dX8_isTerm_1 (2) (by rw [hx104]; decide) (by decide) (by decide) rfl (tgt := 62) (by decide) ?_
    refine z_iload_n C dX8_isTerm_62 rfl 1 rfl ?_
    refine z_i2l C dX8_isTerm_63 ?_
    refine z_lconst (v := 1) C dX8_isTerm_64 (by decide) ?_
    refine z_ldc2 (v := 999) C dX8_isTerm_65 k8_175 ?_
    refine cSi (As := [.long ((x1).toInt64), .long 1, .long 999]) C (c_X8_in l g ((x1).toInt64) 1 999 _ h) s_X8_in ml8_84 ⟨Nat.le_of_ble_eq_true rfl, Nat.le_of_ble_eq_true rfl⟩ ⟨Nat.zero_le _, Nat.zero_le _⟩ (Nat.le_of_ble_eq_true rfl) rfl dX8_isTerm_68 ?_
    intro r105 h
    exact z_zret C hr () rfl h.1 h.2 dX8_isTerm_71
  have h := h.2
  by_cases hx106 : x0 = 3
  · have h := h.1 hx106
    refine z_tIn C dX8_isTerm_1 (3) (by rw [hx106]; decide) (by decide) (by decide) rfl (tgt := 72) (by decide) ?_
    refine z_iload_n C dX8_isTerm_72 rfl 1 rfl ?_
    refine z_i2l C dX8_isTerm_73 ?_
    refine z_lconst (v := 1) C dX8_isTerm_74 (by decide) ?_
    refine z_ldc2 (v := 9999) C dX8_isTerm_75 k8_177 ?_
    refine cSi (As := [.long ((x1).toInt64), .long 1, .long 9999]) C (c_X8_in l g ((x1).toInt64) 1 9999 _ h) s_X8_in ml8_84 ⟨Nat.le_of_ble_eq_true rfl, Nat.le_of_ble_eq_true rfl⟩ ⟨Nat.zero_le _, Nat.zero_le _⟩ (Nat.le_of_ble_eq_true rfl) rfl dX8_isTerm_78 ?_
    intro r107 h
    exact z_zret C hr () rfl h.1 h.2 dX8_isTerm_81
  have h := h.2
  by_cases hx108 : x0 = 4
  · have h := h.1 hx108
    refine z_tIn C dX8_isTerm_1 (4) (by rw [hx108]; decide) (by decide) (by decide) rfl (tgt := 82) (by decide) ?_
    refine z_iload_n C dX8_isTerm_82 rfl 1 rfl ?_
    refine z_i2l C dX8_isTerm_83 ?_
    refine z_lconst (v := 0) C dX8_isTerm_84 (by decide) ?_
    refine z_ldc2 (v := 64) C dX8_isTerm_85 k8_179 ?_
    refine cSi (As := [.long ((x1).toInt64), .long 0, .long 64]) C (c_X8_in l g ((x1).toInt64) 0 64 _ h) s_X8_in ml8_84 ⟨Nat.le_of_ble_eq_true rfl, Nat.le_of_ble_eq_true rfl⟩ ⟨Nat.zero_le _, Nat.zero_le _⟩ (Nat.le_of_ble_eq_true rfl) rfl dX8_isTerm_88 ?_
    intro r109 h
    exact z_zret C hr () rfl h.1 h.2 dX8_isTerm_91
  have h := h.2
  by_cases hx110 : x0 = 5
  · have h := h.1 hx110
    refine z_tIn C dX8_isTerm_1 (5) (by rw [hx110]; decide) (by decide) (by decide) rfl (tgt := 92) (by decide) ?_
    refine z_iload_n C dX8_isTerm_92 rfl 1 rfl ?_
    refine z_i2l C dX8_isTerm_93 ?_
    refine z_ldc2 (v := 64) C dX8_isTerm_94 k8_179 ?_
    refine z_ldc2 (v := 4096) C dX8_isTerm_97 k8_181 ?_
    refine cSi (As := [.long ((x1).toInt64), .long 64, .long 4096]) C (c_X8_in l g ((x1).toInt64) 64 4096 _ h) s_X8_in ml8_84 ⟨Nat.le_of_ble_eq_true rfl, Nat.le_of_ble_eq_true rfl⟩ ⟨Nat.zero_le _, Nat.zero_le _⟩ (Nat.le_of_ble_eq_true rfl) rfl dX8_isTerm_100 ?_
    intro r111 h
    exact z_zret C hr () rfl h.1 h.2 dX8_isTerm_103
  have h := h.2
  by_cases hx112 : x0 = 6
  · have h := h.1 hx112
    refine z_tIn C dX8_isTerm_1 (6) (by rw [hx112]; decide) (by decide) (by decide) rfl (tgt := 104) (by decide) ?_
    refine z_iload_n C dX8_isTerm_104 rfl 1 rfl ?_
    refine z_i2l C dX8_isTerm_105 ?_
    refine z_lconst (v := 0) C dX8_isTerm_106 (by decide) ?_
    refine z_lconst (v := 1) C dX8_isTerm_107 (by decide) ?_
    refine cSi (As := [.long ((x1).toInt64), .long 0, .long 1]) C (c_X8_in l g ((x1).toInt64) 0 1 _ h) s_X8_in ml8_84 ⟨Nat.le_of_ble_eq_true rfl, Nat.le_of_ble_eq_true rfl⟩ ⟨Nat.zero_le _, Nat.zero_le _⟩ (Nat.le_of_ble_eq_true rfl) rfl dX8_isTerm_108 ?_
    intro r113 h
    exact z_zret C hr () rfl h.1 h.2 dX8_isTerm_111
  have h := h.2
  by_cases hx114 : x0 = 7
  · have h := h.1 hx114
    refine z_tIn C dX8_isTerm_1 (7) (by rw [hx114]; decide) (by decide) (by decide) rfl (tgt := 112) (by decide) ?_
    refine z_iload_n C dX8_isTerm_112 rfl 1 rfl ?_
    refine z_i2l C dX8_isTerm_113 ?_
    refine z_lconst (v := 0) C dX8_isTerm_114 (by decide) ?_
    refine z_ldc2 (v := 256) C dX8_isTerm_115 k8_183 ?_
    refine cSi (As := [.long ((x1).toInt64), .long 0, .long 256]) C (c_X8_in l g ((x1).toInt64) 0 256 _ h) s_X8_in ml8_84 ⟨Nat.le_of_ble_eq_true rfl, Nat.le_of_ble_eq_true rfl⟩ ⟨Nat.zero_le _, Nat.zero_le _⟩ (Nat.le_of_ble_eq_true rfl) rfl dX8_isTerm_118 ?_
    intro r115 h
    exact z_zret C hr () rfl h.1 h.2 dX8_isTerm_121
  have h := h.2
  by_cases hx116 : x0 = 8
  · have h := h.1 hx116
    refine z_tIn C dX8_isTerm_1 (8) (by rw [hx116]; decide) (by decide) (by decide) rfl (tgt := 52) (by decide) ?_
    refine z_lv (lv1 := [(1, .int x1)]) [1] rfl ?_
    exact b_X8_isTerm_52 C hr Q x1 h
  have h := h.2
  have h := h hx101 hx103 hx104 hx106 hx108 hx110 hx112 hx114 hx116
  have thx101 := lv_neT (a := 0) hx101 (by decide)
  have thx103 := lv_neT (a := 1) hx103 (by decide)
  have thx104 := lv_neT (a := 2) hx104 (by decide)
  have thx106 := lv_neT (a := 3) hx106 (by decide)
  have thx108 := lv_neT (a := 4) hx108 (by decide)
  have thx110 := lv_neT (a := 5) hx110 (by decide)
  have thx112 := lv_neT (a := 6) hx112 (by decide)
  have thx114 := lv_neT (a := 7) hx114 (by decide)
  have thx116 := lv_neT (a := 8) hx116 (by decide)
  refine z_tOut C dX8_isTerm_1 (by omega) (tgt := 122) (by decide) ?_
  refine z_iconst (v := 0) C dX8_isTerm_122 (by decide) ?_
  exact z_zret C hr () rfl (Or.inl rfl) h dX8_isTerm_123
abbrev j_X8_hasNext (p : Program) (l : Launch) (e : Env) (s : State) (m : MethodId) (args : Array Value) (below : List Frame) (meth : Method) (c : Code) (g : zG) (A : Nat → Prop) (ad : Nat → Nat) (Q : Int32 → RS → Prop) (u : RS) (pc : Nat) (lv : List (Nat × Value)) (st : List Value) : Prop := zJ p l e (zR 1 0 0) s m args below meth c g A 3 (zQi below args s g A 0 0 (wR g ad) Q) (wR g ad u) 0 0 pc lv st
def wp_X8_hasNext_23 (Q : Int32 → RS → Prop) (u : RS) (t0 : Int32) : Prop :=
  (zBool t0 ∧ Q t0 u)
set_option maxRecDepth 20000 in
theorem b_X8_hasNext_23 (C : zC p s m args meth c g A cX8_hasNext RX8 3) (hr : meth.sig.returnType = (some .boolean)) (ad : Nat → Nat) (Q : Int32 → RS → Prop) (u : RS) (t0 : Int32) (h : wp_X8_hasNext_23 Q u t0) : j_X8_hasNext p l e s m args below meth c g A ad Q u 23 [(0, .ref (ad 0))] [.int t0] := by
  unfold wp_X8_hasNext_23 at h
  exact z_zret C hr u rfl h.1 h.2 dX8_hasNext_23
def wp_X8_hasNext (u : RS) (x1 : Int32) (x2 : Int32) (Q : Int32 → RS → Prop) : Prop :=
  wp_X8_flowAt x1 (fun r101 => vp_in (r101 + 5) 1065 ∧ ((1000000000 < (u.1 3 (zn (r101 + 5))) + x2 → wp_X8_hasNext_23 Q u 0) ∧ (¬ 1000000000 < (u.1 3 (zn (r101 + 5))) + x2 → wp_X8_hasNext_23 Q u 1)))
set_option maxRecDepth 20000 in
theorem c_X8_hasNext (l : Launch) (g : zG) (ad : Nat → Nat) (u : RS) (x1 : Int32) (x2 : Int32) (Q : Int32 → RS → Prop) (h : wp_X8_hasNext u x1 x2 Q) : zMi l yX8_hasNext cX8_hasNext 3 (some .boolean) 1 0 0 g [.ref (ad 0), .int x1, .int x2] (wR g ad u) (wR g ad) Q := by
  refine zMi_of RX8 (by decide) rfl [(0, .ref (ad 0)), (1, .int x1), (2, .int x2)] rfl (Nat.le_of_ble_eq_true rfl) (fun p e s m args below meth c A C hr hnm => ?_)
  unfold wp_X8_hasNext at h
  refine z_aload_n C dX8_hasNext_0 rfl 0 rfl ?_
  refine gR_row C dX8_hasNext_1 ?_
  refine z_iload_n C dX8_hasNext_4 rfl 1 rfl ?_
  refine cSi (As := [.int x1]) C (c_X8_flowAt l g x1 _ h) s_X8_flowAt ml8_102 ⟨Nat.le_of_ble_eq_true rfl, Nat.le_of_ble_eq_true rfl⟩ ⟨Nat.zero_le _, Nat.zero_le _⟩ (Nat.le_of_ble_eq_true rfl) rfl dX8_hasNext_5 ?_
  intro r101 h
  refine z_iconst (v := 5) C dX8_hasNext_8 (by decide) ?_
  refine z_iadd C dX8_hasNext_9 ?_
  obtain ⟨hi102, h⟩ := h
  refine lR_row C hi102 dX8_hasNext_10 ?_
  refine z_iload_n C dX8_hasNext_11 rfl 2 rfl ?_
  refine z_iadd C dX8_hasNext_12 ?_
  refine z_ldc (v := 1000000000) C dX8_hasNext_13 k8_195 ?_
  refine z_icmp_gt C dX8_hasNext_15 (tgt := 22) (by decide) (fun hc103 => ?_) (fun hc103 => ?_)
  · have h := h.1 hc103
    refine z_iconst (v := 0) C dX8_hasNext_22 (by decide) ?_
    refine z_lv (lv1 := [(0, .ref (ad 0))]) [0] rfl ?_
    exact b_X8_hasNext_23 C hr ad Q u 0 h
  · have h := h.2 hc103
    refine z_iconst (v := 1) C dX8_hasNext_18 (by decide) ?_
    refine z_goto C dX8_hasNext_19 (tgt := 23) (by decide) ?_
    refine z_lv (lv1 := [(0, .ref (ad 0))]) [0] rfl ?_
    exact b_X8_hasNext_23 C hr ad Q u 1 h
abbrev j_X8_segment (p : Program) (l : Launch) (e : Env) (s : State) (m : MethodId) (args : Array Value) (below : List Frame) (meth : Method) (c : Code) (g : zG) (A : Nat → Prop) (ad : Nat → Nat) (Q : Int32 → RS → Prop) (u : RS) (pc : Nat) (lv : List (Nat × Value)) (st : List Value) : Prop := zJ p l e (zR 1 0 0) s m args below meth c g A 3 (zQi below args s g A 0 0 (wR g ad) Q) (wR g ad u) 0 0 pc lv st
def wp_X8_segment_65 (Q : Int32 → RS → Prop) (u : RS) (t0 : Int32) : Prop :=
  Q t0 u
set_option maxRecDepth 20000 in
theorem b_X8_segment_65 (C : zC p s m args meth c g A cX8_segment RX8 3) (hr : meth.sig.returnType = (some .int)) (ad : Nat → Nat) (Q : Int32 → RS → Prop) (u : RS) (t0 : Int32) (h : wp_X8_segment_65 Q u t0) : j_X8_segment p l e s m args below meth c g A ad Q u 65 [(0, .ref (ad 0))] [.int t0] := by
  unfold wp_X8_segment_65 at h
  exact z_iret C hr u rfl h dX8_segment_65
def wp_X8_segment_64 (Q : Int32 → RS → Prop) (u : RS) : Prop :=
  wp_X8_segment_65 Q u (-1)
set_option maxRecDepth 20000 in
theorem b_X8_segment_64 (C : zC p s m args meth c g A cX8_segment RX8 3) (hr : meth.sig.returnType = (some .int)) (ad : Nat → Nat) (Q : Int32 → RS → Prop) (u : RS) (h : wp_X8_segment_64 Q u) : j_X8_segment p l e s m args below meth c g A ad Q u 64 [(0, .ref (ad 0))] [] := by
  unfold wp_X8_segment_64 at h
  refine z_iconst (v := (-1)) C dX8_segment_64 (by decide) ?_
  exact b_X8_segment_65 C hr ad Q u (-1) h
def wp_X8_segment (u : RS) (x1 : Int32) (x2 : Int32) (Q : Int32 → RS → Prop) : Prop :=
  ∀ u101 : RS, u101 = rN u 0 0 → wp_X8_in ((x1).toInt64) 0 (((u101.1 3 13).toInt64) - 1) (fun r102 => ((r102 = 0 → wp_X8_segment_64 Q u101) ∧ (¬ r102 = 0 → wp_X8_in ((x2).toInt64) 0 5 (fun r104 => ((r104 = 0 → wp_X8_segment_64 Q u101) ∧ (¬ r104 = 0 → vp_in ((993 + (6 * (((u101.1 3 13) - 1) - x1))) + x2) 1065 ∧ wp_X8_segment_65 Q u101 (u101.1 3 (zn ((993 + (6 * (((u101.1 3 13) - 1) - x1))) + x2)))))))))
set_option maxRecDepth 20000 in
theorem c_X8_segment (l : Launch) (g : zG) (ad : Nat → Nat) (u : RS) (x1 : Int32) (x2 : Int32) (Q : Int32 → RS → Prop) (h : wp_X8_segment u x1 x2 Q) : zMi l yX8_segment cX8_segment 3 (some .int) 1 0 0 g [.ref (ad 0), .int x1, .int x2] (wR g ad u) (wR g ad) Q := by
  refine zMi_of RX8 (by decide) rfl [(0, .ref (ad 0)), (1, .int x1), (2, .int x2)] rfl (Nat.le_of_ble_eq_true rfl) (fun p e s m args below meth c A C hr hnm => ?_)
  unfold wp_X8_segment at h
  refine z_aload_n C dX8_segment_0 rfl 0 rfl ?_
  refine z_iconst (v := 0) C dX8_segment_1 (by decide) ?_
  refine pR_thrown C dX8_segment_2 ?_
  refine z_stR (fun u101 eu101 => ?_)
  have h := h u101 eu101
  refine z_iload_n C dX8_segment_5 rfl 1 rfl ?_
  refine z_i2l C dX8_segment_6 ?_
  refine z_lconst (v := 0) C dX8_segment_7 (by decide) ?_
  refine z_aload_n C dX8_segment_8 rfl 0 rfl ?_
  refine gR_row C dX8_segment_9 ?_
  refine z_bipush (v := 13) C dX8_segment_12 (by decide) ?_
  refine lRn_row C 13 (by decide +kernel) (vp_in_iff.mpr (by decide +kernel)) dX8_segment_14 ?_
  refine z_i2l C dX8_segment_15 ?_
  refine z_lconst (v := 1) C dX8_segment_16 (by decide) ?_
  refine z_lsub C dX8_segment_17 ?_
  refine cSi (As := [.long ((x1).toInt64), .long 0, .long (((u101.1 3 13).toInt64) - 1)]) C (c_X8_in l g ((x1).toInt64) 0 (((u101.1 3 13).toInt64) - 1) _ h) s_X8_in ml8_84 ⟨Nat.le_of_ble_eq_true rfl, Nat.le_of_ble_eq_true rfl⟩ ⟨Nat.zero_le _, Nat.zero_le _⟩ (Nat.le_of_ble_eq_true rfl) rfl dX8_segment_18 ?_
  intro r102 h
  refine z_if_eq C dX8_segment_21 (tgt := 64) (by decide) (fun hc103 => ?_) (fun hc103 => ?_)
  · have h := h.1 hc103
    refine z_lv (lv1 := [(0, .ref (ad 0))]) [0] rfl ?_
    exact b_X8_segment_64 C hr ad Q u101 h
  · have h := h.2 hc103
    refine z_iload_n C dX8_segment_24 rfl 2 rfl ?_
    refine z_i2l C dX8_segment_25 ?_
    refine z_lconst (v := 0) C dX8_segment_26 (by decide) ?_
    refine z_ldc2 (v := 5) C dX8_segment_27 k8_253 ?_
    refine cSi (As := [.long ((x2).toInt64), .long 0, .long 5]) C (c_X8_in l g ((x2).toInt64) 0 5 _ h) s_X8_in ml8_84 ⟨Nat.le_of_ble_eq_true rfl, Nat.le_of_ble_eq_true rfl⟩ ⟨Nat.zero_le _, Nat.zero_le _⟩ (Nat.le_of_ble_eq_true rfl) rfl dX8_segment_30 ?_
    intro r104 h
    refine z_if_eq C dX8_segment_33 (tgt := 64) (by decide) (fun hc105 => ?_) (fun hc105 => ?_)
    · have h := h.1 hc105
      refine z_lv (lv1 := [(0, .ref (ad 0))]) [0] rfl ?_
      exact b_X8_segment_64 C hr ad Q u101 h
    · have h := h.2 hc105
      refine z_aload_n C dX8_segment_36 rfl 0 rfl ?_
      refine gR_row C dX8_segment_37 ?_
      refine z_sipush (v := 993) C dX8_segment_40 (by decide) ?_
      refine z_bipush (v := 6) C dX8_segment_43 (by decide) ?_
      refine z_aload_n C dX8_segment_45 rfl 0 rfl ?_
      refine gR_row C dX8_segment_46 ?_
      refine z_bipush (v := 13) C dX8_segment_49 (by decide) ?_
      refine lRn_row C 13 (by decide +kernel) (vp_in_iff.mpr (by decide +kernel)) dX8_segment_51 ?_
      refine z_iconst (v := 1) C dX8_segment_52 (by decide) ?_
      refine z_isub C dX8_segment_53 ?_
      refine z_iload_n C dX8_segment_54 rfl 1 rfl ?_
      refine z_isub C dX8_segment_55 ?_
      refine z_imul C dX8_segment_56 ?_
      refine z_iadd C dX8_segment_57 ?_
      refine z_iload_n C dX8_segment_58 rfl 2 rfl ?_
      refine z_iadd C dX8_segment_59 ?_
      obtain ⟨hi106, h⟩ := h
      refine lR_row C hi106 dX8_segment_60 ?_
      refine z_goto C dX8_segment_61 (tgt := 65) (by decide) ?_
      refine z_lv (lv1 := [(0, .ref (ad 0))]) [0] rfl ?_
      exact b_X8_segment_65 C hr ad Q u101 (u101.1 3 (zn ((993 + (6 * (((u101.1 3 13) - 1) - x1))) + x2))) h
abbrev j_X8_given (p : Program) (l : Launch) (e : Env) (s : State) (m : MethodId) (args : Array Value) (below : List Frame) (meth : Method) (c : Code) (g : zG) (A : Nat → Prop) (ad : Nat → Nat) (Q : Int64 → RS → Prop) (u : RS) (pc : Nat) (lv : List (Nat × Value)) (st : List Value) : Prop := zJ p l e (zR 1 0 0) s m args below meth c g A 2 (zQl below args s g A 0 0 (wR g ad) Q) (wR g ad u) 0 0 pc lv st
def wp_X8_given_29 (Q : Int64 → RS → Prop) (u : RS) (t0 : Int64) : Prop :=
  Q t0 u
set_option maxRecDepth 20000 in
theorem b_X8_given_29 (C : zC p s m args meth c g A cX8_given RX8 2) (hr : meth.sig.returnType = (some .long)) (ad : Nat → Nat) (Q : Int64 → RS → Prop) (u : RS) (t0 : Int64) (h : wp_X8_given_29 Q u t0) : j_X8_given p l e s m args below meth c g A ad Q u 29 [(0, .ref (ad 0))] [.long t0] := by
  unfold wp_X8_given_29 at h
  exact z_lret C hr u rfl h dX8_given_29
def wp_X8_given (u : RS) (x1 : Int32) (Q : Int64 → RS → Prop) : Prop :=
  ∀ u101 : RS, u101 = rN u 0 0 → wp_X8_in ((x1).toInt64) 0 6 (fun r102 => ((r102 = 0 → wp_X8_given_29 Q u101 (-1)) ∧ (¬ r102 = 0 → vp_in x1 7 ∧ wp_X8_given_29 Q u101 (u101.2 4 (zn x1)))))
set_option maxRecDepth 20000 in
theorem c_X8_given (l : Launch) (g : zG) (ad : Nat → Nat) (u : RS) (x1 : Int32) (Q : Int64 → RS → Prop) (h : wp_X8_given u x1 Q) : zMl l yX8_given cX8_given 2 (some .long) 1 0 0 g [.ref (ad 0), .int x1] (wR g ad u) (wR g ad) Q := by
  refine zMl_of RX8 (by decide) rfl [(0, .ref (ad 0)), (1, .int x1)] rfl (Nat.le_of_ble_eq_true rfl) (fun p e s m args below meth c A C hr hnm => ?_)
  unfold wp_X8_given at h
  refine z_aload_n C dX8_given_0 rfl 0 rfl ?_
  refine z_iconst (v := 0) C dX8_given_1 (by decide) ?_
  refine pR_thrown C dX8_given_2 ?_
  refine z_stR (fun u101 eu101 => ?_)
  have h := h u101 eu101
  refine z_iload_n C dX8_given_5 rfl 1 rfl ?_
  refine z_i2l C dX8_given_6 ?_
  refine z_lconst (v := 0) C dX8_given_7 (by decide) ?_
  refine z_ldc2 (v := 6) C dX8_given_8 k8_255 ?_
  refine cSi (As := [.long ((x1).toInt64), .long 0, .long 6]) C (c_X8_in l g ((x1).toInt64) 0 6 _ h) s_X8_in ml8_84 ⟨Nat.le_of_ble_eq_true rfl, Nat.le_of_ble_eq_true rfl⟩ ⟨Nat.zero_le _, Nat.zero_le _⟩ (Nat.le_of_ble_eq_true rfl) rfl dX8_given_11 ?_
  intro r102 h
  refine z_if_eq C dX8_given_14 (tgt := 26) (by decide) (fun hc103 => ?_) (fun hc103 => ?_)
  · have h := h.1 hc103
    refine z_ldc2 (v := (-1)) C dX8_given_26 k8_162 ?_
    refine z_lv (lv1 := [(0, .ref (ad 0))]) [0] rfl ?_
    exact b_X8_given_29 C hr ad Q u101 (-1) h
  · have h := h.2 hc103
    refine z_aload_n C dX8_given_17 rfl 0 rfl ?_
    refine gR_sums C dX8_given_18 ?_
    refine z_iload_n C dX8_given_21 rfl 1 rfl ?_
    obtain ⟨hi104, h⟩ := h
    refine lR_sums C hi104 dX8_given_22 ?_
    refine z_goto C dX8_given_23 (tgt := 29) (by decide) ?_
    refine z_lv (lv1 := [(0, .ref (ad 0))]) [0] rfl ?_
    exact b_X8_given_29 C hr ad Q u101 (u101.2 4 (zn x1)) h
abbrev j_X8_ratio (p : Program) (l : Launch) (e : Env) (s : State) (m : MethodId) (args : Array Value) (below : List Frame) (meth : Method) (c : Code) (g : zG) (A : Nat → Prop) (ad : Nat → Nat) (Q : Int64 → RS → Prop) (u : RS) (pc : Nat) (lv : List (Nat × Value)) (st : List Value) : Prop := zJ p l e (zR 1 0 0) s m args below meth c g A 6 (zQl below args s g A 0 0 (wR g ad) Q) (wR g ad u) 0 0 pc lv st
def wp_X8_ratio_28 (Q : Int64 → RS → Prop) (u : RS) : Prop :=
  Q (-1) u
set_option maxRecDepth 20000 in
theorem b_X8_ratio_28 (C : zC p s m args meth c g A cX8_ratio RX8 6) (hr : meth.sig.returnType = (some .long)) (ad : Nat → Nat) (Q : Int64 → RS → Prop) (u : RS) (h : wp_X8_ratio_28 Q u) : j_X8_ratio p l e s m args below meth c g A ad Q u 28 [(0, .ref (ad 0))] [] := by
  unfold wp_X8_ratio_28 at h
  refine z_ldc2 (v := (-1)) C dX8_ratio_28 k8_162 ?_
  exact z_lret C hr u rfl h dX8_ratio_31
def wp_X8_ratio_87 (Q : Int64 → RS → Prop) (u : RS) (y2 : Int64) (y4 : Int64) (t0 : Int64) : Prop :=
  wp_X8_common y2 y4 (fun r108 => ¬ r108 = 0 ∧ Q (t0 / r108) u)
set_option maxRecDepth 20000 in
theorem b_X8_ratio_87 (C : zC p s m args meth c g A cX8_ratio RX8 6) (hr : meth.sig.returnType = (some .long)) (ad : Nat → Nat) (Q : Int64 → RS → Prop) (u : RS) (y2 : Int64) (y4 : Int64) (t0 : Int64) (h : wp_X8_ratio_87 Q u y2 y4 t0) : j_X8_ratio p l e s m args below meth c g A ad Q u 87 [(0, .ref (ad 0)), (2, .long y2), (4, .long y4)] [.long t0] := by
  unfold wp_X8_ratio_87 at h
  refine z_lload_n C dX8_ratio_87 rfl 1 rfl ?_
  refine z_lload C dX8_ratio_88 2 rfl ?_
  refine cSl (As := [.long y2, .long y4]) C (c_X8_common l g y2 y4 _ h) s_X8_common ml8_265 ⟨Nat.le_of_ble_eq_true rfl, Nat.le_of_ble_eq_true rfl⟩ ⟨Nat.zero_le _, Nat.zero_le _⟩ (Nat.le_of_ble_eq_true rfl) rfl dX8_ratio_90 ?_
  intro r108 h
  obtain ⟨hy109, h⟩ := h
  refine z_ldiv C dX8_ratio_93 hy109 ?_
  exact z_lret C hr u rfl h dX8_ratio_94
def wp_X8_ratio_73 (Q : Int64 → RS → Prop) (u : RS) (x1 : Int32) (y2 : Int64) (t0 : Int64) : Prop :=
  ((¬ x1 - x1 / 2 * 2 = 0 → wp_X8_ratio_87 Q u y2 t0 t0) ∧ (x1 - x1 / 2 * 2 = 0 → wp_X8_ratio_87 Q u y2 t0 y2))
set_option maxRecDepth 20000 in
theorem b_X8_ratio_73 (C : zC p s m args meth c g A cX8_ratio RX8 6) (hr : meth.sig.returnType = (some .long)) (ad : Nat → Nat) (Q : Int64 → RS → Prop) (u : RS) (x1 : Int32) (y2 : Int64) (t0 : Int64) (h : wp_X8_ratio_73 Q u x1 y2 t0) : j_X8_ratio p l e s m args below meth c g A ad Q u 73 [(0, .ref (ad 0)), (1, .int x1), (2, .long y2)] [.long t0] := by
  unfold wp_X8_ratio_73 at h
  refine z_lstore (lv1 := [(4, .long t0), (0, .ref (ad 0)), (1, .int x1), (2, .long y2)]) C dX8_ratio_73 (by decide) rfl ?_
  refine z_iload_n C dX8_ratio_75 rfl 2 rfl ?_
  refine z_iconst (v := 2) C dX8_ratio_76 (by decide) ?_
  refine z_irem C dX8_ratio_77 (by decide) ?_
  refine z_if_ne C dX8_ratio_78 (tgt := 85) (by decide) (fun hc107 => ?_) (fun hc107 => ?_)
  · have h := h.1 hc107
    refine z_lload C dX8_ratio_85 0 rfl ?_
    refine z_lv (lv1 := [(0, .ref (ad 0)), (2, .long y2), (4, .long t0)]) [1, 3, 0] rfl ?_
    exact b_X8_ratio_87 C hr ad Q u y2 t0 t0 h
  · have h := h.2 hc107
    refine z_lload_n C dX8_ratio_81 rfl 3 rfl ?_
    refine z_goto C dX8_ratio_82 (tgt := 87) (by decide) ?_
    refine z_lv (lv1 := [(0, .ref (ad 0)), (2, .long y2), (4, .long t0)]) [1, 3, 0] rfl ?_
    exact b_X8_ratio_87 C hr ad Q u y2 t0 y2 h
def wp_X8_ratio_52 (Q : Int64 → RS → Prop) (u : RS) (x1 : Int32) (t0 : Int64) : Prop :=
  ((2 ≤ x1 → wp_X8_ratio_73 Q u x1 t0 (u.2 4 0)) ∧ (¬ 2 ≤ x1 → wp_X8_ratio_73 Q u x1 t0 (u.2 4 1)))
set_option maxRecDepth 20000 in
theorem b_X8_ratio_52 (C : zC p s m args meth c g A cX8_ratio RX8 6) (hr : meth.sig.returnType = (some .long)) (ad : Nat → Nat) (Q : Int64 → RS → Prop) (u : RS) (x1 : Int32) (t0 : Int64) (h : wp_X8_ratio_52 Q u x1 t0) : j_X8_ratio p l e s m args below meth c g A ad Q u 52 [(0, .ref (ad 0)), (1, .int x1)] [.long t0] := by
  unfold wp_X8_ratio_52 at h
  refine z_lstore_n (lv1 := [(2, .long t0), (0, .ref (ad 0)), (1, .int x1)]) C dX8_ratio_52 rfl (by decide) rfl ?_
  refine z_iload_n C dX8_ratio_53 rfl 2 rfl ?_
  refine z_iconst (v := 2) C dX8_ratio_54 (by decide) ?_
  refine z_icmp_ge C dX8_ratio_55 (tgt := 67) (by decide) (fun hc106 => ?_) (fun hc106 => ?_)
  · have h := h.1 hc106
    refine z_aload_n C dX8_ratio_67 rfl 1 rfl ?_
    refine gR_sums C dX8_ratio_68 ?_
    refine z_iconst (v := 0) C dX8_ratio_71 (by decide) ?_
    refine lRn_sums C 0 (by decide +kernel) (vp_in_iff.mpr (by decide +kernel)) dX8_ratio_72 ?_
    refine z_lv (lv1 := [(0, .ref (ad 0)), (1, .int x1), (2, .long t0)]) [1, 2, 0] rfl ?_
    exact b_X8_ratio_73 C hr ad Q u x1 t0 (u.2 4 0) h
  · have h := h.2 hc106
    refine z_aload_n C dX8_ratio_58 rfl 1 rfl ?_
    refine gR_sums C dX8_ratio_59 ?_
    refine z_iconst (v := 1) C dX8_ratio_62 (by decide) ?_
    refine lRn_sums C 1 (by decide +kernel) (vp_in_iff.mpr (by decide +kernel)) dX8_ratio_63 ?_
    refine z_goto C dX8_ratio_64 (tgt := 73) (by decide) ?_
    refine z_lv (lv1 := [(0, .ref (ad 0)), (1, .int x1), (2, .long t0)]) [1, 2, 0] rfl ?_
    exact b_X8_ratio_73 C hr ad Q u x1 t0 (u.2 4 1) h
def wp_X8_ratio (u : RS) (x1 : Int32) (Q : Int64 → RS → Prop) : Prop :=
  ∀ u101 : RS, u101 = rN u 0 0 → ((lg_cmp (u101.2 4 0) 0 = 0 → wp_X8_ratio_28 Q u101) ∧ (¬ lg_cmp (u101.2 4 0) 0 = 0 → wp_X8_in ((x1).toInt64) 0 3 (fun r103 => ((¬ r103 = 0 → ((2 ≤ x1 → wp_X8_ratio_52 Q u101 x1 (u101.2 4 1)) ∧ (¬ 2 ≤ x1 → wp_X8_ratio_52 Q u101 x1 (u101.2 4 2)))) ∧ (r103 = 0 → wp_X8_ratio_28 Q u101)))))
set_option maxRecDepth 20000 in
theorem c_X8_ratio (l : Launch) (g : zG) (ad : Nat → Nat) (u : RS) (x1 : Int32) (Q : Int64 → RS → Prop) (h : wp_X8_ratio u x1 Q) : zMl l yX8_ratio cX8_ratio 6 (some .long) 1 0 0 g [.ref (ad 0), .int x1] (wR g ad u) (wR g ad) Q := by
  refine zMl_of RX8 (by decide) rfl [(0, .ref (ad 0)), (1, .int x1)] rfl (Nat.le_of_ble_eq_true rfl) (fun p e s m args below meth c A C hr hnm => ?_)
  unfold wp_X8_ratio at h
  refine z_aload_n C dX8_ratio_0 rfl 0 rfl ?_
  refine z_iconst (v := 0) C dX8_ratio_1 (by decide) ?_
  refine pR_thrown C dX8_ratio_2 ?_
  refine z_stR (fun u101 eu101 => ?_)
  have h := h u101 eu101
  refine z_aload_n C dX8_ratio_5 rfl 0 rfl ?_
  refine gR_sums C dX8_ratio_6 ?_
  refine z_iconst (v := 0) C dX8_ratio_9 (by decide) ?_
  refine lRn_sums C 0 (by decide +kernel) (vp_in_iff.mpr (by decide +kernel)) dX8_ratio_10 ?_
  refine z_lconst (v := 0) C dX8_ratio_11 (by decide) ?_
  refine z_lcmp C dX8_ratio_12 ?_
  refine z_if_eq C dX8_ratio_13 (tgt := 28) (by decide) (fun hc102 => ?_) (fun hc102 => ?_)
  · have h := h.1 hc102
    refine z_lv (lv1 := [(0, .ref (ad 0))]) [0] rfl ?_
    exact b_X8_ratio_28 C hr ad Q u101 h
  · have h := h.2 hc102
    refine z_iload_n C dX8_ratio_16 rfl 1 rfl ?_
    refine z_i2l C dX8_ratio_17 ?_
    refine z_lconst (v := 0) C dX8_ratio_18 (by decide) ?_
    refine z_ldc2 (v := 3) C dX8_ratio_19 k8_88 ?_
    refine cSi (As := [.long ((x1).toInt64), .long 0, .long 3]) C (c_X8_in l g ((x1).toInt64) 0 3 _ h) s_X8_in ml8_84 ⟨Nat.le_of_ble_eq_true rfl, Nat.le_of_ble_eq_true rfl⟩ ⟨Nat.zero_le _, Nat.zero_le _⟩ (Nat.le_of_ble_eq_true rfl) rfl dX8_ratio_22 ?_
    intro r103 h
    refine z_if_ne C dX8_ratio_25 (tgt := 32) (by decide) (fun hc104 => ?_) (fun hc104 => ?_)
    · have h := h.1 hc104
      refine z_iload_n C dX8_ratio_32 rfl 1 rfl ?_
      refine z_iconst (v := 2) C dX8_ratio_33 (by decide) ?_
      refine z_icmp_ge C dX8_ratio_34 (tgt := 46) (by decide) (fun hc105 => ?_) (fun hc105 => ?_)
      · have h := h.1 hc105
        refine z_aload_n C dX8_ratio_46 rfl 0 rfl ?_
        refine gR_sums C dX8_ratio_47 ?_
        refine z_iconst (v := 1) C dX8_ratio_50 (by decide) ?_
        refine lRn_sums C 1 (by decide +kernel) (vp_in_iff.mpr (by decide +kernel)) dX8_ratio_51 ?_
        exact b_X8_ratio_52 C hr ad Q u101 x1 (u101.2 4 1) h
      · have h := h.2 hc105
        refine z_aload_n C dX8_ratio_37 rfl 0 rfl ?_
        refine gR_sums C dX8_ratio_38 ?_
        refine z_iconst (v := 2) C dX8_ratio_41 (by decide) ?_
        refine lRn_sums C 2 (by decide +kernel) (vp_in_iff.mpr (by decide +kernel)) dX8_ratio_42 ?_
        refine z_goto C dX8_ratio_43 (tgt := 52) (by decide) ?_
        exact b_X8_ratio_52 C hr ad Q u101 x1 (u101.2 4 2) h
    · have h := h.2 hc104
      refine z_lv (lv1 := [(0, .ref (ad 0))]) [0] rfl ?_
      exact b_X8_ratio_28 C hr ad Q u101 h
abbrev j_X8_alike (p : Program) (l : Launch) (e : Env) (s : State) (m : MethodId) (args : Array Value) (below : List Frame) (meth : Method) (c : Code) (g : zG) (A : Nat → Prop) (ad : Nat → Nat) (Q : Int32 → RS → Prop) (u : RS) (pc : Nat) (lv : List (Nat × Value)) (st : List Value) : Prop := zJ p l e (zR 1 0 0) s m args below meth c g A 3 (zQi below args s g A 0 0 (wR g ad) Q) (wR g ad u) 0 0 pc lv st
def wp_X8_alike_21 (Q : Int32 → RS → Prop) (B7 : RS → Int32 → Prop) (B21 : RS → Int32 → Int32 → Prop) (u : RS) (x1 : Int32) (x2 : Int32) : Prop :=
  ((u.1 3 4 ≤ x2 → ∀ x105 : Int32, x105 = x1 + 1 → B7 u x105) ∧ (¬ u.1 3 4 ≤ x2 → wp_X8_flowAt x1 (fun r106 => vp_in (r106 + 14) 1065 ∧ wp_X8_flowAt x2 (fun r108 => vp_in (r108 + 14) 1065 ∧ ((¬ u.1 3 (zn (r106 + 14)) = u.1 3 (zn (r108 + 14)) → ∀ x111 : Int32, x111 = x2 + 1 → B21 u x1 x111) ∧ (u.1 3 (zn (r106 + 14)) = u.1 3 (zn (r108 + 14)) → Q ((100 * x1) + x2) u))))))
set_option maxRecDepth 20000 in
theorem b_X8_alike_21 (C : zC p s m args meth c g A cX8_alike RX8 3) (hr : meth.sig.returnType = (some .int)) (ad : Nat → Nat) (Q : Int32 → RS → Prop) (B7 : RS → Int32 → Prop) (hB7 : ∀ (u : RS) (x1 : Int32), B7 u x1 → j_X8_alike p l e s m args below meth c g A ad Q u 7 [(0, .ref (ad 0)), (1, .int x1)] []) (B21 : RS → Int32 → Int32 → Prop) (hB21 : ∀ (u : RS) (x1 : Int32) (x2 : Int32), B21 u x1 x2 → j_X8_alike p l e s m args below meth c g A ad Q u 21 [(0, .ref (ad 0)), (1, .int x1), (2, .int x2)] []) (u : RS) (x1 : Int32) (x2 : Int32) (h : wp_X8_alike_21 Q B7 B21 u x1 x2) : j_X8_alike p l e s m args below meth c g A ad Q u 21 [(0, .ref (ad 0)), (1, .int x1), (2, .int x2)] [] := by
  unfold wp_X8_alike_21 at h
  refine z_iload_n C dX8_alike_21 rfl 2 rfl ?_
  refine z_aload_n C dX8_alike_22 rfl 0 rfl ?_
  refine gR_row C dX8_alike_23 ?_
  refine z_iconst (v := 4) C dX8_alike_26 (by decide) ?_
  refine lRn_row C 4 (by decide +kernel) (vp_in_iff.mpr (by decide +kernel)) dX8_alike_27 ?_
  refine z_icmp_ge C dX8_alike_28 (tgt := 71) (by decide) (fun hc104 => ?_) (fun hc104 => ?_)
  · have h := h.1 hc104
    obtain ⟨x105, ex105⟩ : ∃ y : Int32, y = x1 + 1 := ⟨_, rfl⟩
    have h := h x105 ex105
    refine z_iinc (v := x105) (lv1 := [(1, .int x105), (0, .ref (ad 0)), (2, .int x2)]) C dX8_alike_71 1 rfl (by rw [ex105]; rfl) (by decide) rfl ?_
    refine z_goto C dX8_alike_74 (tgt := 7) (by decide) ?_
    refine z_lv (lv1 := [(0, .ref (ad 0)), (1, .int x105)]) [1, 0] rfl ?_
    exact hB7 u x105 h
  · have h := h.2 hc104
    refine z_aload_n C dX8_alike_31 rfl 0 rfl ?_
    refine gR_row C dX8_alike_32 ?_
    refine z_iload_n C dX8_alike_35 rfl 1 rfl ?_
    refine cSi (As := [.int x1]) C (c_X8_flowAt l g x1 _ h) s_X8_flowAt ml8_102 ⟨Nat.le_of_ble_eq_true rfl, Nat.le_of_ble_eq_true rfl⟩ ⟨Nat.zero_le _, Nat.zero_le _⟩ (Nat.le_of_ble_eq_true rfl) rfl dX8_alike_36 ?_
    intro r106 h
    refine z_bipush (v := 14) C dX8_alike_39 (by decide) ?_
    refine z_iadd C dX8_alike_41 ?_
    obtain ⟨hi107, h⟩ := h
    refine lR_row C hi107 dX8_alike_42 ?_
    refine z_aload_n C dX8_alike_43 rfl 0 rfl ?_
    refine gR_row C dX8_alike_44 ?_
    refine z_iload_n C dX8_alike_47 rfl 2 rfl ?_
    refine cSi (As := [.int x2]) C (c_X8_flowAt l g x2 _ h) s_X8_flowAt ml8_102 ⟨Nat.le_of_ble_eq_true rfl, Nat.le_of_ble_eq_true rfl⟩ ⟨Nat.zero_le _, Nat.zero_le _⟩ (Nat.le_of_ble_eq_true rfl) rfl dX8_alike_48 ?_
    intro r108 h
    refine z_bipush (v := 14) C dX8_alike_51 (by decide) ?_
    refine z_iadd C dX8_alike_53 ?_
    obtain ⟨hi109, h⟩ := h
    refine lR_row C hi109 dX8_alike_54 ?_
    refine z_icmp_ne C dX8_alike_55 (tgt := 65) (by decide) (fun hc110 => ?_) (fun hc110 => ?_)
    · have h := h.1 hc110
      obtain ⟨x111, ex111⟩ : ∃ y : Int32, y = x2 + 1 := ⟨_, rfl⟩
      have h := h x111 ex111
      refine z_iinc (v := x111) (lv1 := [(2, .int x111), (0, .ref (ad 0)), (1, .int x1)]) C dX8_alike_65 2 rfl (by rw [ex111]; rfl) (by decide) rfl ?_
      refine z_goto C dX8_alike_68 (tgt := 21) (by decide) ?_
      refine z_lv (lv1 := [(0, .ref (ad 0)), (1, .int x1), (2, .int x111)]) [1, 2, 0] rfl ?_
      exact hB21 u x1 x111 h
    · have h := h.2 hc110
      refine z_bipush (v := 100) C dX8_alike_58 (by decide) ?_
      refine z_iload_n C dX8_alike_60 rfl 1 rfl ?_
      refine z_imul C dX8_alike_61 ?_
      refine z_iload_n C dX8_alike_62 rfl 2 rfl ?_
      refine z_iadd C dX8_alike_63 ?_
      exact z_iret C hr u rfl h dX8_alike_64
theorem l_X8_alike_21 (C : zC p s m args meth c g A cX8_alike RX8 3) (hr : meth.sig.returnType = (some .int)) (ad : Nat → Nat) (Q : Int32 → RS → Prop) (B7 : RS → Int32 → Prop) (hB7 : ∀ (u : RS) (x1 : Int32), B7 u x1 → j_X8_alike p l e s m args below meth c g A ad Q u 7 [(0, .ref (ad 0)), (1, .int x1)] []) : ∀ (n : Nat) (u : RS) (x1 : Int32) (x2 : Int32), zit3 (wp_X8_alike_21 Q B7) n u x1 x2 → j_X8_alike p l e s m args below meth c g A ad Q u 21 [(0, .ref (ad 0)), (1, .int x1), (2, .int x2)] [] := by
  intro n
  induction n with
  | zero => exact fun u x1 x2 h => h.elim
  | succ n ih => exact fun u x1 x2 h => b_X8_alike_21 C hr ad Q B7 hB7 (zit3 (wp_X8_alike_21 Q B7) n) ih u x1 x2 h
def wp_X8_alike_7 (Q : Int32 → RS → Prop) (B7 : RS → Int32 → Prop) (u : RS) (x1 : Int32) : Prop :=
  ((u.1 3 4 ≤ x1 → Q (-1) u) ∧ (¬ u.1 3 4 ≤ x1 → ∀ x103 : Int32, x103 = x1 + 1 → (∃ n, zit3 (wp_X8_alike_21 Q B7) n u x1 x103)))
set_option maxRecDepth 20000 in
theorem b_X8_alike_7 (C : zC p s m args meth c g A cX8_alike RX8 3) (hr : meth.sig.returnType = (some .int)) (ad : Nat → Nat) (Q : Int32 → RS → Prop) (B7 : RS → Int32 → Prop) (hB7 : ∀ (u : RS) (x1 : Int32), B7 u x1 → j_X8_alike p l e s m args below meth c g A ad Q u 7 [(0, .ref (ad 0)), (1, .int x1)] []) (u : RS) (x1 : Int32) (h : wp_X8_alike_7 Q B7 u x1) : j_X8_alike p l e s m args below meth c g A ad Q u 7 [(0, .ref (ad 0)), (1, .int x1)] [] := by
  unfold wp_X8_alike_7 at h
  refine z_iload_n C dX8_alike_7 rfl 1 rfl ?_
  refine z_aload_n C dX8_alike_8 rfl 0 rfl ?_
  refine gR_row C dX8_alike_9 ?_
  refine z_iconst (v := 4) C dX8_alike_12 (by decide) ?_
  refine lRn_row C 4 (by decide +kernel) (vp_in_iff.mpr (by decide +kernel)) dX8_alike_13 ?_
  refine z_icmp_ge C dX8_alike_14 (tgt := 77) (by decide) (fun hc102 => ?_) (fun hc102 => ?_)
  · have h := h.1 hc102
    refine z_iconst (v := (-1)) C dX8_alike_77 (by decide) ?_
    exact z_iret C hr u rfl h dX8_alike_78
  · have h := h.2 hc102
    refine z_iload_n C dX8_alike_17 rfl 1 rfl ?_
    refine z_iconst (v := 1) C dX8_alike_18 (by decide) ?_
    refine z_iadd C dX8_alike_19 ?_
    refine z_topi (fun x103 ex103 => ?_)
    have h := h x103 ex103
    refine z_istore_n (lv1 := [(2, .int x103), (0, .ref (ad 0)), (1, .int x1)]) C dX8_alike_20 rfl (by decide) rfl ?_
    refine z_lv (lv1 := [(0, .ref (ad 0)), (1, .int x1), (2, .int x103)]) [1, 2, 0] rfl ?_
    obtain ⟨n9, h⟩ := h
    exact l_X8_alike_21 C hr ad Q B7 hB7 n9 u x1 x103 h
theorem l_X8_alike_7 (C : zC p s m args meth c g A cX8_alike RX8 3) (hr : meth.sig.returnType = (some .int)) (ad : Nat → Nat) (Q : Int32 → RS → Prop) : ∀ (n : Nat) (u : RS) (x1 : Int32), zit2 (wp_X8_alike_7 Q) n u x1 → j_X8_alike p l e s m args below meth c g A ad Q u 7 [(0, .ref (ad 0)), (1, .int x1)] [] := by
  intro n
  induction n with
  | zero => exact fun u x1 h => h.elim
  | succ n ih => exact fun u x1 h => b_X8_alike_7 C hr ad Q (zit2 (wp_X8_alike_7 Q) n) ih u x1 h
def wp_X8_alike (u : RS) (Q : Int32 → RS → Prop) : Prop :=
  ∀ u101 : RS, u101 = rN u 0 0 → (∃ n, zit2 (wp_X8_alike_7 Q) n u101 0)
set_option maxRecDepth 20000 in
theorem c_X8_alike (l : Launch) (g : zG) (ad : Nat → Nat) (u : RS) (Q : Int32 → RS → Prop) (h : wp_X8_alike u Q) : zMi l yX8_alike cX8_alike 3 (some .int) 1 0 0 g [.ref (ad 0)] (wR g ad u) (wR g ad) Q := by
  refine zMi_of RX8 (by decide) rfl [(0, .ref (ad 0))] rfl (Nat.le_of_ble_eq_true rfl) (fun p e s m args below meth c A C hr hnm => ?_)
  unfold wp_X8_alike at h
  refine z_aload_n C dX8_alike_0 rfl 0 rfl ?_
  refine z_iconst (v := 0) C dX8_alike_1 (by decide) ?_
  refine pR_thrown C dX8_alike_2 ?_
  refine z_stR (fun u101 eu101 => ?_)
  have h := h u101 eu101
  refine z_iconst (v := 0) C dX8_alike_5 (by decide) ?_
  refine z_istore_n (lv1 := [(1, .int 0), (0, .ref (ad 0))]) C dX8_alike_6 rfl (by decide) rfl ?_
  refine z_lv (lv1 := [(0, .ref (ad 0)), (1, .int 0)]) [1, 0] rfl ?_
  obtain ⟨n9, h⟩ := h
  exact l_X8_alike_7 C hr ad Q n9 u101 0 h
abbrev j_X8_greatestHits (p : Program) (l : Launch) (e : Env) (s : State) (m : MethodId) (args : Array Value) (below : List Frame) (meth : Method) (c : Code) (g : zG) (A : Nat → Prop) (ad : Nat → Nat) (Q : Int32 → RS → Prop) (u : RS) (pc : Nat) (lv : List (Nat × Value)) (st : List Value) : Prop := zJ p l e (zR 1 0 0) s m args below meth c g A 3 (zQi below args s g A 0 0 (wR g ad) Q) (wR g ad u) 0 0 pc lv st
def wp_X8_greatestHits_27 (Q : Int32 → RS → Prop) (B4 : RS → Int32 → Int32 → Prop) (u : RS) (x2 : Int32) (t0 : Int32) : Prop :=
  ∀ x105 : Int32, x105 = x2 + 1 → B4 u t0 x105
set_option maxRecDepth 20000 in
theorem b_X8_greatestHits_27 (C : zC p s m args meth c g A cX8_greatestHits RX8 3) (hr : meth.sig.returnType = (some .int)) (ad : Nat → Nat) (Q : Int32 → RS → Prop) (B4 : RS → Int32 → Int32 → Prop) (hB4 : ∀ (u : RS) (x1 : Int32) (x2 : Int32), B4 u x1 x2 → j_X8_greatestHits p l e s m args below meth c g A ad Q u 4 [(0, .ref (ad 0)), (1, .int x1), (2, .int x2)] []) (u : RS) (x2 : Int32) (t0 : Int32) (h : wp_X8_greatestHits_27 Q B4 u x2 t0) : j_X8_greatestHits p l e s m args below meth c g A ad Q u 27 [(0, .ref (ad 0)), (2, .int x2)] [.int t0] := by
  unfold wp_X8_greatestHits_27 at h
  refine z_istore_n (lv1 := [(1, .int t0), (0, .ref (ad 0)), (2, .int x2)]) C dX8_greatestHits_27 rfl (by decide) rfl ?_
  obtain ⟨x105, ex105⟩ : ∃ y : Int32, y = x2 + 1 := ⟨_, rfl⟩
  have h := h x105 ex105
  refine z_iinc (v := x105) (lv1 := [(2, .int x105), (1, .int t0), (0, .ref (ad 0))]) C dX8_greatestHits_28 2 rfl (by rw [ex105]; rfl) (by decide) rfl ?_
  refine z_goto C dX8_greatestHits_31 (tgt := 4) (by decide) ?_
  refine z_lv (lv1 := [(0, .ref (ad 0)), (1, .int t0), (2, .int x105)]) [2, 1, 0] rfl ?_
  exact hB4 u t0 x105 h
def wp_X8_greatestHits_4 (Q : Int32 → RS → Prop) (B4 : RS → Int32 → Int32 → Prop) (u : RS) (x1 : Int32) (x2 : Int32) : Prop :=
  ((4 ≤ x2 → Q x1 u) ∧ (¬ 4 ≤ x2 → wp_X8_hitsOf u x2 (fun r102 u103 => ((r102 ≤ x1 → wp_X8_greatestHits_27 Q B4 u103 x2 x1) ∧ (¬ r102 ≤ x1 → wp_X8_hitsOf u103 x2 (fun r106 u107 => wp_X8_greatestHits_27 Q B4 u107 x2 r106))))))
set_option maxRecDepth 20000 in
theorem b_X8_greatestHits_4 (C : zC p s m args meth c g A cX8_greatestHits RX8 3) (hr : meth.sig.returnType = (some .int)) (ad : Nat → Nat) (Q : Int32 → RS → Prop) (B4 : RS → Int32 → Int32 → Prop) (hB4 : ∀ (u : RS) (x1 : Int32) (x2 : Int32), B4 u x1 x2 → j_X8_greatestHits p l e s m args below meth c g A ad Q u 4 [(0, .ref (ad 0)), (1, .int x1), (2, .int x2)] []) (u : RS) (x1 : Int32) (x2 : Int32) (h : wp_X8_greatestHits_4 Q B4 u x1 x2) : j_X8_greatestHits p l e s m args below meth c g A ad Q u 4 [(0, .ref (ad 0)), (1, .int x1), (2, .int x2)] [] := by
  unfold wp_X8_greatestHits_4 at h
  refine z_iload_n C dX8_greatestHits_4 rfl 2 rfl ?_
  refine z_iconst (v := 4) C dX8_greatestHits_5 (by decide) ?_
  refine z_icmp_ge C dX8_greatestHits_6 (tgt := 34) (by decide) (fun hc101 => ?_) (fun hc101 => ?_)
  · have h := h.1 hc101
    refine z_iload_n C dX8_greatestHits_34 rfl 1 rfl ?_
    exact z_iret C hr u rfl h dX8_greatestHits_35
  · have h := h.2 hc101
    refine z_aload_n C dX8_greatestHits_9 rfl 0 rfl ?_
    refine z_iload_n C dX8_greatestHits_10 rfl 2 rfl ?_
    refine cRi (As := [.int x2]) C (c_X8_hitsOf l g ad u x2 _ h) v_X8_hitsOf ml8_269 rfl ⟨Nat.le_of_ble_eq_true rfl, Nat.le_of_ble_eq_true rfl⟩ ⟨Nat.zero_le _, Nat.zero_le _⟩ (Nat.le_of_ble_eq_true rfl) rfl dX8_greatestHits_11 ?_
    intro r102 u103 h
    refine z_iload_n C dX8_greatestHits_14 rfl 1 rfl ?_
    refine z_icmp_le C dX8_greatestHits_15 (tgt := 26) (by decide) (fun hc104 => ?_) (fun hc104 => ?_)
    · have h := h.1 hc104
      refine z_iload_n C dX8_greatestHits_26 rfl 1 rfl ?_
      refine z_lv (lv1 := [(0, .ref (ad 0)), (2, .int x2)]) [0, 2] rfl ?_
      exact b_X8_greatestHits_27 C hr ad Q B4 hB4 u103 x2 x1 h
    · have h := h.2 hc104
      refine z_aload_n C dX8_greatestHits_18 rfl 0 rfl ?_
      refine z_iload_n C dX8_greatestHits_19 rfl 2 rfl ?_
      refine cRi (As := [.int x2]) C (c_X8_hitsOf l g ad u103 x2 _ h) v_X8_hitsOf ml8_269 rfl ⟨Nat.le_of_ble_eq_true rfl, Nat.le_of_ble_eq_true rfl⟩ ⟨Nat.zero_le _, Nat.zero_le _⟩ (Nat.le_of_ble_eq_true rfl) rfl dX8_greatestHits_20 ?_
      intro r106 u107 h
      refine z_goto C dX8_greatestHits_23 (tgt := 27) (by decide) ?_
      refine z_lv (lv1 := [(0, .ref (ad 0)), (2, .int x2)]) [0, 2] rfl ?_
      exact b_X8_greatestHits_27 C hr ad Q B4 hB4 u107 x2 r106 h
theorem l_X8_greatestHits_4 (C : zC p s m args meth c g A cX8_greatestHits RX8 3) (hr : meth.sig.returnType = (some .int)) (ad : Nat → Nat) (Q : Int32 → RS → Prop) : ∀ (n : Nat) (u : RS) (x1 : Int32) (x2 : Int32), zit3 (wp_X8_greatestHits_4 Q) n u x1 x2 → j_X8_greatestHits p l e s m args below meth c g A ad Q u 4 [(0, .ref (ad 0)), (1, .int x1), (2, .int x2)] [] := by
  intro n
  induction n with
  | zero => exact fun u x1 x2 h => h.elim
  | succ n ih => exact fun u x1 x2 h => b_X8_greatestHits_4 C hr ad Q (zit3 (wp_X8_greatestHits_4 Q) n) ih u x1 x2 h
def wp_X8_greatestHits (u : RS) (Q : Int32 → RS → Prop) : Prop :=
  (∃ n, zit3 (wp_X8_greatestHits_4 Q) n u 0 0)
set_option maxRecDepth 20000 in
theorem c_X8_greatestHits (l : Launch) (g : zG) (ad : Nat → Nat) (u : RS) (Q : Int32 → RS → Prop) (h : wp_X8_greatestHits u Q) : zMi l yX8_greatestHits cX8_greatestHits 3 (some .int) 1 0 0 g [.ref (ad 0)] (wR g ad u) (wR g ad) Q := by
  refine zMi_of RX8 (by decide) rfl [(0, .ref (ad 0))] rfl (Nat.le_of_ble_eq_true rfl) (fun p e s m args below meth c A C hr hnm => ?_)
  unfold wp_X8_greatestHits at h
  refine z_iconst (v := 0) C dX8_greatestHits_0 (by decide) ?_
  refine z_istore_n (lv1 := [(1, .int 0), (0, .ref (ad 0))]) C dX8_greatestHits_1 rfl (by decide) rfl ?_
  refine z_iconst (v := 0) C dX8_greatestHits_2 (by decide) ?_
  refine z_istore_n (lv1 := [(2, .int 0), (1, .int 0), (0, .ref (ad 0))]) C dX8_greatestHits_3 rfl (by decide) rfl ?_
  refine z_lv (lv1 := [(0, .ref (ad 0)), (1, .int 0), (2, .int 0)]) [2, 1, 0] rfl ?_
  obtain ⟨n9, h⟩ := h
  exact l_X8_greatestHits_4 C hr ad Q n9 u 0 0 h
abbrev j_X8_packets (p : Program) (l : Launch) (e : Env) (s : State) (m : MethodId) (args : Array Value) (below : List Frame) (meth : Method) (c : Code) (g : zG) (A : Nat → Prop) (ad : Nat → Nat) (Q : Int32 → RS → Prop) (u : RS) (pc : Nat) (lv : List (Nat × Value)) (st : List Value) : Prop := zJ p l e (zR 1 0 0) s m args below meth c g A 3 (zQi below args s g A 0 0 (wR g ad) Q) (wR g ad u) 0 0 pc lv st
def wp_X8_packets_4 (Q : Int32 → RS → Prop) (B4 : RS → Int32 → Int32 → Prop) (u : RS) (x1 : Int32) (x2 : Int32) : Prop :=
  ((4 ≤ x2 → Q x1 u) ∧ (¬ 4 ≤ x2 → wp_X8_queueAt x2 (fun r102 => vp_in r102 1065 ∧ ∀ x104 : Int32, x104 = x1 + (u.1 3 (zn r102)) → ∀ x105 : Int32, x105 = x2 + 1 → B4 u x104 x105)))
set_option maxRecDepth 20000 in
theorem b_X8_packets_4 (C : zC p s m args meth c g A cX8_packets RX8 3) (hr : meth.sig.returnType = (some .int)) (ad : Nat → Nat) (Q : Int32 → RS → Prop) (B4 : RS → Int32 → Int32 → Prop) (hB4 : ∀ (u : RS) (x1 : Int32) (x2 : Int32), B4 u x1 x2 → j_X8_packets p l e s m args below meth c g A ad Q u 4 [(0, .ref (ad 0)), (1, .int x1), (2, .int x2)] []) (u : RS) (x1 : Int32) (x2 : Int32) (h : wp_X8_packets_4 Q B4 u x1 x2) : j_X8_packets p l e s m args below meth c g A ad Q u 4 [(0, .ref (ad 0)), (1, .int x1), (2, .int x2)] [] := by
  unfold wp_X8_packets_4 at h
  refine z_iload_n C dX8_packets_4 rfl 2 rfl ?_
  refine z_iconst (v := 4) C dX8_packets_5 (by decide) ?_
  refine z_icmp_ge C dX8_packets_6 (tgt := 27) (by decide) (fun hc101 => ?_) (fun hc101 => ?_)
  · have h := h.1 hc101
    refine z_iload_n C dX8_packets_27 rfl 1 rfl ?_
    exact z_iret C hr u rfl h dX8_packets_28
  · have h := h.2 hc101
    refine z_iload_n C dX8_packets_9 rfl 1 rfl ?_
    refine z_aload_n C dX8_packets_10 rfl 0 rfl ?_
    refine gR_row C dX8_packets_11 ?_
    refine z_iload_n C dX8_packets_14 rfl 2 rfl ?_
    refine cSi (As := [.int x2]) C (c_X8_queueAt l g x2 _ h) s_X8_queueAt ml8_57 ⟨Nat.le_of_ble_eq_true rfl, Nat.le_of_ble_eq_true rfl⟩ ⟨Nat.zero_le _, Nat.zero_le _⟩ (Nat.le_of_ble_eq_true rfl) rfl dX8_packets_15 ?_
    intro r102 h
    obtain ⟨hi103, h⟩ := h
    refine lR_row C hi103 dX8_packets_18 ?_
    refine z_iadd C dX8_packets_19 ?_
    refine z_topi (fun x104 ex104 => ?_)
    have h := h x104 ex104
    refine z_istore_n (lv1 := [(1, .int x104), (0, .ref (ad 0)), (2, .int x2)]) C dX8_packets_20 rfl (by decide) rfl ?_
    obtain ⟨x105, ex105⟩ : ∃ y : Int32, y = x2 + 1 := ⟨_, rfl⟩
    have h := h x105 ex105
    refine z_iinc (v := x105) (lv1 := [(2, .int x105), (1, .int x104), (0, .ref (ad 0))]) C dX8_packets_21 2 rfl (by rw [ex105]; rfl) (by decide) rfl ?_
    refine z_goto C dX8_packets_24 (tgt := 4) (by decide) ?_
    refine z_lv (lv1 := [(0, .ref (ad 0)), (1, .int x104), (2, .int x105)]) [2, 1, 0] rfl ?_
    exact hB4 u x104 x105 h
theorem l_X8_packets_4 (C : zC p s m args meth c g A cX8_packets RX8 3) (hr : meth.sig.returnType = (some .int)) (ad : Nat → Nat) (Q : Int32 → RS → Prop) : ∀ (n : Nat) (u : RS) (x1 : Int32) (x2 : Int32), zit3 (wp_X8_packets_4 Q) n u x1 x2 → j_X8_packets p l e s m args below meth c g A ad Q u 4 [(0, .ref (ad 0)), (1, .int x1), (2, .int x2)] [] := by
  intro n
  induction n with
  | zero => exact fun u x1 x2 h => h.elim
  | succ n ih => exact fun u x1 x2 h => b_X8_packets_4 C hr ad Q (zit3 (wp_X8_packets_4 Q) n) ih u x1 x2 h
def wp_X8_packets (u : RS) (Q : Int32 → RS → Prop) : Prop :=
  (∃ n, zit3 (wp_X8_packets_4 Q) n u 0 0)
set_option maxRecDepth 20000 in
theorem c_X8_packets (l : Launch) (g : zG) (ad : Nat → Nat) (u : RS) (Q : Int32 → RS → Prop) (h : wp_X8_packets u Q) : zMi l yX8_packets cX8_packets 3 (some .int) 1 0 0 g [.ref (ad 0)] (wR g ad u) (wR g ad) Q := by
  refine zMi_of RX8 (by decide) rfl [(0, .ref (ad 0))] rfl (Nat.le_of_ble_eq_true rfl) (fun p e s m args below meth c A C hr hnm => ?_)
  unfold wp_X8_packets at h
  refine z_iconst (v := 0) C dX8_packets_0 (by decide) ?_
  refine z_istore_n (lv1 := [(1, .int 0), (0, .ref (ad 0))]) C dX8_packets_1 rfl (by decide) rfl ?_
  refine z_iconst (v := 0) C dX8_packets_2 (by decide) ?_
  refine z_istore_n (lv1 := [(2, .int 0), (1, .int 0), (0, .ref (ad 0))]) C dX8_packets_3 rfl (by decide) rfl ?_
  refine z_lv (lv1 := [(0, .ref (ad 0)), (1, .int 0), (2, .int 0)]) [2, 1, 0] rfl ?_
  obtain ⟨n9, h⟩ := h
  exact l_X8_packets_4 C hr ad Q n9 u 0 0 h
abbrev j_X8_hashNow (p : Program) (l : Launch) (e : Env) (s : State) (m : MethodId) (args : Array Value) (below : List Frame) (meth : Method) (c : Code) (g : zG) (A : Nat → Prop) (ad : Nat → Nat) (Q : Int32 → RS → Prop) (u : RS) (pc : Nat) (lv : List (Nat × Value)) (st : List Value) : Prop := zJ p l e (zR 2 0 0) s m args below meth c g A 4 (zQi below args s g A 0 0 (wR g ad) Q) (wR g ad u) 0 0 pc lv st
def wp_X8_hashNow_70 (Q : Int32 → RS → Prop) (B4 : RS → Int32 → Int32 → Prop) (u : RS) (x2 : Int32) (t0 : Int32) (t1 : Int32) : Prop :=
  ∀ x104 : Int32, x104 = t1 ^^^ t0 → ∀ x105 : Int32, x105 = x2 + 1 → B4 u x104 x105
set_option maxRecDepth 20000 in
theorem b_X8_hashNow_70 (C : zC p s m args meth c g A cX8_hashNow RX8 4) (hr : meth.sig.returnType = (some .int)) (ad : Nat → Nat) (Q : Int32 → RS → Prop) (B4 : RS → Int32 → Int32 → Prop) (hB4 : ∀ (u : RS) (x1 : Int32) (x2 : Int32), B4 u x1 x2 → j_X8_hashNow p l e s m args below meth c g A ad Q u 4 [(0, .ref (ad 0)), (1, .int x1), (2, .int x2)] []) (u : RS) (x2 : Int32) (t0 : Int32) (t1 : Int32) (h : wp_X8_hashNow_70 Q B4 u x2 t0 t1) : j_X8_hashNow p l e s m args below meth c g A ad Q u 70 [(0, .ref (ad 0)), (2, .int x2)] [.int t0, .int t1] := by
  unfold wp_X8_hashNow_70 at h
  refine z_ixor C dX8_hashNow_70 ?_
  refine z_topi (fun x104 ex104 => ?_)
  have h := h x104 ex104
  refine z_istore_n (lv1 := [(1, .int x104), (0, .ref (ad 0)), (2, .int x2)]) C dX8_hashNow_71 rfl (by decide) rfl ?_
  obtain ⟨x105, ex105⟩ : ∃ y : Int32, y = x2 + 1 := ⟨_, rfl⟩
  have h := h x105 ex105
  refine z_iinc (v := x105) (lv1 := [(2, .int x105), (1, .int x104), (0, .ref (ad 0))]) C dX8_hashNow_72 2 rfl (by rw [ex105]; rfl) (by decide) rfl ?_
  refine z_goto C dX8_hashNow_75 (tgt := 4) (by decide) ?_
  refine z_lv (lv1 := [(0, .ref (ad 0)), (1, .int x104), (2, .int x105)]) [2, 1, 0] rfl ?_
  exact hB4 u x104 x105 h
def wp_X8_hashNow_55 (Q : Int32 → RS → Prop) (B4 : RS → Int32 → Int32 → Prop) (u : RS) (x1 : Int32) (x2 : Int32) (t0 : Int32) : Prop :=
  ((t0 = 0 → wp_X8_hashNow_70 Q B4 u x2 0 x1) ∧ (¬ t0 = 0 → wp_X8_windowAt u x2 (fun r106 u107 => wp_X8_hashNow_70 Q B4 u107 x2 r106 x1)))
set_option maxRecDepth 20000 in
theorem b_X8_hashNow_55 (C : zC p s m args meth c g A cX8_hashNow RX8 4) (hr : meth.sig.returnType = (some .int)) (ad : Nat → Nat) (Q : Int32 → RS → Prop) (B4 : RS → Int32 → Int32 → Prop) (hB4 : ∀ (u : RS) (x1 : Int32) (x2 : Int32), B4 u x1 x2 → j_X8_hashNow p l e s m args below meth c g A ad Q u 4 [(0, .ref (ad 0)), (1, .int x1), (2, .int x2)] []) (u : RS) (x1 : Int32) (x2 : Int32) (t0 : Int32) (h : wp_X8_hashNow_55 Q B4 u x1 x2 t0) : j_X8_hashNow p l e s m args below meth c g A ad Q u 55 [(0, .ref (ad 0)), (1, .int x1), (2, .int x2)] [.int t0] := by
  unfold wp_X8_hashNow_55 at h
  refine z_istore_n (lv1 := [(3, .int t0), (0, .ref (ad 0)), (1, .int x1), (2, .int x2)]) C dX8_hashNow_55 rfl (by decide) rfl ?_
  refine z_iload_n C dX8_hashNow_56 rfl 2 rfl ?_
  refine z_iload_n C dX8_hashNow_57 rfl 0 rfl ?_
  refine z_if_eq C dX8_hashNow_58 (tgt := 69) (by decide) (fun hc103 => ?_) (fun hc103 => ?_)
  · have h := h.1 hc103
    refine z_iconst (v := 0) C dX8_hashNow_69 (by decide) ?_
    refine z_lv (lv1 := [(0, .ref (ad 0)), (2, .int x2)]) [1, 3] rfl ?_
    exact b_X8_hashNow_70 C hr ad Q B4 hB4 u x2 0 x1 h
  · have h := h.2 hc103
    refine z_aload_n C dX8_hashNow_61 rfl 1 rfl ?_
    refine z_iload_n C dX8_hashNow_62 rfl 3 rfl ?_
    refine cRi (As := [.int x2]) C (c_X8_windowAt l g ad u x2 _ h) v_X8_windowAt ml8_93 rfl ⟨Nat.le_of_ble_eq_true rfl, Nat.le_of_ble_eq_true rfl⟩ ⟨Nat.zero_le _, Nat.zero_le _⟩ (Nat.le_of_ble_eq_true rfl) rfl dX8_hashNow_63 ?_
    intro r106 u107 h
    refine z_goto C dX8_hashNow_66 (tgt := 70) (by decide) ?_
    refine z_lv (lv1 := [(0, .ref (ad 0)), (2, .int x2)]) [1, 3] rfl ?_
    exact b_X8_hashNow_70 C hr ad Q B4 hB4 u107 x2 r106 x1 h
def wp_X8_hashNow_54 (Q : Int32 → RS → Prop) (B4 : RS → Int32 → Int32 → Prop) (u : RS) (x1 : Int32) (x2 : Int32) : Prop :=
  wp_X8_hashNow_55 Q B4 u x1 x2 0
set_option maxRecDepth 20000 in
theorem b_X8_hashNow_54 (C : zC p s m args meth c g A cX8_hashNow RX8 4) (hr : meth.sig.returnType = (some .int)) (ad : Nat → Nat) (Q : Int32 → RS → Prop) (B4 : RS → Int32 → Int32 → Prop) (hB4 : ∀ (u : RS) (x1 : Int32) (x2 : Int32), B4 u x1 x2 → j_X8_hashNow p l e s m args below meth c g A ad Q u 4 [(0, .ref (ad 0)), (1, .int x1), (2, .int x2)] []) (u : RS) (x1 : Int32) (x2 : Int32) (h : wp_X8_hashNow_54 Q B4 u x1 x2) : j_X8_hashNow p l e s m args below meth c g A ad Q u 54 [(0, .ref (ad 0)), (1, .int x1), (2, .int x2)] [] := by
  unfold wp_X8_hashNow_54 at h
  refine z_iconst (v := 0) C dX8_hashNow_54 (by decide) ?_
  exact b_X8_hashNow_55 C hr ad Q B4 hB4 u x1 x2 0 h
def wp_X8_hashNow_4 (Q : Int32 → RS → Prop) (B4 : RS → Int32 → Int32 → Prop) (u : RS) (x1 : Int32) (x2 : Int32) : Prop :=
  ((40 ≤ x2 → Q x1 u) ∧ (¬ 40 ≤ x2 → ((¬ ((u.1 3 3) >>> ((x2 / 8) &&& 31)) &&& 1 = 1 → wp_X8_hashNow_54 Q B4 u x1 x2) ∧ (((u.1 3 3) >>> ((x2 / 8) &&& 31)) &&& 1 = 1 → vp_in (x2 / 8) 5 ∧ ((¬ (zu (u.1 14 (zn (x2 / 8))) (7 - (x2 - x2 / 8 * 8))) &&& 1 = 1 → wp_X8_hashNow_54 Q B4 u x1 x2) ∧ ((zu (u.1 14 (zn (x2 / 8))) (7 - (x2 - x2 / 8 * 8))) &&& 1 = 1 → wp_X8_hashNow_55 Q B4 u x1 x2 1))))))
set_option maxRecDepth 20000 in
theorem b_X8_hashNow_4 (C : zC p s m args meth c g A cX8_hashNow RX8 4) (hr : meth.sig.returnType = (some .int)) (ad : Nat → Nat) (Q : Int32 → RS → Prop) (B4 : RS → Int32 → Int32 → Prop) (hB4 : ∀ (u : RS) (x1 : Int32) (x2 : Int32), B4 u x1 x2 → j_X8_hashNow p l e s m args below meth c g A ad Q u 4 [(0, .ref (ad 0)), (1, .int x1), (2, .int x2)] []) (u : RS) (x1 : Int32) (x2 : Int32) (h : wp_X8_hashNow_4 Q B4 u x1 x2) : j_X8_hashNow p l e s m args below meth c g A ad Q u 4 [(0, .ref (ad 0)), (1, .int x1), (2, .int x2)] [] := by
  unfold wp_X8_hashNow_4 at h
  refine z_iload_n C dX8_hashNow_4 rfl 2 rfl ?_
  refine z_bipush (v := 40) C dX8_hashNow_5 (by decide) ?_
  refine z_icmp_ge C dX8_hashNow_7 (tgt := 78) (by decide) (fun hc101 => ?_) (fun hc101 => ?_)
  · have h := h.1 hc101
    refine z_iload_n C dX8_hashNow_78 rfl 1 rfl ?_
    exact z_iret C hr u rfl h dX8_hashNow_79
  · have h := h.2 hc101
    refine z_aload_n C dX8_hashNow_10 rfl 0 rfl ?_
    refine gR_row C dX8_hashNow_11 ?_
    refine z_iconst (v := 3) C dX8_hashNow_14 (by decide) ?_
    refine lRn_row C 3 (by decide +kernel) (vp_in_iff.mpr (by decide +kernel)) dX8_hashNow_15 ?_
    refine z_iload_n C dX8_hashNow_16 rfl 2 rfl ?_
    refine z_bipush (v := 8) C dX8_hashNow_17 (by decide) ?_
    refine z_idiv C dX8_hashNow_19 (by decide) ?_
    refine z_ishr C dX8_hashNow_20 ?_
    refine z_iconst (v := 1) C dX8_hashNow_21 (by decide) ?_
    refine z_iand C dX8_hashNow_22 ?_
    refine z_iconst (v := 1) C dX8_hashNow_23 (by decide) ?_
    refine z_icmp_ne C dX8_hashNow_24 (tgt := 54) (by decide) (fun hc102 => ?_) (fun hc102 => ?_)
    · have h := h.1 hc102
      exact b_X8_hashNow_54 C hr ad Q B4 hB4 u x1 x2 h
    · have h := h.2 hc102
      refine z_aload_n C dX8_hashNow_27 rfl 0 rfl ?_
      refine gR_fields C dX8_hashNow_28 ?_
      refine z_iload_n C dX8_hashNow_31 rfl 2 rfl ?_
      refine z_bipush (v := 8) C dX8_hashNow_32 (by decide) ?_
      refine z_idiv C dX8_hashNow_34 (by decide) ?_
      obtain ⟨hi108, h⟩ := h
      refine lR_fields C hi108 dX8_hashNow_35 ?_
      refine z_bipush (v := 7) C dX8_hashNow_36 (by decide) ?_
      refine z_iload_n C dX8_hashNow_38 rfl 2 rfl ?_
      refine z_bipush (v := 8) C dX8_hashNow_39 (by decide) ?_
      refine z_irem C dX8_hashNow_41 (by decide) ?_
      refine z_isub C dX8_hashNow_42 ?_
      refine z_iushr C dX8_hashNow_43 ?_
      refine z_iconst (v := 1) C dX8_hashNow_44 (by decide) ?_
      refine z_iand C dX8_hashNow_45 ?_
      refine z_iconst (v := 1) C dX8_hashNow_46 (by decide) ?_
      refine z_icmp_ne C dX8_hashNow_47 (tgt := 54) (by decide) (fun hc109 => ?_) (fun hc109 => ?_)
      · have h := h.1 hc109
        exact b_X8_hashNow_54 C hr ad Q B4 hB4 u x1 x2 h
      · have h := h.2 hc109
        refine z_iconst (v := 1) C dX8_hashNow_50 (by decide) ?_
        refine z_goto C dX8_hashNow_51 (tgt := 55) (by decide) ?_
        exact b_X8_hashNow_55 C hr ad Q B4 hB4 u x1 x2 1 h
theorem l_X8_hashNow_4 (C : zC p s m args meth c g A cX8_hashNow RX8 4) (hr : meth.sig.returnType = (some .int)) (ad : Nat → Nat) (Q : Int32 → RS → Prop) : ∀ (n : Nat) (u : RS) (x1 : Int32) (x2 : Int32), zit3 (wp_X8_hashNow_4 Q) n u x1 x2 → j_X8_hashNow p l e s m args below meth c g A ad Q u 4 [(0, .ref (ad 0)), (1, .int x1), (2, .int x2)] [] := by
  intro n
  induction n with
  | zero => exact fun u x1 x2 h => h.elim
  | succ n ih => exact fun u x1 x2 h => b_X8_hashNow_4 C hr ad Q (zit3 (wp_X8_hashNow_4 Q) n) ih u x1 x2 h
def wp_X8_hashNow (u : RS) (Q : Int32 → RS → Prop) : Prop :=
  (∃ n, zit3 (wp_X8_hashNow_4 Q) n u 0 0)
set_option maxRecDepth 20000 in
theorem c_X8_hashNow (l : Launch) (g : zG) (ad : Nat → Nat) (u : RS) (Q : Int32 → RS → Prop) (h : wp_X8_hashNow u Q) : zMi l yX8_hashNow cX8_hashNow 4 (some .int) 2 0 0 g [.ref (ad 0)] (wR g ad u) (wR g ad) Q := by
  refine zMi_of RX8 (by decide) rfl [(0, .ref (ad 0))] rfl (Nat.le_of_ble_eq_true rfl) (fun p e s m args below meth c A C hr hnm => ?_)
  unfold wp_X8_hashNow at h
  refine z_iconst (v := 0) C dX8_hashNow_0 (by decide) ?_
  refine z_istore_n (lv1 := [(1, .int 0), (0, .ref (ad 0))]) C dX8_hashNow_1 rfl (by decide) rfl ?_
  refine z_iconst (v := 0) C dX8_hashNow_2 (by decide) ?_
  refine z_istore_n (lv1 := [(2, .int 0), (1, .int 0), (0, .ref (ad 0))]) C dX8_hashNow_3 rfl (by decide) rfl ?_
  refine z_lv (lv1 := [(0, .ref (ad 0)), (1, .int 0), (2, .int 0)]) [2, 1, 0] rfl ?_
  obtain ⟨n9, h⟩ := h
  exact l_X8_hashNow_4 C hr ad Q n9 u 0 0 h
abbrev j_X8_takeFields (p : Program) (l : Launch) (e : Env) (s : State) (m : MethodId) (args : Array Value) (below : List Frame) (meth : Method) (c : Code) (g : zG) (A : Nat → Prop) (ad : Nat → Nat) (Q : Int32 → RS → Prop) (u : RS) (pc : Nat) (lv : List (Nat × Value)) (st : List Value) : Prop := zJ p l e (zR 2 0 0) s m args below meth c g A 6 (zQi below args s g A 0 0 (wR g ad) Q) (wR g ad u) 0 0 pc lv st
def wp_X8_takeFields_82 (Q : Int32 → RS → Prop) (u : RS) (t0 : Int32) : Prop :=
  (zBool t0 ∧ Q t0 u)
set_option maxRecDepth 20000 in
theorem b_X8_takeFields_82 (C : zC p s m args meth c g A cX8_takeFields RX8 6) (hr : meth.sig.returnType = (some .boolean)) (ad : Nat → Nat) (Q : Int32 → RS → Prop) (u : RS) (t0 : Int32) (h : wp_X8_takeFields_82 Q u t0) : j_X8_takeFields p l e s m args below meth c g A ad Q u 82 [(0, .ref (ad 0))] [.int t0] := by
  unfold wp_X8_takeFields_82 at h
  exact z_zret C hr u rfl h.1 h.2 dX8_takeFields_82
def wp_X8_takeFields_81 (Q : Int32 → RS → Prop) (u : RS) : Prop :=
  wp_X8_takeFields_82 Q u 0
set_option maxRecDepth 20000 in
theorem b_X8_takeFields_81 (C : zC p s m args meth c g A cX8_takeFields RX8 6) (hr : meth.sig.returnType = (some .boolean)) (ad : Nat → Nat) (Q : Int32 → RS → Prop) (u : RS) (h : wp_X8_takeFields_81 Q u) : j_X8_takeFields p l e s m args below meth c g A ad Q u 81 [(0, .ref (ad 0))] [] := by
  unfold wp_X8_takeFields_81 at h
  refine z_iconst (v := 0) C dX8_takeFields_81 (by decide) ?_
  exact b_X8_takeFields_82 C hr ad Q u 0 h
def wp_X8_takeFields (u : RS) (x1 : Int32) (x2 : Int32) (x3 : Int32) (x4 : Int32) (x5 : Int32) (Q : Int32 → RS → Prop) : Prop :=
  ∀ u101 : RS, u101 = rI u 14 (upd (u.1 14) 0 x1) → ∀ u102 : RS, u102 = rI u101 14 (upd (u101.1 14) 1 x2) → ∀ u103 : RS, u103 = rI u102 14 (upd (u102.1 14) 2 x3) → ∀ u104 : RS, u104 = rI u103 14 (upd (u103.1 14) 3 x4) → ∀ u105 : RS, u105 = rI u104 14 (upd (u104.1 14) 4 x5) → wp_X8_isByte x1 (fun r106 => ((r106 = 0 → wp_X8_takeFields_81 Q u105) ∧ (¬ r106 = 0 → wp_X8_isByte x2 (fun r108 => ((r108 = 0 → wp_X8_takeFields_81 Q u105) ∧ (¬ r108 = 0 → wp_X8_isByte x3 (fun r110 => ((r110 = 0 → wp_X8_takeFields_81 Q u105) ∧ (¬ r110 = 0 → wp_X8_isByte x4 (fun r112 => ((r112 = 0 → wp_X8_takeFields_81 Q u105) ∧ (¬ r112 = 0 → wp_X8_in ((x5).toInt64) 0 1 (fun r114 => ((r114 = 0 → wp_X8_takeFields_81 Q u105) ∧ (¬ r114 = 0 → wp_X8_takeFields_82 Q u105 1)))))))))))))))
set_option maxRecDepth 20000 in
theorem c_X8_takeFields (l : Launch) (g : zG) (ad : Nat → Nat) (u : RS) (x1 : Int32) (x2 : Int32) (x3 : Int32) (x4 : Int32) (x5 : Int32) (Q : Int32 → RS → Prop) (h : wp_X8_takeFields u x1 x2 x3 x4 x5 Q) : zMi l yX8_takeFields cX8_takeFields 6 (some .boolean) 2 0 0 g [.ref (ad 0), .int x1, .int x2, .int x3, .int x4, .int x5] (wR g ad u) (wR g ad) Q := by
  refine zMi_of RX8 (by decide) rfl [(0, .ref (ad 0)), (1, .int x1), (2, .int x2), (3, .int x3), (4, .int x4), (5, .int x5)] rfl (Nat.le_of_ble_eq_true rfl) (fun p e s m args below meth c A C hr hnm => ?_)
  unfold wp_X8_takeFields at h
  refine z_aload_n C dX8_takeFields_0 rfl 0 rfl ?_
  refine gR_fields C dX8_takeFields_1 ?_
  refine z_iconst (v := 0) C dX8_takeFields_4 (by decide) ?_
  refine z_iload_n C dX8_takeFields_5 rfl 1 rfl ?_
  refine sRn_fields C 0 (by decide +kernel) (vp_in_iff.mpr (by decide +kernel)) dX8_takeFields_6 ?_
  refine z_stR (fun u101 eu101 => ?_)
  have h := h u101 eu101
  refine z_aload_n C dX8_takeFields_7 rfl 0 rfl ?_
  refine gR_fields C dX8_takeFields_8 ?_
  refine z_iconst (v := 1) C dX8_takeFields_11 (by decide) ?_
  refine z_iload_n C dX8_takeFields_12 rfl 2 rfl ?_
  refine sRn_fields C 1 (by decide +kernel) (vp_in_iff.mpr (by decide +kernel)) dX8_takeFields_13 ?_
  refine z_stR (fun u102 eu102 => ?_)
  have h := h u102 eu102
  refine z_aload_n C dX8_takeFields_14 rfl 0 rfl ?_
  refine gR_fields C dX8_takeFields_15 ?_
  refine z_iconst (v := 2) C dX8_takeFields_18 (by decide) ?_
  refine z_iload_n C dX8_takeFields_19 rfl 3 rfl ?_
  refine sRn_fields C 2 (by decide +kernel) (vp_in_iff.mpr (by decide +kernel)) dX8_takeFields_20 ?_
  refine z_stR (fun u103 eu103 => ?_)
  have h := h u103 eu103
  refine z_aload_n C dX8_takeFields_21 rfl 0 rfl ?_
  refine gR_fields C dX8_takeFields_22 ?_
  refine z_iconst (v := 3) C dX8_takeFields_25 (by decide) ?_
  refine z_iload C dX8_takeFields_26 4 rfl ?_
  refine sRn_fields C 3 (by decide +kernel) (vp_in_iff.mpr (by decide +kernel)) dX8_takeFields_28 ?_
  refine z_stR (fun u104 eu104 => ?_)
  have h := h u104 eu104
  refine z_aload_n C dX8_takeFields_29 rfl 0 rfl ?_
  refine gR_fields C dX8_takeFields_30 ?_
  refine z_iconst (v := 4) C dX8_takeFields_33 (by decide) ?_
  refine z_iload C dX8_takeFields_34 5 rfl ?_
  refine sRn_fields C 4 (by decide +kernel) (vp_in_iff.mpr (by decide +kernel)) dX8_takeFields_36 ?_
  refine z_stR (fun u105 eu105 => ?_)
  have h := h u105 eu105
  refine z_iload_n C dX8_takeFields_37 rfl 1 rfl ?_
  refine cSi (As := [.int x1]) C (c_X8_isByte l g x1 _ h) s_X8_isByte ml8_98 ⟨Nat.le_of_ble_eq_true rfl, Nat.le_of_ble_eq_true rfl⟩ ⟨Nat.zero_le _, Nat.zero_le _⟩ (Nat.le_of_ble_eq_true rfl) rfl dX8_takeFields_38 ?_
  intro r106 h
  refine z_if_eq C dX8_takeFields_41 (tgt := 81) (by decide) (fun hc107 => ?_) (fun hc107 => ?_)
  · have h := h.1 hc107
    refine z_lv (lv1 := [(0, .ref (ad 0))]) [0] rfl ?_
    exact b_X8_takeFields_81 C hr ad Q u105 h
  · have h := h.2 hc107
    refine z_iload_n C dX8_takeFields_44 rfl 2 rfl ?_
    refine cSi (As := [.int x2]) C (c_X8_isByte l g x2 _ h) s_X8_isByte ml8_98 ⟨Nat.le_of_ble_eq_true rfl, Nat.le_of_ble_eq_true rfl⟩ ⟨Nat.zero_le _, Nat.zero_le _⟩ (Nat.le_of_ble_eq_true rfl) rfl dX8_takeFields_45 ?_
    intro r108 h
    refine z_if_eq C dX8_takeFields_48 (tgt := 81) (by decide) (fun hc109 => ?_) (fun hc109 => ?_)
    · have h := h.1 hc109
      refine z_lv (lv1 := [(0, .ref (ad 0))]) [0] rfl ?_
      exact b_X8_takeFields_81 C hr ad Q u105 h
    · have h := h.2 hc109
      refine z_iload_n C dX8_takeFields_51 rfl 3 rfl ?_
      refine cSi (As := [.int x3]) C (c_X8_isByte l g x3 _ h) s_X8_isByte ml8_98 ⟨Nat.le_of_ble_eq_true rfl, Nat.le_of_ble_eq_true rfl⟩ ⟨Nat.zero_le _, Nat.zero_le _⟩ (Nat.le_of_ble_eq_true rfl) rfl dX8_takeFields_52 ?_
      intro r110 h
      refine z_if_eq C dX8_takeFields_55 (tgt := 81) (by decide) (fun hc111 => ?_) (fun hc111 => ?_)
      · have h := h.1 hc111
        refine z_lv (lv1 := [(0, .ref (ad 0))]) [0] rfl ?_
        exact b_X8_takeFields_81 C hr ad Q u105 h
      · have h := h.2 hc111
        refine z_iload C dX8_takeFields_58 4 rfl ?_
        refine cSi (As := [.int x4]) C (c_X8_isByte l g x4 _ h) s_X8_isByte ml8_98 ⟨Nat.le_of_ble_eq_true rfl, Nat.le_of_ble_eq_true rfl⟩ ⟨Nat.zero_le _, Nat.zero_le _⟩ (Nat.le_of_ble_eq_true rfl) rfl dX8_takeFields_60 ?_
        intro r112 h
        refine z_if_eq C dX8_takeFields_63 (tgt := 81) (by decide) (fun hc113 => ?_) (fun hc113 => ?_)
        · have h := h.1 hc113
          refine z_lv (lv1 := [(0, .ref (ad 0))]) [0] rfl ?_
          exact b_X8_takeFields_81 C hr ad Q u105 h
        · have h := h.2 hc113
          refine z_iload C dX8_takeFields_66 5 rfl ?_
          refine z_i2l C dX8_takeFields_68 ?_
          refine z_lconst (v := 0) C dX8_takeFields_69 (by decide) ?_
          refine z_lconst (v := 1) C dX8_takeFields_70 (by decide) ?_
          refine cSi (As := [.long ((x5).toInt64), .long 0, .long 1]) C (c_X8_in l g ((x5).toInt64) 0 1 _ h) s_X8_in ml8_84 ⟨Nat.le_of_ble_eq_true rfl, Nat.le_of_ble_eq_true rfl⟩ ⟨Nat.zero_le _, Nat.zero_le _⟩ (Nat.le_of_ble_eq_true rfl) rfl dX8_takeFields_71 ?_
          intro r114 h
          refine z_if_eq C dX8_takeFields_74 (tgt := 81) (by decide) (fun hc115 => ?_) (fun hc115 => ?_)
          · have h := h.1 hc115
            refine z_lv (lv1 := [(0, .ref (ad 0))]) [0] rfl ?_
            exact b_X8_takeFields_81 C hr ad Q u105 h
          · have h := h.2 hc115
            refine z_iconst (v := 1) C dX8_takeFields_77 (by decide) ?_
            refine z_goto C dX8_takeFields_78 (tgt := 82) (by decide) ?_
            refine z_lv (lv1 := [(0, .ref (ad 0))]) [0] rfl ?_
            exact b_X8_takeFields_82 C hr ad Q u105 1 h
abbrev j_X8_wishOf (p : Program) (l : Launch) (e : Env) (s : State) (m : MethodId) (args : Array Value) (below : List Frame) (meth : Method) (c : Code) (g : zG) (A : Nat → Prop) (ad : Nat → Nat) (Q : Int32 → RS → Prop) (u : RS) (pc : Nat) (lv : List (Nat × Value)) (st : List Value) : Prop := zJ p l e (zR 2 0 0) s m args below meth c g A 3 (zQi below args s g A 0 0 (wR g ad) Q) (wR g ad u) 0 0 pc lv st
def wp_X8_wishOf_38 (Q : Int32 → RS → Prop) (u : RS) (t0 : Int32) : Prop :=
  Q t0 u
set_option maxRecDepth 20000 in
theorem b_X8_wishOf_38 (C : zC p s m args meth c g A cX8_wishOf RX8 3) (hr : meth.sig.returnType = (some .int)) (ad : Nat → Nat) (Q : Int32 → RS → Prop) (u : RS) (t0 : Int32) (h : wp_X8_wishOf_38 Q u t0) : j_X8_wishOf p l e s m args below meth c g A ad Q u 38 [(0, .ref (ad 0))] [.int t0] := by
  unfold wp_X8_wishOf_38 at h
  exact z_iret C hr u rfl h dX8_wishOf_38
def wp_X8_wishOf (u : RS) (x1 : Int32) (Q : Int32 → RS → Prop) : Prop :=
  wp_X8_ruleOf u x1 (fun r101 u102 => ((¬ r101 = (-1) → wp_X8_ruleAt r101 (fun r104 => vp_in (r104 + 1) 1065 ∧ wp_X8_wishOf_38 Q u102 (u102.1 3 (zn (r104 + 1))))) ∧ (r101 = (-1) → wp_X8_entryOf u102 x1 (fun r106 u107 => vp_in (23 + r106) 1065 ∧ wp_X8_wishOf_38 Q u107 (u107.1 3 (zn (23 + r106)))))))
set_option maxRecDepth 20000 in
theorem c_X8_wishOf (l : Launch) (g : zG) (ad : Nat → Nat) (u : RS) (x1 : Int32) (Q : Int32 → RS → Prop) (h : wp_X8_wishOf u x1 Q) : zMi l yX8_wishOf cX8_wishOf 3 (some .int) 2 0 0 g [.ref (ad 0), .int x1] (wR g ad u) (wR g ad) Q := by
  refine zMi_of RX8 (by decide) rfl [(0, .ref (ad 0)), (1, .int x1)] rfl (Nat.le_of_ble_eq_true rfl) (fun p e s m args below meth c A C hr hnm => ?_)
  unfold wp_X8_wishOf at h
  refine z_aload_n C dX8_wishOf_0 rfl 0 rfl ?_
  refine z_iload_n C dX8_wishOf_1 rfl 1 rfl ?_
  refine cRi (As := [.int x1]) C (c_X8_ruleOf l g ad u x1 _ h) v_X8_ruleOf ml8_119 rfl ⟨Nat.le_of_ble_eq_true rfl, Nat.le_of_ble_eq_true rfl⟩ ⟨Nat.zero_le _, Nat.zero_le _⟩ (Nat.le_of_ble_eq_true rfl) rfl dX8_wishOf_2 ?_
  intro r101 u102 h
  refine z_istore_n (lv1 := [(2, .int r101), (0, .ref (ad 0)), (1, .int x1)]) C dX8_wishOf_5 rfl (by decide) rfl ?_
  refine z_iload_n C dX8_wishOf_6 rfl 0 rfl ?_
  refine z_iconst (v := (-1)) C dX8_wishOf_7 (by decide) ?_
  refine z_icmp_ne C dX8_wishOf_8 (tgt := 27) (by decide) (fun hc103 => ?_) (fun hc103 => ?_)
  · have h := h.1 hc103
    refine z_aload_n C dX8_wishOf_27 rfl 1 rfl ?_
    refine gR_row C dX8_wishOf_28 ?_
    refine z_iload_n C dX8_wishOf_31 rfl 0 rfl ?_
    refine cSi (As := [.int r101]) C (c_X8_ruleAt l g r101 _ h) s_X8_ruleAt ml8_116 ⟨Nat.le_of_ble_eq_true rfl, Nat.le_of_ble_eq_true rfl⟩ ⟨Nat.zero_le _, Nat.zero_le _⟩ (Nat.le_of_ble_eq_true rfl) rfl dX8_wishOf_32 ?_
    intro r104 h
    refine z_iconst (v := 1) C dX8_wishOf_35 (by decide) ?_
    refine z_iadd C dX8_wishOf_36 ?_
    obtain ⟨hi105, h⟩ := h
    refine lR_row C hi105 dX8_wishOf_37 ?_
    refine z_lv (lv1 := [(0, .ref (ad 0))]) [1] rfl ?_
    exact b_X8_wishOf_38 C hr ad Q u102 (u102.1 3 (zn (r104 + 1))) h
  · have h := h.2 hc103
    refine z_aload_n C dX8_wishOf_11 rfl 1 rfl ?_
    refine gR_row C dX8_wishOf_12 ?_
    refine z_bipush (v := 23) C dX8_wishOf_15 (by decide) ?_
    refine z_aload_n C dX8_wishOf_17 rfl 1 rfl ?_
    refine z_iload_n C dX8_wishOf_18 rfl 2 rfl ?_
    refine cRi (As := [.int x1]) C (c_X8_entryOf l g ad u102 x1 _ h) v_X8_entryOf ml8_122 rfl ⟨Nat.le_of_ble_eq_true rfl, Nat.le_of_ble_eq_true rfl⟩ ⟨Nat.zero_le _, Nat.zero_le _⟩ (Nat.le_of_ble_eq_true rfl) rfl dX8_wishOf_19 ?_
    intro r106 u107 h
    refine z_iadd C dX8_wishOf_22 ?_
    obtain ⟨hi108, h⟩ := h
    refine lR_row C hi108 dX8_wishOf_23 ?_
    refine z_goto C dX8_wishOf_24 (tgt := 38) (by decide) ?_
    refine z_lv (lv1 := [(0, .ref (ad 0))]) [1] rfl ?_
    exact b_X8_wishOf_38 C hr ad Q u107 (u107.1 3 (zn (23 + r106))) h
abbrev j_X8_queueOf (p : Program) (l : Launch) (e : Env) (s : State) (m : MethodId) (args : Array Value) (below : List Frame) (meth : Method) (c : Code) (g : zG) (A : Nat → Prop) (ad : Nat → Nat) (Q : Int32 → RS → Prop) (u : RS) (pc : Nat) (lv : List (Nat × Value)) (st : List Value) : Prop := zJ p l e (zR 2 0 0) s m args below meth c g A 5 (zQi below args s g A 0 0 (wR g ad) Q) (wR g ad u) 0 0 pc lv st
def wp_X8_queueOf_46 (Q : Int32 → RS → Prop) (B4 : RS → Int32 → Int32 → Int32 → Prop) (B12 : RS → Int32 → Int32 → Int32 → Int32 → Prop) (u : RS) (x1 : Int32) (x3 : Int32) (x4 : Int32) (t0 : Int32) : Prop :=
  ∀ x109 : Int32, x109 = x4 + 1 → B12 u x1 t0 x3 x109
set_option maxRecDepth 20000 in
theorem b_X8_queueOf_46 (C : zC p s m args meth c g A cX8_queueOf RX8 5) (hr : meth.sig.returnType = (some .int)) (ad : Nat → Nat) (Q : Int32 → RS → Prop) (B4 : RS → Int32 → Int32 → Int32 → Prop) (hB4 : ∀ (u : RS) (x1 : Int32) (x2 : Int32) (x3 : Int32), B4 u x1 x2 x3 → j_X8_queueOf p l e s m args below meth c g A ad Q u 4 [(0, .ref (ad 0)), (1, .int x1), (2, .int x2), (3, .int x3)] []) (B12 : RS → Int32 → Int32 → Int32 → Int32 → Prop) (hB12 : ∀ (u : RS) (x1 : Int32) (x2 : Int32) (x3 : Int32) (x4 : Int32), B12 u x1 x2 x3 x4 → j_X8_queueOf p l e s m args below meth c g A ad Q u 12 [(0, .ref (ad 0)), (1, .int x1), (2, .int x2), (3, .int x3), (4, .int x4)] []) (u : RS) (x1 : Int32) (x3 : Int32) (x4 : Int32) (t0 : Int32) (h : wp_X8_queueOf_46 Q B4 B12 u x1 x3 x4 t0) : j_X8_queueOf p l e s m args below meth c g A ad Q u 46 [(0, .ref (ad 0)), (1, .int x1), (3, .int x3), (4, .int x4)] [.int t0] := by
  unfold wp_X8_queueOf_46 at h
  refine z_istore_n (lv1 := [(2, .int t0), (0, .ref (ad 0)), (1, .int x1), (3, .int x3), (4, .int x4)]) C dX8_queueOf_46 rfl (by decide) rfl ?_
  obtain ⟨x109, ex109⟩ : ∃ y : Int32, y = x4 + 1 := ⟨_, rfl⟩
  have h := h x109 ex109
  refine z_iinc (v := x109) (lv1 := [(4, .int x109), (2, .int t0), (0, .ref (ad 0)), (1, .int x1), (3, .int x3)]) C dX8_queueOf_47 4 rfl (by rw [ex109]; rfl) (by decide) rfl ?_
  refine z_goto C dX8_queueOf_50 (tgt := 12) (by decide) ?_
  refine z_lv (lv1 := [(0, .ref (ad 0)), (1, .int x1), (2, .int t0), (3, .int x3), (4, .int x109)]) [2, 3, 1, 4, 0] rfl ?_
  exact hB12 u x1 t0 x3 x109 h
def wp_X8_queueOf_12 (Q : Int32 → RS → Prop) (B4 : RS → Int32 → Int32 → Int32 → Prop) (B12 : RS → Int32 → Int32 → Int32 → Int32 → Prop) (u : RS) (x1 : Int32) (x2 : Int32) (x3 : Int32) (x4 : Int32) : Prop :=
  wp_X8_queueAt x3 (fun r102 => vp_in r102 1065 ∧ ((u.1 3 (zn r102) ≤ x4 → ∀ x105 : Int32, x105 = x3 + 1 → B4 u x1 x2 x105) ∧ (¬ u.1 3 (zn r102) ≤ x4 → wp_X8_packetAt x3 x4 (fun r106 => vp_in r106 1065 ∧ ((¬ u.1 3 (zn r106) = x1 → wp_X8_queueOf_46 Q B4 B12 u x1 x3 x4 x2) ∧ (u.1 3 (zn r106) = x1 → wp_X8_queueOf_46 Q B4 B12 u x1 x3 x4 x3))))))
set_option maxRecDepth 20000 in
theorem b_X8_queueOf_12 (C : zC p s m args meth c g A cX8_queueOf RX8 5) (hr : meth.sig.returnType = (some .int)) (ad : Nat → Nat) (Q : Int32 → RS → Prop) (B4 : RS → Int32 → Int32 → Int32 → Prop) (hB4 : ∀ (u : RS) (x1 : Int32) (x2 : Int32) (x3 : Int32), B4 u x1 x2 x3 → j_X8_queueOf p l e s m args below meth c g A ad Q u 4 [(0, .ref (ad 0)), (1, .int x1), (2, .int x2), (3, .int x3)] []) (B12 : RS → Int32 → Int32 → Int32 → Int32 → Prop) (hB12 : ∀ (u : RS) (x1 : Int32) (x2 : Int32) (x3 : Int32) (x4 : Int32), B12 u x1 x2 x3 x4 → j_X8_queueOf p l e s m args below meth c g A ad Q u 12 [(0, .ref (ad 0)), (1, .int x1), (2, .int x2), (3, .int x3), (4, .int x4)] []) (u : RS) (x1 : Int32) (x2 : Int32) (x3 : Int32) (x4 : Int32) (h : wp_X8_queueOf_12 Q B4 B12 u x1 x2 x3 x4) : j_X8_queueOf p l e s m args below meth c g A ad Q u 12 [(0, .ref (ad 0)), (1, .int x1), (2, .int x2), (3, .int x3), (4, .int x4)] [] := by
  unfold wp_X8_queueOf_12 at h
  refine z_iload C dX8_queueOf_12 4 rfl ?_
  refine z_aload_n C dX8_queueOf_14 rfl 0 rfl ?_
  refine gR_row C dX8_queueOf_15 ?_
  refine z_iload_n C dX8_queueOf_18 rfl 3 rfl ?_
  refine cSi (As := [.int x3]) C (c_X8_queueAt l g x3 _ h) s_X8_queueAt ml8_57 ⟨Nat.le_of_ble_eq_true rfl, Nat.le_of_ble_eq_true rfl⟩ ⟨Nat.zero_le _, Nat.zero_le _⟩ (Nat.le_of_ble_eq_true rfl) rfl dX8_queueOf_19 ?_
  intro r102 h
  obtain ⟨hi103, h⟩ := h
  refine lR_row C hi103 dX8_queueOf_22 ?_
  refine z_icmp_ge C dX8_queueOf_23 (tgt := 53) (by decide) (fun hc104 => ?_) (fun hc104 => ?_)
  · have h := h.1 hc104
    obtain ⟨x105, ex105⟩ : ∃ y : Int32, y = x3 + 1 := ⟨_, rfl⟩
    have h := h x105 ex105
    refine z_iinc (v := x105) (lv1 := [(3, .int x105), (0, .ref (ad 0)), (1, .int x1), (2, .int x2), (4, .int x4)]) C dX8_queueOf_53 3 rfl (by rw [ex105]; rfl) (by decide) rfl ?_
    refine z_goto C dX8_queueOf_56 (tgt := 4) (by decide) ?_
    refine z_lv (lv1 := [(0, .ref (ad 0)), (1, .int x1), (2, .int x2), (3, .int x105)]) [1, 2, 3, 0] rfl ?_
    exact hB4 u x1 x2 x105 h
  · have h := h.2 hc104
    refine z_aload_n C dX8_queueOf_26 rfl 0 rfl ?_
    refine gR_row C dX8_queueOf_27 ?_
    refine z_iload_n C dX8_queueOf_30 rfl 3 rfl ?_
    refine z_iload C dX8_queueOf_31 4 rfl ?_
    refine cSi (As := [.int x3, .int x4]) C (c_X8_packetAt l g x3 x4 _ h) s_X8_packetAt ml8_125 ⟨Nat.le_of_ble_eq_true rfl, Nat.le_of_ble_eq_true rfl⟩ ⟨Nat.zero_le _, Nat.zero_le _⟩ (Nat.le_of_ble_eq_true rfl) rfl dX8_queueOf_33 ?_
    intro r106 h
    obtain ⟨hi107, h⟩ := h
    refine lR_row C hi107 dX8_queueOf_36 ?_
    refine z_iload_n C dX8_queueOf_37 rfl 1 rfl ?_
    refine z_icmp_ne C dX8_queueOf_38 (tgt := 45) (by decide) (fun hc108 => ?_) (fun hc108 => ?_)
    · have h := h.1 hc108
      refine z_iload_n C dX8_queueOf_45 rfl 2 rfl ?_
      refine z_lv (lv1 := [(0, .ref (ad 0)), (1, .int x1), (3, .int x3), (4, .int x4)]) [0, 1, 3, 4] rfl ?_
      exact b_X8_queueOf_46 C hr ad Q B4 hB4 B12 hB12 u x1 x3 x4 x2 h
    · have h := h.2 hc108
      refine z_iload_n C dX8_queueOf_41 rfl 3 rfl ?_
      refine z_goto C dX8_queueOf_42 (tgt := 46) (by decide) ?_
      refine z_lv (lv1 := [(0, .ref (ad 0)), (1, .int x1), (3, .int x3), (4, .int x4)]) [0, 1, 3, 4] rfl ?_
      exact b_X8_queueOf_46 C hr ad Q B4 hB4 B12 hB12 u x1 x3 x4 x3 h
theorem l_X8_queueOf_12 (C : zC p s m args meth c g A cX8_queueOf RX8 5) (hr : meth.sig.returnType = (some .int)) (ad : Nat → Nat) (Q : Int32 → RS → Prop) (B4 : RS → Int32 → Int32 → Int32 → Prop) (hB4 : ∀ (u : RS) (x1 : Int32) (x2 : Int32) (x3 : Int32), B4 u x1 x2 x3 → j_X8_queueOf p l e s m args below meth c g A ad Q u 4 [(0, .ref (ad 0)), (1, .int x1), (2, .int x2), (3, .int x3)] []) : ∀ (n : Nat) (u : RS) (x1 : Int32) (x2 : Int32) (x3 : Int32) (x4 : Int32), zit5 (wp_X8_queueOf_12 Q B4) n u x1 x2 x3 x4 → j_X8_queueOf p l e s m args below meth c g A ad Q u 12 [(0, .ref (ad 0)), (1, .int x1), (2, .int x2), (3, .int x3), (4, .int x4)] [] := by
  intro n
  induction n with
  | zero => exact fun u x1 x2 x3 x4 h => h.elim
  | succ n ih => exact fun u x1 x2 x3 x4 h => b_X8_queueOf_12 C hr ad Q B4 hB4 (zit5 (wp_X8_queueOf_12 Q B4) n) ih u x1 x2 x3 x4 h
def wp_X8_queueOf_4 (Q : Int32 → RS → Prop) (B4 : RS → Int32 → Int32 → Int32 → Prop) (u : RS) (x1 : Int32) (x2 : Int32) (x3 : Int32) : Prop :=
  ((4 ≤ x3 → Q x2 u) ∧ (¬ 4 ≤ x3 → (∃ n, zit5 (wp_X8_queueOf_12 Q B4) n u x1 x2 x3 0)))
set_option maxRecDepth 20000 in
theorem b_X8_queueOf_4 (C : zC p s m args meth c g A cX8_queueOf RX8 5) (hr : meth.sig.returnType = (some .int)) (ad : Nat → Nat) (Q : Int32 → RS → Prop) (B4 : RS → Int32 → Int32 → Int32 → Prop) (hB4 : ∀ (u : RS) (x1 : Int32) (x2 : Int32) (x3 : Int32), B4 u x1 x2 x3 → j_X8_queueOf p l e s m args below meth c g A ad Q u 4 [(0, .ref (ad 0)), (1, .int x1), (2, .int x2), (3, .int x3)] []) (u : RS) (x1 : Int32) (x2 : Int32) (x3 : Int32) (h : wp_X8_queueOf_4 Q B4 u x1 x2 x3) : j_X8_queueOf p l e s m args below meth c g A ad Q u 4 [(0, .ref (ad 0)), (1, .int x1), (2, .int x2), (3, .int x3)] [] := by
  unfold wp_X8_queueOf_4 at h
  refine z_iload_n C dX8_queueOf_4 rfl 3 rfl ?_
  refine z_iconst (v := 4) C dX8_queueOf_5 (by decide) ?_
  refine z_icmp_ge C dX8_queueOf_6 (tgt := 59) (by decide) (fun hc101 => ?_) (fun hc101 => ?_)
  · have h := h.1 hc101
    refine z_iload_n C dX8_queueOf_59 rfl 2 rfl ?_
    exact z_iret C hr u rfl h dX8_queueOf_60
  · have h := h.2 hc101
    refine z_iconst (v := 0) C dX8_queueOf_9 (by decide) ?_
    refine z_istore (lv1 := [(4, .int 0), (0, .ref (ad 0)), (1, .int x1), (2, .int x2), (3, .int x3)]) C dX8_queueOf_10 (by decide) rfl ?_
    refine z_lv (lv1 := [(0, .ref (ad 0)), (1, .int x1), (2, .int x2), (3, .int x3), (4, .int 0)]) [1, 2, 3, 4, 0] rfl ?_
    obtain ⟨n9, h⟩ := h
    exact l_X8_queueOf_12 C hr ad Q B4 hB4 n9 u x1 x2 x3 0 h
theorem l_X8_queueOf_4 (C : zC p s m args meth c g A cX8_queueOf RX8 5) (hr : meth.sig.returnType = (some .int)) (ad : Nat → Nat) (Q : Int32 → RS → Prop) : ∀ (n : Nat) (u : RS) (x1 : Int32) (x2 : Int32) (x3 : Int32), zit4 (wp_X8_queueOf_4 Q) n u x1 x2 x3 → j_X8_queueOf p l e s m args below meth c g A ad Q u 4 [(0, .ref (ad 0)), (1, .int x1), (2, .int x2), (3, .int x3)] [] := by
  intro n
  induction n with
  | zero => exact fun u x1 x2 x3 h => h.elim
  | succ n ih => exact fun u x1 x2 x3 h => b_X8_queueOf_4 C hr ad Q (zit4 (wp_X8_queueOf_4 Q) n) ih u x1 x2 x3 h
def wp_X8_queueOf (u : RS) (x1 : Int32) (Q : Int32 → RS → Prop) : Prop :=
  (∃ n, zit4 (wp_X8_queueOf_4 Q) n u x1 (-1) 0)
set_option maxRecDepth 20000 in
theorem c_X8_queueOf (l : Launch) (g : zG) (ad : Nat → Nat) (u : RS) (x1 : Int32) (Q : Int32 → RS → Prop) (h : wp_X8_queueOf u x1 Q) : zMi l yX8_queueOf cX8_queueOf 5 (some .int) 2 0 0 g [.ref (ad 0), .int x1] (wR g ad u) (wR g ad) Q := by
  refine zMi_of RX8 (by decide) rfl [(0, .ref (ad 0)), (1, .int x1)] rfl (Nat.le_of_ble_eq_true rfl) (fun p e s m args below meth c A C hr hnm => ?_)
  unfold wp_X8_queueOf at h
  refine z_iconst (v := (-1)) C dX8_queueOf_0 (by decide) ?_
  refine z_istore_n (lv1 := [(2, .int (-1)), (0, .ref (ad 0)), (1, .int x1)]) C dX8_queueOf_1 rfl (by decide) rfl ?_
  refine z_iconst (v := 0) C dX8_queueOf_2 (by decide) ?_
  refine z_istore_n (lv1 := [(3, .int 0), (2, .int (-1)), (0, .ref (ad 0)), (1, .int x1)]) C dX8_queueOf_3 rfl (by decide) rfl ?_
  refine z_lv (lv1 := [(0, .ref (ad 0)), (1, .int x1), (2, .int (-1)), (3, .int 0)]) [2, 3, 1, 0] rfl ?_
  obtain ⟨n9, h⟩ := h
  exact l_X8_queueOf_4 C hr ad Q n9 u x1 (-1) 0 h
abbrev j_X8_packetsOf (p : Program) (l : Launch) (e : Env) (s : State) (m : MethodId) (args : Array Value) (below : List Frame) (meth : Method) (c : Code) (g : zG) (A : Nat → Prop) (ad : Nat → Nat) (Q : Int32 → RS → Prop) (u : RS) (pc : Nat) (lv : List (Nat × Value)) (st : List Value) : Prop := zJ p l e (zR 2 0 0) s m args below meth c g A 5 (zQi below args s g A 0 0 (wR g ad) Q) (wR g ad u) 0 0 pc lv st
def wp_X8_packetsOf_47 (Q : Int32 → RS → Prop) (B4 : RS → Int32 → Int32 → Int32 → Prop) (B12 : RS → Int32 → Int32 → Int32 → Int32 → Prop) (u : RS) (x1 : Int32) (x3 : Int32) (x4 : Int32) (t0 : Int32) (t1 : Int32) : Prop :=
  ∀ x109 : Int32, x109 = t1 + t0 → ∀ x110 : Int32, x110 = x4 + 1 → B12 u x1 x109 x3 x110
set_option maxRecDepth 20000 in
theorem b_X8_packetsOf_47 (C : zC p s m args meth c g A cX8_packetsOf RX8 5) (hr : meth.sig.returnType = (some .int)) (ad : Nat → Nat) (Q : Int32 → RS → Prop) (B4 : RS → Int32 → Int32 → Int32 → Prop) (hB4 : ∀ (u : RS) (x1 : Int32) (x2 : Int32) (x3 : Int32), B4 u x1 x2 x3 → j_X8_packetsOf p l e s m args below meth c g A ad Q u 4 [(0, .ref (ad 0)), (1, .int x1), (2, .int x2), (3, .int x3)] []) (B12 : RS → Int32 → Int32 → Int32 → Int32 → Prop) (hB12 : ∀ (u : RS) (x1 : Int32) (x2 : Int32) (x3 : Int32) (x4 : Int32), B12 u x1 x2 x3 x4 → j_X8_packetsOf p l e s m args below meth c g A ad Q u 12 [(0, .ref (ad 0)), (1, .int x1), (2, .int x2), (3, .int x3), (4, .int x4)] []) (u : RS) (x1 : Int32) (x3 : Int32) (x4 : Int32) (t0 : Int32) (t1 : Int32) (h : wp_X8_packetsOf_47 Q B4 B12 u x1 x3 x4 t0 t1) : j_X8_packetsOf p l e s m args below meth c g A ad Q u 47 [(0, .ref (ad 0)), (1, .int x1), (3, .int x3), (4, .int x4)] [.int t0, .int t1] := by
  unfold wp_X8_packetsOf_47 at h
  refine z_iadd C dX8_packetsOf_47 ?_
  refine z_topi (fun x109 ex109 => ?_)
  have h := h x109 ex109
  refine z_istore_n (lv1 := [(2, .int x109), (0, .ref (ad 0)), (1, .int x1), (3, .int x3), (4, .int x4)]) C dX8_packetsOf_48 rfl (by decide) rfl ?_
  obtain ⟨x110, ex110⟩ : ∃ y : Int32, y = x4 + 1 := ⟨_, rfl⟩
  have h := h x110 ex110
  refine z_iinc (v := x110) (lv1 := [(4, .int x110), (2, .int x109), (0, .ref (ad 0)), (1, .int x1), (3, .int x3)]) C dX8_packetsOf_49 4 rfl (by rw [ex110]; rfl) (by decide) rfl ?_
  refine z_goto C dX8_packetsOf_52 (tgt := 12) (by decide) ?_
  refine z_lv (lv1 := [(0, .ref (ad 0)), (1, .int x1), (2, .int x109), (3, .int x3), (4, .int x110)]) [2, 3, 1, 4, 0] rfl ?_
  exact hB12 u x1 x109 x3 x110 h
def wp_X8_packetsOf_12 (Q : Int32 → RS → Prop) (B4 : RS → Int32 → Int32 → Int32 → Prop) (B12 : RS → Int32 → Int32 → Int32 → Int32 → Prop) (u : RS) (x1 : Int32) (x2 : Int32) (x3 : Int32) (x4 : Int32) : Prop :=
  wp_X8_queueAt x3 (fun r102 => vp_in r102 1065 ∧ ((u.1 3 (zn r102) ≤ x4 → ∀ x105 : Int32, x105 = x3 + 1 → B4 u x1 x2 x105) ∧ (¬ u.1 3 (zn r102) ≤ x4 → wp_X8_packetAt x3 x4 (fun r106 => vp_in r106 1065 ∧ ((¬ u.1 3 (zn r106) = x1 → wp_X8_packetsOf_47 Q B4 B12 u x1 x3 x4 0 x2) ∧ (u.1 3 (zn r106) = x1 → wp_X8_packetsOf_47 Q B4 B12 u x1 x3 x4 1 x2))))))
set_option maxRecDepth 20000 in
theorem b_X8_packetsOf_12 (C : zC p s m args meth c g A cX8_packetsOf RX8 5) (hr : meth.sig.returnType = (some .int)) (ad : Nat → Nat) (Q : Int32 → RS → Prop) (B4 : RS → Int32 → Int32 → Int32 → Prop) (hB4 : ∀ (u : RS) (x1 : Int32) (x2 : Int32) (x3 : Int32), B4 u x1 x2 x3 → j_X8_packetsOf p l e s m args below meth c g A ad Q u 4 [(0, .ref (ad 0)), (1, .int x1), (2, .int x2), (3, .int x3)] []) (B12 : RS → Int32 → Int32 → Int32 → Int32 → Prop) (hB12 : ∀ (u : RS) (x1 : Int32) (x2 : Int32) (x3 : Int32) (x4 : Int32), B12 u x1 x2 x3 x4 → j_X8_packetsOf p l e s m args below meth c g A ad Q u 12 [(0, .ref (ad 0)), (1, .int x1), (2, .int x2), (3, .int x3), (4, .int x4)] []) (u : RS) (x1 : Int32) (x2 : Int32) (x3 : Int32) (x4 : Int32) (h : wp_X8_packetsOf_12 Q B4 B12 u x1 x2 x3 x4) : j_X8_packetsOf p l e s m args below meth c g A ad Q u 12 [(0, .ref (ad 0)), (1, .int x1), (2, .int x2), (3, .int x3), (4, .int x4)] [] := by
  unfold wp_X8_packetsOf_12 at h
  refine z_iload C dX8_packetsOf_12 4 rfl ?_
  refine z_aload_n C dX8_packetsOf_14 rfl 0 rfl ?_
  refine gR_row C dX8_packetsOf_15 ?_
  refine z_iload_n C dX8_packetsOf_18 rfl 3 rfl ?_
  refine cSi (As := [.int x3]) C (c_X8_queueAt l g x3 _ h) s_X8_queueAt ml8_57 ⟨Nat.le_of_ble_eq_true rfl, Nat.le_of_ble_eq_true rfl⟩ ⟨Nat.zero_le _, Nat.zero_le _⟩ (Nat.le_of_ble_eq_true rfl) rfl dX8_packetsOf_19 ?_
  intro r102 h
  obtain ⟨hi103, h⟩ := h
  refine lR_row C hi103 dX8_packetsOf_22 ?_
  refine z_icmp_ge C dX8_packetsOf_23 (tgt := 55) (by decide) (fun hc104 => ?_) (fun hc104 => ?_)
  · have h := h.1 hc104
    obtain ⟨x105, ex105⟩ : ∃ y : Int32, y = x3 + 1 := ⟨_, rfl⟩
    have h := h x105 ex105
    refine z_iinc (v := x105) (lv1 := [(3, .int x105), (0, .ref (ad 0)), (1, .int x1), (2, .int x2), (4, .int x4)]) C dX8_packetsOf_55 3 rfl (by rw [ex105]; rfl) (by decide) rfl ?_
    refine z_goto C dX8_packetsOf_58 (tgt := 4) (by decide) ?_
    refine z_lv (lv1 := [(0, .ref (ad 0)), (1, .int x1), (2, .int x2), (3, .int x105)]) [1, 2, 3, 0] rfl ?_
    exact hB4 u x1 x2 x105 h
  · have h := h.2 hc104
    refine z_iload_n C dX8_packetsOf_26 rfl 2 rfl ?_
    refine z_aload_n C dX8_packetsOf_27 rfl 0 rfl ?_
    refine gR_row C dX8_packetsOf_28 ?_
    refine z_iload_n C dX8_packetsOf_31 rfl 3 rfl ?_
    refine z_iload C dX8_packetsOf_32 4 rfl ?_
    refine cSi (As := [.int x3, .int x4]) C (c_X8_packetAt l g x3 x4 _ h) s_X8_packetAt ml8_125 ⟨Nat.le_of_ble_eq_true rfl, Nat.le_of_ble_eq_true rfl⟩ ⟨Nat.zero_le _, Nat.zero_le _⟩ (Nat.le_of_ble_eq_true rfl) rfl dX8_packetsOf_34 ?_
    intro r106 h
    obtain ⟨hi107, h⟩ := h
    refine lR_row C hi107 dX8_packetsOf_37 ?_
    refine z_iload_n C dX8_packetsOf_38 rfl 1 rfl ?_
    refine z_icmp_ne C dX8_packetsOf_39 (tgt := 46) (by decide) (fun hc108 => ?_) (fun hc108 => ?_)
    · have h := h.1 hc108
      refine z_iconst (v := 0) C dX8_packetsOf_46 (by decide) ?_
      refine z_lv (lv1 := [(0, .ref (ad 0)), (1, .int x1), (3, .int x3), (4, .int x4)]) [0, 1, 3, 4] rfl ?_
      exact b_X8_packetsOf_47 C hr ad Q B4 hB4 B12 hB12 u x1 x3 x4 0 x2 h
    · have h := h.2 hc108
      refine z_iconst (v := 1) C dX8_packetsOf_42 (by decide) ?_
      refine z_goto C dX8_packetsOf_43 (tgt := 47) (by decide) ?_
      refine z_lv (lv1 := [(0, .ref (ad 0)), (1, .int x1), (3, .int x3), (4, .int x4)]) [0, 1, 3, 4] rfl ?_
      exact b_X8_packetsOf_47 C hr ad Q B4 hB4 B12 hB12 u x1 x3 x4 1 x2 h
theorem l_X8_packetsOf_12 (C : zC p s m args meth c g A cX8_packetsOf RX8 5) (hr : meth.sig.returnType = (some .int)) (ad : Nat → Nat) (Q : Int32 → RS → Prop) (B4 : RS → Int32 → Int32 → Int32 → Prop) (hB4 : ∀ (u : RS) (x1 : Int32) (x2 : Int32) (x3 : Int32), B4 u x1 x2 x3 → j_X8_packetsOf p l e s m args below meth c g A ad Q u 4 [(0, .ref (ad 0)), (1, .int x1), (2, .int x2), (3, .int x3)] []) : ∀ (n : Nat) (u : RS) (x1 : Int32) (x2 : Int32) (x3 : Int32) (x4 : Int32), zit5 (wp_X8_packetsOf_12 Q B4) n u x1 x2 x3 x4 → j_X8_packetsOf p l e s m args below meth c g A ad Q u 12 [(0, .ref (ad 0)), (1, .int x1), (2, .int x2), (3, .int x3), (4, .int x4)] [] := by
  intro n
  induction n with
  | zero => exact fun u x1 x2 x3 x4 h => h.elim
  | succ n ih => exact fun u x1 x2 x3 x4 h => b_X8_packetsOf_12 C hr ad Q B4 hB4 (zit5 (wp_X8_packetsOf_12 Q B4) n) ih u x1 x2 x3 x4 h
def wp_X8_packetsOf_4 (Q : Int32 → RS → Prop) (B4 : RS → Int32 → Int32 → Int32 → Prop) (u : RS) (x1 : Int32) (x2 : Int32) (x3 : Int32) : Prop :=
  ((4 ≤ x3 → Q x2 u) ∧ (¬ 4 ≤ x3 → (∃ n, zit5 (wp_X8_packetsOf_12 Q B4) n u x1 x2 x3 0)))
set_option maxRecDepth 20000 in
theorem b_X8_packetsOf_4 (C : zC p s m args meth c g A cX8_packetsOf RX8 5) (hr : meth.sig.returnType = (some .int)) (ad : Nat → Nat) (Q : Int32 → RS → Prop) (B4 : RS → Int32 → Int32 → Int32 → Prop) (hB4 : ∀ (u : RS) (x1 : Int32) (x2 : Int32) (x3 : Int32), B4 u x1 x2 x3 → j_X8_packetsOf p l e s m args below meth c g A ad Q u 4 [(0, .ref (ad 0)), (1, .int x1), (2, .int x2), (3, .int x3)] []) (u : RS) (x1 : Int32) (x2 : Int32) (x3 : Int32) (h : wp_X8_packetsOf_4 Q B4 u x1 x2 x3) : j_X8_packetsOf p l e s m args below meth c g A ad Q u 4 [(0, .ref (ad 0)), (1, .int x1), (2, .int x2), (3, .int x3)] [] := by
  unfold wp_X8_packetsOf_4 at h
  refine z_iload_n C dX8_packetsOf_4 rfl 3 rfl ?_
  refine z_iconst (v := 4) C dX8_packetsOf_5 (by decide) ?_
  refine z_icmp_ge C dX8_packetsOf_6 (tgt := 61) (by decide) (fun hc101 => ?_) (fun hc101 => ?_)
  · have h := h.1 hc101
    refine z_iload_n C dX8_packetsOf_61 rfl 2 rfl ?_
    exact z_iret C hr u rfl h dX8_packetsOf_62
  · have h := h.2 hc101
    refine z_iconst (v := 0) C dX8_packetsOf_9 (by decide) ?_
    refine z_istore (lv1 := [(4, .int 0), (0, .ref (ad 0)), (1, .int x1), (2, .int x2), (3, .int x3)]) C dX8_packetsOf_10 (by decide) rfl ?_
    refine z_lv (lv1 := [(0, .ref (ad 0)), (1, .int x1), (2, .int x2), (3, .int x3), (4, .int 0)]) [1, 2, 3, 4, 0] rfl ?_
    obtain ⟨n9, h⟩ := h
    exact l_X8_packetsOf_12 C hr ad Q B4 hB4 n9 u x1 x2 x3 0 h
theorem l_X8_packetsOf_4 (C : zC p s m args meth c g A cX8_packetsOf RX8 5) (hr : meth.sig.returnType = (some .int)) (ad : Nat → Nat) (Q : Int32 → RS → Prop) : ∀ (n : Nat) (u : RS) (x1 : Int32) (x2 : Int32) (x3 : Int32), zit4 (wp_X8_packetsOf_4 Q) n u x1 x2 x3 → j_X8_packetsOf p l e s m args below meth c g A ad Q u 4 [(0, .ref (ad 0)), (1, .int x1), (2, .int x2), (3, .int x3)] [] := by
  intro n
  induction n with
  | zero => exact fun u x1 x2 x3 h => h.elim
  | succ n ih => exact fun u x1 x2 x3 h => b_X8_packetsOf_4 C hr ad Q (zit4 (wp_X8_packetsOf_4 Q) n) ih u x1 x2 x3 h
def wp_X8_packetsOf (u : RS) (x1 : Int32) (Q : Int32 → RS → Prop) : Prop :=
  (∃ n, zit4 (wp_X8_packetsOf_4 Q) n u x1 0 0)
set_option maxRecDepth 20000 in
theorem c_X8_packetsOf (l : Launch) (g : zG) (ad : Nat → Nat) (u : RS) (x1 : Int32) (Q : Int32 → RS → Prop) (h : wp_X8_packetsOf u x1 Q) : zMi l yX8_packetsOf cX8_packetsOf 5 (some .int) 2 0 0 g [.ref (ad 0), .int x1] (wR g ad u) (wR g ad) Q := by
  refine zMi_of RX8 (by decide) rfl [(0, .ref (ad 0)), (1, .int x1)] rfl (Nat.le_of_ble_eq_true rfl) (fun p e s m args below meth c A C hr hnm => ?_)
  unfold wp_X8_packetsOf at h
  refine z_iconst (v := 0) C dX8_packetsOf_0 (by decide) ?_
  refine z_istore_n (lv1 := [(2, .int 0), (0, .ref (ad 0)), (1, .int x1)]) C dX8_packetsOf_1 rfl (by decide) rfl ?_
  refine z_iconst (v := 0) C dX8_packetsOf_2 (by decide) ?_
  refine z_istore_n (lv1 := [(3, .int 0), (2, .int 0), (0, .ref (ad 0)), (1, .int x1)]) C dX8_packetsOf_3 rfl (by decide) rfl ?_
  refine z_lv (lv1 := [(0, .ref (ad 0)), (1, .int x1), (2, .int 0), (3, .int 0)]) [2, 3, 1, 0] rfl ?_
  obtain ⟨n9, h⟩ := h
  exact l_X8_packetsOf_4 C hr ad Q n9 u x1 0 0 h
end WR
