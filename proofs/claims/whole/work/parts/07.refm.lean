section WR
variable {p : Program} {l : Launch} {e : Env} {s : State} {m : MethodId} {args : Array Value} {below : List Frame} {meth : Method} {c : Code} {g : zG} {A : Nat → Prop}
abbrev j_X8_in (p : Program) (l : Launch) (e : Env) (s : State) (m : MethodId) (args : Array Value) (below : List Frame) (meth : Method) (c : Code) (g : zG) (A : Nat → Prop) (Q : Int32 → Prop) (pc : Nat) (lv : List (Nat × Value)) (st : List Value) : Prop := zJ p l e (zR 0 0 0) s m args below meth c g A 6 (zQi below args s g A 0 0 (fun _ : Unit => []) (fun r _ => Q r)) [] 0 0 pc lv st
def wp_X8_in_18 (Q : Int32 → Prop) (t0 : Int32) : Prop :=
  (zBool t0 ∧ Q t0)
set_option maxRecDepth 20000 in
theorem b_X8_in_18 (C : zC p s m args meth c g A cX8_in RX8 6) (hr : meth.sig.returnType = (some .boolean)) (Q : Int32 → Prop) (t0 : Int32) (h : wp_X8_in_18 Q t0) : j_X8_in p l e s m args below meth c g A Q 18 [] [.int t0] := by
  unfold wp_X8_in_18 at h
  exact z_zret C hr () rfl h.1 h.2 dX8_in_18
def wp_X8_in_17 (Q : Int32 → Prop) : Prop :=
  wp_X8_in_18 Q 0
set_option maxRecDepth 20000 in
theorem b_X8_in_17 (C : zC p s m args meth c g A cX8_in RX8 6) (hr : meth.sig.returnType = (some .boolean)) (Q : Int32 → Prop) (h : wp_X8_in_17 Q) : j_X8_in p l e s m args below meth c g A Q 17 [] [] := by
  unfold wp_X8_in_17 at h
  refine z_iconst (v := 0) C dX8_in_17 (by decide) ?_
  exact b_X8_in_18 C hr Q 0 h
def wp_X8_in (y0 : Int64) (y2 : Int64) (y4 : Int64) (Q : Int32 → Prop) : Prop :=
  ((lg_cmp y0 y2 < 0 → wp_X8_in_17 Q) ∧ (¬ lg_cmp y0 y2 < 0 → ((0 < lg_cmp y0 y4 → wp_X8_in_17 Q) ∧ (¬ 0 < lg_cmp y0 y4 → wp_X8_in_18 Q 1))))
set_option maxRecDepth 20000 in
theorem c_X8_in (l : Launch) (g : zG) (y0 : Int64) (y2 : Int64) (y4 : Int64) (Q : Int32 → Prop) (h : wp_X8_in y0 y2 y4 Q) : zMi l yX8_in cX8_in 6 (some .boolean) 0 0 0 g [.long y0, .long y2, .long y4] [] (fun _ : Unit => []) (fun r _ => Q r) := by
  refine zMi_of RX8 (by decide) rfl [(0, .long y0), (2, .long y2), (4, .long y4)] rfl (Nat.le_of_ble_eq_true rfl) (fun p e s m args below meth c A C hr hnm => ?_)
  unfold wp_X8_in at h
  refine z_lload_n C dX8_in_0 rfl 0 rfl ?_
  refine z_lload_n C dX8_in_1 rfl 1 rfl ?_
  refine z_lcmp C dX8_in_2 ?_
  refine z_if_lt C dX8_in_3 (tgt := 17) (by decide) (fun hc101 => ?_) (fun hc101 => ?_)
  · have h := h.1 hc101
    refine z_lv (lv1 := []) [] rfl ?_
    exact b_X8_in_17 C hr Q h
  · have h := h.2 hc101
    refine z_lload_n C dX8_in_6 rfl 0 rfl ?_
    refine z_lload C dX8_in_7 2 rfl ?_
    refine z_lcmp C dX8_in_9 ?_
    refine z_if_gt C dX8_in_10 (tgt := 17) (by decide) (fun hc102 => ?_) (fun hc102 => ?_)
    · have h := h.1 hc102
      refine z_lv (lv1 := []) [] rfl ?_
      exact b_X8_in_17 C hr Q h
    · have h := h.2 hc102
      refine z_iconst (v := 1) C dX8_in_13 (by decide) ?_
      refine z_goto C dX8_in_14 (tgt := 18) (by decide) ?_
      refine z_lv (lv1 := []) [] rfl ?_
      exact b_X8_in_18 C hr Q 1 h
abbrev j_X8_lesser (p : Program) (l : Launch) (e : Env) (s : State) (m : MethodId) (args : Array Value) (below : List Frame) (meth : Method) (c : Code) (g : zG) (A : Nat → Prop) (Q : Int32 → Prop) (pc : Nat) (lv : List (Nat × Value)) (st : List Value) : Prop := zJ p l e (zR 0 0 0) s m args below meth c g A 2 (zQi below args s g A 0 0 (fun _ : Unit => []) (fun r _ => Q r)) [] 0 0 pc lv st
def wp_X8_lesser_10 (Q : Int32 → Prop) (t0 : Int32) : Prop :=
  Q t0
set_option maxRecDepth 20000 in
theorem b_X8_lesser_10 (C : zC p s m args meth c g A cX8_lesser RX8 2) (hr : meth.sig.returnType = (some .int)) (Q : Int32 → Prop) (t0 : Int32) (h : wp_X8_lesser_10 Q t0) : j_X8_lesser p l e s m args below meth c g A Q 10 [] [.int t0] := by
  unfold wp_X8_lesser_10 at h
  exact z_iret C hr () rfl h dX8_lesser_10
def wp_X8_lesser (x0 : Int32) (x1 : Int32) (Q : Int32 → Prop) : Prop :=
  ((x1 ≤ x0 → wp_X8_lesser_10 Q x1) ∧ (¬ x1 ≤ x0 → wp_X8_lesser_10 Q x0))
set_option maxRecDepth 20000 in
theorem c_X8_lesser (l : Launch) (g : zG) (x0 : Int32) (x1 : Int32) (Q : Int32 → Prop) (h : wp_X8_lesser x0 x1 Q) : zMi l yX8_lesser cX8_lesser 2 (some .int) 0 0 0 g [.int x0, .int x1] [] (fun _ : Unit => []) (fun r _ => Q r) := by
  refine zMi_of RX8 (by decide) rfl [(0, .int x0), (1, .int x1)] rfl (Nat.le_of_ble_eq_true rfl) (fun p e s m args below meth c A C hr hnm => ?_)
  unfold wp_X8_lesser at h
  refine z_iload_n C dX8_lesser_0 rfl 0 rfl ?_
  refine z_iload_n C dX8_lesser_1 rfl 1 rfl ?_
  refine z_icmp_ge C dX8_lesser_2 (tgt := 9) (by decide) (fun hc101 => ?_) (fun hc101 => ?_)
  · have h := h.1 hc101
    refine z_iload_n C dX8_lesser_9 rfl 1 rfl ?_
    refine z_lv (lv1 := []) [] rfl ?_
    exact b_X8_lesser_10 C hr Q x1 h
  · have h := h.2 hc101
    refine z_iload_n C dX8_lesser_5 rfl 0 rfl ?_
    refine z_goto C dX8_lesser_6 (tgt := 10) (by decide) ?_
    refine z_lv (lv1 := []) [] rfl ?_
    exact b_X8_lesser_10 C hr Q x0 h
abbrev j_X8_ruleAt (p : Program) (l : Launch) (e : Env) (s : State) (m : MethodId) (args : Array Value) (below : List Frame) (meth : Method) (c : Code) (g : zG) (A : Nat → Prop) (Q : Int32 → Prop) (pc : Nat) (lv : List (Nat × Value)) (st : List Value) : Prop := zJ p l e (zR 0 0 0) s m args below meth c g A 1 (zQi below args s g A 0 0 (fun _ : Unit => []) (fun r _ => Q r)) [] 0 0 pc lv st
def wp_X8_ruleAt (x0 : Int32) (Q : Int32 → Prop) : Prop :=
  Q (55 + (3 * x0))
set_option maxRecDepth 20000 in
theorem c_X8_ruleAt (l : Launch) (g : zG) (x0 : Int32) (Q : Int32 → Prop) (h : wp_X8_ruleAt x0 Q) : zMi l yX8_ruleAt cX8_ruleAt 1 (some .int) 0 0 0 g [.int x0] [] (fun _ : Unit => []) (fun r _ => Q r) := by
  refine zMi_of RX8 (by decide) rfl [(0, .int x0)] rfl (Nat.le_of_ble_eq_true rfl) (fun p e s m args below meth c A C hr hnm => ?_)
  unfold wp_X8_ruleAt at h
  refine z_bipush (v := 55) C dX8_ruleAt_0 (by decide) ?_
  refine z_iconst (v := 3) C dX8_ruleAt_2 (by decide) ?_
  refine z_iload_n C dX8_ruleAt_3 rfl 0 rfl ?_
  refine z_imul C dX8_ruleAt_4 ?_
  refine z_iadd C dX8_ruleAt_5 ?_
  exact z_iret C hr () rfl h dX8_ruleAt_6
abbrev j_X8_ruleOf (p : Program) (l : Launch) (e : Env) (s : State) (m : MethodId) (args : Array Value) (below : List Frame) (meth : Method) (c : Code) (g : zG) (A : Nat → Prop) (ad : Nat → Nat) (Q : Int32 → RS → Prop) (u : RS) (pc : Nat) (lv : List (Nat × Value)) (st : List Value) : Prop := zJ p l e (zR 1 0 0) s m args below meth c g A 4 (zQi below args s g A 0 0 (wR g ad) Q) (wR g ad u) 0 0 pc lv st
def wp_X8_ruleOf_32 (Q : Int32 → RS → Prop) (B4 : RS → Int32 → Int32 → Int32 → Prop) (u : RS) (x1 : Int32) (x3 : Int32) (t0 : Int32) : Prop :=
  ∀ x105 : Int32, x105 = x3 + 1 → B4 u x1 t0 x105
set_option maxRecDepth 20000 in
theorem b_X8_ruleOf_32 (C : zC p s m args meth c g A cX8_ruleOf RX8 4) (hr : meth.sig.returnType = (some .int)) (ad : Nat → Nat) (Q : Int32 → RS → Prop) (B4 : RS → Int32 → Int32 → Int32 → Prop) (hB4 : ∀ (u : RS) (x1 : Int32) (x2 : Int32) (x3 : Int32), B4 u x1 x2 x3 → j_X8_ruleOf p l e s m args below meth c g A ad Q u 4 [(0, .ref (ad 0)), (1, .int x1), (2, .int x2), (3, .int x3)] []) (u : RS) (x1 : Int32) (x3 : Int32) (t0 : Int32) (h : wp_X8_ruleOf_32 Q B4 u x1 x3 t0) : j_X8_ruleOf p l e s m args below meth c g A ad Q u 32 [(0, .ref (ad 0)), (1, .int x1), (3, .int x3)] [.int t0] := by
  unfold wp_X8_ruleOf_32 at h
  refine z_istore_n (lv1 := [(2, .int t0), (0, .ref (ad 0)), (1, .int x1), (3, .int x3)]) C dX8_ruleOf_32 rfl (by decide) rfl ?_
  obtain ⟨x105, ex105⟩ : ∃ y : Int32, y = x3 + 1 := ⟨_, rfl⟩
  have h := h x105 ex105
  refine z_iinc (v := x105) (lv1 := [(3, .int x105), (2, .int t0), (0, .ref (ad 0)), (1, .int x1)]) C dX8_ruleOf_33 3 rfl (by rw [ex105]; rfl) (by decide) rfl ?_
  refine z_goto C dX8_ruleOf_36 (tgt := 4) (by decide) ?_
  refine z_lv (lv1 := [(0, .ref (ad 0)), (1, .int x1), (2, .int t0), (3, .int x105)]) [2, 3, 1, 0] rfl ?_
  exact hB4 u x1 t0 x105 h
def wp_X8_ruleOf_4 (Q : Int32 → RS → Prop) (B4 : RS → Int32 → Int32 → Int32 → Prop) (u : RS) (x1 : Int32) (x2 : Int32) (x3 : Int32) : Prop :=
  ((u.1 3 5 ≤ x3 → Q x2 u) ∧ (¬ u.1 3 5 ≤ x3 → wp_X8_ruleAt x3 (fun r102 => vp_in r102 1065 ∧ ((¬ u.1 3 (zn r102) = x1 → wp_X8_ruleOf_32 Q B4 u x1 x3 x2) ∧ (u.1 3 (zn r102) = x1 → wp_X8_ruleOf_32 Q B4 u x1 x3 x3)))))
set_option maxRecDepth 20000 in
theorem b_X8_ruleOf_4 (C : zC p s m args meth c g A cX8_ruleOf RX8 4) (hr : meth.sig.returnType = (some .int)) (ad : Nat → Nat) (Q : Int32 → RS → Prop) (B4 : RS → Int32 → Int32 → Int32 → Prop) (hB4 : ∀ (u : RS) (x1 : Int32) (x2 : Int32) (x3 : Int32), B4 u x1 x2 x3 → j_X8_ruleOf p l e s m args below meth c g A ad Q u 4 [(0, .ref (ad 0)), (1, .int x1), (2, .int x2), (3, .int x3)] []) (u : RS) (x1 : Int32) (x2 : Int32) (x3 : Int32) (h : wp_X8_ruleOf_4 Q B4 u x1 x2 x3) : j_X8_ruleOf p l e s m args below meth c g A ad Q u 4 [(0, .ref (ad 0)), (1, .int x1), (2, .int x2), (3, .int x3)] [] := by
  unfold wp_X8_ruleOf_4 at h
  refine z_iload_n C dX8_ruleOf_4 rfl 3 rfl ?_
  refine z_aload_n C dX8_ruleOf_5 rfl 0 rfl ?_
  refine gR_row C dX8_ruleOf_6 ?_
  refine z_iconst (v := 5) C dX8_ruleOf_9 (by decide) ?_
  refine lRn_row C 5 (by decide +kernel) (vp_in_iff.mpr (by decide +kernel)) dX8_ruleOf_10 ?_
  refine z_icmp_ge C dX8_ruleOf_11 (tgt := 39) (by decide) (fun hc101 => ?_) (fun hc101 => ?_)
  · have h := h.1 hc101
    refine z_iload_n C dX8_ruleOf_39 rfl 2 rfl ?_
    exact z_iret C hr u rfl h dX8_ruleOf_40
  · have h := h.2 hc101
    refine z_aload_n C dX8_ruleOf_14 rfl 0 rfl ?_
    refine gR_row C dX8_ruleOf_15 ?_
    refine z_iload_n C dX8_ruleOf_18 rfl 3 rfl ?_
    refine cSi (As := [.int x3]) C (c_X8_ruleAt l g x3 _ h) s_X8_ruleAt ml8_116 ⟨Nat.le_of_ble_eq_true rfl, Nat.le_of_ble_eq_true rfl⟩ ⟨Nat.zero_le _, Nat.zero_le _⟩ (Nat.le_of_ble_eq_true rfl) rfl dX8_ruleOf_19 ?_
    intro r102 h
    obtain ⟨hi103, h⟩ := h
    refine lR_row C hi103 dX8_ruleOf_22 ?_
    refine z_iload_n C dX8_ruleOf_23 rfl 1 rfl ?_
    refine z_icmp_ne C dX8_ruleOf_24 (tgt := 31) (by decide) (fun hc104 => ?_) (fun hc104 => ?_)
    · have h := h.1 hc104
      refine z_iload_n C dX8_ruleOf_31 rfl 2 rfl ?_
      refine z_lv (lv1 := [(0, .ref (ad 0)), (1, .int x1), (3, .int x3)]) [0, 1, 3] rfl ?_
      exact b_X8_ruleOf_32 C hr ad Q B4 hB4 u x1 x3 x2 h
    · have h := h.2 hc104
      refine z_iload_n C dX8_ruleOf_27 rfl 3 rfl ?_
      refine z_goto C dX8_ruleOf_28 (tgt := 32) (by decide) ?_
      refine z_lv (lv1 := [(0, .ref (ad 0)), (1, .int x1), (3, .int x3)]) [0, 1, 3] rfl ?_
      exact b_X8_ruleOf_32 C hr ad Q B4 hB4 u x1 x3 x3 h
theorem l_X8_ruleOf_4 (C : zC p s m args meth c g A cX8_ruleOf RX8 4) (hr : meth.sig.returnType = (some .int)) (ad : Nat → Nat) (Q : Int32 → RS → Prop) : ∀ (n : Nat) (u : RS) (x1 : Int32) (x2 : Int32) (x3 : Int32), zit4 (wp_X8_ruleOf_4 Q) n u x1 x2 x3 → j_X8_ruleOf p l e s m args below meth c g A ad Q u 4 [(0, .ref (ad 0)), (1, .int x1), (2, .int x2), (3, .int x3)] [] := by
  intro n
  induction n with
  | zero => exact fun u x1 x2 x3 h => h.elim
  | succ n ih => exact fun u x1 x2 x3 h => b_X8_ruleOf_4 C hr ad Q (zit4 (wp_X8_ruleOf_4 Q) n) ih u x1 x2 x3 h
def wp_X8_ruleOf (u : RS) (x1 : Int32) (Q : Int32 → RS → Prop) : Prop :=
  (∃ n, zit4 (wp_X8_ruleOf_4 Q) n u x1 (-1) 0)
set_option maxRecDepth 20000 in
theorem c_X8_ruleOf (l : Launch) (g : zG) (ad : Nat → Nat) (u : RS) (x1 : Int32) (Q : Int32 → RS → Prop) (h : wp_X8_ruleOf u x1 Q) : zMi l yX8_ruleOf cX8_ruleOf 4 (some .int) 1 0 0 g [.ref (ad 0), .int x1] (wR g ad u) (wR g ad) Q := by
  refine zMi_of RX8 (by decide) rfl [(0, .ref (ad 0)), (1, .int x1)] rfl (Nat.le_of_ble_eq_true rfl) (fun p e s m args below meth c A C hr hnm => ?_)
  unfold wp_X8_ruleOf at h
  refine z_iconst (v := (-1)) C dX8_ruleOf_0 (by decide) ?_
  refine z_istore_n (lv1 := [(2, .int (-1)), (0, .ref (ad 0)), (1, .int x1)]) C dX8_ruleOf_1 rfl (by decide) rfl ?_
  refine z_iconst (v := 0) C dX8_ruleOf_2 (by decide) ?_
  refine z_istore_n (lv1 := [(3, .int 0), (2, .int (-1)), (0, .ref (ad 0)), (1, .int x1)]) C dX8_ruleOf_3 rfl (by decide) rfl ?_
  refine z_lv (lv1 := [(0, .ref (ad 0)), (1, .int x1), (2, .int (-1)), (3, .int 0)]) [2, 3, 1, 0] rfl ?_
  obtain ⟨n9, h⟩ := h
  exact l_X8_ruleOf_4 C hr ad Q n9 u x1 (-1) 0 h
end WR
