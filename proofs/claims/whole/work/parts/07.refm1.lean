section WR
variable {p : Program} {l : Launch} {e : Env} {s : State} {m : MethodId} {args : Array Value} {below : List Frame} {meth : Method} {c : Code} {g : zG} {A : Nat → Prop}
abbrev j_X8_in (p : Program) (l : Launch) (e : Env) (s : State) (m : MethodId) (args : Array Value) (below : List Frame) (meth : Method) (c : Code) (g : zG) (A : Nat → Prop) (Q : Int32 → Prop) (pc : Nat) (lv : List (Nat × Value)) (st : List Value) : Prop := zJ p l e (zR 0 0 0) s m args below meth c g A 6 (zQi below args s g A 0 0 (fun _ : Unit => []) (fun r _ => Q r)) [] 0 0 pc lv st
def wp_X8_in_18 (Q : Int32 → Prop) (t0 : Int32) : Prop :=
  (zBool t0 ∧ Q t0)
set_option maxRecDepth 20000 in
theorem b_X8_in_18 (C : zC p s m args meth c g A cX8_in RX8 6) (hr : meth.sig.returnType = (some .boolean)) (Q : Int32 → Prop) (t0 : Int32) (h : wp_X8_in_18 Q t0) : j_X8_in p l e s m args below meth c g A Q 18 [] [.int t0] := by
  unfold wp_X8_in_18 at h
  exact z_zret C hr () rfl h.1 h.2 dX8_in_18
def wp_X8_in_17 (Q : Int32 → Prop) : Prop :=
  wp_X8_in_18 Q 0
set_option maxRecDepth 20000 in
theorem b_X8_in_17 (C : zC p s m args meth c g A cX8_in RX8 6) (hr : meth.sig.returnType = (some .boolean)) (Q : Int32 → Prop) (h : wp_X8_in_17 Q) : j_X8_in p l e s m args below meth c g A Q 17 [] [] := by
  unfold wp_X8_in_17 at h
  refine z_iconst (v := 0) C dX8_in_17 (by decide) ?_
  exact b_X8_in_18 C hr Q 0 h
def wp_X8_in (y0 : Int64) (y2 : Int64) (y4 : Int64) (Q : Int32 → Prop) : Prop :=
  ((lg_cmp y0 y2 < 0 → wp_X8_in_17 Q) ∧ (¬ lg_cmp y0 y2 < 0 → ((0 < lg_cmp y0 y4 → wp_X8_in_17 Q) ∧ (¬ 0 < lg_cmp y0 y4 → wp_X8_in_18 Q 1))))
set_option maxRecDepth 20000 in
theorem c_X8_in (l : Launch) (g : zG) (y0 : Int64) (y2 : Int64) (y4 : Int64) (Q : Int32 → Prop) (h : wp_X8_in y0 y2 y4 Q) : zMi l yX8_in cX8_in 6 (some .boolean) 0 0 0 g [.long y0, .long y2, .long y4] [] (fun _ : Unit => []) (fun r _ => Q r) := by
  refine zMi_of RX8 (by decide) rfl [(0, .long y0), (2, .long y2), (4, .long y4)] rfl (Nat.le_of_ble_eq_true rfl) (fun p e s m args below meth c A C hr hnm => ?_)
  unfold wp_X8_in at h
  refine z_lload_n C dX8_in_0 rfl 0 rfl ?_
  refine z_lload_n C dX8_in_1 rfl 1 rfl ?_
  refine z_lcmp C dX8_in_2 ?_
  refine z_if_lt C dX8_in_3 (tgt := 17) (by decide) (fun hc101 => ?_) (fun hc101 => ?_)
  · have h := h.1 hc101
    refine z_lv (lv1 := []) [] rfl ?_
    exact b_X8_in_17 C hr Q h
  · have h := h.2 hc101
    refine z_lload_n C dX8_in_6 rfl 0 rfl ?_
    refine z_lload C dX8_in_7 2 rfl ?_
    refine z_lcmp C dX8_in_9 ?_
    refine z_if_gt C dX8_in_10 (tgt := 17) (by decide) (fun hc102 => ?_) (fun hc102 => ?_)
    · have h := h.1 hc102
      refine z_lv (lv1 := []) [] rfl ?_
      exact b_X8_in_17 C hr Q h
    · have h := h.2 hc102
      refine z_iconst (v := 1) C dX8_in_13 (by decide) ?_
      refine z_goto C dX8_in_14 (tgt := 18) (by decide) ?_
      refine z_lv (lv1 := []) [] rfl ?_
      exact b_X8_in_18 C hr Q 1 h
abbrev j_X8_lesser (p : Program) (l : Launch) (e : Env) (s : State) (m : MethodId) (args : Array Value) (below : List Frame) (meth : Method) (c : Code) (g : zG) (A : Nat → Prop) (Q : Int32 → Prop) (pc : Nat) (lv : List (Nat × Value)) (st : List Value) : Prop := zJ p l e (zR 0 0 0) s m args below meth c g A 2 (zQi below args s g A 0 0 (fun _ : Unit => []) (fun r _ => Q r)) [] 0 0 pc lv st
def wp_X8_lesser_10 (Q : Int32 → Prop) (t0 : Int32) : Prop :=
  Q t0
set_option maxRecDepth 20000 in
theorem b_X8_lesser_10 (C : zC p s m args meth c g A cX8_lesser RX8 2) (hr : meth.sig.returnType = (some .int)) (Q : Int32 → Prop) (t0 : Int32) (h : wp_X8_lesser_10 Q t0) : j_X8_lesser p l e s m args below meth c g A Q 10 [] [.int t0] := by
  unfold wp_X8_lesser_10 at h
  exact z_iret C hr () rfl h dX8_lesser_10
def wp_X8_lesser (x0 : Int32) (x1 : Int32) (Q : Int32 → Prop) : Prop :=
  ((x1 ≤ x0 → wp_X8_lesser_10 Q x1) ∧ (¬ x1 ≤ x0 → wp_X8_lesser_10 Q x0))
set_option maxRecDepth 20000 in
theorem c_X8_lesser (l : Launch) (g : zG) (x0 : Int32) (x1 : Int32) (Q : Int32 → Prop) (h : wp_X8_lesser x0 x1 Q) : zMi l yX8_lesser cX8_lesser 2 (some .int) 0 0 0 g [.int x0, .int x1] [] (fun _ : Unit => []) (fun r _ => Q r) := by
  refine zMi_of RX8 (by decide) rfl [(0, .int x0), (1, .int x1)] rfl (Nat.le_of_ble_eq_true rfl) (fun p e s m args below meth c A C hr hnm => ?_)
  unfold wp_X8_lesser at h
  refine z_iload_n C dX8_lesser_0 rfl 0 rfl ?_
  refine z_iload_n C dX8_lesser_1 rfl 1 rfl ?_
  refine z_icmp_ge C dX8_lesser_2 (tgt := 9) (by decide) (fun hc101 => ?_) (fun hc101 => ?_)
  · have h := h.1 hc101
    refine z_iload_n C dX8_lesser_9 rfl 1 rfl ?_
    refine z_lv (lv1 := []) [] rfl ?_
    exact b_X8_lesser_10 C hr Q x1 h
  · have h := h.2 hc101
    refine z_iload_n C dX8_lesser_5 rfl 0 rfl ?_
    refine z_goto C dX8_lesser_6 (tgt := 10) (by decide) ?_
    refine z_lv (lv1 := []) [] rfl ?_
    exact b_X8_lesser_10 C hr Q x0 h
abbrev j_X8_tell (p : Program) (l : Launch) (e : Env) (s : State) (m : MethodId) (args : Array Value) (below : List Frame) (meth : Method) (c : Code) (g : zG) (A : Nat → Prop) (ad : Nat → Nat) (Q : Int32 → RS → Prop) (u : RS) (pc : Nat) (lv : List (Nat × Value)) (st : List Value) : Prop := zJ p l e (zR 0 0 0) s m args below meth c g A 2 (zQi below args s g A 0 0 (wR g ad) Q) (wR g ad u) 0 0 pc lv st
def wp_X8_tell (u : RS) (x1 : Int32) (Q : Int32 → RS → Prop) : Prop :=
  ∀ u101 : RS, u101 = rN u 1 0 → Q x1 u101
set_option maxRecDepth 20000 in
theorem c_X8_tell (l : Launch) (g : zG) (ad : Nat → Nat) (u : RS) (x1 : Int32) (Q : Int32 → RS → Prop) (h : wp_X8_tell u x1 Q) : zMi l yX8_tell cX8_tell 2 (some .int) 0 0 0 g [.ref (ad 0), .int x1] (wR g ad u) (wR g ad) Q := by
  refine zMi_of RX8 (by decide) rfl [(0, .ref (ad 0)), (1, .int x1)] rfl (Nat.le_of_ble_eq_true rfl) (fun p e s m args below meth c A C hr hnm => ?_)
  unfold wp_X8_tell at h
  refine z_aload_n C dX8_tell_0 rfl 0 rfl ?_
  refine z_iconst (v := 0) C dX8_tell_1 (by decide) ?_
  refine pR_status C dX8_tell_2 ?_
  refine z_stR (fun u101 eu101 => ?_)
  have h := h u101 eu101
  refine z_iload_n C dX8_tell_5 rfl 1 rfl ?_
  exact z_iret C hr u101 rfl h dX8_tell_6
abbrev j_X8_refuse (p : Program) (l : Launch) (e : Env) (s : State) (m : MethodId) (args : Array Value) (below : List Frame) (meth : Method) (c : Code) (g : zG) (A : Nat → Prop) (ad : Nat → Nat) (Q : Int32 → RS → Prop) (u : RS) (pc : Nat) (lv : List (Nat × Value)) (st : List Value) : Prop := zJ p l e (zR 0 0 0) s m args below meth c g A 2 (zQi below args s g A 0 0 (wR g ad) Q) (wR g ad u) 0 0 pc lv st
def wp_X8_refuse (u : RS) (x1 : Int32) (Q : Int32 → RS → Prop) : Prop :=
  ∀ u101 : RS, u101 = rN u 1 x1 → vp_in (-x1) 6 ∧ vp_in (-x1) 6 ∧ ∀ u104 : RS, u104 = rI u101 2 (upd (u101.1 2) (zn (-x1)) ((u101.1 2 (zn (-x1))) + 1)) → Q x1 u104
set_option maxRecDepth 20000 in
theorem c_X8_refuse (l : Launch) (g : zG) (ad : Nat → Nat) (u : RS) (x1 : Int32) (Q : Int32 → RS → Prop) (h : wp_X8_refuse u x1 Q) : zMi l yX8_refuse cX8_refuse 2 (some .int) 0 0 0 g [.ref (ad 0), .int x1] (wR g ad u) (wR g ad) Q := by
  refine zMi_of RX8 (by decide) rfl [(0, .ref (ad 0)), (1, .int x1)] rfl (Nat.le_of_ble_eq_true rfl) (fun p e s m args below meth c A C hr hnm => ?_)
  unfold wp_X8_refuse at h
  refine z_aload_n C dX8_refuse_0 rfl 0 rfl ?_
  refine z_iload_n C dX8_refuse_1 rfl 1 rfl ?_
  refine pR_status C dX8_refuse_2 ?_
  refine z_stR (fun u101 eu101 => ?_)
  have h := h u101 eu101
  refine z_aload_n C dX8_refuse_5 rfl 0 rfl ?_
  refine gR_refusals C dX8_refuse_6 ?_
  refine z_iload_n C dX8_refuse_9 rfl 1 rfl ?_
  refine z_ineg C dX8_refuse_10 ?_
  refine z_dup2 C dX8_refuse_11 rfl rfl ?_
  obtain ⟨hi102, h⟩ := h
  refine lR_refusals C hi102 dX8_refuse_12 ?_
  refine z_iconst (v := 1) C dX8_refuse_13 (by decide) ?_
  refine z_iadd C dX8_refuse_14 ?_
  obtain ⟨hi103, h⟩ := h
  refine sR_refusals C hi103 dX8_refuse_15 ?_
  refine z_stR (fun u104 eu104 => ?_)
  have h := h u104 eu104
  refine z_iload_n C dX8_refuse_16 rfl 1 rfl ?_
  exact z_iret C hr u104 rfl h dX8_refuse_17
abbrev j_X8_lay_undos (p : Program) (l : Launch) (e : Env) (s : State) (m : MethodId) (args : Array Value) (below : List Frame) (meth : Method) (c : Code) (g : zG) (A : Nat → Prop) (ad : Nat → Nat) (Q : RS → Prop) (u : RS) (pc : Nat) (lv : List (Nat × Value)) (st : List Value) : Prop := zJ p l e (zR 0 0 0) s m args below meth c g A 5 (zQv below args s g A 0 0 (wR g ad) Q) (wR g ad u) 0 0 pc lv st
def wp_X8_lay_undos_37 (Q : RS → Prop) (B37 : RS → Int32 → Int32 → Prop) (u : RS) (x3 : Int32) (x4 : Int32) : Prop :=
  ((7 ≤ x4 → Q u) ∧ (¬ 7 ≤ x4 → vp_in x4 7 ∧ vp_in ((7 * x3) + x4) 56 ∧ ∀ u105 : RS, u105 = rL u 6 (vp_updL (u.2 6) (zn ((7 * x3) + x4)) (u.2 4 (zn x4))) → ∀ x106 : Int32, x106 = x4 + 1 → B37 u105 x3 x106))
set_option maxRecDepth 20000 in
theorem b_X8_lay_undos_37 (C : zC p s m args meth c g A cX8_lay RX8 5) (hr : meth.sig.returnType = none) (ad : Nat → Nat) (Q : RS → Prop) (B37 : RS → Int32 → Int32 → Prop) (hB37 : ∀ (u : RS) (x3 : Int32) (x4 : Int32), B37 u x3 x4 → j_X8_lay_undos p l e s m args below meth c g A ad Q u 37 [(0, .ref (ad 0)), (1, .ref (ad 4)), (2, .ref (ad 5)), (3, .int x3), (4, .int x4)] []) (u : RS) (x3 : Int32) (x4 : Int32) (h : wp_X8_lay_undos_37 Q B37 u x3 x4) : j_X8_lay_undos p l e s m args below meth c g A ad Q u 37 [(0, .ref (ad 0)), (1, .ref (ad 4)), (2, .ref (ad 5)), (3, .int x3), (4, .int x4)] [] := by
  unfold wp_X8_lay_undos_37 at h
  refine z_iload C dX8_lay_37 4 rfl ?_
  refine z_bipush (v := 7) C dX8_lay_39 (by decide) ?_
  refine z_icmp_ge C dX8_lay_41 (tgt := 66) (by decide) (fun hc102 => ?_) (fun hc102 => ?_)
  · have h := h.1 hc102
    exact z_vret C hr u rfl h dX8_lay_66
  · have h := h.2 hc102
    refine z_aload_n C dX8_lay_44 rfl 2 rfl ?_
    refine z_bipush (v := 7) C dX8_lay_45 (by decide) ?_
    refine z_iload_n C dX8_lay_47 rfl 3 rfl ?_
    refine z_imul C dX8_lay_48 ?_
    refine z_iload C dX8_lay_49 4 rfl ?_
    refine z_iadd C dX8_lay_51 ?_
    refine z_aload_n C dX8_lay_52 rfl 0 rfl ?_
    refine gR_sums C dX8_lay_53 ?_
    refine z_iload C dX8_lay_56 4 rfl ?_
    obtain ⟨hi103, h⟩ := h
    refine lR_sums C hi103 dX8_lay_58 ?_
    obtain ⟨hi104, h⟩ := h
    refine sR_undoSums C hi104 dX8_lay_59 ?_
    refine z_stR (fun u105 eu105 => ?_)
    have h := h u105 eu105
    obtain ⟨x106, ex106⟩ : ∃ y : Int32, y = x4 + 1 := ⟨_, rfl⟩
    have h := h x106 ex106
    refine z_iinc (v := x106) (lv1 := [(4, .int x106), (0, .ref (ad 0)), (1, .ref (ad 4)), (2, .ref (ad 5)), (3, .int x3)]) C dX8_lay_60 4 rfl (by rw [ex106]; rfl) (by decide) rfl ?_
    refine z_goto C dX8_lay_63 (tgt := 37) (by decide) ?_
    refine z_lv (lv1 := [(0, .ref (ad 0)), (1, .ref (ad 4)), (2, .ref (ad 5)), (3, .int x3), (4, .int x106)]) [1, 2, 3, 4, 0] rfl ?_
    exact hB37 u105 x3 x106 h
theorem l_X8_lay_undos_37 (C : zC p s m args meth c g A cX8_lay RX8 5) (hr : meth.sig.returnType = none) (ad : Nat → Nat) (Q : RS → Prop) : ∀ (n : Nat) (u : RS) (x3 : Int32) (x4 : Int32), zit3 (wp_X8_lay_undos_37 Q) n u x3 x4 → j_X8_lay_undos p l e s m args below meth c g A ad Q u 37 [(0, .ref (ad 0)), (1, .ref (ad 4)), (2, .ref (ad 5)), (3, .int x3), (4, .int x4)] [] := by
  intro n
  induction n with
  | zero => exact fun u x3 x4 h => h.elim
  | succ n ih => exact fun u x3 x4 h => b_X8_lay_undos_37 C hr ad Q (zit3 (wp_X8_lay_undos_37 Q) n) ih u x3 x4 h
def wp_X8_lay_undos_3 (Q : RS → Prop) (B3 : RS → Int32 → Int32 → Prop) (u : RS) (x3 : Int32) (x4 : Int32) : Prop :=
  ((1065 ≤ x4 → (∃ n, zit3 (wp_X8_lay_undos_37 Q) n u x3 0)) ∧ (¬ 1065 ≤ x4 → vp_in x4 1065 ∧ vp_in ((1065 * x3) + x4) 8520 ∧ ∀ u109 : RS, u109 = rI u 5 (upd (u.1 5) (zn ((1065 * x3) + x4)) (u.1 3 (zn x4))) → ∀ x110 : Int32, x110 = x4 + 1 → B3 u109 x3 x110))
set_option maxRecDepth 20000 in
theorem b_X8_lay_undos_3 (C : zC p s m args meth c g A cX8_lay RX8 5) (hr : meth.sig.returnType = none) (ad : Nat → Nat) (Q : RS → Prop) (B3 : RS → Int32 → Int32 → Prop) (hB3 : ∀ (u : RS) (x3 : Int32) (x4 : Int32), B3 u x3 x4 → j_X8_lay_undos p l e s m args below meth c g A ad Q u 3 [(0, .ref (ad 0)), (1, .ref (ad 4)), (2, .ref (ad 5)), (3, .int x3), (4, .int x4)] []) (u : RS) (x3 : Int32) (x4 : Int32) (h : wp_X8_lay_undos_3 Q B3 u x3 x4) : j_X8_lay_undos p l e s m args below meth c g A ad Q u 3 [(0, .ref (ad 0)), (1, .ref (ad 4)), (2, .ref (ad 5)), (3, .int x3), (4, .int x4)] [] := by
  unfold wp_X8_lay_undos_3 at h
  refine z_iload C dX8_lay_3 4 rfl ?_
  refine z_sipush (v := 1065) C dX8_lay_5 (by decide) ?_
  refine z_icmp_ge C dX8_lay_8 (tgt := 34) (by decide) (fun hc101 => ?_) (fun hc101 => ?_)
  · have h := h.1 hc101
    refine z_iconst (v := 0) C dX8_lay_34 (by decide) ?_
    refine z_istore (lv1 := [(4, .int 0), (0, .ref (ad 0)), (1, .ref (ad 4)), (2, .ref (ad 5)), (3, .int x3)]) C dX8_lay_35 (by decide) rfl ?_
    refine z_lv (lv1 := [(0, .ref (ad 0)), (1, .ref (ad 4)), (2, .ref (ad 5)), (3, .int x3), (4, .int 0)]) [1, 2, 3, 4, 0] rfl ?_
    obtain ⟨n9, h⟩ := h
    exact l_X8_lay_undos_37 C hr ad Q n9 u x3 0 h
  · have h := h.2 hc101
    refine z_aload_n C dX8_lay_11 rfl 1 rfl ?_
    refine z_sipush (v := 1065) C dX8_lay_12 (by decide) ?_
    refine z_iload_n C dX8_lay_15 rfl 3 rfl ?_
    refine z_imul C dX8_lay_16 ?_
    refine z_iload C dX8_lay_17 4 rfl ?_
    refine z_iadd C dX8_lay_19 ?_
    refine z_aload_n C dX8_lay_20 rfl 0 rfl ?_
    refine gR_row C dX8_lay_21 ?_
    refine z_iload C dX8_lay_24 4 rfl ?_
    obtain ⟨hi107, h⟩ := h
    refine lR_row C hi107 dX8_lay_26 ?_
    obtain ⟨hi108, h⟩ := h
    refine sR_undos C hi108 dX8_lay_27 ?_
    refine z_stR (fun u109 eu109 => ?_)
    have h := h u109 eu109
    obtain ⟨x110, ex110⟩ : ∃ y : Int32, y = x4 + 1 := ⟨_, rfl⟩
    have h := h x110 ex110
    refine z_iinc (v := x110) (lv1 := [(4, .int x110), (0, .ref (ad 0)), (1, .ref (ad 4)), (2, .ref (ad 5)), (3, .int x3)]) C dX8_lay_28 4 rfl (by rw [ex110]; rfl) (by decide) rfl ?_
    refine z_goto C dX8_lay_31 (tgt := 3) (by decide) ?_
    refine z_lv (lv1 := [(0, .ref (ad 0)), (1, .ref (ad 4)), (2, .ref (ad 5)), (3, .int x3), (4, .int x110)]) [1, 2, 3, 4, 0] rfl ?_
    exact hB3 u109 x3 x110 h
theorem l_X8_lay_undos_3 (C : zC p s m args meth c g A cX8_lay RX8 5) (hr : meth.sig.returnType = none) (ad : Nat → Nat) (Q : RS → Prop) : ∀ (n : Nat) (u : RS) (x3 : Int32) (x4 : Int32), zit3 (wp_X8_lay_undos_3 Q) n u x3 x4 → j_X8_lay_undos p l e s m args below meth c g A ad Q u 3 [(0, .ref (ad 0)), (1, .ref (ad 4)), (2, .ref (ad 5)), (3, .int x3), (4, .int x4)] [] := by
  intro n
  induction n with
  | zero => exact fun u x3 x4 h => h.elim
  | succ n ih => exact fun u x3 x4 h => b_X8_lay_undos_3 C hr ad Q (zit3 (wp_X8_lay_undos_3 Q) n) ih u x3 x4 h
def wp_X8_lay_undos (u : RS) (x3 : Int32) (Q : RS → Prop) : Prop :=
  (∃ n, zit3 (wp_X8_lay_undos_3 Q) n u x3 0)
set_option maxRecDepth 20000 in
theorem c_X8_lay_undos (l : Launch) (g : zG) (ad : Nat → Nat) (u : RS) (x3 : Int32) (Q : RS → Prop) (h : wp_X8_lay_undos u x3 Q) : zMv l yX8_lay cX8_lay 5 none 0 0 0 g [.ref (ad 0), .ref (ad 4), .ref (ad 5), .int x3] (wR g ad u) (wR g ad) Q := by
  refine zMv_of RX8 (by decide) rfl [(0, .ref (ad 0)), (1, .ref (ad 4)), (2, .ref (ad 5)), (3, .int x3)] rfl (Nat.le_of_ble_eq_true rfl) (fun p e s m args below meth c A C hr hnm => ?_)
  unfold wp_X8_lay_undos at h
  refine z_iconst (v := 0) C dX8_lay_0 (by decide) ?_
  refine z_istore (lv1 := [(4, .int 0), (0, .ref (ad 0)), (1, .ref (ad 4)), (2, .ref (ad 5)), (3, .int x3)]) C dX8_lay_1 (by decide) rfl ?_
  refine z_lv (lv1 := [(0, .ref (ad 0)), (1, .ref (ad 4)), (2, .ref (ad 5)), (3, .int x3), (4, .int 0)]) [1, 2, 3, 4, 0] rfl ?_
  obtain ⟨n9, h⟩ := h
  exact l_X8_lay_undos_3 C hr ad Q n9 u x3 0 h
abbrev j_X8_lay_images (p : Program) (l : Launch) (e : Env) (s : State) (m : MethodId) (args : Array Value) (below : List Frame) (meth : Method) (c : Code) (g : zG) (A : Nat → Prop) (ad : Nat → Nat) (Q : RS → Prop) (u : RS) (pc : Nat) (lv : List (Nat × Value)) (st : List Value) : Prop := zJ p l e (zR 0 0 0) s m args below meth c g A 5 (zQv below args s g A 0 0 (wR g ad) Q) (wR g ad u) 0 0 pc lv st
def wp_X8_lay_images_37 (Q : RS → Prop) (B37 : RS → Int32 → Int32 → Prop) (u : RS) (x3 : Int32) (x4 : Int32) : Prop :=
  ((7 ≤ x4 → Q u) ∧ (¬ 7 ≤ x4 → vp_in x4 7 ∧ vp_in ((7 * x3) + x4) 14 ∧ ∀ u105 : RS, u105 = rL u 10 (vp_updL (u.2 10) (zn ((7 * x3) + x4)) (u.2 4 (zn x4))) → ∀ x106 : Int32, x106 = x4 + 1 → B37 u105 x3 x106))
set_option maxRecDepth 20000 in
theorem b_X8_lay_images_37 (C : zC p s m args meth c g A cX8_lay RX8 5) (hr : meth.sig.returnType = none) (ad : Nat → Nat) (Q : RS → Prop) (B37 : RS → Int32 → Int32 → Prop) (hB37 : ∀ (u : RS) (x3 : Int32) (x4 : Int32), B37 u x3 x4 → j_X8_lay_images p l e s m args below meth c g A ad Q u 37 [(0, .ref (ad 0)), (1, .ref (ad 7)), (2, .ref (ad 8)), (3, .int x3), (4, .int x4)] []) (u : RS) (x3 : Int32) (x4 : Int32) (h : wp_X8_lay_images_37 Q B37 u x3 x4) : j_X8_lay_images p l e s m args below meth c g A ad Q u 37 [(0, .ref (ad 0)), (1, .ref (ad 7)), (2, .ref (ad 8)), (3, .int x3), (4, .int x4)] [] := by
  unfold wp_X8_lay_images_37 at h
  refine z_iload C dX8_lay_37 4 rfl ?_
  refine z_bipush (v := 7) C dX8_lay_39 (by decide) ?_
  refine z_icmp_ge C dX8_lay_41 (tgt := 66) (by decide) (fun hc102 => ?_) (fun hc102 => ?_)
  · have h := h.1 hc102
    exact z_vret C hr u rfl h dX8_lay_66
  · have h := h.2 hc102
    refine z_aload_n C dX8_lay_44 rfl 2 rfl ?_
    refine z_bipush (v := 7) C dX8_lay_45 (by decide) ?_
    refine z_iload_n C dX8_lay_47 rfl 3 rfl ?_
    refine z_imul C dX8_lay_48 ?_
    refine z_iload C dX8_lay_49 4 rfl ?_
    refine z_iadd C dX8_lay_51 ?_
    refine z_aload_n C dX8_lay_52 rfl 0 rfl ?_
    refine gR_sums C dX8_lay_53 ?_
    refine z_iload C dX8_lay_56 4 rfl ?_
    obtain ⟨hi103, h⟩ := h
    refine lR_sums C hi103 dX8_lay_58 ?_
    obtain ⟨hi104, h⟩ := h
    refine sR_imageSums C hi104 dX8_lay_59 ?_
    refine z_stR (fun u105 eu105 => ?_)
    have h := h u105 eu105
    obtain ⟨x106, ex106⟩ : ∃ y : Int32, y = x4 + 1 := ⟨_, rfl⟩
    have h := h x106 ex106
    refine z_iinc (v := x106) (lv1 := [(4, .int x106), (0, .ref (ad 0)), (1, .ref (ad 7)), (2, .ref (ad 8)), (3, .int x3)]) C dX8_lay_60 4 rfl (by rw [ex106]; rfl) (by decide) rfl ?_
    refine z_goto C dX8_lay_63 (tgt := 37) (by decide) ?_
    refine z_lv (lv1 := [(0, .ref (ad 0)), (1, .ref (ad 7)), (2, .ref (ad 8)), (3, .int x3), (4, .int x106)]) [1, 2, 3, 4, 0] rfl ?_
    exact hB37 u105 x3 x106 h
theorem l_X8_lay_images_37 (C : zC p s m args meth c g A cX8_lay RX8 5) (hr : meth.sig.returnType = none) (ad : Nat → Nat) (Q : RS → Prop) : ∀ (n : Nat) (u : RS) (x3 : Int32) (x4 : Int32), zit3 (wp_X8_lay_images_37 Q) n u x3 x4 → j_X8_lay_images p l e s m args below meth c g A ad Q u 37 [(0, .ref (ad 0)), (1, .ref (ad 7)), (2, .ref (ad 8)), (3, .int x3), (4, .int x4)] [] := by
  intro n
  induction n with
  | zero => exact fun u x3 x4 h => h.elim
  | succ n ih => exact fun u x3 x4 h => b_X8_lay_images_37 C hr ad Q (zit3 (wp_X8_lay_images_37 Q) n) ih u x3 x4 h
def wp_X8_lay_images_3 (Q : RS → Prop) (B3 : RS → Int32 → Int32 → Prop) (u : RS) (x3 : Int32) (x4 : Int32) : Prop :=
  ((1065 ≤ x4 → (∃ n, zit3 (wp_X8_lay_images_37 Q) n u x3 0)) ∧ (¬ 1065 ≤ x4 → vp_in x4 1065 ∧ vp_in ((1065 * x3) + x4) 2130 ∧ ∀ u109 : RS, u109 = rI u 9 (upd (u.1 9) (zn ((1065 * x3) + x4)) (u.1 3 (zn x4))) → ∀ x110 : Int32, x110 = x4 + 1 → B3 u109 x3 x110))
set_option maxRecDepth 20000 in
theorem b_X8_lay_images_3 (C : zC p s m args meth c g A cX8_lay RX8 5) (hr : meth.sig.returnType = none) (ad : Nat → Nat) (Q : RS → Prop) (B3 : RS → Int32 → Int32 → Prop) (hB3 : ∀ (u : RS) (x3 : Int32) (x4 : Int32), B3 u x3 x4 → j_X8_lay_images p l e s m args below meth c g A ad Q u 3 [(0, .ref (ad 0)), (1, .ref (ad 7)), (2, .ref (ad 8)), (3, .int x3), (4, .int x4)] []) (u : RS) (x3 : Int32) (x4 : Int32) (h : wp_X8_lay_images_3 Q B3 u x3 x4) : j_X8_lay_images p l e s m args below meth c g A ad Q u 3 [(0, .ref (ad 0)), (1, .ref (ad 7)), (2, .ref (ad 8)), (3, .int x3), (4, .int x4)] [] := by
  unfold wp_X8_lay_images_3 at h
  refine z_iload C dX8_lay_3 4 rfl ?_
  refine z_sipush (v := 1065) C dX8_lay_5 (by decide) ?_
  refine z_icmp_ge C dX8_lay_8 (tgt := 34) (by decide) (fun hc101 => ?_) (fun hc101 => ?_)
  · have h := h.1 hc101
    refine z_iconst (v := 0) C dX8_lay_34 (by decide) ?_
    refine z_istore (lv1 := [(4, .int 0), (0, .ref (ad 0)), (1, .ref (ad 7)), (2, .ref (ad 8)), (3, .int x3)]) C dX8_lay_35 (by decide) rfl ?_
    refine z_lv (lv1 := [(0, .ref (ad 0)), (1, .ref (ad 7)), (2, .ref (ad 8)), (3, .int x3), (4, .int 0)]) [1, 2, 3, 4, 0] rfl ?_
    obtain ⟨n9, h⟩ := h
    exact l_X8_lay_images_37 C hr ad Q n9 u x3 0 h
  · have h := h.2 hc101
    refine z_aload_n C dX8_lay_11 rfl 1 rfl ?_
    refine z_sipush (v := 1065) C dX8_lay_12 (by decide) ?_
    refine z_iload_n C dX8_lay_15 rfl 3 rfl ?_
    refine z_imul C dX8_lay_16 ?_
    refine z_iload C dX8_lay_17 4 rfl ?_
    refine z_iadd C dX8_lay_19 ?_
    refine z_aload_n C dX8_lay_20 rfl 0 rfl ?_
    refine gR_row C dX8_lay_21 ?_
    refine z_iload C dX8_lay_24 4 rfl ?_
    obtain ⟨hi107, h⟩ := h
    refine lR_row C hi107 dX8_lay_26 ?_
    obtain ⟨hi108, h⟩ := h
    refine sR_images C hi108 dX8_lay_27 ?_
    refine z_stR (fun u109 eu109 => ?_)
    have h := h u109 eu109
    obtain ⟨x110, ex110⟩ : ∃ y : Int32, y = x4 + 1 := ⟨_, rfl⟩
    have h := h x110 ex110
    refine z_iinc (v := x110) (lv1 := [(4, .int x110), (0, .ref (ad 0)), (1, .ref (ad 7)), (2, .ref (ad 8)), (3, .int x3)]) C dX8_lay_28 4 rfl (by rw [ex110]; rfl) (by decide) rfl ?_
    refine z_goto C dX8_lay_31 (tgt := 3) (by decide) ?_
    refine z_lv (lv1 := [(0, .ref (ad 0)), (1, .ref (ad 7)), (2, .ref (ad 8)), (3, .int x3), (4, .int x110)]) [1, 2, 3, 4, 0] rfl ?_
    exact hB3 u109 x3 x110 h
theorem l_X8_lay_images_3 (C : zC p s m args meth c g A cX8_lay RX8 5) (hr : meth.sig.returnType = none) (ad : Nat → Nat) (Q : RS → Prop) : ∀ (n : Nat) (u : RS) (x3 : Int32) (x4 : Int32), zit3 (wp_X8_lay_images_3 Q) n u x3 x4 → j_X8_lay_images p l e s m args below meth c g A ad Q u 3 [(0, .ref (ad 0)), (1, .ref (ad 7)), (2, .ref (ad 8)), (3, .int x3), (4, .int x4)] [] := by
  intro n
  induction n with
  | zero => exact fun u x3 x4 h => h.elim
  | succ n ih => exact fun u x3 x4 h => b_X8_lay_images_3 C hr ad Q (zit3 (wp_X8_lay_images_3 Q) n) ih u x3 x4 h
def wp_X8_lay_images (u : RS) (x3 : Int32) (Q : RS → Prop) : Prop :=
  (∃ n, zit3 (wp_X8_lay_images_3 Q) n u x3 0)
set_option maxRecDepth 20000 in
theorem c_X8_lay_images (l : Launch) (g : zG) (ad : Nat → Nat) (u : RS) (x3 : Int32) (Q : RS → Prop) (h : wp_X8_lay_images u x3 Q) : zMv l yX8_lay cX8_lay 5 none 0 0 0 g [.ref (ad 0), .ref (ad 7), .ref (ad 8), .int x3] (wR g ad u) (wR g ad) Q := by
  refine zMv_of RX8 (by decide) rfl [(0, .ref (ad 0)), (1, .ref (ad 7)), (2, .ref (ad 8)), (3, .int x3)] rfl (Nat.le_of_ble_eq_true rfl) (fun p e s m args below meth c A C hr hnm => ?_)
  unfold wp_X8_lay_images at h
  refine z_iconst (v := 0) C dX8_lay_0 (by decide) ?_
  refine z_istore (lv1 := [(4, .int 0), (0, .ref (ad 0)), (1, .ref (ad 7)), (2, .ref (ad 8)), (3, .int x3)]) C dX8_lay_1 (by decide) rfl ?_
  refine z_lv (lv1 := [(0, .ref (ad 0)), (1, .ref (ad 7)), (2, .ref (ad 8)), (3, .int x3), (4, .int 0)]) [1, 2, 3, 4, 0] rfl ?_
  obtain ⟨n9, h⟩ := h
  exact l_X8_lay_images_3 C hr ad Q n9 u x3 0 h
abbrev j_X8_lay_ahead (p : Program) (l : Launch) (e : Env) (s : State) (m : MethodId) (args : Array Value) (below : List Frame) (meth : Method) (c : Code) (g : zG) (A : Nat → Prop) (ad : Nat → Nat) (Q : RS → Prop) (u : RS) (pc : Nat) (lv : List (Nat × Value)) (st : List Value) : Prop := zJ p l e (zR 0 0 0) s m args below meth c g A 5 (zQv below args s g A 0 0 (wR g ad) Q) (wR g ad u) 0 0 pc lv st
def wp_X8_lay_ahead_37 (Q : RS → Prop) (B37 : RS → Int32 → Int32 → Prop) (u : RS) (x3 : Int32) (x4 : Int32) : Prop :=
  ((7 ≤ x4 → Q u) ∧ (¬ 7 ≤ x4 → vp_in x4 7 ∧ vp_in ((7 * x3) + x4) 7 ∧ ∀ u105 : RS, u105 = rL u 13 (vp_updL (u.2 13) (zn ((7 * x3) + x4)) (u.2 4 (zn x4))) → ∀ x106 : Int32, x106 = x4 + 1 → B37 u105 x3 x106))
set_option maxRecDepth 20000 in
theorem b_X8_lay_ahead_37 (C : zC p s m args meth c g A cX8_lay RX8 5) (hr : meth.sig.returnType = none) (ad : Nat → Nat) (Q : RS → Prop) (B37 : RS → Int32 → Int32 → Prop) (hB37 : ∀ (u : RS) (x3 : Int32) (x4 : Int32), B37 u x3 x4 → j_X8_lay_ahead p l e s m args below meth c g A ad Q u 37 [(0, .ref (ad 0)), (1, .ref (ad 10)), (2, .ref (ad 11)), (3, .int x3), (4, .int x4)] []) (u : RS) (x3 : Int32) (x4 : Int32) (h : wp_X8_lay_ahead_37 Q B37 u x3 x4) : j_X8_lay_ahead p l e s m args below meth c g A ad Q u 37 [(0, .ref (ad 0)), (1, .ref (ad 10)), (2, .ref (ad 11)), (3, .int x3), (4, .int x4)] [] := by
  unfold wp_X8_lay_ahead_37 at h
  refine z_iload C dX8_lay_37 4 rfl ?_
  refine z_bipush (v := 7) C dX8_lay_39 (by decide) ?_
  refine z_icmp_ge C dX8_lay_41 (tgt := 66) (by decide) (fun hc102 => ?_) (fun hc102 => ?_)
  · have h := h.1 hc102
    exact z_vret C hr u rfl h dX8_lay_66
  · have h := h.2 hc102
    refine z_aload_n C dX8_lay_44 rfl 2 rfl ?_
    refine z_bipush (v := 7) C dX8_lay_45 (by decide) ?_
    refine z_iload_n C dX8_lay_47 rfl 3 rfl ?_
    refine z_imul C dX8_lay_48 ?_
    refine z_iload C dX8_lay_49 4 rfl ?_
    refine z_iadd C dX8_lay_51 ?_
    refine z_aload_n C dX8_lay_52 rfl 0 rfl ?_
    refine gR_sums C dX8_lay_53 ?_
    refine z_iload C dX8_lay_56 4 rfl ?_
    obtain ⟨hi103, h⟩ := h
    refine lR_sums C hi103 dX8_lay_58 ?_
    obtain ⟨hi104, h⟩ := h
    refine sR_aheadSums C hi104 dX8_lay_59 ?_
    refine z_stR (fun u105 eu105 => ?_)
    have h := h u105 eu105
    obtain ⟨x106, ex106⟩ : ∃ y : Int32, y = x4 + 1 := ⟨_, rfl⟩
    have h := h x106 ex106
    refine z_iinc (v := x106) (lv1 := [(4, .int x106), (0, .ref (ad 0)), (1, .ref (ad 10)), (2, .ref (ad 11)), (3, .int x3)]) C dX8_lay_60 4 rfl (by rw [ex106]; rfl) (by decide) rfl ?_
    refine z_goto C dX8_lay_63 (tgt := 37) (by decide) ?_
    refine z_lv (lv1 := [(0, .ref (ad 0)), (1, .ref (ad 10)), (2, .ref (ad 11)), (3, .int x3), (4, .int x106)]) [1, 2, 3, 4, 0] rfl ?_
    exact hB37 u105 x3 x106 h
theorem l_X8_lay_ahead_37 (C : zC p s m args meth c g A cX8_lay RX8 5) (hr : meth.sig.returnType = none) (ad : Nat → Nat) (Q : RS → Prop) : ∀ (n : Nat) (u : RS) (x3 : Int32) (x4 : Int32), zit3 (wp_X8_lay_ahead_37 Q) n u x3 x4 → j_X8_lay_ahead p l e s m args below meth c g A ad Q u 37 [(0, .ref (ad 0)), (1, .ref (ad 10)), (2, .ref (ad 11)), (3, .int x3), (4, .int x4)] [] := by
  intro n
  induction n with
  | zero => exact fun u x3 x4 h => h.elim
  | succ n ih => exact fun u x3 x4 h => b_X8_lay_ahead_37 C hr ad Q (zit3 (wp_X8_lay_ahead_37 Q) n) ih u x3 x4 h
def wp_X8_lay_ahead_3 (Q : RS → Prop) (B3 : RS → Int32 → Int32 → Prop) (u : RS) (x3 : Int32) (x4 : Int32) : Prop :=
  ((1065 ≤ x4 → (∃ n, zit3 (wp_X8_lay_ahead_37 Q) n u x3 0)) ∧ (¬ 1065 ≤ x4 → vp_in x4 1065 ∧ vp_in ((1065 * x3) + x4) 1065 ∧ ∀ u109 : RS, u109 = rI u 12 (upd (u.1 12) (zn ((1065 * x3) + x4)) (u.1 3 (zn x4))) → ∀ x110 : Int32, x110 = x4 + 1 → B3 u109 x3 x110))
set_option maxRecDepth 20000 in
theorem b_X8_lay_ahead_3 (C : zC p s m args meth c g A cX8_lay RX8 5) (hr : meth.sig.returnType = none) (ad : Nat → Nat) (Q : RS → Prop) (B3 : RS → Int32 → Int32 → Prop) (hB3 : ∀ (u : RS) (x3 : Int32) (x4 : Int32), B3 u x3 x4 → j_X8_lay_ahead p l e s m args below meth c g A ad Q u 3 [(0, .ref (ad 0)), (1, .ref (ad 10)), (2, .ref (ad 11)), (3, .int x3), (4, .int x4)] []) (u : RS) (x3 : Int32) (x4 : Int32) (h : wp_X8_lay_ahead_3 Q B3 u x3 x4) : j_X8_lay_ahead p l e s m args below meth c g A ad Q u 3 [(0, .ref (ad 0)), (1, .ref (ad 10)), (2, .ref (ad 11)), (3, .int x3), (4, .int x4)] [] := by
  unfold wp_X8_lay_ahead_3 at h
  refine z_iload C dX8_lay_3 4 rfl ?_
  refine z_sipush (v := 1065) C dX8_lay_5 (by decide) ?_
  refine z_icmp_ge C dX8_lay_8 (tgt := 34) (by decide) (fun hc101 => ?_) (fun hc101 => ?_)
  · have h := h.1 hc101
    refine z_iconst (v := 0) C dX8_lay_34 (by decide) ?_
    refine z_istore (lv1 := [(4, .int 0), (0, .ref (ad 0)), (1, .ref (ad 10)), (2, .ref (ad 11)), (3, .int x3)]) C dX8_lay_35 (by decide) rfl ?_
    refine z_lv (lv1 := [(0, .ref (ad 0)), (1, .ref (ad 10)), (2, .ref (ad 11)), (3, .int x3), (4, .int 0)]) [1, 2, 3, 4, 0] rfl ?_
    obtain ⟨n9, h⟩ := h
    exact l_X8_lay_ahead_37 C hr ad Q n9 u x3 0 h
  · have h := h.2 hc101
    refine z_aload_n C dX8_lay_11 rfl 1 rfl ?_
    refine z_sipush (v := 1065) C dX8_lay_12 (by decide) ?_
    refine z_iload_n C dX8_lay_15 rfl 3 rfl ?_
    refine z_imul C dX8_lay_16 ?_
    refine z_iload C dX8_lay_17 4 rfl ?_
    refine z_iadd C dX8_lay_19 ?_
    refine z_aload_n C dX8_lay_20 rfl 0 rfl ?_
    refine gR_row C dX8_lay_21 ?_
    refine z_iload C dX8_lay_24 4 rfl ?_
    obtain ⟨hi107, h⟩ := h
    refine lR_row C hi107 dX8_lay_26 ?_
    obtain ⟨hi108, h⟩ := h
    refine sR_ahead C hi108 dX8_lay_27 ?_
    refine z_stR (fun u109 eu109 => ?_)
    have h := h u109 eu109
    obtain ⟨x110, ex110⟩ : ∃ y : Int32, y = x4 + 1 := ⟨_, rfl⟩
    have h := h x110 ex110
    refine z_iinc (v := x110) (lv1 := [(4, .int x110), (0, .ref (ad 0)), (1, .ref (ad 10)), (2, .ref (ad 11)), (3, .int x3)]) C dX8_lay_28 4 rfl (by rw [ex110]; rfl) (by decide) rfl ?_
    refine z_goto C dX8_lay_31 (tgt := 3) (by decide) ?_
    refine z_lv (lv1 := [(0, .ref (ad 0)), (1, .ref (ad 10)), (2, .ref (ad 11)), (3, .int x3), (4, .int x110)]) [1, 2, 3, 4, 0] rfl ?_
    exact hB3 u109 x3 x110 h
theorem l_X8_lay_ahead_3 (C : zC p s m args meth c g A cX8_lay RX8 5) (hr : meth.sig.returnType = none) (ad : Nat → Nat) (Q : RS → Prop) : ∀ (n : Nat) (u : RS) (x3 : Int32) (x4 : Int32), zit3 (wp_X8_lay_ahead_3 Q) n u x3 x4 → j_X8_lay_ahead p l e s m args below meth c g A ad Q u 3 [(0, .ref (ad 0)), (1, .ref (ad 10)), (2, .ref (ad 11)), (3, .int x3), (4, .int x4)] [] := by
  intro n
  induction n with
  | zero => exact fun u x3 x4 h => h.elim
  | succ n ih => exact fun u x3 x4 h => b_X8_lay_ahead_3 C hr ad Q (zit3 (wp_X8_lay_ahead_3 Q) n) ih u x3 x4 h
def wp_X8_lay_ahead (u : RS) (x3 : Int32) (Q : RS → Prop) : Prop :=
  (∃ n, zit3 (wp_X8_lay_ahead_3 Q) n u x3 0)
set_option maxRecDepth 20000 in
theorem c_X8_lay_ahead (l : Launch) (g : zG) (ad : Nat → Nat) (u : RS) (x3 : Int32) (Q : RS → Prop) (h : wp_X8_lay_ahead u x3 Q) : zMv l yX8_lay cX8_lay 5 none 0 0 0 g [.ref (ad 0), .ref (ad 10), .ref (ad 11), .int x3] (wR g ad u) (wR g ad) Q := by
  refine zMv_of RX8 (by decide) rfl [(0, .ref (ad 0)), (1, .ref (ad 10)), (2, .ref (ad 11)), (3, .int x3)] rfl (Nat.le_of_ble_eq_true rfl) (fun p e s m args below meth c A C hr hnm => ?_)
  unfold wp_X8_lay_ahead at h
  refine z_iconst (v := 0) C dX8_lay_0 (by decide) ?_
  refine z_istore (lv1 := [(4, .int 0), (0, .ref (ad 0)), (1, .ref (ad 10)), (2, .ref (ad 11)), (3, .int x3)]) C dX8_lay_1 (by decide) rfl ?_
  refine z_lv (lv1 := [(0, .ref (ad 0)), (1, .ref (ad 10)), (2, .ref (ad 11)), (3, .int x3), (4, .int 0)]) [1, 2, 3, 4, 0] rfl ?_
  obtain ⟨n9, h⟩ := h
  exact l_X8_lay_ahead_3 C hr ad Q n9 u x3 0 h
abbrev j_X8_bring_undos (p : Program) (l : Launch) (e : Env) (s : State) (m : MethodId) (args : Array Value) (below : List Frame) (meth : Method) (c : Code) (g : zG) (A : Nat → Prop) (ad : Nat → Nat) (Q : RS → Prop) (u : RS) (pc : Nat) (lv : List (Nat × Value)) (st : List Value) : Prop := zJ p l e (zR 0 0 0) s m args below meth c g A 5 (zQv below args s g A 0 0 (wR g ad) Q) (wR g ad u) 0 0 pc lv st
def wp_X8_bring_undos_37 (Q : RS → Prop) (B37 : RS → Int32 → Int32 → Prop) (u : RS) (x3 : Int32) (x4 : Int32) : Prop :=
  ((7 ≤ x4 → Q u) ∧ (¬ 7 ≤ x4 → vp_in ((7 * x3) + x4) 56 ∧ vp_in x4 7 ∧ ∀ u105 : RS, u105 = rL u 4 (vp_updL (u.2 4) (zn x4) (u.2 6 (zn ((7 * x3) + x4)))) → ∀ x106 : Int32, x106 = x4 + 1 → B37 u105 x3 x106))
set_option maxRecDepth 20000 in
theorem b_X8_bring_undos_37 (C : zC p s m args meth c g A cX8_bring RX8 5) (hr : meth.sig.returnType = none) (ad : Nat → Nat) (Q : RS → Prop) (B37 : RS → Int32 → Int32 → Prop) (hB37 : ∀ (u : RS) (x3 : Int32) (x4 : Int32), B37 u x3 x4 → j_X8_bring_undos p l e s m args below meth c g A ad Q u 37 [(0, .ref (ad 0)), (1, .ref (ad 4)), (2, .ref (ad 5)), (3, .int x3), (4, .int x4)] []) (u : RS) (x3 : Int32) (x4 : Int32) (h : wp_X8_bring_undos_37 Q B37 u x3 x4) : j_X8_bring_undos p l e s m args below meth c g A ad Q u 37 [(0, .ref (ad 0)), (1, .ref (ad 4)), (2, .ref (ad 5)), (3, .int x3), (4, .int x4)] [] := by
  unfold wp_X8_bring_undos_37 at h
  refine z_iload C dX8_bring_37 4 rfl ?_
  refine z_bipush (v := 7) C dX8_bring_39 (by decide) ?_
  refine z_icmp_ge C dX8_bring_41 (tgt := 66) (by decide) (fun hc102 => ?_) (fun hc102 => ?_)
  · have h := h.1 hc102
    exact z_vret C hr u rfl h dX8_bring_66
  · have h := h.2 hc102
    refine z_aload_n C dX8_bring_44 rfl 0 rfl ?_
    refine gR_sums C dX8_bring_45 ?_
    refine z_iload C dX8_bring_48 4 rfl ?_
    refine z_aload_n C dX8_bring_50 rfl 2 rfl ?_
    refine z_bipush (v := 7) C dX8_bring_51 (by decide) ?_
    refine z_iload_n C dX8_bring_53 rfl 3 rfl ?_
    refine z_imul C dX8_bring_54 ?_
    refine z_iload C dX8_bring_55 4 rfl ?_
    refine z_iadd C dX8_bring_57 ?_
    obtain ⟨hi103, h⟩ := h
    refine lR_undoSums C hi103 dX8_bring_58 ?_
    obtain ⟨hi104, h⟩ := h
    refine sR_sums C hi104 dX8_bring_59 ?_
    refine z_stR (fun u105 eu105 => ?_)
    have h := h u105 eu105
    obtain ⟨x106, ex106⟩ : ∃ y : Int32, y = x4 + 1 := ⟨_, rfl⟩
    have h := h x106 ex106
    refine z_iinc (v := x106) (lv1 := [(4, .int x106), (0, .ref (ad 0)), (1, .ref (ad 4)), (2, .ref (ad 5)), (3, .int x3)]) C dX8_bring_60 4 rfl (by rw [ex106]; rfl) (by decide) rfl ?_
    refine z_goto C dX8_bring_63 (tgt := 37) (by decide) ?_
    refine z_lv (lv1 := [(0, .ref (ad 0)), (1, .ref (ad 4)), (2, .ref (ad 5)), (3, .int x3), (4, .int x106)]) [1, 2, 3, 4, 0] rfl ?_
    exact hB37 u105 x3 x106 h
theorem l_X8_bring_undos_37 (C : zC p s m args meth c g A cX8_bring RX8 5) (hr : meth.sig.returnType = none) (ad : Nat → Nat) (Q : RS → Prop) : ∀ (n : Nat) (u : RS) (x3 : Int32) (x4 : Int32), zit3 (wp_X8_bring_undos_37 Q) n u x3 x4 → j_X8_bring_undos p l e s m args below meth c g A ad Q u 37 [(0, .ref (ad 0)), (1, .ref (ad 4)), (2, .ref (ad 5)), (3, .int x3), (4, .int x4)] [] := by
  intro n
  induction n with
  | zero => exact fun u x3 x4 h => h.elim
  | succ n ih => exact fun u x3 x4 h => b_X8_bring_undos_37 C hr ad Q (zit3 (wp_X8_bring_undos_37 Q) n) ih u x3 x4 h
def wp_X8_bring_undos_3 (Q : RS → Prop) (B3 : RS → Int32 → Int32 → Prop) (u : RS) (x3 : Int32) (x4 : Int32) : Prop :=
  ((1065 ≤ x4 → (∃ n, zit3 (wp_X8_bring_undos_37 Q) n u x3 0)) ∧ (¬ 1065 ≤ x4 → vp_in ((1065 * x3) + x4) 8520 ∧ vp_in x4 1065 ∧ ∀ u109 : RS, u109 = rI u 3 (upd (u.1 3) (zn x4) (u.1 5 (zn ((1065 * x3) + x4)))) → ∀ x110 : Int32, x110 = x4 + 1 → B3 u109 x3 x110))
set_option maxRecDepth 20000 in
theorem b_X8_bring_undos_3 (C : zC p s m args meth c g A cX8_bring RX8 5) (hr : meth.sig.returnType = none) (ad : Nat → Nat) (Q : RS → Prop) (B3 : RS → Int32 → Int32 → Prop) (hB3 : ∀ (u : RS) (x3 : Int32) (x4 : Int32), B3 u x3 x4 → j_X8_bring_undos p l e s m args below meth c g A ad Q u 3 [(0, .ref (ad 0)), (1, .ref (ad 4)), (2, .ref (ad 5)), (3, .int x3), (4, .int x4)] []) (u : RS) (x3 : Int32) (x4 : Int32) (h : wp_X8_bring_undos_3 Q B3 u x3 x4) : j_X8_bring_undos p l e s m args below meth c g A ad Q u 3 [(0, .ref (ad 0)), (1, .ref (ad 4)), (2, .ref (ad 5)), (3, .int x3), (4, .int x4)] [] := by
  unfold wp_X8_bring_undos_3 at h
  refine z_iload C dX8_bring_3 4 rfl ?_
  refine z_sipush (v := 1065) C dX8_bring_5 (by decide) ?_
  refine z_icmp_ge C dX8_bring_8 (tgt := 34) (by decide) (fun hc101 => ?_) (fun hc101 => ?_)
  · have h := h.1 hc101
    refine z_iconst (v := 0) C dX8_bring_34 (by decide) ?_
    refine z_istore (lv1 := [(4, .int 0), (0, .ref (ad 0)), (1, .ref (ad 4)), (2, .ref (ad 5)), (3, .int x3)]) C dX8_bring_35 (by decide) rfl ?_
    refine z_lv (lv1 := [(0, .ref (ad 0)), (1, .ref (ad 4)), (2, .ref (ad 5)), (3, .int x3), (4, .int 0)]) [1, 2, 3, 4, 0] rfl ?_
    obtain ⟨n9, h⟩ := h
    exact l_X8_bring_undos_37 C hr ad Q n9 u x3 0 h
  · have h := h.2 hc101
    refine z_aload_n C dX8_bring_11 rfl 0 rfl ?_
    refine gR_row C dX8_bring_12 ?_
    refine z_iload C dX8_bring_15 4 rfl ?_
    refine z_aload_n C dX8_bring_17 rfl 1 rfl ?_
    refine z_sipush (v := 1065) C dX8_bring_18 (by decide) ?_
    refine z_iload_n C dX8_bring_21 rfl 3 rfl ?_
    refine z_imul C dX8_bring_22 ?_
    refine z_iload C dX8_bring_23 4 rfl ?_
    refine z_iadd C dX8_bring_25 ?_
    obtain ⟨hi107, h⟩ := h
    refine lR_undos C hi107 dX8_bring_26 ?_
    obtain ⟨hi108, h⟩ := h
    refine sR_row C hi108 dX8_bring_27 ?_
    refine z_stR (fun u109 eu109 => ?_)
    have h := h u109 eu109
    obtain ⟨x110, ex110⟩ : ∃ y : Int32, y = x4 + 1 := ⟨_, rfl⟩
    have h := h x110 ex110
    refine z_iinc (v := x110) (lv1 := [(4, .int x110), (0, .ref (ad 0)), (1, .ref (ad 4)), (2, .ref (ad 5)), (3, .int x3)]) C dX8_bring_28 4 rfl (by rw [ex110]; rfl) (by decide) rfl ?_
    refine z_goto C dX8_bring_31 (tgt := 3) (by decide) ?_
    refine z_lv (lv1 := [(0, .ref (ad 0)), (1, .ref (ad 4)), (2, .ref (ad 5)), (3, .int x3), (4, .int x110)]) [1, 2, 3, 4, 0] rfl ?_
    exact hB3 u109 x3 x110 h
theorem l_X8_bring_undos_3 (C : zC p s m args meth c g A cX8_bring RX8 5) (hr : meth.sig.returnType = none) (ad : Nat → Nat) (Q : RS → Prop) : ∀ (n : Nat) (u : RS) (x3 : Int32) (x4 : Int32), zit3 (wp_X8_bring_undos_3 Q) n u x3 x4 → j_X8_bring_undos p l e s m args below meth c g A ad Q u 3 [(0, .ref (ad 0)), (1, .ref (ad 4)), (2, .ref (ad 5)), (3, .int x3), (4, .int x4)] [] := by
  intro n
  induction n with
  | zero => exact fun u x3 x4 h => h.elim
  | succ n ih => exact fun u x3 x4 h => b_X8_bring_undos_3 C hr ad Q (zit3 (wp_X8_bring_undos_3 Q) n) ih u x3 x4 h
def wp_X8_bring_undos (u : RS) (x3 : Int32) (Q : RS → Prop) : Prop :=
  (∃ n, zit3 (wp_X8_bring_undos_3 Q) n u x3 0)
set_option maxRecDepth 20000 in
theorem c_X8_bring_undos (l : Launch) (g : zG) (ad : Nat → Nat) (u : RS) (x3 : Int32) (Q : RS → Prop) (h : wp_X8_bring_undos u x3 Q) : zMv l yX8_bring cX8_bring 5 none 0 0 0 g [.ref (ad 0), .ref (ad 4), .ref (ad 5), .int x3] (wR g ad u) (wR g ad) Q := by
  refine zMv_of RX8 (by decide) rfl [(0, .ref (ad 0)), (1, .ref (ad 4)), (2, .ref (ad 5)), (3, .int x3)] rfl (Nat.le_of_ble_eq_true rfl) (fun p e s m args below meth c A C hr hnm => ?_)
  unfold wp_X8_bring_undos at h
  refine z_iconst (v := 0) C dX8_bring_0 (by decide) ?_
  refine z_istore (lv1 := [(4, .int 0), (0, .ref (ad 0)), (1, .ref (ad 4)), (2, .ref (ad 5)), (3, .int x3)]) C dX8_bring_1 (by decide) rfl ?_
  refine z_lv (lv1 := [(0, .ref (ad 0)), (1, .ref (ad 4)), (2, .ref (ad 5)), (3, .int x3), (4, .int 0)]) [1, 2, 3, 4, 0] rfl ?_
  obtain ⟨n9, h⟩ := h
  exact l_X8_bring_undos_3 C hr ad Q n9 u x3 0 h
abbrev j_X8_bring_images (p : Program) (l : Launch) (e : Env) (s : State) (m : MethodId) (args : Array Value) (below : List Frame) (meth : Method) (c : Code) (g : zG) (A : Nat → Prop) (ad : Nat → Nat) (Q : RS → Prop) (u : RS) (pc : Nat) (lv : List (Nat × Value)) (st : List Value) : Prop := zJ p l e (zR 0 0 0) s m args below meth c g A 5 (zQv below args s g A 0 0 (wR g ad) Q) (wR g ad u) 0 0 pc lv st
def wp_X8_bring_images_37 (Q : RS → Prop) (B37 : RS → Int32 → Int32 → Prop) (u : RS) (x3 : Int32) (x4 : Int32) : Prop :=
  ((7 ≤ x4 → Q u) ∧ (¬ 7 ≤ x4 → vp_in ((7 * x3) + x4) 14 ∧ vp_in x4 7 ∧ ∀ u105 : RS, u105 = rL u 4 (vp_updL (u.2 4) (zn x4) (u.2 10 (zn ((7 * x3) + x4)))) → ∀ x106 : Int32, x106 = x4 + 1 → B37 u105 x3 x106))
set_option maxRecDepth 20000 in
theorem b_X8_bring_images_37 (C : zC p s m args meth c g A cX8_bring RX8 5) (hr : meth.sig.returnType = none) (ad : Nat → Nat) (Q : RS → Prop) (B37 : RS → Int32 → Int32 → Prop) (hB37 : ∀ (u : RS) (x3 : Int32) (x4 : Int32), B37 u x3 x4 → j_X8_bring_images p l e s m args below meth c g A ad Q u 37 [(0, .ref (ad 0)), (1, .ref (ad 7)), (2, .ref (ad 8)), (3, .int x3), (4, .int x4)] []) (u : RS) (x3 : Int32) (x4 : Int32) (h : wp_X8_bring_images_37 Q B37 u x3 x4) : j_X8_bring_images p l e s m args below meth c g A ad Q u 37 [(0, .ref (ad 0)), (1, .ref (ad 7)), (2, .ref (ad 8)), (3, .int x3), (4, .int x4)] [] := by
  unfold wp_X8_bring_images_37 at h
  refine z_iload C dX8_bring_37 4 rfl ?_
  refine z_bipush (v := 7) C dX8_bring_39 (by decide) ?_
  refine z_icmp_ge C dX8_bring_41 (tgt := 66) (by decide) (fun hc102 => ?_) (fun hc102 => ?_)
  · have h := h.1 hc102
    exact z_vret C hr u rfl h dX8_bring_66
  · have h := h.2 hc102
    refine z_aload_n C dX8_bring_44 rfl 0 rfl ?_
    refine gR_sums C dX8_bring_45 ?_
    refine z_iload C dX8_bring_48 4 rfl ?_
    refine z_aload_n C dX8_bring_50 rfl 2 rfl ?_
    refine z_bipush (v := 7) C dX8_bring_51 (by decide) ?_
    refine z_iload_n C dX8_bring_53 rfl 3 rfl ?_
    refine z_imul C dX8_bring_54 ?_
    refine z_iload C dX8_bring_55 4 rfl ?_
    refine z_iadd C dX8_bring_57 ?_
    obtain ⟨hi103, h⟩ := h
    refine lR_imageSums C hi103 dX8_bring_58 ?_
    obtain ⟨hi104, h⟩ := h
    refine sR_sums C hi104 dX8_bring_59 ?_
    refine z_stR (fun u105 eu105 => ?_)
    have h := h u105 eu105
    obtain ⟨x106, ex106⟩ : ∃ y : Int32, y = x4 + 1 := ⟨_, rfl⟩
    have h := h x106 ex106
    refine z_iinc (v := x106) (lv1 := [(4, .int x106), (0, .ref (ad 0)), (1, .ref (ad 7)), (2, .ref (ad 8)), (3, .int x3)]) C dX8_bring_60 4 rfl (by rw [ex106]; rfl) (by decide) rfl ?_
    refine z_goto C dX8_bring_63 (tgt := 37) (by decide) ?_
    refine z_lv (lv1 := [(0, .ref (ad 0)), (1, .ref (ad 7)), (2, .ref (ad 8)), (3, .int x3), (4, .int x106)]) [1, 2, 3, 4, 0] rfl ?_
    exact hB37 u105 x3 x106 h
theorem l_X8_bring_images_37 (C : zC p s m args meth c g A cX8_bring RX8 5) (hr : meth.sig.returnType = none) (ad : Nat → Nat) (Q : RS → Prop) : ∀ (n : Nat) (u : RS) (x3 : Int32) (x4 : Int32), zit3 (wp_X8_bring_images_37 Q) n u x3 x4 → j_X8_bring_images p l e s m args below meth c g A ad Q u 37 [(0, .ref (ad 0)), (1, .ref (ad 7)), (2, .ref (ad 8)), (3, .int x3), (4, .int x4)] [] := by
  intro n
  induction n with
  | zero => exact fun u x3 x4 h => h.elim
  | succ n ih => exact fun u x3 x4 h => b_X8_bring_images_37 C hr ad Q (zit3 (wp_X8_bring_images_37 Q) n) ih u x3 x4 h
def wp_X8_bring_images_3 (Q : RS → Prop) (B3 : RS → Int32 → Int32 → Prop) (u : RS) (x3 : Int32) (x4 : Int32) : Prop :=
  ((1065 ≤ x4 → (∃ n, zit3 (wp_X8_bring_images_37 Q) n u x3 0)) ∧ (¬ 1065 ≤ x4 → vp_in ((1065 * x3) + x4) 2130 ∧ vp_in x4 1065 ∧ ∀ u109 : RS, u109 = rI u 3 (upd (u.1 3) (zn x4) (u.1 9 (zn ((1065 * x3) + x4)))) → ∀ x110 : Int32, x110 = x4 + 1 → B3 u109 x3 x110))
set_option maxRecDepth 20000 in
theorem b_X8_bring_images_3 (C : zC p s m args meth c g A cX8_bring RX8 5) (hr : meth.sig.returnType = none) (ad : Nat → Nat) (Q : RS → Prop) (B3 : RS → Int32 → Int32 → Prop) (hB3 : ∀ (u : RS) (x3 : Int32) (x4 : Int32), B3 u x3 x4 → j_X8_bring_images p l e s m args below meth c g A ad Q u 3 [(0, .ref (ad 0)), (1, .ref (ad 7)), (2, .ref (ad 8)), (3, .int x3), (4, .int x4)] []) (u : RS) (x3 : Int32) (x4 : Int32) (h : wp_X8_bring_images_3 Q B3 u x3 x4) : j_X8_bring_images p l e s m args below meth c g A ad Q u 3 [(0, .ref (ad 0)), (1, .ref (ad 7)), (2, .ref (ad 8)), (3, .int x3), (4, .int x4)] [] := by
  unfold wp_X8_bring_images_3 at h
  refine z_iload C dX8_bring_3 4 rfl ?_
  refine z_sipush (v := 1065) C dX8_bring_5 (by decide) ?_
  refine z_icmp_ge C dX8_bring_8 (tgt := 34) (by decide) (fun hc101 => ?_) (fun hc101 => ?_)
  · have h := h.1 hc101
    refine z_iconst (v := 0) C dX8_bring_34 (by decide) ?_
    refine z_istore (lv1 := [(4, .int 0), (0, .ref (ad 0)), (1, .ref (ad 7)), (2, .ref (ad 8)), (3, .int x3)]) C dX8_bring_35 (by decide) rfl ?_
    refine z_lv (lv1 := [(0, .ref (ad 0)), (1, .ref (ad 7)), (2, .ref (ad 8)), (3, .int x3), (4, .int 0)]) [1, 2, 3, 4, 0] rfl ?_
    obtain ⟨n9, h⟩ := h
    exact l_X8_bring_images_37 C hr ad Q n9 u x3 0 h
  · have h := h.2 hc101
    refine z_aload_n C dX8_bring_11 rfl 0 rfl ?_
    refine gR_row C dX8_bring_12 ?_
    refine z_iload C dX8_bring_15 4 rfl ?_
    refine z_aload_n C dX8_bring_17 rfl 1 rfl ?_
    refine z_sipush (v := 1065) C dX8_bring_18 (by decide) ?_
    refine z_iload_n C dX8_bring_21 rfl 3 rfl ?_
    refine z_imul C dX8_bring_22 ?_
    refine z_iload C dX8_bring_23 4 rfl ?_
    refine z_iadd C dX8_bring_25 ?_
    obtain ⟨hi107, h⟩ := h
    refine lR_images C hi107 dX8_bring_26 ?_
    obtain ⟨hi108, h⟩ := h
    refine sR_row C hi108 dX8_bring_27 ?_
    refine z_stR (fun u109 eu109 => ?_)
    have h := h u109 eu109
    obtain ⟨x110, ex110⟩ : ∃ y : Int32, y = x4 + 1 := ⟨_, rfl⟩
    have h := h x110 ex110
    refine z_iinc (v := x110) (lv1 := [(4, .int x110), (0, .ref (ad 0)), (1, .ref (ad 7)), (2, .ref (ad 8)), (3, .int x3)]) C dX8_bring_28 4 rfl (by rw [ex110]; rfl) (by decide) rfl ?_
    refine z_goto C dX8_bring_31 (tgt := 3) (by decide) ?_
    refine z_lv (lv1 := [(0, .ref (ad 0)), (1, .ref (ad 7)), (2, .ref (ad 8)), (3, .int x3), (4, .int x110)]) [1, 2, 3, 4, 0] rfl ?_
    exact hB3 u109 x3 x110 h
theorem l_X8_bring_images_3 (C : zC p s m args meth c g A cX8_bring RX8 5) (hr : meth.sig.returnType = none) (ad : Nat → Nat) (Q : RS → Prop) : ∀ (n : Nat) (u : RS) (x3 : Int32) (x4 : Int32), zit3 (wp_X8_bring_images_3 Q) n u x3 x4 → j_X8_bring_images p l e s m args below meth c g A ad Q u 3 [(0, .ref (ad 0)), (1, .ref (ad 7)), (2, .ref (ad 8)), (3, .int x3), (4, .int x4)] [] := by
  intro n
  induction n with
  | zero => exact fun u x3 x4 h => h.elim
  | succ n ih => exact fun u x3 x4 h => b_X8_bring_images_3 C hr ad Q (zit3 (wp_X8_bring_images_3 Q) n) ih u x3 x4 h
def wp_X8_bring_images (u : RS) (x3 : Int32) (Q : RS → Prop) : Prop :=
  (∃ n, zit3 (wp_X8_bring_images_3 Q) n u x3 0)
set_option maxRecDepth 20000 in
theorem c_X8_bring_images (l : Launch) (g : zG) (ad : Nat → Nat) (u : RS) (x3 : Int32) (Q : RS → Prop) (h : wp_X8_bring_images u x3 Q) : zMv l yX8_bring cX8_bring 5 none 0 0 0 g [.ref (ad 0), .ref (ad 7), .ref (ad 8), .int x3] (wR g ad u) (wR g ad) Q := by
  refine zMv_of RX8 (by decide) rfl [(0, .ref (ad 0)), (1, .ref (ad 7)), (2, .ref (ad 8)), (3, .int x3)] rfl (Nat.le_of_ble_eq_true rfl) (fun p e s m args below meth c A C hr hnm => ?_)
  unfold wp_X8_bring_images at h
  refine z_iconst (v := 0) C dX8_bring_0 (by decide) ?_
  refine z_istore (lv1 := [(4, .int 0), (0, .ref (ad 0)), (1, .ref (ad 7)), (2, .ref (ad 8)), (3, .int x3)]) C dX8_bring_1 (by decide) rfl ?_
  refine z_lv (lv1 := [(0, .ref (ad 0)), (1, .ref (ad 7)), (2, .ref (ad 8)), (3, .int x3), (4, .int 0)]) [1, 2, 3, 4, 0] rfl ?_
  obtain ⟨n9, h⟩ := h
  exact l_X8_bring_images_3 C hr ad Q n9 u x3 0 h
abbrev j_X8_bring_ahead (p : Program) (l : Launch) (e : Env) (s : State) (m : MethodId) (args : Array Value) (below : List Frame) (meth : Method) (c : Code) (g : zG) (A : Nat → Prop) (ad : Nat → Nat) (Q : RS → Prop) (u : RS) (pc : Nat) (lv : List (Nat × Value)) (st : List Value) : Prop := zJ p l e (zR 0 0 0) s m args below meth c g A 5 (zQv below args s g A 0 0 (wR g ad) Q) (wR g ad u) 0 0 pc lv st
def wp_X8_bring_ahead_37 (Q : RS → Prop) (B37 : RS → Int32 → Int32 → Prop) (u : RS) (x3 : Int32) (x4 : Int32) : Prop :=
  ((7 ≤ x4 → Q u) ∧ (¬ 7 ≤ x4 → vp_in ((7 * x3) + x4) 7 ∧ vp_in x4 7 ∧ ∀ u105 : RS, u105 = rL u 4 (vp_updL (u.2 4) (zn x4) (u.2 13 (zn ((7 * x3) + x4)))) → ∀ x106 : Int32, x106 = x4 + 1 → B37 u105 x3 x106))
set_option maxRecDepth 20000 in
theorem b_X8_bring_ahead_37 (C : zC p s m args meth c g A cX8_bring RX8 5) (hr : meth.sig.returnType = none) (ad : Nat → Nat) (Q : RS → Prop) (B37 : RS → Int32 → Int32 → Prop) (hB37 : ∀ (u : RS) (x3 : Int32) (x4 : Int32), B37 u x3 x4 → j_X8_bring_ahead p l e s m args below meth c g A ad Q u 37 [(0, .ref (ad 0)), (1, .ref (ad 10)), (2, .ref (ad 11)), (3, .int x3), (4, .int x4)] []) (u : RS) (x3 : Int32) (x4 : Int32) (h : wp_X8_bring_ahead_37 Q B37 u x3 x4) : j_X8_bring_ahead p l e s m args below meth c g A ad Q u 37 [(0, .ref (ad 0)), (1, .ref (ad 10)), (2, .ref (ad 11)), (3, .int x3), (4, .int x4)] [] := by
  unfold wp_X8_bring_ahead_37 at h
  refine z_iload C dX8_bring_37 4 rfl ?_
  refine z_bipush (v := 7) C dX8_bring_39 (by decide) ?_
  refine z_icmp_ge C dX8_bring_41 (tgt := 66) (by decide) (fun hc102 => ?_) (fun hc102 => ?_)
  · have h := h.1 hc102
    exact z_vret C hr u rfl h dX8_bring_66
  · have h := h.2 hc102
    refine z_aload_n C dX8_bring_44 rfl 0 rfl ?_
    refine gR_sums C dX8_bring_45 ?_
    refine z_iload C dX8_bring_48 4 rfl ?_
    refine z_aload_n C dX8_bring_50 rfl 2 rfl ?_
    refine z_bipush (v := 7) C dX8_bring_51 (by decide) ?_
    refine z_iload_n C dX8_bring_53 rfl 3 rfl ?_
    refine z_imul C dX8_bring_54 ?_
    refine z_iload C dX8_bring_55 4 rfl ?_
    refine z_iadd C dX8_bring_57 ?_
    obtain ⟨hi103, h⟩ := h
    refine lR_aheadSums C hi103 dX8_bring_58 ?_
    obtain ⟨hi104, h⟩ := h
    refine sR_sums C hi104 dX8_bring_59 ?_
    refine z_stR (fun u105 eu105 => ?_)
    have h := h u105 eu105
    obtain ⟨x106, ex106⟩ : ∃ y : Int32, y = x4 + 1 := ⟨_, rfl⟩
    have h := h x106 ex106
    refine z_iinc (v := x106) (lv1 := [(4, .int x106), (0, .ref (ad 0)), (1, .ref (ad 10)), (2, .ref (ad 11)), (3, .int x3)]) C dX8_bring_60 4 rfl (by rw [ex106]; rfl) (by decide) rfl ?_
    refine z_goto C dX8_bring_63 (tgt := 37) (by decide) ?_
    refine z_lv (lv1 := [(0, .ref (ad 0)), (1, .ref (ad 10)), (2, .ref (ad 11)), (3, .int x3), (4, .int x106)]) [1, 2, 3, 4, 0] rfl ?_
    exact hB37 u105 x3 x106 h
theorem l_X8_bring_ahead_37 (C : zC p s m args meth c g A cX8_bring RX8 5) (hr : meth.sig.returnType = none) (ad : Nat → Nat) (Q : RS → Prop) : ∀ (n : Nat) (u : RS) (x3 : Int32) (x4 : Int32), zit3 (wp_X8_bring_ahead_37 Q) n u x3 x4 → j_X8_bring_ahead p l e s m args below meth c g A ad Q u 37 [(0, .ref (ad 0)), (1, .ref (ad 10)), (2, .ref (ad 11)), (3, .int x3), (4, .int x4)] [] := by
  intro n
  induction n with
  | zero => exact fun u x3 x4 h => h.elim
  | succ n ih => exact fun u x3 x4 h => b_X8_bring_ahead_37 C hr ad Q (zit3 (wp_X8_bring_ahead_37 Q) n) ih u x3 x4 h
def wp_X8_bring_ahead_3 (Q : RS → Prop) (B3 : RS → Int32 → Int32 → Prop) (u : RS) (x3 : Int32) (x4 : Int32) : Prop :=
  ((1065 ≤ x4 → (∃ n, zit3 (wp_X8_bring_ahead_37 Q) n u x3 0)) ∧ (¬ 1065 ≤ x4 → vp_in ((1065 * x3) + x4) 1065 ∧ vp_in x4 1065 ∧ ∀ u109 : RS, u109 = rI u 3 (upd (u.1 3) (zn x4) (u.1 12 (zn ((1065 * x3) + x4)))) → ∀ x110 : Int32, x110 = x4 + 1 → B3 u109 x3 x110))
set_option maxRecDepth 20000 in
theorem b_X8_bring_ahead_3 (C : zC p s m args meth c g A cX8_bring RX8 5) (hr : meth.sig.returnType = none) (ad : Nat → Nat) (Q : RS → Prop) (B3 : RS → Int32 → Int32 → Prop) (hB3 : ∀ (u : RS) (x3 : Int32) (x4 : Int32), B3 u x3 x4 → j_X8_bring_ahead p l e s m args below meth c g A ad Q u 3 [(0, .ref (ad 0)), (1, .ref (ad 10)), (2, .ref (ad 11)), (3, .int x3), (4, .int x4)] []) (u : RS) (x3 : Int32) (x4 : Int32) (h : wp_X8_bring_ahead_3 Q B3 u x3 x4) : j_X8_bring_ahead p l e s m args below meth c g A ad Q u 3 [(0, .ref (ad 0)), (1, .ref (ad 10)), (2, .ref (ad 11)), (3, .int x3), (4, .int x4)] [] := by
  unfold wp_X8_bring_ahead_3 at h
  refine z_iload C dX8_bring_3 4 rfl ?_
  refine z_sipush (v := 1065) C dX8_bring_5 (by decide) ?_
  refine z_icmp_ge C dX8_bring_8 (tgt := 34) (by decide) (fun hc101 => ?_) (fun hc101 => ?_)
  · have h := h.1 hc101
    refine z_iconst (v := 0) C dX8_bring_34 (by decide) ?_
    refine z_istore (lv1 := [(4, .int 0), (0, .ref (ad 0)), (1, .ref (ad 10)), (2, .ref (ad 11)), (3, .int x3)]) C dX8_bring_35 (by decide) rfl ?_
    refine z_lv (lv1 := [(0, .ref (ad 0)), (1, .ref (ad 10)), (2, .ref (ad 11)), (3, .int x3), (4, .int 0)]) [1, 2, 3, 4, 0] rfl ?_
    obtain ⟨n9, h⟩ := h
    exact l_X8_bring_ahead_37 C hr ad Q n9 u x3 0 h
  · have h := h.2 hc101
    refine z_aload_n C dX8_bring_11 rfl 0 rfl ?_
    refine gR_row C dX8_bring_12 ?_
    refine z_iload C dX8_bring_15 4 rfl ?_
    refine z_aload_n C dX8_bring_17 rfl 1 rfl ?_
    refine z_sipush (v := 1065) C dX8_bring_18 (by decide) ?_
    refine z_iload_n C dX8_bring_21 rfl 3 rfl ?_
    refine z_imul C dX8_bring_22 ?_
    refine z_iload C dX8_bring_23 4 rfl ?_
    refine z_iadd C dX8_bring_25 ?_
    obtain ⟨hi107, h⟩ := h
    refine lR_ahead C hi107 dX8_bring_26 ?_
    obtain ⟨hi108, h⟩ := h
    refine sR_row C hi108 dX8_bring_27 ?_
    refine z_stR (fun u109 eu109 => ?_)
    have h := h u109 eu109
    obtain ⟨x110, ex110⟩ : ∃ y : Int32, y = x4 + 1 := ⟨_, rfl⟩
    have h := h x110 ex110
    refine z_iinc (v := x110) (lv1 := [(4, .int x110), (0, .ref (ad 0)), (1, .ref (ad 10)), (2, .ref (ad 11)), (3, .int x3)]) C dX8_bring_28 4 rfl (by rw [ex110]; rfl) (by decide) rfl ?_
    refine z_goto C dX8_bring_31 (tgt := 3) (by decide) ?_
    refine z_lv (lv1 := [(0, .ref (ad 0)), (1, .ref (ad 10)), (2, .ref (ad 11)), (3, .int x3), (4, .int x110)]) [1, 2, 3, 4, 0] rfl ?_
    exact hB3 u109 x3 x110 h
theorem l_X8_bring_ahead_3 (C : zC p s m args meth c g A cX8_bring RX8 5) (hr : meth.sig.returnType = none) (ad : Nat → Nat) (Q : RS → Prop) : ∀ (n : Nat) (u : RS) (x3 : Int32) (x4 : Int32), zit3 (wp_X8_bring_ahead_3 Q) n u x3 x4 → j_X8_bring_ahead p l e s m args below meth c g A ad Q u 3 [(0, .ref (ad 0)), (1, .ref (ad 10)), (2, .ref (ad 11)), (3, .int x3), (4, .int x4)] [] := by
  intro n
  induction n with
  | zero => exact fun u x3 x4 h => h.elim
  | succ n ih => exact fun u x3 x4 h => b_X8_bring_ahead_3 C hr ad Q (zit3 (wp_X8_bring_ahead_3 Q) n) ih u x3 x4 h
def wp_X8_bring_ahead (u : RS) (x3 : Int32) (Q : RS → Prop) : Prop :=
  (∃ n, zit3 (wp_X8_bring_ahead_3 Q) n u x3 0)
set_option maxRecDepth 20000 in
theorem c_X8_bring_ahead (l : Launch) (g : zG) (ad : Nat → Nat) (u : RS) (x3 : Int32) (Q : RS → Prop) (h : wp_X8_bring_ahead u x3 Q) : zMv l yX8_bring cX8_bring 5 none 0 0 0 g [.ref (ad 0), .ref (ad 10), .ref (ad 11), .int x3] (wR g ad u) (wR g ad) Q := by
  refine zMv_of RX8 (by decide) rfl [(0, .ref (ad 0)), (1, .ref (ad 10)), (2, .ref (ad 11)), (3, .int x3)] rfl (Nat.le_of_ble_eq_true rfl) (fun p e s m args below meth c A C hr hnm => ?_)
  unfold wp_X8_bring_ahead at h
  refine z_iconst (v := 0) C dX8_bring_0 (by decide) ?_
  refine z_istore (lv1 := [(4, .int 0), (0, .ref (ad 0)), (1, .ref (ad 10)), (2, .ref (ad 11)), (3, .int x3)]) C dX8_bring_1 (by decide) rfl ?_
  refine z_lv (lv1 := [(0, .ref (ad 0)), (1, .ref (ad 10)), (2, .ref (ad 11)), (3, .int x3), (4, .int 0)]) [1, 2, 3, 4, 0] rfl ?_
  obtain ⟨n9, h⟩ := h
  exact l_X8_bring_ahead_3 C hr ad Q n9 u x3 0 h
abbrev j_X8_flowAt (p : Program) (l : Launch) (e : Env) (s : State) (m : MethodId) (args : Array Value) (below : List Frame) (meth : Method) (c : Code) (g : zG) (A : Nat → Prop) (Q : Int32 → Prop) (pc : Nat) (lv : List (Nat × Value)) (st : List Value) : Prop := zJ p l e (zR 0 0 0) s m args below meth c g A 1 (zQi below args s g A 0 0 (fun _ : Unit => []) (fun r _ => Q r)) [] 0 0 pc lv st
def wp_X8_flowAt (x0 : Int32) (Q : Int32 → Prop) : Prop :=
  Q (73 + (15 * x0))
set_option maxRecDepth 20000 in
theorem c_X8_flowAt (l : Launch) (g : zG) (x0 : Int32) (Q : Int32 → Prop) (h : wp_X8_flowAt x0 Q) : zMi l yX8_flowAt cX8_flowAt 1 (some .int) 0 0 0 g [.int x0] [] (fun _ : Unit => []) (fun r _ => Q r) := by
  refine zMi_of RX8 (by decide) rfl [(0, .int x0)] rfl (Nat.le_of_ble_eq_true rfl) (fun p e s m args below meth c A C hr hnm => ?_)
  unfold wp_X8_flowAt at h
  refine z_bipush (v := 73) C dX8_flowAt_0 (by decide) ?_
  refine z_bipush (v := 15) C dX8_flowAt_2 (by decide) ?_
  refine z_iload_n C dX8_flowAt_4 rfl 0 rfl ?_
  refine z_imul C dX8_flowAt_5 ?_
  refine z_iadd C dX8_flowAt_6 ?_
  exact z_iret C hr () rfl h dX8_flowAt_7
abbrev j_X8_queueAt (p : Program) (l : Launch) (e : Env) (s : State) (m : MethodId) (args : Array Value) (below : List Frame) (meth : Method) (c : Code) (g : zG) (A : Nat → Prop) (Q : Int32 → Prop) (pc : Nat) (lv : List (Nat × Value)) (st : List Value) : Prop := zJ p l e (zR 0 0 0) s m args below meth c g A 1 (zQi below args s g A 0 0 (fun _ : Unit => []) (fun r _ => Q r)) [] 0 0 pc lv st
def wp_X8_queueAt (x0 : Int32) (Q : Int32 → Prop) : Prop :=
  Q (433 + (140 * x0))
set_option maxRecDepth 20000 in
theorem c_X8_queueAt (l : Launch) (g : zG) (x0 : Int32) (Q : Int32 → Prop) (h : wp_X8_queueAt x0 Q) : zMi l yX8_queueAt cX8_queueAt 1 (some .int) 0 0 0 g [.int x0] [] (fun _ : Unit => []) (fun r _ => Q r) := by
  refine zMi_of RX8 (by decide) rfl [(0, .int x0)] rfl (Nat.le_of_ble_eq_true rfl) (fun p e s m args below meth c A C hr hnm => ?_)
  unfold wp_X8_queueAt at h
  refine z_sipush (v := 433) C dX8_queueAt_0 (by decide) ?_
  refine z_sipush (v := 140) C dX8_queueAt_3 (by decide) ?_
  refine z_iload_n C dX8_queueAt_6 rfl 0 rfl ?_
  refine z_imul C dX8_queueAt_7 ?_
  refine z_iadd C dX8_queueAt_8 ?_
  exact z_iret C hr () rfl h dX8_queueAt_9
abbrev j_X8_ruleAt (p : Program) (l : Launch) (e : Env) (s : State) (m : MethodId) (args : Array Value) (below : List Frame) (meth : Method) (c : Code) (g : zG) (A : Nat → Prop) (Q : Int32 → Prop) (pc : Nat) (lv : List (Nat × Value)) (st : List Value) : Prop := zJ p l e (zR 0 0 0) s m args below meth c g A 1 (zQi below args s g A 0 0 (fun _ : Unit => []) (fun r _ => Q r)) [] 0 0 pc lv st
def wp_X8_ruleAt (x0 : Int32) (Q : Int32 → Prop) : Prop :=
  Q (55 + (3 * x0))
set_option maxRecDepth 20000 in
theorem c_X8_ruleAt (l : Launch) (g : zG) (x0 : Int32) (Q : Int32 → Prop) (h : wp_X8_ruleAt x0 Q) : zMi l yX8_ruleAt cX8_ruleAt 1 (some .int) 0 0 0 g [.int x0] [] (fun _ : Unit => []) (fun r _ => Q r) := by
  refine zMi_of RX8 (by decide) rfl [(0, .int x0)] rfl (Nat.le_of_ble_eq_true rfl) (fun p e s m args below meth c A C hr hnm => ?_)
  unfold wp_X8_ruleAt at h
  refine z_bipush (v := 55) C dX8_ruleAt_0 (by decide) ?_
  refine z_iconst (v := 3) C dX8_ruleAt_2 (by decide) ?_
  refine z_iload_n C dX8_ruleAt_3 rfl 0 rfl ?_
  refine z_imul C dX8_ruleAt_4 ?_
  refine z_iadd C dX8_ruleAt_5 ?_
  exact z_iret C hr () rfl h dX8_ruleAt_6
abbrev j_X8_keyBit (p : Program) (l : Launch) (e : Env) (s : State) (m : MethodId) (args : Array Value) (below : List Frame) (meth : Method) (c : Code) (g : zG) (A : Nat → Prop) (ad : Nat → Nat) (Q : Int32 → RS → Prop) (u : RS) (pc : Nat) (lv : List (Nat × Value)) (st : List Value) : Prop := zJ p l e (zR 0 0 0) s m args below meth c g A 2 (zQi below args s g A 0 0 (wR g ad) Q) (wR g ad u) 0 0 pc lv st
def wp_X8_keyBit_67 (Q : Int32 → RS → Prop) (u : RS) (t0 : Int32) : Prop :=
  Q t0 u
set_option maxRecDepth 20000 in
theorem b_X8_keyBit_67 (C : zC p s m args meth c g A cX8_keyBit RX8 2) (hr : meth.sig.returnType = (some .int)) (ad : Nat → Nat) (Q : Int32 → RS → Prop) (u : RS) (t0 : Int32) (h : wp_X8_keyBit_67 Q u t0) : j_X8_keyBit p l e s m args below meth c g A ad Q u 67 [(0, .ref (ad 0))] [.int t0] := by
  unfold wp_X8_keyBit_67 at h
  exact z_iret C hr u rfl h dX8_keyBit_67
def wp_X8_keyBit (u : RS) (x1 : Int32) (Q : Int32 → RS → Prop) : Prop :=
  ((32 ≤ x1 → ((64 ≤ x1 → ((72 ≤ x1 → wp_X8_keyBit_67 Q u 0) ∧ (¬ 72 ≤ x1 → wp_X8_keyBit_67 Q u ((zu (u.1 3 2) (71 - x1)) &&& 1)))) ∧ (¬ 64 ≤ x1 → wp_X8_keyBit_67 Q u ((zu (u.1 3 1) (63 - x1)) &&& 1)))) ∧ (¬ 32 ≤ x1 → wp_X8_keyBit_67 Q u ((zu (u.1 3 0) (31 - x1)) &&& 1)))
set_option maxRecDepth 20000 in
theorem c_X8_keyBit (l : Launch) (g : zG) (ad : Nat → Nat) (u : RS) (x1 : Int32) (Q : Int32 → RS → Prop) (h : wp_X8_keyBit u x1 Q) : zMi l yX8_keyBit cX8_keyBit 2 (some .int) 0 0 0 g [.ref (ad 0), .int x1] (wR g ad u) (wR g ad) Q := by
  refine zMi_of RX8 (by decide) rfl [(0, .ref (ad 0)), (1, .int x1)] rfl (Nat.le_of_ble_eq_true rfl) (fun p e s m args below meth c A C hr hnm => ?_)
  unfold wp_X8_keyBit at h
  refine z_iload_n C dX8_keyBit_0 rfl 1 rfl ?_
  refine z_bipush (v := 32) C dX8_keyBit_1 (by decide) ?_
  refine z_icmp_ge C dX8_keyBit_3 (tgt := 22) (by decide) (fun hc101 => ?_) (fun hc101 => ?_)
  · have h := h.1 hc101
    refine z_iload_n C dX8_keyBit_22 rfl 1 rfl ?_
    refine z_bipush (v := 64) C dX8_keyBit_23 (by decide) ?_
    refine z_icmp_ge C dX8_keyBit_25 (tgt := 44) (by decide) (fun hc102 => ?_) (fun hc102 => ?_)
    · have h := h.1 hc102
      refine z_iload_n C dX8_keyBit_44 rfl 1 rfl ?_
      refine z_bipush (v := 72) C dX8_keyBit_45 (by decide) ?_
      refine z_icmp_ge C dX8_keyBit_47 (tgt := 66) (by decide) (fun hc103 => ?_) (fun hc103 => ?_)
      · have h := h.1 hc103
        refine z_iconst (v := 0) C dX8_keyBit_66 (by decide) ?_
        refine z_lv (lv1 := [(0, .ref (ad 0))]) [0] rfl ?_
        exact b_X8_keyBit_67 C hr ad Q u 0 h
      · have h := h.2 hc103
        refine z_aload_n C dX8_keyBit_50 rfl 0 rfl ?_
        refine gR_row C dX8_keyBit_51 ?_
        refine z_iconst (v := 2) C dX8_keyBit_54 (by decide) ?_
        refine lRn_row C 2 (by decide +kernel) (vp_in_iff.mpr (by decide +kernel)) dX8_keyBit_55 ?_
        refine z_bipush (v := 71) C dX8_keyBit_56 (by decide) ?_
        refine z_iload_n C dX8_keyBit_58 rfl 1 rfl ?_
        refine z_isub C dX8_keyBit_59 ?_
        refine z_iushr C dX8_keyBit_60 ?_
        refine z_iconst (v := 1) C dX8_keyBit_61 (by decide) ?_
        refine z_iand C dX8_keyBit_62 ?_
        refine z_goto C dX8_keyBit_63 (tgt := 67) (by decide) ?_
        refine z_lv (lv1 := [(0, .ref (ad 0))]) [0] rfl ?_
        exact b_X8_keyBit_67 C hr ad Q u ((zu (u.1 3 2) (71 - x1)) &&& 1) h
    · have h := h.2 hc102
      refine z_aload_n C dX8_keyBit_28 rfl 0 rfl ?_
      refine gR_row C dX8_keyBit_29 ?_
      refine z_iconst (v := 1) C dX8_keyBit_32 (by decide) ?_
      refine lRn_row C 1 (by decide +kernel) (vp_in_iff.mpr (by decide +kernel)) dX8_keyBit_33 ?_
      refine z_bipush (v := 63) C dX8_keyBit_34 (by decide) ?_
      refine z_iload_n C dX8_keyBit_36 rfl 1 rfl ?_
      refine z_isub C dX8_keyBit_37 ?_
      refine z_iushr C dX8_keyBit_38 ?_
      refine z_iconst (v := 1) C dX8_keyBit_39 (by decide) ?_
      refine z_iand C dX8_keyBit_40 ?_
      refine z_goto C dX8_keyBit_41 (tgt := 67) (by decide) ?_
      refine z_lv (lv1 := [(0, .ref (ad 0))]) [0] rfl ?_
      exact b_X8_keyBit_67 C hr ad Q u ((zu (u.1 3 1) (63 - x1)) &&& 1) h
  · have h := h.2 hc101
    refine z_aload_n C dX8_keyBit_6 rfl 0 rfl ?_
    refine gR_row C dX8_keyBit_7 ?_
    refine z_iconst (v := 0) C dX8_keyBit_10 (by decide) ?_
    refine lRn_row C 0 (by decide +kernel) (vp_in_iff.mpr (by decide +kernel)) dX8_keyBit_11 ?_
    refine z_bipush (v := 31) C dX8_keyBit_12 (by decide) ?_
    refine z_iload_n C dX8_keyBit_14 rfl 1 rfl ?_
    refine z_isub C dX8_keyBit_15 ?_
    refine z_iushr C dX8_keyBit_16 ?_
    refine z_iconst (v := 1) C dX8_keyBit_17 (by decide) ?_
    refine z_iand C dX8_keyBit_18 ?_
    refine z_goto C dX8_keyBit_19 (tgt := 67) (by decide) ?_
    refine z_lv (lv1 := [(0, .ref (ad 0))]) [0] rfl ?_
    exact b_X8_keyBit_67 C hr ad Q u ((zu (u.1 3 0) (31 - x1)) &&& 1) h
abbrev j_X8_nextEntry (p : Program) (l : Launch) (e : Env) (s : State) (m : MethodId) (args : Array Value) (below : List Frame) (meth : Method) (c : Code) (g : zG) (A : Nat → Prop) (ad : Nat → Nat) (Q : Int32 → RS → Prop) (u : RS) (pc : Nat) (lv : List (Nat × Value)) (st : List Value) : Prop := zJ p l e (zR 0 0 0) s m args below meth c g A 3 (zQi below args s g A 0 0 (wR g ad) Q) (wR g ad u) 0 0 pc lv st
def wp_X8_nextEntry_50 (Q : Int32 → RS → Prop) (B4 : RS → Int32 → Int32 → Prop) (u : RS) (x2 : Int32) (t0 : Int32) : Prop :=
  ∀ x104 : Int32, x104 = x2 + 1 → B4 u t0 x104
set_option maxRecDepth 20000 in
theorem b_X8_nextEntry_50 (C : zC p s m args meth c g A cX8_nextEntry RX8 3) (hr : meth.sig.returnType = (some .int)) (ad : Nat → Nat) (Q : Int32 → RS → Prop) (B4 : RS → Int32 → Int32 → Prop) (hB4 : ∀ (u : RS) (x1 : Int32) (x2 : Int32), B4 u x1 x2 → j_X8_nextEntry p l e s m args below meth c g A ad Q u 4 [(0, .ref (ad 0)), (1, .int x1), (2, .int x2)] []) (u : RS) (x2 : Int32) (t0 : Int32) (h : wp_X8_nextEntry_50 Q B4 u x2 t0) : j_X8_nextEntry p l e s m args below meth c g A ad Q u 50 [(0, .ref (ad 0)), (2, .int x2)] [.int t0] := by
  unfold wp_X8_nextEntry_50 at h
  refine z_istore_n (lv1 := [(1, .int t0), (0, .ref (ad 0)), (2, .int x2)]) C dX8_nextEntry_50 rfl (by decide) rfl ?_
  obtain ⟨x104, ex104⟩ : ∃ y : Int32, y = x2 + 1 := ⟨_, rfl⟩
  have h := h x104 ex104
  refine z_iinc (v := x104) (lv1 := [(2, .int x104), (1, .int t0), (0, .ref (ad 0))]) C dX8_nextEntry_51 2 rfl (by rw [ex104]; rfl) (by decide) rfl ?_
  refine z_goto C dX8_nextEntry_54 (tgt := 4) (by decide) ?_
  refine z_lv (lv1 := [(0, .ref (ad 0)), (1, .int t0), (2, .int x104)]) [2, 1, 0] rfl ?_
  exact hB4 u t0 x104 h
def wp_X8_nextEntry_49 (Q : Int32 → RS → Prop) (B4 : RS → Int32 → Int32 → Prop) (u : RS) (x1 : Int32) (x2 : Int32) : Prop :=
  wp_X8_nextEntry_50 Q B4 u x2 x1
set_option maxRecDepth 20000 in
theorem b_X8_nextEntry_49 (C : zC p s m args meth c g A cX8_nextEntry RX8 3) (hr : meth.sig.returnType = (some .int)) (ad : Nat → Nat) (Q : Int32 → RS → Prop) (B4 : RS → Int32 → Int32 → Prop) (hB4 : ∀ (u : RS) (x1 : Int32) (x2 : Int32), B4 u x1 x2 → j_X8_nextEntry p l e s m args below meth c g A ad Q u 4 [(0, .ref (ad 0)), (1, .int x1), (2, .int x2)] []) (u : RS) (x1 : Int32) (x2 : Int32) (h : wp_X8_nextEntry_49 Q B4 u x1 x2) : j_X8_nextEntry p l e s m args below meth c g A ad Q u 49 [(0, .ref (ad 0)), (1, .int x1), (2, .int x2)] [] := by
  unfold wp_X8_nextEntry_49 at h
  refine z_iload_n C dX8_nextEntry_49 rfl 1 rfl ?_
  refine z_lv (lv1 := [(0, .ref (ad 0)), (2, .int x2)]) [0, 2] rfl ?_
  exact b_X8_nextEntry_50 C hr ad Q B4 hB4 u x2 x1 h
def wp_X8_nextEntry_45 (Q : Int32 → RS → Prop) (B4 : RS → Int32 → Int32 → Prop) (u : RS) (x2 : Int32) : Prop :=
  wp_X8_nextEntry_50 Q B4 u x2 x2
set_option maxRecDepth 20000 in
theorem b_X8_nextEntry_45 (C : zC p s m args meth c g A cX8_nextEntry RX8 3) (hr : meth.sig.returnType = (some .int)) (ad : Nat → Nat) (Q : Int32 → RS → Prop) (B4 : RS → Int32 → Int32 → Prop) (hB4 : ∀ (u : RS) (x1 : Int32) (x2 : Int32), B4 u x1 x2 → j_X8_nextEntry p l e s m args below meth c g A ad Q u 4 [(0, .ref (ad 0)), (1, .int x1), (2, .int x2)] []) (u : RS) (x2 : Int32) (h : wp_X8_nextEntry_45 Q B4 u x2) : j_X8_nextEntry p l e s m args below meth c g A ad Q u 45 [(0, .ref (ad 0)), (2, .int x2)] [] := by
  unfold wp_X8_nextEntry_45 at h
  refine z_iload_n C dX8_nextEntry_45 rfl 1 rfl ?_
  refine z_goto C dX8_nextEntry_46 (tgt := 50) (by decide) ?_
  exact b_X8_nextEntry_50 C hr ad Q B4 hB4 u x2 x2 h
def wp_X8_nextEntry_4 (Q : Int32 → RS → Prop) (B4 : RS → Int32 → Int32 → Prop) (u : RS) (x1 : Int32) (x2 : Int32) : Prop :=
  ((16 ≤ x2 → Q x1 u) ∧ (¬ 16 ≤ x2 → vp_in x2 16 ∧ ((¬ u.1 16 (zn x2) = 0 → wp_X8_nextEntry_49 Q B4 u x1 x2) ∧ (u.1 16 (zn x2) = 0 → ((x1 = (-1) → wp_X8_nextEntry_45 Q B4 u x2) ∧ (¬ x1 = (-1) → vp_in (39 + x2) 1065 ∧ vp_in (39 + x1) 1065 ∧ ((u.1 3 (zn (39 + x2)) ≤ u.1 3 (zn (39 + x1)) → wp_X8_nextEntry_49 Q B4 u x1 x2) ∧ (¬ u.1 3 (zn (39 + x2)) ≤ u.1 3 (zn (39 + x1)) → wp_X8_nextEntry_45 Q B4 u x2))))))))
set_option maxRecDepth 20000 in
theorem b_X8_nextEntry_4 (C : zC p s m args meth c g A cX8_nextEntry RX8 3) (hr : meth.sig.returnType = (some .int)) (ad : Nat → Nat) (Q : Int32 → RS → Prop) (B4 : RS → Int32 → Int32 → Prop) (hB4 : ∀ (u : RS) (x1 : Int32) (x2 : Int32), B4 u x1 x2 → j_X8_nextEntry p l e s m args below meth c g A ad Q u 4 [(0, .ref (ad 0)), (1, .int x1), (2, .int x2)] []) (u : RS) (x1 : Int32) (x2 : Int32) (h : wp_X8_nextEntry_4 Q B4 u x1 x2) : j_X8_nextEntry p l e s m args below meth c g A ad Q u 4 [(0, .ref (ad 0)), (1, .int x1), (2, .int x2)] [] := by
  unfold wp_X8_nextEntry_4 at h
  refine z_iload_n C dX8_nextEntry_4 rfl 2 rfl ?_
  refine z_bipush (v := 16) C dX8_nextEntry_5 (by decide) ?_
  refine z_icmp_ge C dX8_nextEntry_7 (tgt := 57) (by decide) (fun hc101 => ?_) (fun hc101 => ?_)
  · have h := h.1 hc101
    refine z_iload_n C dX8_nextEntry_57 rfl 1 rfl ?_
    exact z_iret C hr u rfl h dX8_nextEntry_58
  · have h := h.2 hc101
    refine z_aload_n C dX8_nextEntry_10 rfl 0 rfl ?_
    refine gR_laid C dX8_nextEntry_11 ?_
    refine z_iload_n C dX8_nextEntry_14 rfl 2 rfl ?_
    obtain ⟨hi102, h⟩ := h
    refine lR_laid C hi102 dX8_nextEntry_15 ?_
    refine z_if_ne C dX8_nextEntry_16 (tgt := 49) (by decide) (fun hc103 => ?_) (fun hc103 => ?_)
    · have h := h.1 hc103
      exact b_X8_nextEntry_49 C hr ad Q B4 hB4 u x1 x2 h
    · have h := h.2 hc103
      refine z_iload_n C dX8_nextEntry_19 rfl 1 rfl ?_
      refine z_iconst (v := (-1)) C dX8_nextEntry_20 (by decide) ?_
      refine z_icmp_eq C dX8_nextEntry_21 (tgt := 45) (by decide) (fun hc105 => ?_) (fun hc105 => ?_)
      · have h := h.1 hc105
        refine z_lv (lv1 := [(0, .ref (ad 0)), (2, .int x2)]) [0, 2] rfl ?_
        exact b_X8_nextEntry_45 C hr ad Q B4 hB4 u x2 h
      · have h := h.2 hc105
        refine z_aload_n C dX8_nextEntry_24 rfl 0 rfl ?_
        refine gR_row C dX8_nextEntry_25 ?_
        refine z_bipush (v := 39) C dX8_nextEntry_28 (by decide) ?_
        refine z_iload_n C dX8_nextEntry_30 rfl 2 rfl ?_
        refine z_iadd C dX8_nextEntry_31 ?_
        obtain ⟨hi106, h⟩ := h
        refine lR_row C hi106 dX8_nextEntry_32 ?_
        refine z_aload_n C dX8_nextEntry_33 rfl 0 rfl ?_
        refine gR_row C dX8_nextEntry_34 ?_
        refine z_bipush (v := 39) C dX8_nextEntry_37 (by decide) ?_
        refine z_iload_n C dX8_nextEntry_39 rfl 1 rfl ?_
        refine z_iadd C dX8_nextEntry_40 ?_
        obtain ⟨hi107, h⟩ := h
        refine lR_row C hi107 dX8_nextEntry_41 ?_
        refine z_icmp_le C dX8_nextEntry_42 (tgt := 49) (by decide) (fun hc108 => ?_) (fun hc108 => ?_)
        · have h := h.1 hc108
          exact b_X8_nextEntry_49 C hr ad Q B4 hB4 u x1 x2 h
        · have h := h.2 hc108
          refine z_lv (lv1 := [(0, .ref (ad 0)), (2, .int x2)]) [0, 2] rfl ?_
          exact b_X8_nextEntry_45 C hr ad Q B4 hB4 u x2 h
theorem l_X8_nextEntry_4 (C : zC p s m args meth c g A cX8_nextEntry RX8 3) (hr : meth.sig.returnType = (some .int)) (ad : Nat → Nat) (Q : Int32 → RS → Prop) : ∀ (n : Nat) (u : RS) (x1 : Int32) (x2 : Int32), zit3 (wp_X8_nextEntry_4 Q) n u x1 x2 → j_X8_nextEntry p l e s m args below meth c g A ad Q u 4 [(0, .ref (ad 0)), (1, .int x1), (2, .int x2)] [] := by
  intro n
  induction n with
  | zero => exact fun u x1 x2 h => h.elim
  | succ n ih => exact fun u x1 x2 h => b_X8_nextEntry_4 C hr ad Q (zit3 (wp_X8_nextEntry_4 Q) n) ih u x1 x2 h
def wp_X8_nextEntry (u : RS) (Q : Int32 → RS → Prop) : Prop :=
  (∃ n, zit3 (wp_X8_nextEntry_4 Q) n u (-1) 0)
set_option maxRecDepth 20000 in
theorem c_X8_nextEntry (l : Launch) (g : zG) (ad : Nat → Nat) (u : RS) (Q : Int32 → RS → Prop) (h : wp_X8_nextEntry u Q) : zMi l yX8_nextEntry cX8_nextEntry 3 (some .int) 0 0 0 g [.ref (ad 0)] (wR g ad u) (wR g ad) Q := by
  refine zMi_of RX8 (by decide) rfl [(0, .ref (ad 0))] rfl (Nat.le_of_ble_eq_true rfl) (fun p e s m args below meth c A C hr hnm => ?_)
  unfold wp_X8_nextEntry at h
  refine z_iconst (v := (-1)) C dX8_nextEntry_0 (by decide) ?_
  refine z_istore_n (lv1 := [(1, .int (-1)), (0, .ref (ad 0))]) C dX8_nextEntry_1 rfl (by decide) rfl ?_
  refine z_iconst (v := 0) C dX8_nextEntry_2 (by decide) ?_
  refine z_istore_n (lv1 := [(2, .int 0), (1, .int (-1)), (0, .ref (ad 0))]) C dX8_nextEntry_3 rfl (by decide) rfl ?_
  refine z_lv (lv1 := [(0, .ref (ad 0)), (1, .int (-1)), (2, .int 0)]) [2, 1, 0] rfl ?_
  obtain ⟨n9, h⟩ := h
  exact l_X8_nextEntry_4 C hr ad Q n9 u (-1) 0 h
abbrev j_X8_leastShare (p : Program) (l : Launch) (e : Env) (s : State) (m : MethodId) (args : Array Value) (below : List Frame) (meth : Method) (c : Code) (g : zG) (A : Nat → Prop) (ad : Nat → Nat) (Q : Int32 → RS → Prop) (u : RS) (pc : Nat) (lv : List (Nat × Value)) (st : List Value) : Prop := zJ p l e (zR 0 0 0) s m args below meth c g A 4 (zQi below args s g A 0 0 (wR g ad) Q) (wR g ad u) 0 0 pc lv st
def wp_X8_leastShare_39 (Q : Int32 → RS → Prop) (B4 : RS → Int32 → Int32 → Int32 → Prop) (u : RS) (x1 : Int32) (x3 : Int32) (t0 : Int32) : Prop :=
  ∀ x103 : Int32, x103 = x3 + 1 → B4 u x1 t0 x103
set_option maxRecDepth 20000 in
theorem b_X8_leastShare_39 (C : zC p s m args meth c g A cX8_leastShare RX8 4) (hr : meth.sig.returnType = (some .int)) (ad : Nat → Nat) (Q : Int32 → RS → Prop) (B4 : RS → Int32 → Int32 → Int32 → Prop) (hB4 : ∀ (u : RS) (x1 : Int32) (x2 : Int32) (x3 : Int32), B4 u x1 x2 x3 → j_X8_leastShare p l e s m args below meth c g A ad Q u 4 [(0, .ref (ad 0)), (1, .int x1), (2, .int x2), (3, .int x3)] []) (u : RS) (x1 : Int32) (x3 : Int32) (t0 : Int32) (h : wp_X8_leastShare_39 Q B4 u x1 x3 t0) : j_X8_leastShare p l e s m args below meth c g A ad Q u 39 [(0, .ref (ad 0)), (1, .int x1), (3, .int x3)] [.int t0] := by
  unfold wp_X8_leastShare_39 at h
  refine z_istore_n (lv1 := [(2, .int t0), (0, .ref (ad 0)), (1, .int x1), (3, .int x3)]) C dX8_leastShare_39 rfl (by decide) rfl ?_
  obtain ⟨x103, ex103⟩ : ∃ y : Int32, y = x3 + 1 := ⟨_, rfl⟩
  have h := h x103 ex103
  refine z_iinc (v := x103) (lv1 := [(3, .int x103), (2, .int t0), (0, .ref (ad 0)), (1, .int x1)]) C dX8_leastShare_40 3 rfl (by rw [ex103]; rfl) (by decide) rfl ?_
  refine z_goto C dX8_leastShare_43 (tgt := 4) (by decide) ?_
  refine z_lv (lv1 := [(0, .ref (ad 0)), (1, .int x1), (2, .int t0), (3, .int x103)]) [2, 3, 1, 0] rfl ?_
  exact hB4 u x1 t0 x103 h
def wp_X8_leastShare_38 (Q : Int32 → RS → Prop) (B4 : RS → Int32 → Int32 → Int32 → Prop) (u : RS) (x1 : Int32) (x2 : Int32) (x3 : Int32) : Prop :=
  wp_X8_leastShare_39 Q B4 u x1 x3 x2
set_option maxRecDepth 20000 in
theorem b_X8_leastShare_38 (C : zC p s m args meth c g A cX8_leastShare RX8 4) (hr : meth.sig.returnType = (some .int)) (ad : Nat → Nat) (Q : Int32 → RS → Prop) (B4 : RS → Int32 → Int32 → Int32 → Prop) (hB4 : ∀ (u : RS) (x1 : Int32) (x2 : Int32) (x3 : Int32), B4 u x1 x2 x3 → j_X8_leastShare p l e s m args below meth c g A ad Q u 4 [(0, .ref (ad 0)), (1, .int x1), (2, .int x2), (3, .int x3)] []) (u : RS) (x1 : Int32) (x2 : Int32) (x3 : Int32) (h : wp_X8_leastShare_38 Q B4 u x1 x2 x3) : j_X8_leastShare p l e s m args below meth c g A ad Q u 38 [(0, .ref (ad 0)), (1, .int x1), (2, .int x2), (3, .int x3)] [] := by
  unfold wp_X8_leastShare_38 at h
  refine z_iload_n C dX8_leastShare_38 rfl 2 rfl ?_
  refine z_lv (lv1 := [(0, .ref (ad 0)), (1, .int x1), (3, .int x3)]) [0, 1, 3] rfl ?_
  exact b_X8_leastShare_39 C hr ad Q B4 hB4 u x1 x3 x2 h
def wp_X8_leastShare_34 (Q : Int32 → RS → Prop) (B4 : RS → Int32 → Int32 → Int32 → Prop) (u : RS) (x1 : Int32) (x3 : Int32) : Prop :=
  wp_X8_leastShare_39 Q B4 u x1 x3 x3
set_option maxRecDepth 20000 in
theorem b_X8_leastShare_34 (C : zC p s m args meth c g A cX8_leastShare RX8 4) (hr : meth.sig.returnType = (some .int)) (ad : Nat → Nat) (Q : Int32 → RS → Prop) (B4 : RS → Int32 → Int32 → Int32 → Prop) (hB4 : ∀ (u : RS) (x1 : Int32) (x2 : Int32) (x3 : Int32), B4 u x1 x2 x3 → j_X8_leastShare p l e s m args below meth c g A ad Q u 4 [(0, .ref (ad 0)), (1, .int x1), (2, .int x2), (3, .int x3)] []) (u : RS) (x1 : Int32) (x3 : Int32) (h : wp_X8_leastShare_34 Q B4 u x1 x3) : j_X8_leastShare p l e s m args below meth c g A ad Q u 34 [(0, .ref (ad 0)), (1, .int x1), (3, .int x3)] [] := by
  unfold wp_X8_leastShare_34 at h
  refine z_iload_n C dX8_leastShare_34 rfl 2 rfl ?_
  refine z_goto C dX8_leastShare_35 (tgt := 39) (by decide) ?_
  exact b_X8_leastShare_39 C hr ad Q B4 hB4 u x1 x3 x3 h
def wp_X8_leastShare_4 (Q : Int32 → RS → Prop) (B4 : RS → Int32 → Int32 → Int32 → Prop) (u : RS) (x1 : Int32) (x2 : Int32) (x3 : Int32) : Prop :=
  ((4 ≤ x3 → Q x2 u) ∧ (¬ 4 ≤ x3 → ((x3 = x1 → wp_X8_leastShare_38 Q B4 u x1 x2 x3) ∧ (¬ x3 = x1 → ((x2 = (-1) → wp_X8_leastShare_34 Q B4 u x1 x3) ∧ (¬ x2 = (-1) → vp_in x3 4 ∧ vp_in x2 4 ∧ ((u.1 15 (zn x2) ≤ u.1 15 (zn x3) → wp_X8_leastShare_38 Q B4 u x1 x2 x3) ∧ (¬ u.1 15 (zn x2) ≤ u.1 15 (zn x3) → wp_X8_leastShare_34 Q B4 u x1 x3))))))))
set_option maxRecDepth 20000 in
theorem b_X8_leastShare_4 (C : zC p s m args meth c g A cX8_leastShare RX8 4) (hr : meth.sig.returnType = (some .int)) (ad : Nat → Nat) (Q : Int32 → RS → Prop) (B4 : RS → Int32 → Int32 → Int32 → Prop) (hB4 : ∀ (u : RS) (x1 : Int32) (x2 : Int32) (x3 : Int32), B4 u x1 x2 x3 → j_X8_leastShare p l e s m args below meth c g A ad Q u 4 [(0, .ref (ad 0)), (1, .int x1), (2, .int x2), (3, .int x3)] []) (u : RS) (x1 : Int32) (x2 : Int32) (x3 : Int32) (h : wp_X8_leastShare_4 Q B4 u x1 x2 x3) : j_X8_leastShare p l e s m args below meth c g A ad Q u 4 [(0, .ref (ad 0)), (1, .int x1), (2, .int x2), (3, .int x3)] [] := by
  unfold wp_X8_leastShare_4 at h
  refine z_iload_n C dX8_leastShare_4 rfl 3 rfl ?_
  refine z_iconst (v := 4) C dX8_leastShare_5 (by decide) ?_
  refine z_icmp_ge C dX8_leastShare_6 (tgt := 46) (by decide) (fun hc101 => ?_) (fun hc101 => ?_)
  · have h := h.1 hc101
    refine z_iload_n C dX8_leastShare_46 rfl 2 rfl ?_
    exact z_iret C hr u rfl h dX8_leastShare_47
  · have h := h.2 hc101
    refine z_iload_n C dX8_leastShare_9 rfl 3 rfl ?_
    refine z_iload_n C dX8_leastShare_10 rfl 1 rfl ?_
    refine z_icmp_eq C dX8_leastShare_11 (tgt := 38) (by decide) (fun hc102 => ?_) (fun hc102 => ?_)
    · have h := h.1 hc102
      exact b_X8_leastShare_38 C hr ad Q B4 hB4 u x1 x2 x3 h
    · have h := h.2 hc102
      refine z_iload_n C dX8_leastShare_14 rfl 2 rfl ?_
      refine z_iconst (v := (-1)) C dX8_leastShare_15 (by decide) ?_
      refine z_icmp_eq C dX8_leastShare_16 (tgt := 34) (by decide) (fun hc104 => ?_) (fun hc104 => ?_)
      · have h := h.1 hc104
        refine z_lv (lv1 := [(0, .ref (ad 0)), (1, .int x1), (3, .int x3)]) [0, 1, 3] rfl ?_
        exact b_X8_leastShare_34 C hr ad Q B4 hB4 u x1 x3 h
      · have h := h.2 hc104
        refine z_aload_n C dX8_leastShare_19 rfl 0 rfl ?_
        refine gR_share C dX8_leastShare_20 ?_
        refine z_iload_n C dX8_leastShare_23 rfl 3 rfl ?_
        obtain ⟨hi105, h⟩ := h
        refine lR_share C hi105 dX8_leastShare_24 ?_
        refine z_aload_n C dX8_leastShare_25 rfl 0 rfl ?_
        refine gR_share C dX8_leastShare_26 ?_
        refine z_iload_n C dX8_leastShare_29 rfl 2 rfl ?_
        obtain ⟨hi106, h⟩ := h
        refine lR_share C hi106 dX8_leastShare_30 ?_
        refine z_icmp_ge C dX8_leastShare_31 (tgt := 38) (by decide) (fun hc107 => ?_) (fun hc107 => ?_)
        · have h := h.1 hc107
          exact b_X8_leastShare_38 C hr ad Q B4 hB4 u x1 x2 x3 h
        · have h := h.2 hc107
          refine z_lv (lv1 := [(0, .ref (ad 0)), (1, .int x1), (3, .int x3)]) [0, 1, 3] rfl ?_
          exact b_X8_leastShare_34 C hr ad Q B4 hB4 u x1 x3 h
theorem l_X8_leastShare_4 (C : zC p s m args meth c g A cX8_leastShare RX8 4) (hr : meth.sig.returnType = (some .int)) (ad : Nat → Nat) (Q : Int32 → RS → Prop) : ∀ (n : Nat) (u : RS) (x1 : Int32) (x2 : Int32) (x3 : Int32), zit4 (wp_X8_leastShare_4 Q) n u x1 x2 x3 → j_X8_leastShare p l e s m args below meth c g A ad Q u 4 [(0, .ref (ad 0)), (1, .int x1), (2, .int x2), (3, .int x3)] [] := by
  intro n
  induction n with
  | zero => exact fun u x1 x2 x3 h => h.elim
  | succ n ih => exact fun u x1 x2 x3 h => b_X8_leastShare_4 C hr ad Q (zit4 (wp_X8_leastShare_4 Q) n) ih u x1 x2 x3 h
def wp_X8_leastShare (u : RS) (x1 : Int32) (Q : Int32 → RS → Prop) : Prop :=
  (∃ n, zit4 (wp_X8_leastShare_4 Q) n u x1 (-1) 0)
set_option maxRecDepth 20000 in
theorem c_X8_leastShare (l : Launch) (g : zG) (ad : Nat → Nat) (u : RS) (x1 : Int32) (Q : Int32 → RS → Prop) (h : wp_X8_leastShare u x1 Q) : zMi l yX8_leastShare cX8_leastShare 4 (some .int) 0 0 0 g [.ref (ad 0), .int x1] (wR g ad u) (wR g ad) Q := by
  refine zMi_of RX8 (by decide) rfl [(0, .ref (ad 0)), (1, .int x1)] rfl (Nat.le_of_ble_eq_true rfl) (fun p e s m args below meth c A C hr hnm => ?_)
  unfold wp_X8_leastShare at h
  refine z_iconst (v := (-1)) C dX8_leastShare_0 (by decide) ?_
  refine z_istore_n (lv1 := [(2, .int (-1)), (0, .ref (ad 0)), (1, .int x1)]) C dX8_leastShare_1 rfl (by decide) rfl ?_
  refine z_iconst (v := 0) C dX8_leastShare_2 (by decide) ?_
  refine z_istore_n (lv1 := [(3, .int 0), (2, .int (-1)), (0, .ref (ad 0)), (1, .int x1)]) C dX8_leastShare_3 rfl (by decide) rfl ?_
  refine z_lv (lv1 := [(0, .ref (ad 0)), (1, .int x1), (2, .int (-1)), (3, .int 0)]) [2, 3, 1, 0] rfl ?_
  obtain ⟨n9, h⟩ := h
  exact l_X8_leastShare_4 C hr ad Q n9 u x1 (-1) 0 h
abbrev j_X8_entriesOf (p : Program) (l : Launch) (e : Env) (s : State) (m : MethodId) (args : Array Value) (below : List Frame) (meth : Method) (c : Code) (g : zG) (A : Nat → Prop) (ad : Nat → Nat) (Q : Int32 → RS → Prop) (u : RS) (pc : Nat) (lv : List (Nat × Value)) (st : List Value) : Prop := zJ p l e (zR 0 0 0) s m args below meth c g A 4 (zQi below args s g A 0 0 (wR g ad) Q) (wR g ad u) 0 0 pc lv st
def wp_X8_entriesOf_31 (Q : Int32 → RS → Prop) (B4 : RS → Int32 → Int32 → Int32 → Prop) (u : RS) (x1 : Int32) (x3 : Int32) (t0 : Int32) (t1 : Int32) : Prop :=
  ∀ x104 : Int32, x104 = t1 ||| t0 → ∀ x105 : Int32, x105 = x3 + 1 → B4 u x1 x104 x105
set_option maxRecDepth 20000 in
theorem b_X8_entriesOf_31 (C : zC p s m args meth c g A cX8_entriesOf RX8 4) (hr : meth.sig.returnType = (some .int)) (ad : Nat → Nat) (Q : Int32 → RS → Prop) (B4 : RS → Int32 → Int32 → Int32 → Prop) (hB4 : ∀ (u : RS) (x1 : Int32) (x2 : Int32) (x3 : Int32), B4 u x1 x2 x3 → j_X8_entriesOf p l e s m args below meth c g A ad Q u 4 [(0, .ref (ad 0)), (1, .int x1), (2, .int x2), (3, .int x3)] []) (u : RS) (x1 : Int32) (x3 : Int32) (t0 : Int32) (t1 : Int32) (h : wp_X8_entriesOf_31 Q B4 u x1 x3 t0 t1) : j_X8_entriesOf p l e s m args below meth c g A ad Q u 31 [(0, .ref (ad 0)), (1, .int x1), (3, .int x3)] [.int t0, .int t1] := by
  unfold wp_X8_entriesOf_31 at h
  refine z_ior C dX8_entriesOf_31 ?_
  refine z_topi (fun x104 ex104 => ?_)
  have h := h x104 ex104
  refine z_istore_n (lv1 := [(2, .int x104), (0, .ref (ad 0)), (1, .int x1), (3, .int x3)]) C dX8_entriesOf_32 rfl (by decide) rfl ?_
  obtain ⟨x105, ex105⟩ : ∃ y : Int32, y = x3 + 1 := ⟨_, rfl⟩
  have h := h x105 ex105
  refine z_iinc (v := x105) (lv1 := [(3, .int x105), (2, .int x104), (0, .ref (ad 0)), (1, .int x1)]) C dX8_entriesOf_33 3 rfl (by rw [ex105]; rfl) (by decide) rfl ?_
  refine z_goto C dX8_entriesOf_36 (tgt := 4) (by decide) ?_
  refine z_lv (lv1 := [(0, .ref (ad 0)), (1, .int x1), (2, .int x104), (3, .int x105)]) [2, 3, 1, 0] rfl ?_
  exact hB4 u x1 x104 x105 h
def wp_X8_entriesOf_4 (Q : Int32 → RS → Prop) (B4 : RS → Int32 → Int32 → Int32 → Prop) (u : RS) (x1 : Int32) (x2 : Int32) (x3 : Int32) : Prop :=
  ((16 ≤ x3 → Q x2 u) ∧ (¬ 16 ≤ x3 → vp_in (23 + x3) 1065 ∧ ((¬ u.1 3 (zn (23 + x3)) = x1 → wp_X8_entriesOf_31 Q B4 u x1 x3 0 x2) ∧ (u.1 3 (zn (23 + x3)) = x1 → wp_X8_entriesOf_31 Q B4 u x1 x3 (1 <<< (x3 &&& 31)) x2))))
set_option maxRecDepth 20000 in
theorem b_X8_entriesOf_4 (C : zC p s m args meth c g A cX8_entriesOf RX8 4) (hr : meth.sig.returnType = (some .int)) (ad : Nat → Nat) (Q : Int32 → RS → Prop) (B4 : RS → Int32 → Int32 → Int32 → Prop) (hB4 : ∀ (u : RS) (x1 : Int32) (x2 : Int32) (x3 : Int32), B4 u x1 x2 x3 → j_X8_entriesOf p l e s m args below meth c g A ad Q u 4 [(0, .ref (ad 0)), (1, .int x1), (2, .int x2), (3, .int x3)] []) (u : RS) (x1 : Int32) (x2 : Int32) (x3 : Int32) (h : wp_X8_entriesOf_4 Q B4 u x1 x2 x3) : j_X8_entriesOf p l e s m args below meth c g A ad Q u 4 [(0, .ref (ad 0)), (1, .int x1), (2, .int x2), (3, .int x3)] [] := by
  unfold wp_X8_entriesOf_4 at h
  refine z_iload_n C dX8_entriesOf_4 rfl 3 rfl ?_
  refine z_bipush (v := 16) C dX8_entriesOf_5 (by decide) ?_
  refine z_icmp_ge C dX8_entriesOf_7 (tgt := 39) (by decide) (fun hc101 => ?_) (fun hc101 => ?_)
  · have h := h.1 hc101
    refine z_iload_n C dX8_entriesOf_39 rfl 2 rfl ?_
    exact z_iret C hr u rfl h dX8_entriesOf_40
  · have h := h.2 hc101
    refine z_iload_n C dX8_entriesOf_10 rfl 2 rfl ?_
    refine z_aload_n C dX8_entriesOf_11 rfl 0 rfl ?_
    refine gR_row C dX8_entriesOf_12 ?_
    refine z_bipush (v := 23) C dX8_entriesOf_15 (by decide) ?_
    refine z_iload_n C dX8_entriesOf_17 rfl 3 rfl ?_
    refine z_iadd C dX8_entriesOf_18 ?_
    obtain ⟨hi102, h⟩ := h
    refine lR_row C hi102 dX8_entriesOf_19 ?_
    refine z_iload_n C dX8_entriesOf_20 rfl 1 rfl ?_
    refine z_icmp_ne C dX8_entriesOf_21 (tgt := 30) (by decide) (fun hc103 => ?_) (fun hc103 => ?_)
    · have h := h.1 hc103
      refine z_iconst (v := 0) C dX8_entriesOf_30 (by decide) ?_
      refine z_lv (lv1 := [(0, .ref (ad 0)), (1, .int x1), (3, .int x3)]) [0, 1, 3] rfl ?_
      exact b_X8_entriesOf_31 C hr ad Q B4 hB4 u x1 x3 0 x2 h
    · have h := h.2 hc103
      refine z_iconst (v := 1) C dX8_entriesOf_24 (by decide) ?_
      refine z_iload_n C dX8_entriesOf_25 rfl 3 rfl ?_
      refine z_ishl C dX8_entriesOf_26 ?_
      refine z_goto C dX8_entriesOf_27 (tgt := 31) (by decide) ?_
      refine z_lv (lv1 := [(0, .ref (ad 0)), (1, .int x1), (3, .int x3)]) [0, 1, 3] rfl ?_
      exact b_X8_entriesOf_31 C hr ad Q B4 hB4 u x1 x3 (1 <<< (x3 &&& 31)) x2 h
theorem l_X8_entriesOf_4 (C : zC p s m args meth c g A cX8_entriesOf RX8 4) (hr : meth.sig.returnType = (some .int)) (ad : Nat → Nat) (Q : Int32 → RS → Prop) : ∀ (n : Nat) (u : RS) (x1 : Int32) (x2 : Int32) (x3 : Int32), zit4 (wp_X8_entriesOf_4 Q) n u x1 x2 x3 → j_X8_entriesOf p l e s m args below meth c g A ad Q u 4 [(0, .ref (ad 0)), (1, .int x1), (2, .int x2), (3, .int x3)] [] := by
  intro n
  induction n with
  | zero => exact fun u x1 x2 x3 h => h.elim
  | succ n ih => exact fun u x1 x2 x3 h => b_X8_entriesOf_4 C hr ad Q (zit4 (wp_X8_entriesOf_4 Q) n) ih u x1 x2 x3 h
def wp_X8_entriesOf (u : RS) (x1 : Int32) (Q : Int32 → RS → Prop) : Prop :=
  (∃ n, zit4 (wp_X8_entriesOf_4 Q) n u x1 0 0)
set_option maxRecDepth 20000 in
theorem c_X8_entriesOf (l : Launch) (g : zG) (ad : Nat → Nat) (u : RS) (x1 : Int32) (Q : Int32 → RS → Prop) (h : wp_X8_entriesOf u x1 Q) : zMi l yX8_entriesOf cX8_entriesOf 4 (some .int) 0 0 0 g [.ref (ad 0), .int x1] (wR g ad u) (wR g ad) Q := by
  refine zMi_of RX8 (by decide) rfl [(0, .ref (ad 0)), (1, .int x1)] rfl (Nat.le_of_ble_eq_true rfl) (fun p e s m args below meth c A C hr hnm => ?_)
  unfold wp_X8_entriesOf at h
  refine z_iconst (v := 0) C dX8_entriesOf_0 (by decide) ?_
  refine z_istore_n (lv1 := [(2, .int 0), (0, .ref (ad 0)), (1, .int x1)]) C dX8_entriesOf_1 rfl (by decide) rfl ?_
  refine z_iconst (v := 0) C dX8_entriesOf_2 (by decide) ?_
  refine z_istore_n (lv1 := [(3, .int 0), (2, .int 0), (0, .ref (ad 0)), (1, .int x1)]) C dX8_entriesOf_3 rfl (by decide) rfl ?_
  refine z_lv (lv1 := [(0, .ref (ad 0)), (1, .int x1), (2, .int 0), (3, .int 0)]) [2, 3, 1, 0] rfl ?_
  obtain ⟨n9, h⟩ := h
  exact l_X8_entriesOf_4 C hr ad Q n9 u x1 0 0 h
abbrev j_X8_common (p : Program) (l : Launch) (e : Env) (s : State) (m : MethodId) (args : Array Value) (below : List Frame) (meth : Method) (c : Code) (g : zG) (A : Nat → Prop) (Q : Int64 → Prop) (pc : Nat) (lv : List (Nat × Value)) (st : List Value) : Prop := zJ p l e (zR 0 0 0) s m args below meth c g A 10 (zQl below args s g A 0 0 (fun _ : Unit => []) (fun r _ => Q r)) [] 0 0 pc lv st
def wp_X8_common_6 (Q : Int64 → Prop) (B6 : Int64 → Int64 → Prop) (y4 : Int64) (y6 : Int64) : Prop :=
  ((lg_cmp y6 0 = 0 → Q y4) ∧ (¬ lg_cmp y6 0 = 0 → ¬ y6 = 0 ∧ ∀ y103 : Int64, y103 = y4 - y4 / y6 * y6 → B6 y6 y103))
set_option maxRecDepth 20000 in
theorem b_X8_common_6 (C : zC p s m args meth c g A cX8_common RX8 10) (hr : meth.sig.returnType = (some .long)) (Q : Int64 → Prop) (B6 : Int64 → Int64 → Prop) (hB6 : ∀ (y4 : Int64) (y6 : Int64), B6 y4 y6 → j_X8_common p l e s m args below meth c g A Q 6 [(4, .long y4), (6, .long y6)] []) (y4 : Int64) (y6 : Int64) (h : wp_X8_common_6 Q B6 y4 y6) : j_X8_common p l e s m args below meth c g A Q 6 [(4, .long y4), (6, .long y6)] [] := by
  unfold wp_X8_common_6 at h
  refine z_lload C dX8_common_6 1 rfl ?_
  refine z_lconst (v := 0) C dX8_common_8 (by decide) ?_
  refine z_lcmp C dX8_common_9 ?_
  refine z_if_eq C dX8_common_10 (tgt := 31) (by decide) (fun hc101 => ?_) (fun hc101 => ?_)
  · have h := h.1 hc101
    refine z_lload C dX8_common_31 0 rfl ?_
    exact z_lret C hr () rfl h dX8_common_33
  · have h := h.2 hc101
    refine z_lload C dX8_common_13 0 rfl ?_
    refine z_lload C dX8_common_15 1 rfl ?_
    obtain ⟨hy102, h⟩ := h
    refine z_lrem C dX8_common_17 hy102 ?_
    refine z_topl (fun y103 ey103 => ?_)
    have h := h y103 ey103
    refine z_lstore (lv1 := [(8, .long y103), (4, .long y4), (6, .long y6)]) C dX8_common_18 (by decide) rfl ?_
    refine z_lload C dX8_common_20 2 rfl ?_
    refine z_lstore (lv1 := [(4, .long y6), (8, .long y103), (6, .long y6)]) C dX8_common_22 (by decide) rfl ?_
    refine z_lload C dX8_common_24 1 rfl ?_
    refine z_lstore (lv1 := [(6, .long y103), (4, .long y6), (8, .long y103)]) C dX8_common_26 (by decide) rfl ?_
    refine z_goto C dX8_common_28 (tgt := 6) (by decide) ?_
    refine z_lv (lv1 := [(4, .long y6), (6, .long y103)]) [1, 0] rfl ?_
    exact hB6 y6 y103 h
theorem l_X8_common_6 (C : zC p s m args meth c g A cX8_common RX8 10) (hr : meth.sig.returnType = (some .long)) (Q : Int64 → Prop) : ∀ (n : Nat) (y4 : Int64) (y6 : Int64), zit2 (wp_X8_common_6 Q) n y4 y6 → j_X8_common p l e s m args below meth c g A Q 6 [(4, .long y4), (6, .long y6)] [] := by
  intro n
  induction n with
  | zero => exact fun y4 y6 h => h.elim
  | succ n ih => exact fun y4 y6 h => b_X8_common_6 C hr Q (zit2 (wp_X8_common_6 Q) n) ih y4 y6 h
def wp_X8_common (y0 : Int64) (y2 : Int64) (Q : Int64 → Prop) : Prop :=
  (∃ n, zit2 (wp_X8_common_6 Q) n y0 y2)
set_option maxRecDepth 20000 in
theorem c_X8_common (l : Launch) (g : zG) (y0 : Int64) (y2 : Int64) (Q : Int64 → Prop) (h : wp_X8_common y0 y2 Q) : zMl l yX8_common cX8_common 10 (some .long) 0 0 0 g [.long y0, .long y2] [] (fun _ : Unit => []) (fun r _ => Q r) := by
  refine zMl_of RX8 (by decide) rfl [(0, .long y0), (2, .long y2)] rfl (Nat.le_of_ble_eq_true rfl) (fun p e s m args below meth c A C hr hnm => ?_)
  unfold wp_X8_common at h
  refine z_lload_n C dX8_common_0 rfl 0 rfl ?_
  refine z_lstore (lv1 := [(4, .long y0), (0, .long y0), (2, .long y2)]) C dX8_common_1 (by decide) rfl ?_
  refine z_lload_n C dX8_common_3 rfl 2 rfl ?_
  refine z_lstore (lv1 := [(6, .long y2), (4, .long y0), (0, .long y0), (2, .long y2)]) C dX8_common_4 (by decide) rfl ?_
  refine z_lv (lv1 := [(4, .long y0), (6, .long y2)]) [1, 0] rfl ?_
  obtain ⟨n9, h⟩ := h
  exact l_X8_common_6 C hr Q n9 y0 y2 h
abbrev j_X8_hitsOf (p : Program) (l : Launch) (e : Env) (s : State) (m : MethodId) (args : Array Value) (below : List Frame) (meth : Method) (c : Code) (g : zG) (A : Nat → Prop) (ad : Nat → Nat) (Q : Int32 → RS → Prop) (u : RS) (pc : Nat) (lv : List (Nat × Value)) (st : List Value) : Prop := zJ p l e (zR 0 0 0) s m args below meth c g A 4 (zQi below args s g A 0 0 (wR g ad) Q) (wR g ad u) 0 0 pc lv st
def wp_X8_hitsOf_37 (Q : Int32 → RS → Prop) (B4 : RS → Int32 → Int32 → Int32 → Prop) (u : RS) (x1 : Int32) (x3 : Int32) (t0 : Int32) (t1 : Int32) : Prop :=
  ∀ x104 : Int32, x104 = t1 + t0 → ∀ x105 : Int32, x105 = x3 + 1 → B4 u x1 x104 x105
set_option maxRecDepth 20000 in
theorem b_X8_hitsOf_37 (C : zC p s m args meth c g A cX8_hitsOf RX8 4) (hr : meth.sig.returnType = (some .int)) (ad : Nat → Nat) (Q : Int32 → RS → Prop) (B4 : RS → Int32 → Int32 → Int32 → Prop) (hB4 : ∀ (u : RS) (x1 : Int32) (x2 : Int32) (x3 : Int32), B4 u x1 x2 x3 → j_X8_hitsOf p l e s m args below meth c g A ad Q u 4 [(0, .ref (ad 0)), (1, .int x1), (2, .int x2), (3, .int x3)] []) (u : RS) (x1 : Int32) (x3 : Int32) (t0 : Int32) (t1 : Int32) (h : wp_X8_hitsOf_37 Q B4 u x1 x3 t0 t1) : j_X8_hitsOf p l e s m args below meth c g A ad Q u 37 [(0, .ref (ad 0)), (1, .int x1), (3, .int x3)] [.int t0, .int t1] := by
  unfold wp_X8_hitsOf_37 at h
  refine z_iadd C dX8_hitsOf_37 ?_
  refine z_topi (fun x104 ex104 => ?_)
  have h := h x104 ex104
  refine z_istore_n (lv1 := [(2, .int x104), (0, .ref (ad 0)), (1, .int x1), (3, .int x3)]) C dX8_hitsOf_38 rfl (by decide) rfl ?_
  obtain ⟨x105, ex105⟩ : ∃ y : Int32, y = x3 + 1 := ⟨_, rfl⟩
  have h := h x105 ex105
  refine z_iinc (v := x105) (lv1 := [(3, .int x105), (2, .int x104), (0, .ref (ad 0)), (1, .int x1)]) C dX8_hitsOf_39 3 rfl (by rw [ex105]; rfl) (by decide) rfl ?_
  refine z_goto C dX8_hitsOf_42 (tgt := 4) (by decide) ?_
  refine z_lv (lv1 := [(0, .ref (ad 0)), (1, .int x1), (2, .int x104), (3, .int x105)]) [2, 3, 1, 0] rfl ?_
  exact hB4 u x1 x104 x105 h
def wp_X8_hitsOf_4 (Q : Int32 → RS → Prop) (B4 : RS → Int32 → Int32 → Int32 → Prop) (u : RS) (x1 : Int32) (x2 : Int32) (x3 : Int32) : Prop :=
  ((16 ≤ x3 → Q x2 u) ∧ (¬ 16 ≤ x3 → vp_in (23 + x3) 1065 ∧ ((¬ u.1 3 (zn (23 + x3)) = x1 → wp_X8_hitsOf_37 Q B4 u x1 x3 0 x2) ∧ (u.1 3 (zn (23 + x3)) = x1 → vp_in (39 + x3) 1065 ∧ wp_X8_hitsOf_37 Q B4 u x1 x3 (u.1 3 (zn (39 + x3))) x2))))
set_option maxRecDepth 20000 in
theorem b_X8_hitsOf_4 (C : zC p s m args meth c g A cX8_hitsOf RX8 4) (hr : meth.sig.returnType = (some .int)) (ad : Nat → Nat) (Q : Int32 → RS → Prop) (B4 : RS → Int32 → Int32 → Int32 → Prop) (hB4 : ∀ (u : RS) (x1 : Int32) (x2 : Int32) (x3 : Int32), B4 u x1 x2 x3 → j_X8_hitsOf p l e s m args below meth c g A ad Q u 4 [(0, .ref (ad 0)), (1, .int x1), (2, .int x2), (3, .int x3)] []) (u : RS) (x1 : Int32) (x2 : Int32) (x3 : Int32) (h : wp_X8_hitsOf_4 Q B4 u x1 x2 x3) : j_X8_hitsOf p l e s m args below meth c g A ad Q u 4 [(0, .ref (ad 0)), (1, .int x1), (2, .int x2), (3, .int x3)] [] := by
  unfold wp_X8_hitsOf_4 at h
  refine z_iload_n C dX8_hitsOf_4 rfl 3 rfl ?_
  refine z_bipush (v := 16) C dX8_hitsOf_5 (by decide) ?_
  refine z_icmp_ge C dX8_hitsOf_7 (tgt := 45) (by decide) (fun hc101 => ?_) (fun hc101 => ?_)
  · have h := h.1 hc101
    refine z_iload_n C dX8_hitsOf_45 rfl 2 rfl ?_
    exact z_iret C hr u rfl h dX8_hitsOf_46
  · have h := h.2 hc101
    refine z_iload_n C dX8_hitsOf_10 rfl 2 rfl ?_
    refine z_aload_n C dX8_hitsOf_11 rfl 0 rfl ?_
    refine gR_row C dX8_hitsOf_12 ?_
    refine z_bipush (v := 23) C dX8_hitsOf_15 (by decide) ?_
    refine z_iload_n C dX8_hitsOf_17 rfl 3 rfl ?_
    refine z_iadd C dX8_hitsOf_18 ?_
    obtain ⟨hi102, h⟩ := h
    refine lR_row C hi102 dX8_hitsOf_19 ?_
    refine z_iload_n C dX8_hitsOf_20 rfl 1 rfl ?_
    refine z_icmp_ne C dX8_hitsOf_21 (tgt := 36) (by decide) (fun hc103 => ?_) (fun hc103 => ?_)
    · have h := h.1 hc103
      refine z_iconst (v := 0) C dX8_hitsOf_36 (by decide) ?_
      refine z_lv (lv1 := [(0, .ref (ad 0)), (1, .int x1), (3, .int x3)]) [0, 1, 3] rfl ?_
      exact b_X8_hitsOf_37 C hr ad Q B4 hB4 u x1 x3 0 x2 h
    · have h := h.2 hc103
      refine z_aload_n C dX8_hitsOf_24 rfl 0 rfl ?_
      refine gR_row C dX8_hitsOf_25 ?_
      refine z_bipush (v := 39) C dX8_hitsOf_28 (by decide) ?_
      refine z_iload_n C dX8_hitsOf_30 rfl 3 rfl ?_
      refine z_iadd C dX8_hitsOf_31 ?_
      obtain ⟨hi106, h⟩ := h
      refine lR_row C hi106 dX8_hitsOf_32 ?_
      refine z_goto C dX8_hitsOf_33 (tgt := 37) (by decide) ?_
      refine z_lv (lv1 := [(0, .ref (ad 0)), (1, .int x1), (3, .int x3)]) [0, 1, 3] rfl ?_
      exact b_X8_hitsOf_37 C hr ad Q B4 hB4 u x1 x3 (u.1 3 (zn (39 + x3))) x2 h
theorem l_X8_hitsOf_4 (C : zC p s m args meth c g A cX8_hitsOf RX8 4) (hr : meth.sig.returnType = (some .int)) (ad : Nat → Nat) (Q : Int32 → RS → Prop) : ∀ (n : Nat) (u : RS) (x1 : Int32) (x2 : Int32) (x3 : Int32), zit4 (wp_X8_hitsOf_4 Q) n u x1 x2 x3 → j_X8_hitsOf p l e s m args below meth c g A ad Q u 4 [(0, .ref (ad 0)), (1, .int x1), (2, .int x2), (3, .int x3)] [] := by
  intro n
  induction n with
  | zero => exact fun u x1 x2 x3 h => h.elim
  | succ n ih => exact fun u x1 x2 x3 h => b_X8_hitsOf_4 C hr ad Q (zit4 (wp_X8_hitsOf_4 Q) n) ih u x1 x2 x3 h
def wp_X8_hitsOf (u : RS) (x1 : Int32) (Q : Int32 → RS → Prop) : Prop :=
  (∃ n, zit4 (wp_X8_hitsOf_4 Q) n u x1 0 0)
set_option maxRecDepth 20000 in
theorem c_X8_hitsOf (l : Launch) (g : zG) (ad : Nat → Nat) (u : RS) (x1 : Int32) (Q : Int32 → RS → Prop) (h : wp_X8_hitsOf u x1 Q) : zMi l yX8_hitsOf cX8_hitsOf 4 (some .int) 0 0 0 g [.ref (ad 0), .int x1] (wR g ad u) (wR g ad) Q := by
  refine zMi_of RX8 (by decide) rfl [(0, .ref (ad 0)), (1, .int x1)] rfl (Nat.le_of_ble_eq_true rfl) (fun p e s m args below meth c A C hr hnm => ?_)
  unfold wp_X8_hitsOf at h
  refine z_iconst (v := 0) C dX8_hitsOf_0 (by decide) ?_
  refine z_istore_n (lv1 := [(2, .int 0), (0, .ref (ad 0)), (1, .int x1)]) C dX8_hitsOf_1 rfl (by decide) rfl ?_
  refine z_iconst (v := 0) C dX8_hitsOf_2 (by decide) ?_
  refine z_istore_n (lv1 := [(3, .int 0), (2, .int 0), (0, .ref (ad 0)), (1, .int x1)]) C dX8_hitsOf_3 rfl (by decide) rfl ?_
  refine z_lv (lv1 := [(0, .ref (ad 0)), (1, .int x1), (2, .int 0), (3, .int 0)]) [2, 3, 1, 0] rfl ?_
  obtain ⟨n9, h⟩ := h
  exact l_X8_hitsOf_4 C hr ad Q n9 u x1 0 0 h
abbrev j_X8_status (p : Program) (l : Launch) (e : Env) (s : State) (m : MethodId) (args : Array Value) (below : List Frame) (meth : Method) (c : Code) (g : zG) (A : Nat → Prop) (ad : Nat → Nat) (Q : Int32 → RS → Prop) (u : RS) (pc : Nat) (lv : List (Nat × Value)) (st : List Value) : Prop := zJ p l e (zR 0 0 0) s m args below meth c g A 1 (zQi below args s g A 0 0 (wR g ad) Q) (wR g ad u) 0 0 pc lv st
def wp_X8_status (u : RS) (Q : Int32 → RS → Prop) : Prop :=
  ∀ u101 : RS, u101 = rN u 0 0 → Q (u101.1 1 0) u101
set_option maxRecDepth 20000 in
theorem c_X8_status (l : Launch) (g : zG) (ad : Nat → Nat) (u : RS) (Q : Int32 → RS → Prop) (h : wp_X8_status u Q) : zMi l yX8_status cX8_status 1 (some .int) 0 0 0 g [.ref (ad 0)] (wR g ad u) (wR g ad) Q := by
  refine zMi_of RX8 (by decide) rfl [(0, .ref (ad 0))] rfl (Nat.le_of_ble_eq_true rfl) (fun p e s m args below meth c A C hr hnm => ?_)
  unfold wp_X8_status at h
  refine z_aload_n C dX8_status_0 rfl 0 rfl ?_
  refine z_iconst (v := 0) C dX8_status_1 (by decide) ?_
  refine pR_thrown C dX8_status_2 ?_
  refine z_stR (fun u101 eu101 => ?_)
  have h := h u101 eu101
  refine z_aload_n C dX8_status_5 rfl 0 rfl ?_
  refine gR_status C dX8_status_6 ?_
  exact z_iret C hr u101 rfl h dX8_status_9
abbrev j_X8_remember (p : Program) (l : Launch) (e : Env) (s : State) (m : MethodId) (args : Array Value) (below : List Frame) (meth : Method) (c : Code) (g : zG) (A : Nat → Prop) (ad : Nat → Nat) (Q : RS → Prop) (u : RS) (pc : Nat) (lv : List (Nat × Value)) (st : List Value) : Prop := zJ p l e (zR 1 0 0) s m args below meth c g A 3 (zQv below args s g A 0 0 (wR g ad) Q) (wR g ad u) 0 0 pc lv st
def wp_X8_remember_107 (Q : RS → Prop) (u : RS) (x1 : Int32) : Prop :=
  wp_X8_lay_undos u (u.1 8 0) (fun u102 => vp_in (u102.1 8 0) 8 ∧ ∀ u104 : RS, u104 = rI u102 7 (upd (u102.1 7) (zn (u102.1 8 0)) x1) → ∀ u105 : RS, u105 = rN u104 8 ((u104.1 8 0) + 1) → Q u105)
set_option maxRecDepth 20000 in
theorem b_X8_remember_107 (C : zC p s m args meth c g A cX8_remember RX8 3) (hr : meth.sig.returnType = none) (ad : Nat → Nat) (Q : RS → Prop) (u : RS) (x1 : Int32) (h : wp_X8_remember_107 Q u x1) : j_X8_remember p l e s m args below meth c g A ad Q u 107 [(0, .ref (ad 0)), (1, .int x1)] [] := by
  unfold wp_X8_remember_107 at h
  refine z_aload_n C dX8_remember_107 rfl 0 rfl ?_
  refine z_aload_n C dX8_remember_108 rfl 0 rfl ?_
  refine gR_undos C dX8_remember_109 ?_
  refine z_aload_n C dX8_remember_112 rfl 0 rfl ?_
  refine gR_undoSums C dX8_remember_113 ?_
  refine z_aload_n C dX8_remember_116 rfl 0 rfl ?_
  refine gR_nUndo C dX8_remember_117 ?_
  refine cRv (As := [.ref (ad 4), .ref (ad 5), .int (u.1 8 0)]) C (c_X8_lay_undos l g ad u (u.1 8 0) _ h) v_X8_lay ml8_71 rfl ⟨Nat.le_of_ble_eq_true rfl, Nat.le_of_ble_eq_true rfl⟩ ⟨Nat.zero_le _, Nat.zero_le _⟩ (Nat.le_of_ble_eq_true rfl) rfl dX8_remember_120 ?_
  intro u102 h
  refine z_aload_n C dX8_remember_123 rfl 0 rfl ?_
  refine gR_sorts C dX8_remember_124 ?_
  refine z_aload_n C dX8_remember_127 rfl 0 rfl ?_
  refine gR_nUndo C dX8_remember_128 ?_
  refine z_iload_n C dX8_remember_131 rfl 1 rfl ?_
  obtain ⟨hi103, h⟩ := h
  refine sR_sorts C hi103 dX8_remember_132 ?_
  refine z_stR (fun u104 eu104 => ?_)
  have h := h u104 eu104
  refine z_aload_n C dX8_remember_133 rfl 0 rfl ?_
  refine z_dup C dX8_remember_134 rfl ?_
  refine gR_nUndo C dX8_remember_135 ?_
  refine z_iconst (v := 1) C dX8_remember_138 (by decide) ?_
  refine z_iadd C dX8_remember_139 ?_
  refine pR_nUndo C dX8_remember_140 ?_
  refine z_stR (fun u105 eu105 => ?_)
  have h := h u105 eu105
  exact z_vret C hr u105 rfl h dX8_remember_143
def wp_X8_remember_71 (Q : RS → Prop) (B71 : RS → Int32 → Int32 → Prop) (u : RS) (x1 : Int32) (x2 : Int32) : Prop :=
  ((7 ≤ x2 → ∀ u109 : RS, u109 = rN u 8 ((u.1 8 0) - 1) → wp_X8_remember_107 Q u109 x1) ∧ (¬ 7 ≤ x2 → vp_in (x2 + 1) 8 ∧ vp_in x2 8 ∧ ∀ u112 : RS, u112 = rI u 7 (upd (u.1 7) (zn x2) (u.1 7 (zn (x2 + 1)))) → ∀ x113 : Int32, x113 = x2 + 1 → B71 u112 x1 x113))
set_option maxRecDepth 20000 in
theorem b_X8_remember_71 (C : zC p s m args meth c g A cX8_remember RX8 3) (hr : meth.sig.returnType = none) (ad : Nat → Nat) (Q : RS → Prop) (B71 : RS → Int32 → Int32 → Prop) (hB71 : ∀ (u : RS) (x1 : Int32) (x2 : Int32), B71 u x1 x2 → j_X8_remember p l e s m args below meth c g A ad Q u 71 [(0, .ref (ad 0)), (1, .int x1), (2, .int x2)] []) (u : RS) (x1 : Int32) (x2 : Int32) (h : wp_X8_remember_71 Q B71 u x1 x2) : j_X8_remember p l e s m args below meth c g A ad Q u 71 [(0, .ref (ad 0)), (1, .int x1), (2, .int x2)] [] := by
  unfold wp_X8_remember_71 at h
  refine z_iload_n C dX8_remember_71 rfl 2 rfl ?_
  refine z_bipush (v := 7) C dX8_remember_72 (by decide) ?_
  refine z_icmp_ge C dX8_remember_74 (tgt := 97) (by decide) (fun hc108 => ?_) (fun hc108 => ?_)
  · have h := h.1 hc108
    refine z_aload_n C dX8_remember_97 rfl 0 rfl ?_
    refine z_dup C dX8_remember_98 rfl ?_
    refine gR_nUndo C dX8_remember_99 ?_
    refine z_iconst (v := 1) C dX8_remember_102 (by decide) ?_
    refine z_isub C dX8_remember_103 ?_
    refine pR_nUndo C dX8_remember_104 ?_
    refine z_stR (fun u109 eu109 => ?_)
    have h := h u109 eu109
    refine z_lv (lv1 := [(0, .ref (ad 0)), (1, .int x1)]) [0, 1] rfl ?_
    exact b_X8_remember_107 C hr ad Q u109 x1 h
  · have h := h.2 hc108
    refine z_aload_n C dX8_remember_77 rfl 0 rfl ?_
    refine gR_sorts C dX8_remember_78 ?_
    refine z_iload_n C dX8_remember_81 rfl 2 rfl ?_
    refine z_aload_n C dX8_remember_82 rfl 0 rfl ?_
    refine gR_sorts C dX8_remember_83 ?_
    refine z_iload_n C dX8_remember_86 rfl 2 rfl ?_
    refine z_iconst (v := 1) C dX8_remember_87 (by decide) ?_
    refine z_iadd C dX8_remember_88 ?_
    obtain ⟨hi110, h⟩ := h
    refine lR_sorts C hi110 dX8_remember_89 ?_
    obtain ⟨hi111, h⟩ := h
    refine sR_sorts C hi111 dX8_remember_90 ?_
    refine z_stR (fun u112 eu112 => ?_)
    have h := h u112 eu112
    obtain ⟨x113, ex113⟩ : ∃ y : Int32, y = x2 + 1 := ⟨_, rfl⟩
    have h := h x113 ex113
    refine z_iinc (v := x113) (lv1 := [(2, .int x113), (0, .ref (ad 0)), (1, .int x1)]) C dX8_remember_91 2 rfl (by rw [ex113]; rfl) (by decide) rfl ?_
    refine z_goto C dX8_remember_94 (tgt := 71) (by decide) ?_
    refine z_lv (lv1 := [(0, .ref (ad 0)), (1, .int x1), (2, .int x113)]) [1, 2, 0] rfl ?_
    exact hB71 u112 x1 x113 h
theorem l_X8_remember_71 (C : zC p s m args meth c g A cX8_remember RX8 3) (hr : meth.sig.returnType = none) (ad : Nat → Nat) (Q : RS → Prop) : ∀ (n : Nat) (u : RS) (x1 : Int32) (x2 : Int32), zit3 (wp_X8_remember_71 Q) n u x1 x2 → j_X8_remember p l e s m args below meth c g A ad Q u 71 [(0, .ref (ad 0)), (1, .int x1), (2, .int x2)] [] := by
  intro n
  induction n with
  | zero => exact fun u x1 x2 h => h.elim
  | succ n ih => exact fun u x1 x2 h => b_X8_remember_71 C hr ad Q (zit3 (wp_X8_remember_71 Q) n) ih u x1 x2 h
def wp_X8_remember_42 (Q : RS → Prop) (B42 : RS → Int32 → Int32 → Prop) (u : RS) (x1 : Int32) (x2 : Int32) : Prop :=
  ((49 ≤ x2 → (∃ n, zit3 (wp_X8_remember_71 Q) n u x1 0)) ∧ (¬ 49 ≤ x2 → vp_in (x2 + 7) 56 ∧ vp_in x2 56 ∧ ∀ u116 : RS, u116 = rL u 6 (vp_updL (u.2 6) (zn x2) (u.2 6 (zn (x2 + 7)))) → ∀ x117 : Int32, x117 = x2 + 1 → B42 u116 x1 x117))
set_option maxRecDepth 20000 in
theorem b_X8_remember_42 (C : zC p s m args meth c g A cX8_remember RX8 3) (hr : meth.sig.returnType = none) (ad : Nat → Nat) (Q : RS → Prop) (B42 : RS → Int32 → Int32 → Prop) (hB42 : ∀ (u : RS) (x1 : Int32) (x2 : Int32), B42 u x1 x2 → j_X8_remember p l e s m args below meth c g A ad Q u 42 [(0, .ref (ad 0)), (1, .int x1), (2, .int x2)] []) (u : RS) (x1 : Int32) (x2 : Int32) (h : wp_X8_remember_42 Q B42 u x1 x2) : j_X8_remember p l e s m args below meth c g A ad Q u 42 [(0, .ref (ad 0)), (1, .int x1), (2, .int x2)] [] := by
  unfold wp_X8_remember_42 at h
  refine z_iload_n C dX8_remember_42 rfl 2 rfl ?_
  refine z_bipush (v := 49) C dX8_remember_43 (by decide) ?_
  refine z_icmp_ge C dX8_remember_45 (tgt := 69) (by decide) (fun hc107 => ?_) (fun hc107 => ?_)
  · have h := h.1 hc107
    refine z_iconst (v := 0) C dX8_remember_69 (by decide) ?_
    refine z_istore_n (lv1 := [(2, .int 0), (0, .ref (ad 0)), (1, .int x1)]) C dX8_remember_70 rfl (by decide) rfl ?_
    refine z_lv (lv1 := [(0, .ref (ad 0)), (1, .int x1), (2, .int 0)]) [1, 2, 0] rfl ?_
    obtain ⟨n9, h⟩ := h
    exact l_X8_remember_71 C hr ad Q n9 u x1 0 h
  · have h := h.2 hc107
    refine z_aload_n C dX8_remember_48 rfl 0 rfl ?_
    refine gR_undoSums C dX8_remember_49 ?_
    refine z_iload_n C dX8_remember_52 rfl 2 rfl ?_
    refine z_aload_n C dX8_remember_53 rfl 0 rfl ?_
    refine gR_undoSums C dX8_remember_54 ?_
    refine z_iload_n C dX8_remember_57 rfl 2 rfl ?_
    refine z_bipush (v := 7) C dX8_remember_58 (by decide) ?_
    refine z_iadd C dX8_remember_60 ?_
    obtain ⟨hi114, h⟩ := h
    refine lR_undoSums C hi114 dX8_remember_61 ?_
    obtain ⟨hi115, h⟩ := h
    refine sR_undoSums C hi115 dX8_remember_62 ?_
    refine z_stR (fun u116 eu116 => ?_)
    have h := h u116 eu116
    obtain ⟨x117, ex117⟩ : ∃ y : Int32, y = x2 + 1 := ⟨_, rfl⟩
    have h := h x117 ex117
    refine z_iinc (v := x117) (lv1 := [(2, .int x117), (0, .ref (ad 0)), (1, .int x1)]) C dX8_remember_63 2 rfl (by rw [ex117]; rfl) (by decide) rfl ?_
    refine z_goto C dX8_remember_66 (tgt := 42) (by decide) ?_
    refine z_lv (lv1 := [(0, .ref (ad 0)), (1, .int x1), (2, .int x117)]) [1, 2, 0] rfl ?_
    exact hB42 u116 x1 x117 h
theorem l_X8_remember_42 (C : zC p s m args meth c g A cX8_remember RX8 3) (hr : meth.sig.returnType = none) (ad : Nat → Nat) (Q : RS → Prop) : ∀ (n : Nat) (u : RS) (x1 : Int32) (x2 : Int32), zit3 (wp_X8_remember_42 Q) n u x1 x2 → j_X8_remember p l e s m args below meth c g A ad Q u 42 [(0, .ref (ad 0)), (1, .int x1), (2, .int x2)] [] := by
  intro n
  induction n with
  | zero => exact fun u x1 x2 h => h.elim
  | succ n ih => exact fun u x1 x2 h => b_X8_remember_42 C hr ad Q (zit3 (wp_X8_remember_42 Q) n) ih u x1 x2 h
def wp_X8_remember_11 (Q : RS → Prop) (B11 : RS → Int32 → Int32 → Prop) (u : RS) (x1 : Int32) (x2 : Int32) : Prop :=
  ((7455 ≤ x2 → (∃ n, zit3 (wp_X8_remember_42 Q) n u x1 0)) ∧ (¬ 7455 ≤ x2 → vp_in (x2 + 1065) 8520 ∧ vp_in x2 8520 ∧ ∀ u120 : RS, u120 = rI u 5 (upd (u.1 5) (zn x2) (u.1 5 (zn (x2 + 1065)))) → ∀ x121 : Int32, x121 = x2 + 1 → B11 u120 x1 x121))
set_option maxRecDepth 20000 in
theorem b_X8_remember_11 (C : zC p s m args meth c g A cX8_remember RX8 3) (hr : meth.sig.returnType = none) (ad : Nat → Nat) (Q : RS → Prop) (B11 : RS → Int32 → Int32 → Prop) (hB11 : ∀ (u : RS) (x1 : Int32) (x2 : Int32), B11 u x1 x2 → j_X8_remember p l e s m args below meth c g A ad Q u 11 [(0, .ref (ad 0)), (1, .int x1), (2, .int x2)] []) (u : RS) (x1 : Int32) (x2 : Int32) (h : wp_X8_remember_11 Q B11 u x1 x2) : j_X8_remember p l e s m args below meth c g A ad Q u 11 [(0, .ref (ad 0)), (1, .int x1), (2, .int x2)] [] := by
  unfold wp_X8_remember_11 at h
  refine z_iload_n C dX8_remember_11 rfl 2 rfl ?_
  refine z_sipush (v := 7455) C dX8_remember_12 (by decide) ?_
  refine z_icmp_ge C dX8_remember_15 (tgt := 40) (by decide) (fun hc106 => ?_) (fun hc106 => ?_)
  · have h := h.1 hc106
    refine z_iconst (v := 0) C dX8_remember_40 (by decide) ?_
    refine z_istore_n (lv1 := [(2, .int 0), (0, .ref (ad 0)), (1, .int x1)]) C dX8_remember_41 rfl (by decide) rfl ?_
    refine z_lv (lv1 := [(0, .ref (ad 0)), (1, .int x1), (2, .int 0)]) [1, 2, 0] rfl ?_
    obtain ⟨n9, h⟩ := h
    exact l_X8_remember_42 C hr ad Q n9 u x1 0 h
  · have h := h.2 hc106
    refine z_aload_n C dX8_remember_18 rfl 0 rfl ?_
    refine gR_undos C dX8_remember_19 ?_
    refine z_iload_n C dX8_remember_22 rfl 2 rfl ?_
    refine z_aload_n C dX8_remember_23 rfl 0 rfl ?_
    refine gR_undos C dX8_remember_24 ?_
    refine z_iload_n C dX8_remember_27 rfl 2 rfl ?_
    refine z_sipush (v := 1065) C dX8_remember_28 (by decide) ?_
    refine z_iadd C dX8_remember_31 ?_
    obtain ⟨hi118, h⟩ := h
    refine lR_undos C hi118 dX8_remember_32 ?_
    obtain ⟨hi119, h⟩ := h
    refine sR_undos C hi119 dX8_remember_33 ?_
    refine z_stR (fun u120 eu120 => ?_)
    have h := h u120 eu120
    obtain ⟨x121, ex121⟩ : ∃ y : Int32, y = x2 + 1 := ⟨_, rfl⟩
    have h := h x121 ex121
    refine z_iinc (v := x121) (lv1 := [(2, .int x121), (0, .ref (ad 0)), (1, .int x1)]) C dX8_remember_34 2 rfl (by rw [ex121]; rfl) (by decide) rfl ?_
    refine z_goto C dX8_remember_37 (tgt := 11) (by decide) ?_
    refine z_lv (lv1 := [(0, .ref (ad 0)), (1, .int x1), (2, .int x121)]) [1, 2, 0] rfl ?_
    exact hB11 u120 x1 x121 h
theorem l_X8_remember_11 (C : zC p s m args meth c g A cX8_remember RX8 3) (hr : meth.sig.returnType = none) (ad : Nat → Nat) (Q : RS → Prop) : ∀ (n : Nat) (u : RS) (x1 : Int32) (x2 : Int32), zit3 (wp_X8_remember_11 Q) n u x1 x2 → j_X8_remember p l e s m args below meth c g A ad Q u 11 [(0, .ref (ad 0)), (1, .int x1), (2, .int x2)] [] := by
  intro n
  induction n with
  | zero => exact fun u x1 x2 h => h.elim
  | succ n ih => exact fun u x1 x2 h => b_X8_remember_11 C hr ad Q (zit3 (wp_X8_remember_11 Q) n) ih u x1 x2 h
def wp_X8_remember (u : RS) (x1 : Int32) (Q : RS → Prop) : Prop :=
  ((¬ u.1 8 0 = 8 → wp_X8_remember_107 Q u x1) ∧ (u.1 8 0 = 8 → (∃ n, zit3 (wp_X8_remember_11 Q) n u x1 0)))
set_option maxRecDepth 20000 in
theorem c_X8_remember (l : Launch) (g : zG) (ad : Nat → Nat) (u : RS) (x1 : Int32) (Q : RS → Prop) (h : wp_X8_remember u x1 Q) : zMv l yX8_remember cX8_remember 3 none 1 0 0 g [.ref (ad 0), .int x1] (wR g ad u) (wR g ad) Q := by
  refine zMv_of RX8 (by decide) rfl [(0, .ref (ad 0)), (1, .int x1)] rfl (Nat.le_of_ble_eq_true rfl) (fun p e s m args below meth c A C hr hnm => ?_)
  unfold wp_X8_remember at h
  refine z_aload_n C dX8_remember_0 rfl 0 rfl ?_
  refine gR_nUndo C dX8_remember_1 ?_
  refine z_bipush (v := 8) C dX8_remember_4 (by decide) ?_
  refine z_icmp_ne C dX8_remember_6 (tgt := 107) (by decide) (fun hc101 => ?_) (fun hc101 => ?_)
  · have h := h.1 hc101
    exact b_X8_remember_107 C hr ad Q u x1 h
  · have h := h.2 hc101
    refine z_iconst (v := 0) C dX8_remember_9 (by decide) ?_
    refine z_istore_n (lv1 := [(2, .int 0), (0, .ref (ad 0)), (1, .int x1)]) C dX8_remember_10 rfl (by decide) rfl ?_
    refine z_lv (lv1 := [(0, .ref (ad 0)), (1, .int x1), (2, .int 0)]) [1, 2, 0] rfl ?_
    obtain ⟨n9, h⟩ := h
    exact l_X8_remember_11 C hr ad Q n9 u x1 0 h
abbrev j_X8_undo (p : Program) (l : Launch) (e : Env) (s : State) (m : MethodId) (args : Array Value) (below : List Frame) (meth : Method) (c : Code) (g : zG) (A : Nat → Prop) (ad : Nat → Nat) (Q : Int32 → RS → Prop) (u : RS) (pc : Nat) (lv : List (Nat × Value)) (st : List Value) : Prop := zJ p l e (zR 1 0 0) s m args below meth c g A 1 (zQi below args s g A 0 0 (wR g ad) Q) (wR g ad u) 0 0 pc lv st
def wp_X8_undo (u : RS) (Q : Int32 → RS → Prop) : Prop :=
  ∀ u101 : RS, u101 = rN u 0 0 → ((¬ u101.1 8 0 = 0 → ∀ u103 : RS, u103 = rN u101 8 ((u101.1 8 0) - 1) → wp_X8_bring_undos u103 (u103.1 8 0) (fun u104 => vp_in (u104.1 8 0) 8 ∧ wp_X8_tell u104 (u104.1 7 (zn (u104.1 8 0))) (fun r106 u107 => Q r106 u107))) ∧ (u101.1 8 0 = 0 → wp_X8_refuse u101 (-4) (fun r108 u109 => Q r108 u109)))
set_option maxRecDepth 20000 in
theorem c_X8_undo (l : Launch) (g : zG) (ad : Nat → Nat) (u : RS) (Q : Int32 → RS → Prop) (h : wp_X8_undo u Q) : zMi l yX8_undo cX8_undo 1 (some .int) 1 0 0 g [.ref (ad 0)] (wR g ad u) (wR g ad) Q := by
  refine zMi_of RX8 (by decide) rfl [(0, .ref (ad 0))] rfl (Nat.le_of_ble_eq_true rfl) (fun p e s m args below meth c A C hr hnm => ?_)
  unfold wp_X8_undo at h
  refine z_aload_n C dX8_undo_0 rfl 0 rfl ?_
  refine z_iconst (v := 0) C dX8_undo_1 (by decide) ?_
  refine pR_thrown C dX8_undo_2 ?_
  refine z_stR (fun u101 eu101 => ?_)
  have h := h u101 eu101
  refine z_aload_n C dX8_undo_5 rfl 0 rfl ?_
  refine gR_nUndo C dX8_undo_6 ?_
  refine z_if_ne C dX8_undo_9 (tgt := 19) (by decide) (fun hc102 => ?_) (fun hc102 => ?_)
  · have h := h.1 hc102
    refine z_aload_n C dX8_undo_19 rfl 0 rfl ?_
    refine z_dup C dX8_undo_20 rfl ?_
    refine gR_nUndo C dX8_undo_21 ?_
    refine z_iconst (v := 1) C dX8_undo_24 (by decide) ?_
    refine z_isub C dX8_undo_25 ?_
    refine pR_nUndo C dX8_undo_26 ?_
    refine z_stR (fun u103 eu103 => ?_)
    have h := h u103 eu103
    refine z_aload_n C dX8_undo_29 rfl 0 rfl ?_
    refine z_aload_n C dX8_undo_30 rfl 0 rfl ?_
    refine gR_undos C dX8_undo_31 ?_
    refine z_aload_n C dX8_undo_34 rfl 0 rfl ?_
    refine gR_undoSums C dX8_undo_35 ?_
    refine z_aload_n C dX8_undo_38 rfl 0 rfl ?_
    refine gR_nUndo C dX8_undo_39 ?_
    refine cRv (As := [.ref (ad 4), .ref (ad 5), .int (u103.1 8 0)]) C (c_X8_bring_undos l g ad u103 (u103.1 8 0) _ h) v_X8_bring ml8_78 rfl ⟨Nat.le_of_ble_eq_true rfl, Nat.le_of_ble_eq_true rfl⟩ ⟨Nat.zero_le _, Nat.zero_le _⟩ (Nat.le_of_ble_eq_true rfl) rfl dX8_undo_42 ?_
    intro u104 h
    refine z_aload_n C dX8_undo_45 rfl 0 rfl ?_
    refine z_aload_n C dX8_undo_46 rfl 0 rfl ?_
    refine gR_sorts C dX8_undo_47 ?_
    refine z_aload_n C dX8_undo_50 rfl 0 rfl ?_
    refine gR_nUndo C dX8_undo_51 ?_
    obtain ⟨hi105, h⟩ := h
    refine lR_sorts C hi105 dX8_undo_54 ?_
    refine cRi (As := [.int (u104.1 7 (zn (u104.1 8 0)))]) C (c_X8_tell l g ad u104 (u104.1 7 (zn (u104.1 8 0))) _ h) v_X8_tell ml8_81 rfl ⟨Nat.le_of_ble_eq_true rfl, Nat.le_of_ble_eq_true rfl⟩ ⟨Nat.zero_le _, Nat.zero_le _⟩ (Nat.le_of_ble_eq_true rfl) rfl dX8_undo_55 ?_
    intro r106 u107 h
    exact z_iret C hr u107 rfl h dX8_undo_58
  · have h := h.2 hc102
    refine z_aload_n C dX8_undo_12 rfl 0 rfl ?_
    refine z_bipush (v := (-4)) C dX8_undo_13 (by decide) ?_
    refine cRi (As := [.int (-4)]) C (c_X8_refuse l g ad u101 (-4) _ h) v_X8_refuse ml8_75 rfl ⟨Nat.le_of_ble_eq_true rfl, Nat.le_of_ble_eq_true rfl⟩ ⟨Nat.zero_le _, Nat.zero_le _⟩ (Nat.le_of_ble_eq_true rfl) rfl dX8_undo_15 ?_
    intro r108 u109 h
    exact z_iret C hr u109 rfl h dX8_undo_18
abbrev j_X8_image (p : Program) (l : Launch) (e : Env) (s : State) (m : MethodId) (args : Array Value) (below : List Frame) (meth : Method) (c : Code) (g : zG) (A : Nat → Prop) (ad : Nat → Nat) (Q : Int32 → RS → Prop) (u : RS) (pc : Nat) (lv : List (Nat × Value)) (st : List Value) : Prop := zJ p l e (zR 1 0 0) s m args below meth c g A 2 (zQi below args s g A 0 0 (wR g ad) Q) (wR g ad u) 0 0 pc lv st
def wp_X8_image (u : RS) (x1 : Int32) (Q : Int32 → RS → Prop) : Prop :=
  ∀ u101 : RS, u101 = rN u 0 0 → wp_X8_in ((x1).toInt64) 0 1 (fun r102 => ((¬ r102 = 0 → wp_X8_lay_images u101 x1 (fun u104 => vp_in x1 2 ∧ ∀ u106 : RS, u106 = rI u104 11 (upd (u104.1 11) (zn x1) (vp_nar .boolean 1)) → wp_X8_tell u106 (u106.1 3 6) (fun r107 u108 => Q r107 u108))) ∧ (r102 = 0 → wp_X8_refuse u101 (-1) (fun r109 u110 => Q r109 u110))))
set_option maxRecDepth 20000 in
theorem c_X8_image (l : Launch) (g : zG) (ad : Nat → Nat) (u : RS) (x1 : Int32) (Q : Int32 → RS → Prop) (h : wp_X8_image u x1 Q) : zMi l yX8_image cX8_image 2 (some .int) 1 0 0 g [.ref (ad 0), .int x1] (wR g ad u) (wR g ad) Q := by
  refine zMi_of RX8 (by decide) rfl [(0, .ref (ad 0)), (1, .int x1)] rfl (Nat.le_of_ble_eq_true rfl) (fun p e s m args below meth c A C hr hnm => ?_)
  unfold wp_X8_image at h
  refine z_aload_n C dX8_image_0 rfl 0 rfl ?_
  refine z_iconst (v := 0) C dX8_image_1 (by decide) ?_
  refine pR_thrown C dX8_image_2 ?_
  refine z_stR (fun u101 eu101 => ?_)
  have h := h u101 eu101
  refine z_iload_n C dX8_image_5 rfl 1 rfl ?_
  refine z_i2l C dX8_image_6 ?_
  refine z_lconst (v := 0) C dX8_image_7 (by decide) ?_
  refine z_lconst (v := 1) C dX8_image_8 (by decide) ?_
  refine cSi (As := [.long ((x1).toInt64), .long 0, .long 1]) C (c_X8_in l g ((x1).toInt64) 0 1 _ h) s_X8_in ml8_84 ⟨Nat.le_of_ble_eq_true rfl, Nat.le_of_ble_eq_true rfl⟩ ⟨Nat.zero_le _, Nat.zero_le _⟩ (Nat.le_of_ble_eq_true rfl) rfl dX8_image_9 ?_
  intro r102 h
  refine z_if_ne C dX8_image_12 (tgt := 21) (by decide) (fun hc103 => ?_) (fun hc103 => ?_)
  · have h := h.1 hc103
    refine z_aload_n C dX8_image_21 rfl 0 rfl ?_
    refine z_aload_n C dX8_image_22 rfl 0 rfl ?_
    refine gR_images C dX8_image_23 ?_
    refine z_aload_n C dX8_image_26 rfl 0 rfl ?_
    refine gR_imageSums C dX8_image_27 ?_
    refine z_iload_n C dX8_image_30 rfl 1 rfl ?_
    refine cRv (As := [.ref (ad 7), .ref (ad 8), .int x1]) C (c_X8_lay_images l g ad u101 x1 _ h) v_X8_lay ml8_71 rfl ⟨Nat.le_of_ble_eq_true rfl, Nat.le_of_ble_eq_true rfl⟩ ⟨Nat.zero_le _, Nat.zero_le _⟩ (Nat.le_of_ble_eq_true rfl) rfl dX8_image_31 ?_
    intro u104 h
    refine z_aload_n C dX8_image_34 rfl 0 rfl ?_
    refine gR_isKept C dX8_image_35 ?_
    refine z_iload_n C dX8_image_38 rfl 1 rfl ?_
    refine z_iconst (v := 1) C dX8_image_39 (by decide) ?_
    obtain ⟨hi105, h⟩ := h
    refine sR_isKept C hi105 dX8_image_40 ?_
    refine z_stR (fun u106 eu106 => ?_)
    have h := h u106 eu106
    refine z_aload_n C dX8_image_41 rfl 0 rfl ?_
    refine z_aload_n C dX8_image_42 rfl 0 rfl ?_
    refine gR_row C dX8_image_43 ?_
    refine z_bipush (v := 6) C dX8_image_46 (by decide) ?_
    refine lRn_row C 6 (by decide +kernel) (vp_in_iff.mpr (by decide +kernel)) dX8_image_48 ?_
    refine cRi (As := [.int (u106.1 3 6)]) C (c_X8_tell l g ad u106 (u106.1 3 6) _ h) v_X8_tell ml8_81 rfl ⟨Nat.le_of_ble_eq_true rfl, Nat.le_of_ble_eq_true rfl⟩ ⟨Nat.zero_le _, Nat.zero_le _⟩ (Nat.le_of_ble_eq_true rfl) rfl dX8_image_49 ?_
    intro r107 u108 h
    exact z_iret C hr u108 rfl h dX8_image_52
  · have h := h.2 hc103
    refine z_aload_n C dX8_image_15 rfl 0 rfl ?_
    refine z_iconst (v := (-1)) C dX8_image_16 (by decide) ?_
    refine cRi (As := [.int (-1)]) C (c_X8_refuse l g ad u101 (-1) _ h) v_X8_refuse ml8_75 rfl ⟨Nat.le_of_ble_eq_true rfl, Nat.le_of_ble_eq_true rfl⟩ ⟨Nat.zero_le _, Nat.zero_le _⟩ (Nat.le_of_ble_eq_true rfl) rfl dX8_image_17 ?_
    intro r109 u110 h
    exact z_iret C hr u110 rfl h dX8_image_20
abbrev j_X8_back (p : Program) (l : Launch) (e : Env) (s : State) (m : MethodId) (args : Array Value) (below : List Frame) (meth : Method) (c : Code) (g : zG) (A : Nat → Prop) (ad : Nat → Nat) (Q : Int32 → RS → Prop) (u : RS) (pc : Nat) (lv : List (Nat × Value)) (st : List Value) : Prop := zJ p l e (zR 1 0 0) s m args below meth c g A 2 (zQi below args s g A 0 0 (wR g ad) Q) (wR g ad u) 0 0 pc lv st
def wp_X8_back (u : RS) (x1 : Int32) (Q : Int32 → RS → Prop) : Prop :=
  ∀ u101 : RS, u101 = rN u 0 0 → wp_X8_in ((x1).toInt64) 0 1 (fun r102 => ((¬ r102 = 0 → vp_in x1 2 ∧ ((¬ u101.1 11 (zn x1) = 0 → wp_X8_bring_images u101 x1 (fun u106 => ∀ u107 : RS, u107 = rN u106 8 0 → wp_X8_tell u107 (u107.1 3 6) (fun r108 u109 => Q r108 u109))) ∧ (u101.1 11 (zn x1) = 0 → wp_X8_refuse u101 (-4) (fun r110 u111 => Q r110 u111)))) ∧ (r102 = 0 → wp_X8_refuse u101 (-1) (fun r112 u113 => Q r112 u113))))
set_option maxRecDepth 20000 in
theorem c_X8_back (l : Launch) (g : zG) (ad : Nat → Nat) (u : RS) (x1 : Int32) (Q : Int32 → RS → Prop) (h : wp_X8_back u x1 Q) : zMi l yX8_back cX8_back 2 (some .int) 1 0 0 g [.ref (ad 0), .int x1] (wR g ad u) (wR g ad) Q := by
  refine zMi_of RX8 (by decide) rfl [(0, .ref (ad 0)), (1, .int x1)] rfl (Nat.le_of_ble_eq_true rfl) (fun p e s m args below meth c A C hr hnm => ?_)
  unfold wp_X8_back at h
  refine z_aload_n C dX8_back_0 rfl 0 rfl ?_
  refine z_iconst (v := 0) C dX8_back_1 (by decide) ?_
  refine pR_thrown C dX8_back_2 ?_
  refine z_stR (fun u101 eu101 => ?_)
  have h := h u101 eu101
  refine z_iload_n C dX8_back_5 rfl 1 rfl ?_
  refine z_i2l C dX8_back_6 ?_
  refine z_lconst (v := 0) C dX8_back_7 (by decide) ?_
  refine z_lconst (v := 1) C dX8_back_8 (by decide) ?_
  refine cSi (As := [.long ((x1).toInt64), .long 0, .long 1]) C (c_X8_in l g ((x1).toInt64) 0 1 _ h) s_X8_in ml8_84 ⟨Nat.le_of_ble_eq_true rfl, Nat.le_of_ble_eq_true rfl⟩ ⟨Nat.zero_le _, Nat.zero_le _⟩ (Nat.le_of_ble_eq_true rfl) rfl dX8_back_9 ?_
  intro r102 h
  refine z_if_ne C dX8_back_12 (tgt := 21) (by decide) (fun hc103 => ?_) (fun hc103 => ?_)
  · have h := h.1 hc103
    refine z_aload_n C dX8_back_21 rfl 0 rfl ?_
    refine gR_isKept C dX8_back_22 ?_
    refine z_iload_n C dX8_back_25 rfl 1 rfl ?_
    obtain ⟨hi104, h⟩ := h
    refine lR_isKept C hi104 dX8_back_26 ?_
    refine z_if_ne C dX8_back_27 (tgt := 37) (by decide) (fun hc105 => ?_) (fun hc105 => ?_)
    · have h := h.1 hc105
      refine z_aload_n C dX8_back_37 rfl 0 rfl ?_
      refine z_aload_n C dX8_back_38 rfl 0 rfl ?_
      refine gR_images C dX8_back_39 ?_
      refine z_aload_n C dX8_back_42 rfl 0 rfl ?_
      refine gR_imageSums C dX8_back_43 ?_
      refine z_iload_n C dX8_back_46 rfl 1 rfl ?_
      refine cRv (As := [.ref (ad 7), .ref (ad 8), .int x1]) C (c_X8_bring_images l g ad u101 x1 _ h) v_X8_bring ml8_78 rfl ⟨Nat.le_of_ble_eq_true rfl, Nat.le_of_ble_eq_true rfl⟩ ⟨Nat.zero_le _, Nat.zero_le _⟩ (Nat.le_of_ble_eq_true rfl) rfl dX8_back_47 ?_
      intro u106 h
      refine z_aload_n C dX8_back_50 rfl 0 rfl ?_
      refine z_iconst (v := 0) C dX8_back_51 (by decide) ?_
      refine pR_nUndo C dX8_back_52 ?_
      refine z_stR (fun u107 eu107 => ?_)
      have h := h u107 eu107
      refine z_aload_n C dX8_back_55 rfl 0 rfl ?_
      refine z_aload_n C dX8_back_56 rfl 0 rfl ?_
      refine gR_row C dX8_back_57 ?_
      refine z_bipush (v := 6) C dX8_back_60 (by decide) ?_
      refine lRn_row C 6 (by decide +kernel) (vp_in_iff.mpr (by decide +kernel)) dX8_back_62 ?_
      refine cRi (As := [.int (u107.1 3 6)]) C (c_X8_tell l g ad u107 (u107.1 3 6) _ h) v_X8_tell ml8_81 rfl ⟨Nat.le_of_ble_eq_true rfl, Nat.le_of_ble_eq_true rfl⟩ ⟨Nat.zero_le _, Nat.zero_le _⟩ (Nat.le_of_ble_eq_true rfl) rfl dX8_back_63 ?_
      intro r108 u109 h
      exact z_iret C hr u109 rfl h dX8_back_66
    · have h := h.2 hc105
      refine z_aload_n C dX8_back_30 rfl 0 rfl ?_
      refine z_bipush (v := (-4)) C dX8_back_31 (by decide) ?_
      refine cRi (As := [.int (-4)]) C (c_X8_refuse l g ad u101 (-4) _ h) v_X8_refuse ml8_75 rfl ⟨Nat.le_of_ble_eq_true rfl, Nat.le_of_ble_eq_true rfl⟩ ⟨Nat.zero_le _, Nat.zero_le _⟩ (Nat.le_of_ble_eq_true rfl) rfl dX8_back_33 ?_
      intro r110 u111 h
      exact z_iret C hr u111 rfl h dX8_back_36
  · have h := h.2 hc103
    refine z_aload_n C dX8_back_15 rfl 0 rfl ?_
    refine z_iconst (v := (-1)) C dX8_back_16 (by decide) ?_
    refine cRi (As := [.int (-1)]) C (c_X8_refuse l g ad u101 (-1) _ h) v_X8_refuse ml8_75 rfl ⟨Nat.le_of_ble_eq_true rfl, Nat.le_of_ble_eq_true rfl⟩ ⟨Nat.zero_le _, Nat.zero_le _⟩ (Nat.le_of_ble_eq_true rfl) rfl dX8_back_17 ?_
    intro r112 u113 h
    exact z_iret C hr u113 rfl h dX8_back_20
abbrev j_X8_packetAt (p : Program) (l : Launch) (e : Env) (s : State) (m : MethodId) (args : Array Value) (below : List Frame) (meth : Method) (c : Code) (g : zG) (A : Nat → Prop) (Q : Int32 → Prop) (pc : Nat) (lv : List (Nat × Value)) (st : List Value) : Prop := zJ p l e (zR 1 0 0) s m args below meth c g A 2 (zQi below args s g A 0 0 (fun _ : Unit => []) (fun r _ => Q r)) [] 0 0 pc lv st
def wp_X8_packetAt (x0 : Int32) (x1 : Int32) (Q : Int32 → Prop) : Prop :=
  wp_X8_queueAt x0 (fun r101 => Q ((r101 + 8) + (4 * x1)))
set_option maxRecDepth 20000 in
theorem c_X8_packetAt (l : Launch) (g : zG) (x0 : Int32) (x1 : Int32) (Q : Int32 → Prop) (h : wp_X8_packetAt x0 x1 Q) : zMi l yX8_packetAt cX8_packetAt 2 (some .int) 1 0 0 g [.int x0, .int x1] [] (fun _ : Unit => []) (fun r _ => Q r) := by
  refine zMi_of RX8 (by decide) rfl [(0, .int x0), (1, .int x1)] rfl (Nat.le_of_ble_eq_true rfl) (fun p e s m args below meth c A C hr hnm => ?_)
  unfold wp_X8_packetAt at h
  refine z_iload_n C dX8_packetAt_0 rfl 0 rfl ?_
  refine cSi (As := [.int x0]) C (c_X8_queueAt l g x0 _ h) s_X8_queueAt ml8_57 ⟨Nat.le_of_ble_eq_true rfl, Nat.le_of_ble_eq_true rfl⟩ ⟨Nat.zero_le _, Nat.zero_le _⟩ (Nat.le_of_ble_eq_true rfl) rfl dX8_packetAt_1 ?_
  intro r101 h
  refine z_bipush (v := 8) C dX8_packetAt_4 (by decide) ?_
  refine z_iadd C dX8_packetAt_6 ?_
  refine z_iconst (v := 4) C dX8_packetAt_7 (by decide) ?_
  refine z_iload_n C dX8_packetAt_8 rfl 1 rfl ?_
  refine z_imul C dX8_packetAt_9 ?_
  refine z_iadd C dX8_packetAt_10 ?_
  exact z_iret C hr () rfl h dX8_packetAt_11
abbrev j_X8_isFlow (p : Program) (l : Launch) (e : Env) (s : State) (m : MethodId) (args : Array Value) (below : List Frame) (meth : Method) (c : Code) (g : zG) (A : Nat → Prop) (ad : Nat → Nat) (Q : Int32 → RS → Prop) (u : RS) (pc : Nat) (lv : List (Nat × Value)) (st : List Value) : Prop := zJ p l e (zR 1 0 0) s m args below meth c g A 2 (zQi below args s g A 0 0 (wR g ad) Q) (wR g ad u) 0 0 pc lv st
def wp_X8_isFlow (u : RS) (x1 : Int32) (Q : Int32 → RS → Prop) : Prop :=
  wp_X8_in ((x1).toInt64) 0 (((u.1 3 4).toInt64) - 1) (fun r101 => (zBool r101 ∧ Q r101 u))
set_option maxRecDepth 20000 in
theorem c_X8_isFlow (l : Launch) (g : zG) (ad : Nat → Nat) (u : RS) (x1 : Int32) (Q : Int32 → RS → Prop) (h : wp_X8_isFlow u x1 Q) : zMi l yX8_isFlow cX8_isFlow 2 (some .boolean) 1 0 0 g [.ref (ad 0), .int x1] (wR g ad u) (wR g ad) Q := by
  refine zMi_of RX8 (by decide) rfl [(0, .ref (ad 0)), (1, .int x1)] rfl (Nat.le_of_ble_eq_true rfl) (fun p e s m args below meth c A C hr hnm => ?_)
  unfold wp_X8_isFlow at h
  refine z_iload_n C dX8_isFlow_0 rfl 1 rfl ?_
  refine z_i2l C dX8_isFlow_1 ?_
  refine z_lconst (v := 0) C dX8_isFlow_2 (by decide) ?_
  refine z_aload_n C dX8_isFlow_3 rfl 0 rfl ?_
  refine gR_row C dX8_isFlow_4 ?_
  refine z_iconst (v := 4) C dX8_isFlow_7 (by decide) ?_
  refine lRn_row C 4 (by decide +kernel) (vp_in_iff.mpr (by decide +kernel)) dX8_isFlow_8 ?_
  refine z_i2l C dX8_isFlow_9 ?_
  refine z_lconst (v := 1) C dX8_isFlow_10 (by decide) ?_
  refine z_lsub C dX8_isFlow_11 ?_
  refine cSi (As := [.long ((x1).toInt64), .long 0, .long (((u.1 3 4).toInt64) - 1)]) C (c_X8_in l g ((x1).toInt64) 0 (((u.1 3 4).toInt64) - 1) _ h) s_X8_in ml8_84 ⟨Nat.le_of_ble_eq_true rfl, Nat.le_of_ble_eq_true rfl⟩ ⟨Nat.zero_le _, Nat.zero_le _⟩ (Nat.le_of_ble_eq_true rfl) rfl dX8_isFlow_12 ?_
  intro r101 h
  exact z_zret C hr u rfl h.1 h.2 dX8_isFlow_15
abbrev j_X8_isQueue (p : Program) (l : Launch) (e : Env) (s : State) (m : MethodId) (args : Array Value) (below : List Frame) (meth : Method) (c : Code) (g : zG) (A : Nat → Prop) (Q : Int32 → Prop) (pc : Nat) (lv : List (Nat × Value)) (st : List Value) : Prop := zJ p l e (zR 1 0 0) s m args below meth c g A 1 (zQi below args s g A 0 0 (fun _ : Unit => []) (fun r _ => Q r)) [] 0 0 pc lv st
def wp_X8_isQueue (x0 : Int32) (Q : Int32 → Prop) : Prop :=
  wp_X8_in ((x0).toInt64) 0 3 (fun r101 => (zBool r101 ∧ Q r101))
set_option maxRecDepth 20000 in
theorem c_X8_isQueue (l : Launch) (g : zG) (x0 : Int32) (Q : Int32 → Prop) (h : wp_X8_isQueue x0 Q) : zMi l yX8_isQueue cX8_isQueue 1 (some .boolean) 1 0 0 g [.int x0] [] (fun _ : Unit => []) (fun r _ => Q r) := by
  refine zMi_of RX8 (by decide) rfl [(0, .int x0)] rfl (Nat.le_of_ble_eq_true rfl) (fun p e s m args below meth c A C hr hnm => ?_)
  unfold wp_X8_isQueue at h
  refine z_iload_n C dX8_isQueue_0 rfl 0 rfl ?_
  refine z_i2l C dX8_isQueue_1 ?_
  refine z_lconst (v := 0) C dX8_isQueue_2 (by decide) ?_
  refine z_ldc2 (v := 3) C dX8_isQueue_3 k8_88 ?_
  refine cSi (As := [.long ((x0).toInt64), .long 0, .long 3]) C (c_X8_in l g ((x0).toInt64) 0 3 _ h) s_X8_in ml8_84 ⟨Nat.le_of_ble_eq_true rfl, Nat.le_of_ble_eq_true rfl⟩ ⟨Nat.zero_le _, Nat.zero_le _⟩ (Nat.le_of_ble_eq_true rfl) rfl dX8_isQueue_6 ?_
  intro r101 h
  exact z_zret C hr () rfl h.1 h.2 dX8_isQueue_9
abbrev j_X8_windowAt (p : Program) (l : Launch) (e : Env) (s : State) (m : MethodId) (args : Array Value) (below : List Frame) (meth : Method) (c : Code) (g : zG) (A : Nat → Prop) (ad : Nat → Nat) (Q : Int32 → RS → Prop) (u : RS) (pc : Nat) (lv : List (Nat × Value)) (st : List Value) : Prop := zJ p l e (zR 1 0 0) s m args below meth c g A 4 (zQi below args s g A 0 0 (wR g ad) Q) (wR g ad u) 0 0 pc lv st
def wp_X8_windowAt_4 (Q : Int32 → RS → Prop) (B4 : RS → Int32 → Int32 → Int32 → Prop) (u : RS) (x1 : Int32) (x2 : Int32) (x3 : Int32) : Prop :=
  ((32 ≤ x3 → Q x2 u) ∧ (¬ 32 ≤ x3 → wp_X8_keyBit u (x1 + x3) (fun r102 u103 => ∀ x104 : Int32, x104 = (x2 <<< (1 &&& 31)) ||| r102 → ∀ x105 : Int32, x105 = x3 + 1 → B4 u103 x1 x104 x105)))
set_option maxRecDepth 20000 in
theorem b_X8_windowAt_4 (C : zC p s m args meth c g A cX8_windowAt RX8 4) (hr : meth.sig.returnType = (some .int)) (ad : Nat → Nat) (Q : Int32 → RS → Prop) (B4 : RS → Int32 → Int32 → Int32 → Prop) (hB4 : ∀ (u : RS) (x1 : Int32) (x2 : Int32) (x3 : Int32), B4 u x1 x2 x3 → j_X8_windowAt p l e s m args below meth c g A ad Q u 4 [(0, .ref (ad 0)), (1, .int x1), (2, .int x2), (3, .int x3)] []) (u : RS) (x1 : Int32) (x2 : Int32) (x3 : Int32) (h : wp_X8_windowAt_4 Q B4 u x1 x2 x3) : j_X8_windowAt p l e s m args below meth c g A ad Q u 4 [(0, .ref (ad 0)), (1, .int x1), (2, .int x2), (3, .int x3)] [] := by
  unfold wp_X8_windowAt_4 at h
  refine z_iload_n C dX8_windowAt_4 rfl 3 rfl ?_
  refine z_bipush (v := 32) C dX8_windowAt_5 (by decide) ?_
  refine z_icmp_ge C dX8_windowAt_7 (tgt := 28) (by decide) (fun hc101 => ?_) (fun hc101 => ?_)
  · have h := h.1 hc101
    refine z_iload_n C dX8_windowAt_28 rfl 2 rfl ?_
    exact z_iret C hr u rfl h dX8_windowAt_29
  · have h := h.2 hc101
    refine z_iload_n C dX8_windowAt_10 rfl 2 rfl ?_
    refine z_iconst (v := 1) C dX8_windowAt_11 (by decide) ?_
    refine z_ishl C dX8_windowAt_12 ?_
    refine z_aload_n C dX8_windowAt_13 rfl 0 rfl ?_
    refine z_iload_n C dX8_windowAt_14 rfl 1 rfl ?_
    refine z_iload_n C dX8_windowAt_15 rfl 3 rfl ?_
    refine z_iadd C dX8_windowAt_16 ?_
    refine cRi (As := [.int (x1 + x3)]) C (c_X8_keyBit l g ad u (x1 + x3) _ h) v_X8_keyBit ml8_90 rfl ⟨Nat.le_of_ble_eq_true rfl, Nat.le_of_ble_eq_true rfl⟩ ⟨Nat.zero_le _, Nat.zero_le _⟩ (Nat.le_of_ble_eq_true rfl) rfl dX8_windowAt_17 ?_
    intro r102 u103 h
    refine z_ior C dX8_windowAt_20 ?_
    refine z_topi (fun x104 ex104 => ?_)
    have h := h x104 ex104
    refine z_istore_n (lv1 := [(2, .int x104), (0, .ref (ad 0)), (1, .int x1), (3, .int x3)]) C dX8_windowAt_21 rfl (by decide) rfl ?_
    obtain ⟨x105, ex105⟩ : ∃ y : Int32, y = x3 + 1 := ⟨_, rfl⟩
    have h := h x105 ex105
    refine z_iinc (v := x105) (lv1 := [(3, .int x105), (2, .int x104), (0, .ref (ad 0)), (1, .int x1)]) C dX8_windowAt_22 3 rfl (by rw [ex105]; rfl) (by decide) rfl ?_
    refine z_goto C dX8_windowAt_25 (tgt := 4) (by decide) ?_
    refine z_lv (lv1 := [(0, .ref (ad 0)), (1, .int x1), (2, .int x104), (3, .int x105)]) [2, 3, 1, 0] rfl ?_
    exact hB4 u103 x1 x104 x105 h
theorem l_X8_windowAt_4 (C : zC p s m args meth c g A cX8_windowAt RX8 4) (hr : meth.sig.returnType = (some .int)) (ad : Nat → Nat) (Q : Int32 → RS → Prop) : ∀ (n : Nat) (u : RS) (x1 : Int32) (x2 : Int32) (x3 : Int32), zit4 (wp_X8_windowAt_4 Q) n u x1 x2 x3 → j_X8_windowAt p l e s m args below meth c g A ad Q u 4 [(0, .ref (ad 0)), (1, .int x1), (2, .int x2), (3, .int x3)] [] := by
  intro n
  induction n with
  | zero => exact fun u x1 x2 x3 h => h.elim
  | succ n ih => exact fun u x1 x2 x3 h => b_X8_windowAt_4 C hr ad Q (zit4 (wp_X8_windowAt_4 Q) n) ih u x1 x2 x3 h
def wp_X8_windowAt (u : RS) (x1 : Int32) (Q : Int32 → RS → Prop) : Prop :=
  (∃ n, zit4 (wp_X8_windowAt_4 Q) n u x1 0 0)
set_option maxRecDepth 20000 in
theorem c_X8_windowAt (l : Launch) (g : zG) (ad : Nat → Nat) (u : RS) (x1 : Int32) (Q : Int32 → RS → Prop) (h : wp_X8_windowAt u x1 Q) : zMi l yX8_windowAt cX8_windowAt 4 (some .int) 1 0 0 g [.ref (ad 0), .int x1] (wR g ad u) (wR g ad) Q := by
  refine zMi_of RX8 (by decide) rfl [(0, .ref (ad 0)), (1, .int x1)] rfl (Nat.le_of_ble_eq_true rfl) (fun p e s m args below meth c A C hr hnm => ?_)
  unfold wp_X8_windowAt at h
  refine z_iconst (v := 0) C dX8_windowAt_0 (by decide) ?_
  refine z_istore_n (lv1 := [(2, .int 0), (0, .ref (ad 0)), (1, .int x1)]) C dX8_windowAt_1 rfl (by decide) rfl ?_
  refine z_iconst (v := 0) C dX8_windowAt_2 (by decide) ?_
  refine z_istore_n (lv1 := [(3, .int 0), (2, .int 0), (0, .ref (ad 0)), (1, .int x1)]) C dX8_windowAt_3 rfl (by decide) rfl ?_
  refine z_lv (lv1 := [(0, .ref (ad 0)), (1, .int x1), (2, .int 0), (3, .int 0)]) [2, 3, 1, 0] rfl ?_
  obtain ⟨n9, h⟩ := h
  exact l_X8_windowAt_4 C hr ad Q n9 u x1 0 0 h
end WR
