section WC
variable {p : Program} {l : Launch} {e : Env} {s : State} {m : MethodId} {args : Array Value} {below : List Frame} {meth : Method} {c : Code} {g : zG} {A : Nat → Prop}
abbrev j_X5_packetsWaiting (p : Program) (l : Launch) (e : Env) (s : State) (m : MethodId) (args : Array Value) (below : List Frame) (meth : Method) (c : Code) (g : zG) (A : Nat → Prop) (ad : Nat → Nat → Nat) (Q : Int32 → (Nat → RS) → Prop) (u : (Nat → RS)) (pc : Nat) (lv : List (Nat × Value)) (st : List Value) : Prop := zJ p l e (zR 0 0 0) s m args below meth c g A 3 (zQi below args s g A 0 0 (wS g ad) Q) (wS g ad u) 0 0 pc lv st
def wp_X5_packetsWaiting_4 (Q : Int32 → (Nat → RS) → Prop) (B4 : (Nat → RS) → Int32 → Int32 → Prop) (u : (Nat → RS)) (x1 : Int32) (x2 : Int32) : Prop :=
  ((4 ≤ x2 → Q x1 u) ∧ (¬ 4 ≤ x2 → vp_in x2 4 ∧ vp_in x2 4 ∧ ∀ x104 : Int32, x104 = x1 + ((u (5 + zn x2)).1 0 0) → ∀ x105 : Int32, x105 = x2 + 1 → B4 u x104 x105))
set_option maxRecDepth 20000 in
theorem b_X5_packetsWaiting_4 (C : zC p s m args meth c g A cX5_packetsWaiting RX5 3) (hr : meth.sig.returnType = (some .int)) (ad : Nat → Nat → Nat) (Q : Int32 → (Nat → RS) → Prop) (B4 : (Nat → RS) → Int32 → Int32 → Prop) (hB4 : ∀ (u : (Nat → RS)) (x1 : Int32) (x2 : Int32), B4 u x1 x2 → j_X5_packetsWaiting p l e s m args below meth c g A ad Q u 4 [(0, .ref (ad 0 0)), (1, .int x1), (2, .int x2)] []) (u : (Nat → RS)) (x1 : Int32) (x2 : Int32) (h : wp_X5_packetsWaiting_4 Q B4 u x1 x2) : j_X5_packetsWaiting p l e s m args below meth c g A ad Q u 4 [(0, .ref (ad 0 0)), (1, .int x1), (2, .int x2)] [] := by
  unfold wp_X5_packetsWaiting_4 at h
  refine z_iload_n C dX5_packetsWaiting_4 rfl 2 rfl ?_
  refine z_iconst (v := 4) C dX5_packetsWaiting_5 (by decide) ?_
  refine z_icmp_ge C dX5_packetsWaiting_6 (tgt := 27) (by decide) (fun hc101 => ?_) (fun hc101 => ?_)
  · have h := h.1 hc101
    refine z_iload_n C dX5_packetsWaiting_27 rfl 1 rfl ?_
    exact z_iret C hr u rfl h dX5_packetsWaiting_28
  · have h := h.2 hc101
    refine z_iload_n C dX5_packetsWaiting_9 rfl 1 rfl ?_
    refine z_aload_n C dX5_packetsWaiting_10 rfl 0 rfl ?_
    refine Sg5_queues C fl5_34 dX5_packetsWaiting_11 ?_
    refine z_iload_n C dX5_packetsWaiting_14 rfl 2 rfl ?_
    obtain ⟨hi102, h⟩ := h
    refine Saq C hi102 dX5_packetsWaiting_15 ?_
    obtain ⟨hi103, h⟩ := h
    refine Sg3_number C hi103 fl5_118 dX5_packetsWaiting_16 ?_
    refine z_iadd C dX5_packetsWaiting_19 ?_
    refine z_topi (fun x104 ex104 => ?_)
    have h := h x104 ex104
    refine z_istore_n (lv1 := [(1, .int x104), (0, .ref (ad 0 0)), (2, .int x2)]) C dX5_packetsWaiting_20 rfl (by decide) rfl ?_
    obtain ⟨x105, ex105⟩ : ∃ y : Int32, y = x2 + 1 := ⟨_, rfl⟩
    have h := h x105 ex105
    refine z_iinc (v := x105) (lv1 := [(2, .int x105), (1, .int x104), (0, .ref (ad 0 0))]) C dX5_packetsWaiting_21 2 rfl (by rw [ex105]; rfl) (by decide) rfl ?_
    refine z_goto C dX5_packetsWaiting_24 (tgt := 4) (by decide) ?_
    refine z_lv (lv1 := [(0, .ref (ad 0 0)), (1, .int x104), (2, .int x105)]) [2, 1, 0] rfl ?_
    exact hB4 u x104 x105 h
theorem l_X5_packetsWaiting_4 (C : zC p s m args meth c g A cX5_packetsWaiting RX5 3) (hr : meth.sig.returnType = (some .int)) (ad : Nat → Nat → Nat) (Q : Int32 → (Nat → RS) → Prop) : ∀ (n : Nat) (u : (Nat → RS)) (x1 : Int32) (x2 : Int32), zit3 (wp_X5_packetsWaiting_4 Q) n u x1 x2 → j_X5_packetsWaiting p l e s m args below meth c g A ad Q u 4 [(0, .ref (ad 0 0)), (1, .int x1), (2, .int x2)] [] := by
  intro n
  induction n with
  | zero => exact fun u x1 x2 h => h.elim
  | succ n ih => exact fun u x1 x2 h => b_X5_packetsWaiting_4 C hr ad Q (zit3 (wp_X5_packetsWaiting_4 Q) n) ih u x1 x2 h
def wp_X5_packetsWaiting (u : (Nat → RS)) (Q : Int32 → (Nat → RS) → Prop) : Prop :=
  (∃ n, zit3 (wp_X5_packetsWaiting_4 Q) n u 0 0)
set_option maxRecDepth 20000 in
theorem c_X5_packetsWaiting (l : Launch) (g : zG) (ad : Nat → Nat → Nat) (u : (Nat → RS)) (Q : Int32 → (Nat → RS) → Prop) (h : wp_X5_packetsWaiting u Q) : zMi l yX5_packetsWaiting cX5_packetsWaiting 3 (some .int) 0 0 0 g [.ref (ad 0 0)] (wS g ad u) (wS g ad) Q := by
  refine zMi_of RX5 (by decide) rfl [(0, .ref (ad 0 0))] rfl (Nat.le_of_ble_eq_true rfl) (fun p e s m args below meth c A C hr hnm => ?_)
  unfold wp_X5_packetsWaiting at h
  refine z_iconst (v := 0) C dX5_packetsWaiting_0 (by decide) ?_
  refine z_istore_n (lv1 := [(1, .int 0), (0, .ref (ad 0 0))]) C dX5_packetsWaiting_1 rfl (by decide) rfl ?_
  refine z_iconst (v := 0) C dX5_packetsWaiting_2 (by decide) ?_
  refine z_istore_n (lv1 := [(2, .int 0), (1, .int 0), (0, .ref (ad 0 0))]) C dX5_packetsWaiting_3 rfl (by decide) rfl ?_
  refine z_lv (lv1 := [(0, .ref (ad 0 0)), (1, .int 0), (2, .int 0)]) [2, 1, 0] rfl ?_
  obtain ⟨n9, h⟩ := h
  exact l_X5_packetsWaiting_4 C hr ad Q n9 u 0 0 h
abbrev j_X5_callsInAll (p : Program) (l : Launch) (e : Env) (s : State) (m : MethodId) (args : Array Value) (below : List Frame) (meth : Method) (c : Code) (g : zG) (A : Nat → Prop) (ad : Nat → Nat → Nat) (Q : Int32 → (Nat → RS) → Prop) (u : (Nat → RS)) (pc : Nat) (lv : List (Nat × Value)) (st : List Value) : Prop := zJ p l e (zR 0 0 0) s m args below meth c g A 3 (zQi below args s g A 0 0 (wS g ad) Q) (wS g ad u) 0 0 pc lv st
def wp_X5_callsInAll_4 (Q : Int32 → (Nat → RS) → Prop) (B4 : (Nat → RS) → Int32 → Int32 → Prop) (u : (Nat → RS)) (x1 : Int32) (x2 : Int32) : Prop :=
  ((4 ≤ x2 → Q x1 u) ∧ (¬ 4 ≤ x2 → vp_in x2 4 ∧ vp_in x2 4 ∧ ∀ x104 : Int32, x104 = x1 + ((u (5 + zn x2)).1 1 0) → ∀ x105 : Int32, x105 = x2 + 1 → B4 u x104 x105))
set_option maxRecDepth 20000 in
theorem b_X5_callsInAll_4 (C : zC p s m args meth c g A cX5_callsInAll RX5 3) (hr : meth.sig.returnType = (some .int)) (ad : Nat → Nat → Nat) (Q : Int32 → (Nat → RS) → Prop) (B4 : (Nat → RS) → Int32 → Int32 → Prop) (hB4 : ∀ (u : (Nat → RS)) (x1 : Int32) (x2 : Int32), B4 u x1 x2 → j_X5_callsInAll p l e s m args below meth c g A ad Q u 4 [(0, .ref (ad 0 0)), (1, .int x1), (2, .int x2)] []) (u : (Nat → RS)) (x1 : Int32) (x2 : Int32) (h : wp_X5_callsInAll_4 Q B4 u x1 x2) : j_X5_callsInAll p l e s m args below meth c g A ad Q u 4 [(0, .ref (ad 0 0)), (1, .int x1), (2, .int x2)] [] := by
  unfold wp_X5_callsInAll_4 at h
  refine z_iload_n C dX5_callsInAll_4 rfl 2 rfl ?_
  refine z_iconst (v := 4) C dX5_callsInAll_5 (by decide) ?_
  refine z_icmp_ge C dX5_callsInAll_6 (tgt := 27) (by decide) (fun hc101 => ?_) (fun hc101 => ?_)
  · have h := h.1 hc101
    refine z_iload_n C dX5_callsInAll_27 rfl 1 rfl ?_
    exact z_iret C hr u rfl h dX5_callsInAll_28
  · have h := h.2 hc101
    refine z_iload_n C dX5_callsInAll_9 rfl 1 rfl ?_
    refine z_aload_n C dX5_callsInAll_10 rfl 0 rfl ?_
    refine Sg5_queues C fl5_34 dX5_callsInAll_11 ?_
    refine z_iload_n C dX5_callsInAll_14 rfl 2 rfl ?_
    obtain ⟨hi102, h⟩ := h
    refine Saq C hi102 dX5_callsInAll_15 ?_
    obtain ⟨hi103, h⟩ := h
    refine Sg3_calls C hi103 fl5_119 dX5_callsInAll_16 ?_
    refine z_iadd C dX5_callsInAll_19 ?_
    refine z_topi (fun x104 ex104 => ?_)
    have h := h x104 ex104
    refine z_istore_n (lv1 := [(1, .int x104), (0, .ref (ad 0 0)), (2, .int x2)]) C dX5_callsInAll_20 rfl (by decide) rfl ?_
    obtain ⟨x105, ex105⟩ : ∃ y : Int32, y = x2 + 1 := ⟨_, rfl⟩
    have h := h x105 ex105
    refine z_iinc (v := x105) (lv1 := [(2, .int x105), (1, .int x104), (0, .ref (ad 0 0))]) C dX5_callsInAll_21 2 rfl (by rw [ex105]; rfl) (by decide) rfl ?_
    refine z_goto C dX5_callsInAll_24 (tgt := 4) (by decide) ?_
    refine z_lv (lv1 := [(0, .ref (ad 0 0)), (1, .int x104), (2, .int x105)]) [2, 1, 0] rfl ?_
    exact hB4 u x104 x105 h
theorem l_X5_callsInAll_4 (C : zC p s m args meth c g A cX5_callsInAll RX5 3) (hr : meth.sig.returnType = (some .int)) (ad : Nat → Nat → Nat) (Q : Int32 → (Nat → RS) → Prop) : ∀ (n : Nat) (u : (Nat → RS)) (x1 : Int32) (x2 : Int32), zit3 (wp_X5_callsInAll_4 Q) n u x1 x2 → j_X5_callsInAll p l e s m args below meth c g A ad Q u 4 [(0, .ref (ad 0 0)), (1, .int x1), (2, .int x2)] [] := by
  intro n
  induction n with
  | zero => exact fun u x1 x2 h => h.elim
  | succ n ih => exact fun u x1 x2 h => b_X5_callsInAll_4 C hr ad Q (zit3 (wp_X5_callsInAll_4 Q) n) ih u x1 x2 h
def wp_X5_callsInAll (u : (Nat → RS)) (Q : Int32 → (Nat → RS) → Prop) : Prop :=
  (∃ n, zit3 (wp_X5_callsInAll_4 Q) n u 0 0)
set_option maxRecDepth 20000 in
theorem c_X5_callsInAll (l : Launch) (g : zG) (ad : Nat → Nat → Nat) (u : (Nat → RS)) (Q : Int32 → (Nat → RS) → Prop) (h : wp_X5_callsInAll u Q) : zMi l yX5_callsInAll cX5_callsInAll 3 (some .int) 0 0 0 g [.ref (ad 0 0)] (wS g ad u) (wS g ad) Q := by
  refine zMi_of RX5 (by decide) rfl [(0, .ref (ad 0 0))] rfl (Nat.le_of_ble_eq_true rfl) (fun p e s m args below meth c A C hr hnm => ?_)
  unfold wp_X5_callsInAll at h
  refine z_iconst (v := 0) C dX5_callsInAll_0 (by decide) ?_
  refine z_istore_n (lv1 := [(1, .int 0), (0, .ref (ad 0 0))]) C dX5_callsInAll_1 rfl (by decide) rfl ?_
  refine z_iconst (v := 0) C dX5_callsInAll_2 (by decide) ?_
  refine z_istore_n (lv1 := [(2, .int 0), (1, .int 0), (0, .ref (ad 0 0))]) C dX5_callsInAll_3 rfl (by decide) rfl ?_
  refine z_lv (lv1 := [(0, .ref (ad 0 0)), (1, .int 0), (2, .int 0)]) [2, 1, 0] rfl ?_
  obtain ⟨n9, h⟩ := h
  exact l_X5_callsInAll_4 C hr ad Q n9 u 0 0 h
abbrev j_X5_foldedFields (p : Program) (l : Launch) (e : Env) (s : State) (m : MethodId) (args : Array Value) (below : List Frame) (meth : Method) (c : Code) (g : zG) (A : Nat → Prop) (ad : Nat → Nat → Nat) (Q : Int32 → (Nat → RS) → Prop) (u : (Nat → RS)) (pc : Nat) (lv : List (Nat × Value)) (st : List Value) : Prop := zJ p l e (zR 1 0 0) s m args below meth c g A 4 (zQi below args s g A 0 0 (wS g ad) Q) (wS g ad u) 0 0 pc lv st
def wp_X5_foldedFields_32 (Q : Int32 → (Nat → RS) → Prop) (B4 : (Nat → RS) → Int32 → Int32 → Int32 → Prop) (u : (Nat → RS)) (x1 : Int32) (x2 : Int32) (x3 : Int32) : Prop :=
  ∀ x106 : Int32, x106 = x3 + 1 → B4 u x1 x2 x106
set_option maxRecDepth 20000 in
theorem b_X5_foldedFields_32 (C : zC p s m args meth c g A cX5_foldedFields RX5 4) (hr : meth.sig.returnType = (some .int)) (ad : Nat → Nat → Nat) (Q : Int32 → (Nat → RS) → Prop) (B4 : (Nat → RS) → Int32 → Int32 → Int32 → Prop) (hB4 : ∀ (u : (Nat → RS)) (x1 : Int32) (x2 : Int32) (x3 : Int32), B4 u x1 x2 x3 → j_X5_foldedFields p l e s m args below meth c g A ad Q u 4 [(0, .ref (ad 0 0)), (1, .int x1), (2, .int x2), (3, .int x3)] []) (u : (Nat → RS)) (x1 : Int32) (x2 : Int32) (x3 : Int32) (h : wp_X5_foldedFields_32 Q B4 u x1 x2 x3) : j_X5_foldedFields p l e s m args below meth c g A ad Q u 32 [(0, .ref (ad 0 0)), (1, .int x1), (2, .int x2), (3, .int x3)] [] := by
  unfold wp_X5_foldedFields_32 at h
  obtain ⟨x106, ex106⟩ : ∃ y : Int32, y = x3 + 1 := ⟨_, rfl⟩
  have h := h x106 ex106
  refine z_iinc (v := x106) (lv1 := [(3, .int x106), (0, .ref (ad 0 0)), (1, .int x1), (2, .int x2)]) C dX5_foldedFields_32 3 rfl (by rw [ex106]; rfl) (by decide) rfl ?_
  refine z_goto C dX5_foldedFields_35 (tgt := 4) (by decide) ?_
  refine z_lv (lv1 := [(0, .ref (ad 0 0)), (1, .int x1), (2, .int x2), (3, .int x106)]) [1, 2, 3, 0] rfl ?_
  exact hB4 u x1 x2 x106 h
def wp_X5_foldedFields_4 (Q : Int32 → (Nat → RS) → Prop) (B4 : (Nat → RS) → Int32 → Int32 → Int32 → Prop) (u : (Nat → RS)) (x1 : Int32) (x2 : Int32) (x3 : Int32) : Prop :=
  ((4 < x3 → Q x2 u) ∧ (¬ 4 < x3 → wp_X2_counts (u 1) x3 (fun r102 v103 => ∀ u104 : Nat → RS, u104 = va_up u 1 v103 → ((r102 = 0 → wp_X5_foldedFields_32 Q B4 u104 x1 x2 x3) ∧ (¬ r102 = 0 → wp_X0_get (u104 2) x3 x1 (fun r107 v108 => ∀ u109 : Nat → RS, u109 = va_up u104 2 v108 → ∀ x110 : Int32, x110 = x2 ^^^ r107 → wp_X5_foldedFields_32 Q B4 u109 x1 x110 x3))))))
set_option maxRecDepth 20000 in
theorem b_X5_foldedFields_4 (C : zC p s m args meth c g A cX5_foldedFields RX5 4) (hr : meth.sig.returnType = (some .int)) (ad : Nat → Nat → Nat) (Q : Int32 → (Nat → RS) → Prop) (B4 : (Nat → RS) → Int32 → Int32 → Int32 → Prop) (hB4 : ∀ (u : (Nat → RS)) (x1 : Int32) (x2 : Int32) (x3 : Int32), B4 u x1 x2 x3 → j_X5_foldedFields p l e s m args below meth c g A ad Q u 4 [(0, .ref (ad 0 0)), (1, .int x1), (2, .int x2), (3, .int x3)] []) (u : (Nat → RS)) (x1 : Int32) (x2 : Int32) (x3 : Int32) (h : wp_X5_foldedFields_4 Q B4 u x1 x2 x3) : j_X5_foldedFields p l e s m args below meth c g A ad Q u 4 [(0, .ref (ad 0 0)), (1, .int x1), (2, .int x2), (3, .int x3)] [] := by
  unfold wp_X5_foldedFields_4 at h
  refine z_iload_n C dX5_foldedFields_4 rfl 3 rfl ?_
  refine z_iconst (v := 4) C dX5_foldedFields_5 (by decide) ?_
  refine z_icmp_gt C dX5_foldedFields_6 (tgt := 38) (by decide) (fun hc101 => ?_) (fun hc101 => ?_)
  · have h := h.1 hc101
    refine z_iload_n C dX5_foldedFields_38 rfl 2 rfl ?_
    exact z_iret C hr u rfl h dX5_foldedFields_39
  · have h := h.2 hc101
    refine z_aload_n C dX5_foldedFields_9 rfl 0 rfl ?_
    refine Sg5_key C fl5_12 dX5_foldedFields_10 ?_
    refine z_iload_n C dX5_foldedFields_13 rfl 3 rfl ?_
    refine Sc2i (As := [.int x3]) C (c_X2_counts l g (ad 1) (u 1) x3 _ h) v_X2_counts ml5_95 rfl ⟨Nat.le_of_ble_eq_true rfl, Nat.le_of_ble_eq_true rfl⟩ ⟨Nat.zero_le _, Nat.zero_le _⟩ (Nat.le_of_ble_eq_true rfl) rfl dX5_foldedFields_14 ?_
    intro r102 v103 h
    refine stS (fun u104 eu104 => ?_)
    have h := h u104 eu104
    refine z_if_eq C dX5_foldedFields_17 (tgt := 32) (by decide) (fun hc105 => ?_) (fun hc105 => ?_)
    · have h := h.1 hc105
      exact b_X5_foldedFields_32 C hr ad Q B4 hB4 u104 x1 x2 x3 h
    · have h := h.2 hc105
      refine z_iload_n C dX5_foldedFields_20 rfl 2 rfl ?_
      refine z_aload_n C dX5_foldedFields_21 rfl 0 rfl ?_
      refine Sg5_flows C fl5_21 dX5_foldedFields_22 ?_
      refine z_iload_n C dX5_foldedFields_25 rfl 3 rfl ?_
      refine z_iload_n C dX5_foldedFields_26 rfl 1 rfl ?_
      refine Sc0i (As := [.int x3, .int x1]) C (c_X0_get l g (ad 2) (u104 2) x3 x1 _ h) v_X0_get ml5_87 rfl ⟨Nat.le_of_ble_eq_true rfl, Nat.le_of_ble_eq_true rfl⟩ ⟨Nat.zero_le _, Nat.zero_le _⟩ (Nat.le_of_ble_eq_true rfl) rfl dX5_foldedFields_27 ?_
      intro r107 v108 h
      refine stS (fun u109 eu109 => ?_)
      have h := h u109 eu109
      refine z_ixor C dX5_foldedFields_30 ?_
      refine z_topi (fun x110 ex110 => ?_)
      have h := h x110 ex110
      refine z_istore_n (lv1 := [(2, .int x110), (0, .ref (ad 0 0)), (1, .int x1), (3, .int x3)]) C dX5_foldedFields_31 rfl (by decide) rfl ?_
      refine z_lv (lv1 := [(0, .ref (ad 0 0)), (1, .int x1), (2, .int x110), (3, .int x3)]) [1, 2, 0, 3] rfl ?_
      exact b_X5_foldedFields_32 C hr ad Q B4 hB4 u109 x1 x110 x3 h
theorem l_X5_foldedFields_4 (C : zC p s m args meth c g A cX5_foldedFields RX5 4) (hr : meth.sig.returnType = (some .int)) (ad : Nat → Nat → Nat) (Q : Int32 → (Nat → RS) → Prop) : ∀ (n : Nat) (u : (Nat → RS)) (x1 : Int32) (x2 : Int32) (x3 : Int32), zit4 (wp_X5_foldedFields_4 Q) n u x1 x2 x3 → j_X5_foldedFields p l e s m args below meth c g A ad Q u 4 [(0, .ref (ad 0 0)), (1, .int x1), (2, .int x2), (3, .int x3)] [] := by
  intro n
  induction n with
  | zero => exact fun u x1 x2 x3 h => h.elim
  | succ n ih => exact fun u x1 x2 x3 h => b_X5_foldedFields_4 C hr ad Q (zit4 (wp_X5_foldedFields_4 Q) n) ih u x1 x2 x3 h
def wp_X5_foldedFields (u : (Nat → RS)) (x1 : Int32) (Q : Int32 → (Nat → RS) → Prop) : Prop :=
  (∃ n, zit4 (wp_X5_foldedFields_4 Q) n u x1 0 0)
set_option maxRecDepth 20000 in
theorem c_X5_foldedFields (l : Launch) (g : zG) (ad : Nat → Nat → Nat) (u : (Nat → RS)) (x1 : Int32) (Q : Int32 → (Nat → RS) → Prop) (h : wp_X5_foldedFields u x1 Q) : zMi l yX5_foldedFields cX5_foldedFields 4 (some .int) 1 0 0 g [.ref (ad 0 0), .int x1] (wS g ad u) (wS g ad) Q := by
  refine zMi_of RX5 (by decide) rfl [(0, .ref (ad 0 0)), (1, .int x1)] rfl (Nat.le_of_ble_eq_true rfl) (fun p e s m args below meth c A C hr hnm => ?_)
  unfold wp_X5_foldedFields at h
  refine z_iconst (v := 0) C dX5_foldedFields_0 (by decide) ?_
  refine z_istore_n (lv1 := [(2, .int 0), (0, .ref (ad 0 0)), (1, .int x1)]) C dX5_foldedFields_1 rfl (by decide) rfl ?_
  refine z_iconst (v := 0) C dX5_foldedFields_2 (by decide) ?_
  refine z_istore_n (lv1 := [(3, .int 0), (2, .int 0), (0, .ref (ad 0 0)), (1, .int x1)]) C dX5_foldedFields_3 rfl (by decide) rfl ?_
  refine z_lv (lv1 := [(0, .ref (ad 0 0)), (1, .int x1), (2, .int 0), (3, .int 0)]) [2, 3, 1, 0] rfl ?_
  obtain ⟨n9, h⟩ := h
  exact l_X5_foldedFields_4 C hr ad Q n9 u x1 0 0 h
abbrev j_X5_missingBytes (p : Program) (l : Launch) (e : Env) (s : State) (m : MethodId) (args : Array Value) (below : List Frame) (meth : Method) (c : Code) (g : zG) (A : Nat → Prop) (ad : Nat → Nat → Nat) (Q : Int32 → (Nat → RS) → Prop) (u : (Nat → RS)) (pc : Nat) (lv : List (Nat × Value)) (st : List Value) : Prop := zJ p l e (zR 1 0 0) s m args below meth c g A 5 (zQi below args s g A 0 0 (wS g ad) Q) (wS g ad u) 0 0 pc lv st
def wp_X5_missingBytes_88 (Q : Int32 → (Nat → RS) → Prop) (B43 : (Nat → RS) → Int32 → Int32 → Int32 → Int32 → Prop) (u : (Nat → RS)) (x1 : Int32) (x2 : Int32) (x3 : Int32) (x4 : Int32) : Prop :=
  ∀ x121 : Int32, x121 = x4 + 1 → B43 u x1 x2 x3 x121
set_option maxRecDepth 20000 in
theorem b_X5_missingBytes_88 (C : zC p s m args meth c g A cX5_missingBytes RX5 5) (hr : meth.sig.returnType = (some .int)) (ad : Nat → Nat → Nat) (Q : Int32 → (Nat → RS) → Prop) (B43 : (Nat → RS) → Int32 → Int32 → Int32 → Int32 → Prop) (hB43 : ∀ (u : (Nat → RS)) (x1 : Int32) (x2 : Int32) (x3 : Int32) (x4 : Int32), B43 u x1 x2 x3 x4 → j_X5_missingBytes p l e s m args below meth c g A ad Q u 43 [(0, .ref (ad 0 0)), (1, .int x1), (2, .int x2), (3, .int x3), (4, .int x4)] []) (u : (Nat → RS)) (x1 : Int32) (x2 : Int32) (x3 : Int32) (x4 : Int32) (h : wp_X5_missingBytes_88 Q B43 u x1 x2 x3 x4) : j_X5_missingBytes p l e s m args below meth c g A ad Q u 88 [(0, .ref (ad 0 0)), (1, .int x1), (2, .int x2), (3, .int x3), (4, .int x4)] [] := by
  unfold wp_X5_missingBytes_88 at h
  obtain ⟨x121, ex121⟩ : ∃ y : Int32, y = x4 + 1 := ⟨_, rfl⟩
  have h := h x121 ex121
  refine z_iinc (v := x121) (lv1 := [(4, .int x121), (0, .ref (ad 0 0)), (1, .int x1), (2, .int x2), (3, .int x3)]) C dX5_missingBytes_88 4 rfl (by rw [ex121]; rfl) (by decide) rfl ?_
  refine z_goto C dX5_missingBytes_91 (tgt := 43) (by decide) ?_
  refine z_lv (lv1 := [(0, .ref (ad 0 0)), (1, .int x1), (2, .int x2), (3, .int x3), (4, .int x121)]) [1, 2, 3, 4, 0] rfl ?_
  exact hB43 u x1 x2 x3 x121 h
def wp_X5_missingBytes_43 (Q : Int32 → (Nat → RS) → Prop) (B43 : (Nat → RS) → Int32 → Int32 → Int32 → Int32 → Prop) (u : (Nat → RS)) (x1 : Int32) (x2 : Int32) (x3 : Int32) (x4 : Int32) : Prop :=
  vp_in x3 4 ∧ vp_in x3 4 ∧ (((u (5 + zn x3)).1 0 0 ≤ x4 → Q x2 u) ∧ (¬ (u (5 + zn x3)).1 0 0 ≤ x4 → vp_in x3 4 ∧ vp_in x3 4 ∧ wp_X3_at (u (5 + zn x3)) x4 0 (fun r116 v117 => ∀ u119 : Nat → RS, u119 = va_up u (5 + zn x3) v117 → ((¬ r116 = x1 → wp_X5_missingBytes_88 Q B43 u119 x1 x2 x3 x4) ∧ (r116 = x1 → vp_in x3 4 ∧ vp_in x3 4 ∧ wp_X3_at (u119 (5 + zn x3)) x4 2 (fun r123 v124 => ∀ u126 : Nat → RS, u126 = va_up u119 (5 + zn x3) v124 → ∀ x127 : Int32, x127 = x2 - r123 → wp_X5_missingBytes_88 Q B43 u126 x1 x127 x3 x4))))))
set_option maxRecDepth 20000 in
theorem b_X5_missingBytes_43 (C : zC p s m args meth c g A cX5_missingBytes RX5 5) (hr : meth.sig.returnType = (some .int)) (ad : Nat → Nat → Nat) (Q : Int32 → (Nat → RS) → Prop) (B43 : (Nat → RS) → Int32 → Int32 → Int32 → Int32 → Prop) (hB43 : ∀ (u : (Nat → RS)) (x1 : Int32) (x2 : Int32) (x3 : Int32) (x4 : Int32), B43 u x1 x2 x3 x4 → j_X5_missingBytes p l e s m args below meth c g A ad Q u 43 [(0, .ref (ad 0 0)), (1, .int x1), (2, .int x2), (3, .int x3), (4, .int x4)] []) (u : (Nat → RS)) (x1 : Int32) (x2 : Int32) (x3 : Int32) (x4 : Int32) (h : wp_X5_missingBytes_43 Q B43 u x1 x2 x3 x4) : j_X5_missingBytes p l e s m args below meth c g A ad Q u 43 [(0, .ref (ad 0 0)), (1, .int x1), (2, .int x2), (3, .int x3), (4, .int x4)] [] := by
  unfold wp_X5_missingBytes_43 at h
  refine z_iload C dX5_missingBytes_43 4 rfl ?_
  refine z_aload_n C dX5_missingBytes_45 rfl 0 rfl ?_
  refine Sg5_queues C fl5_34 dX5_missingBytes_46 ?_
  refine z_iload_n C dX5_missingBytes_49 rfl 3 rfl ?_
  obtain ⟨hi112, h⟩ := h
  refine Saq C hi112 dX5_missingBytes_50 ?_
  obtain ⟨hi113, h⟩ := h
  refine Sg3_number C hi113 fl5_118 dX5_missingBytes_51 ?_
  refine z_icmp_ge C dX5_missingBytes_54 (tgt := 94) (by decide) (fun hc114 => ?_) (fun hc114 => ?_)
  · have h := h.1 hc114
    refine z_iload_n C dX5_missingBytes_94 rfl 2 rfl ?_
    exact z_iret C hr u rfl h dX5_missingBytes_95
  · have h := h.2 hc114
    refine z_aload_n C dX5_missingBytes_57 rfl 0 rfl ?_
    refine Sg5_queues C fl5_34 dX5_missingBytes_58 ?_
    refine z_iload_n C dX5_missingBytes_61 rfl 3 rfl ?_
    obtain ⟨hi115, h⟩ := h
    refine Saq C hi115 dX5_missingBytes_62 ?_
    refine z_iload C dX5_missingBytes_63 4 rfl ?_
    refine z_iconst (v := 0) C dX5_missingBytes_65 (by decide) ?_
    obtain ⟨hi118, h⟩ := h
    refine Sc3i (As := [.int x4, .int 0]) C hi118 (c_X3_at l g (ad (5 + zn x3)) (u (5 + zn x3)) x4 0 _ h) v_X3_at ml5_164 rfl ⟨Nat.le_of_ble_eq_true rfl, Nat.le_of_ble_eq_true rfl⟩ ⟨Nat.zero_le _, Nat.zero_le _⟩ (Nat.le_of_ble_eq_true rfl) rfl dX5_missingBytes_66 ?_
    intro r116 v117 h
    refine stS (fun u119 eu119 => ?_)
    have h := h u119 eu119
    refine z_iload_n C dX5_missingBytes_69 rfl 1 rfl ?_
    refine z_icmp_ne C dX5_missingBytes_70 (tgt := 88) (by decide) (fun hc120 => ?_) (fun hc120 => ?_)
    · have h := h.1 hc120
      exact b_X5_missingBytes_88 C hr ad Q B43 hB43 u119 x1 x2 x3 x4 h
    · have h := h.2 hc120
      refine z_iload_n C dX5_missingBytes_73 rfl 2 rfl ?_
      refine z_aload_n C dX5_missingBytes_74 rfl 0 rfl ?_
      refine Sg5_queues C fl5_34 dX5_missingBytes_75 ?_
      refine z_iload_n C dX5_missingBytes_78 rfl 3 rfl ?_
      obtain ⟨hi122, h⟩ := h
      refine Saq C hi122 dX5_missingBytes_79 ?_
      refine z_iload C dX5_missingBytes_80 4 rfl ?_
      refine z_iconst (v := 2) C dX5_missingBytes_82 (by decide) ?_
      obtain ⟨hi125, h⟩ := h
      refine Sc3i (As := [.int x4, .int 2]) C hi125 (c_X3_at l g (ad (5 + zn x3)) (u119 (5 + zn x3)) x4 2 _ h) v_X3_at ml5_164 rfl ⟨Nat.le_of_ble_eq_true rfl, Nat.le_of_ble_eq_true rfl⟩ ⟨Nat.zero_le _, Nat.zero_le _⟩ (Nat.le_of_ble_eq_true rfl) rfl dX5_missingBytes_83 ?_
      intro r123 v124 h
      refine stS (fun u126 eu126 => ?_)
      have h := h u126 eu126
      refine z_isub C dX5_missingBytes_86 ?_
      refine z_topi (fun x127 ex127 => ?_)
      have h := h x127 ex127
      refine z_istore_n (lv1 := [(2, .int x127), (0, .ref (ad 0 0)), (1, .int x1), (3, .int x3), (4, .int x4)]) C dX5_missingBytes_87 rfl (by decide) rfl ?_
      refine z_lv (lv1 := [(0, .ref (ad 0 0)), (1, .int x1), (2, .int x127), (3, .int x3), (4, .int x4)]) [1, 2, 0, 3, 4] rfl ?_
      exact b_X5_missingBytes_88 C hr ad Q B43 hB43 u126 x1 x127 x3 x4 h
theorem l_X5_missingBytes_43 (C : zC p s m args meth c g A cX5_missingBytes RX5 5) (hr : meth.sig.returnType = (some .int)) (ad : Nat → Nat → Nat) (Q : Int32 → (Nat → RS) → Prop) : ∀ (n : Nat) (u : (Nat → RS)) (x1 : Int32) (x2 : Int32) (x3 : Int32) (x4 : Int32), zit5 (wp_X5_missingBytes_43 Q) n u x1 x2 x3 x4 → j_X5_missingBytes p l e s m args below meth c g A ad Q u 43 [(0, .ref (ad 0 0)), (1, .int x1), (2, .int x2), (3, .int x3), (4, .int x4)] [] := by
  intro n
  induction n with
  | zero => exact fun u x1 x2 x3 x4 h => h.elim
  | succ n ih => exact fun u x1 x2 x3 x4 h => b_X5_missingBytes_43 C hr ad Q (zit5 (wp_X5_missingBytes_43 Q) n) ih u x1 x2 x3 x4 h
def wp_X5_missingBytes (u : (Nat → RS)) (x1 : Int32) (Q : Int32 → (Nat → RS) → Prop) : Prop :=
  wp_X0_get (u 2) 9 x1 (fun r101 v102 => ∀ u103 : Nat → RS, u103 = va_up u 2 v102 → wp_X0_get (u103 2) 19 x1 (fun r104 v105 => ∀ u106 : Nat → RS, u106 = va_up u103 2 v105 → ∀ x107 : Int32, x107 = r101 - r104 → wp_X0_get (u106 2) 7 x1 (fun r108 v109 => ∀ u110 : Nat → RS, u110 = va_up u106 2 v109 → ((¬ r108 = (-1) → (∃ n, zit5 (wp_X5_missingBytes_43 Q) n u110 x1 x107 r108 0)) ∧ (r108 = (-1) → Q x107 u110)))))
set_option maxRecDepth 20000 in
theorem c_X5_missingBytes (l : Launch) (g : zG) (ad : Nat → Nat → Nat) (u : (Nat → RS)) (x1 : Int32) (Q : Int32 → (Nat → RS) → Prop) (h : wp_X5_missingBytes u x1 Q) : zMi l yX5_missingBytes cX5_missingBytes 5 (some .int) 1 0 0 g [.ref (ad 0 0), .int x1] (wS g ad u) (wS g ad) Q := by
  refine zMi_of RX5 (by decide) rfl [(0, .ref (ad 0 0)), (1, .int x1)] rfl (Nat.le_of_ble_eq_true rfl) (fun p e s m args below meth c A C hr hnm => ?_)
  unfold wp_X5_missingBytes at h
  refine z_aload_n C dX5_missingBytes_0 rfl 0 rfl ?_
  refine Sg5_flows C fl5_21 dX5_missingBytes_1 ?_
  refine z_bipush (v := 9) C dX5_missingBytes_4 (by decide) ?_
  refine z_iload_n C dX5_missingBytes_6 rfl 1 rfl ?_
  refine Sc0i (As := [.int 9, .int x1]) C (c_X0_get l g (ad 2) (u 2) 9 x1 _ h) v_X0_get ml5_87 rfl ⟨Nat.le_of_ble_eq_true rfl, Nat.le_of_ble_eq_true rfl⟩ ⟨Nat.zero_le _, Nat.zero_le _⟩ (Nat.le_of_ble_eq_true rfl) rfl dX5_missingBytes_7 ?_
  intro r101 v102 h
  refine stS (fun u103 eu103 => ?_)
  have h := h u103 eu103
  refine z_aload_n C dX5_missingBytes_10 rfl 0 rfl ?_
  refine Sg5_flows C fl5_21 dX5_missingBytes_11 ?_
  refine z_bipush (v := 19) C dX5_missingBytes_14 (by decide) ?_
  refine z_iload_n C dX5_missingBytes_16 rfl 1 rfl ?_
  refine Sc0i (As := [.int 19, .int x1]) C (c_X0_get l g (ad 2) (u103 2) 19 x1 _ h) v_X0_get ml5_87 rfl ⟨Nat.le_of_ble_eq_true rfl, Nat.le_of_ble_eq_true rfl⟩ ⟨Nat.zero_le _, Nat.zero_le _⟩ (Nat.le_of_ble_eq_true rfl) rfl dX5_missingBytes_17 ?_
  intro r104 v105 h
  refine stS (fun u106 eu106 => ?_)
  have h := h u106 eu106
  refine z_isub C dX5_missingBytes_20 ?_
  refine z_topi (fun x107 ex107 => ?_)
  have h := h x107 ex107
  refine z_istore_n (lv1 := [(2, .int x107), (0, .ref (ad 0 0)), (1, .int x1)]) C dX5_missingBytes_21 rfl (by decide) rfl ?_
  refine z_aload_n C dX5_missingBytes_22 rfl 1 rfl ?_
  refine Sg5_flows C fl5_21 dX5_missingBytes_23 ?_
  refine z_bipush (v := 7) C dX5_missingBytes_26 (by decide) ?_
  refine z_iload_n C dX5_missingBytes_28 rfl 2 rfl ?_
  refine Sc0i (As := [.int 7, .int x1]) C (c_X0_get l g (ad 2) (u106 2) 7 x1 _ h) v_X0_get ml5_87 rfl ⟨Nat.le_of_ble_eq_true rfl, Nat.le_of_ble_eq_true rfl⟩ ⟨Nat.zero_le _, Nat.zero_le _⟩ (Nat.le_of_ble_eq_true rfl) rfl dX5_missingBytes_29 ?_
  intro r108 v109 h
  refine stS (fun u110 eu110 => ?_)
  have h := h u110 eu110
  refine z_istore_n (lv1 := [(3, .int r108), (2, .int x107), (0, .ref (ad 0 0)), (1, .int x1)]) C dX5_missingBytes_32 rfl (by decide) rfl ?_
  refine z_iload_n C dX5_missingBytes_33 rfl 0 rfl ?_
  refine z_iconst (v := (-1)) C dX5_missingBytes_34 (by decide) ?_
  refine z_icmp_ne C dX5_missingBytes_35 (tgt := 40) (by decide) (fun hc111 => ?_) (fun hc111 => ?_)
  · have h := h.1 hc111
    refine z_iconst (v := 0) C dX5_missingBytes_40 (by decide) ?_
    refine z_istore (lv1 := [(4, .int 0), (3, .int r108), (2, .int x107), (0, .ref (ad 0 0)), (1, .int x1)]) C dX5_missingBytes_41 (by decide) rfl ?_
    refine z_lv (lv1 := [(0, .ref (ad 0 0)), (1, .int x1), (2, .int x107), (3, .int r108), (4, .int 0)]) [3, 4, 2, 1, 0] rfl ?_
    obtain ⟨n9, h⟩ := h
    exact l_X5_missingBytes_43 C hr ad Q n9 u110 x1 x107 r108 0 h
  · have h := h.2 hc111
    refine z_iload_n C dX5_missingBytes_38 rfl 1 rfl ?_
    exact z_iret C hr u110 rfl h dX5_missingBytes_39
abbrev j_X5_widestHole (p : Program) (l : Launch) (e : Env) (s : State) (m : MethodId) (args : Array Value) (below : List Frame) (meth : Method) (c : Code) (g : zG) (A : Nat → Prop) (ad : Nat → Nat → Nat) (Q : Int32 → (Nat → RS) → Prop) (u : (Nat → RS)) (pc : Nat) (lv : List (Nat × Value)) (st : List Value) : Prop := zJ p l e (zR 1 0 0) s m args below meth c g A 7 (zQi below args s g A 0 0 (wS g ad) Q) (wS g ad u) 0 0 pc lv st
def wp_X5_widestHole_113 (Q : Int32 → (Nat → RS) → Prop) (u : (Nat → RS)) (x1 : Int32) (x2 : Int32) (x3 : Int32) : Prop :=
  wp_X0_get (u 2) 9 x1 (fun r108 v109 => ∀ u110 : Nat → RS, u110 = va_up u 2 v109 → Q (zmax x3 (r108 - x2)) u110)
set_option maxRecDepth 20000 in
theorem b_X5_widestHole_113 (C : zC p s m args meth c g A cX5_widestHole RX5 7) (hr : meth.sig.returnType = (some .int)) (ad : Nat → Nat → Nat) (Q : Int32 → (Nat → RS) → Prop) (u : (Nat → RS)) (x1 : Int32) (x2 : Int32) (x3 : Int32) (h : wp_X5_widestHole_113 Q u x1 x2 x3) : j_X5_widestHole p l e s m args below meth c g A ad Q u 113 [(0, .ref (ad 0 0)), (1, .int x1), (2, .int x2), (3, .int x3)] [] := by
  unfold wp_X5_widestHole_113 at h
  refine z_iload_n C dX5_widestHole_113 rfl 3 rfl ?_
  refine z_aload_n C dX5_widestHole_114 rfl 0 rfl ?_
  refine Sg5_flows C fl5_21 dX5_widestHole_115 ?_
  refine z_bipush (v := 9) C dX5_widestHole_118 (by decide) ?_
  refine z_iload_n C dX5_widestHole_120 rfl 1 rfl ?_
  refine Sc0i (As := [.int 9, .int x1]) C (c_X0_get l g (ad 2) (u 2) 9 x1 _ h) v_X0_get ml5_87 rfl ⟨Nat.le_of_ble_eq_true rfl, Nat.le_of_ble_eq_true rfl⟩ ⟨Nat.zero_le _, Nat.zero_le _⟩ (Nat.le_of_ble_eq_true rfl) rfl dX5_widestHole_121 ?_
  intro r108 v109 h
  refine stS (fun u110 eu110 => ?_)
  have h := h u110 eu110
  refine z_iload_n C dX5_widestHole_124 rfl 2 rfl ?_
  refine z_isub C dX5_widestHole_125 ?_
  refine z_mmax C mj5_203 (Nat.le_of_ble_eq_true rfl) (Nat.le_of_ble_eq_true rfl) ⟨Nat.zero_le _, Nat.zero_le _⟩ dX5_widestHole_126 ?_
  exact z_iret C hr u110 rfl h dX5_widestHole_129
def wp_X5_widestHole_107 (Q : Int32 → (Nat → RS) → Prop) (B28 : (Nat → RS) → Int32 → Int32 → Int32 → Int32 → Int32 → Prop) (u : (Nat → RS)) (x1 : Int32) (x2 : Int32) (x3 : Int32) (x4 : Int32) (x5 : Int32) : Prop :=
  ∀ x120 : Int32, x120 = x5 + 1 → B28 u x1 x2 x3 x4 x120
set_option maxRecDepth 20000 in
theorem b_X5_widestHole_107 (C : zC p s m args meth c g A cX5_widestHole RX5 7) (hr : meth.sig.returnType = (some .int)) (ad : Nat → Nat → Nat) (Q : Int32 → (Nat → RS) → Prop) (B28 : (Nat → RS) → Int32 → Int32 → Int32 → Int32 → Int32 → Prop) (hB28 : ∀ (u : (Nat → RS)) (x1 : Int32) (x2 : Int32) (x3 : Int32) (x4 : Int32) (x5 : Int32), B28 u x1 x2 x3 x4 x5 → j_X5_widestHole p l e s m args below meth c g A ad Q u 28 [(0, .ref (ad 0 0)), (1, .int x1), (2, .int x2), (3, .int x3), (4, .int x4), (5, .int x5)] []) (u : (Nat → RS)) (x1 : Int32) (x2 : Int32) (x3 : Int32) (x4 : Int32) (x5 : Int32) (h : wp_X5_widestHole_107 Q B28 u x1 x2 x3 x4 x5) : j_X5_widestHole p l e s m args below meth c g A ad Q u 107 [(0, .ref (ad 0 0)), (1, .int x1), (2, .int x2), (3, .int x3), (4, .int x4), (5, .int x5)] [] := by
  unfold wp_X5_widestHole_107 at h
  obtain ⟨x120, ex120⟩ : ∃ y : Int32, y = x5 + 1 := ⟨_, rfl⟩
  have h := h x120 ex120
  refine z_iinc (v := x120) (lv1 := [(5, .int x120), (0, .ref (ad 0 0)), (1, .int x1), (2, .int x2), (3, .int x3), (4, .int x4)]) C dX5_widestHole_107 5 rfl (by rw [ex120]; rfl) (by decide) rfl ?_
  refine z_goto C dX5_widestHole_110 (tgt := 28) (by decide) ?_
  refine z_lv (lv1 := [(0, .ref (ad 0 0)), (1, .int x1), (2, .int x2), (3, .int x3), (4, .int x4), (5, .int x120)]) [1, 2, 3, 4, 5, 0] rfl ?_
  exact hB28 u x1 x2 x3 x4 x120 h
def wp_X5_widestHole_28 (Q : Int32 → (Nat → RS) → Prop) (B28 : (Nat → RS) → Int32 → Int32 → Int32 → Int32 → Int32 → Prop) (u : (Nat → RS)) (x1 : Int32) (x2 : Int32) (x3 : Int32) (x4 : Int32) (x5 : Int32) : Prop :=
  ((x4 = (-1) → wp_X5_widestHole_113 Q u x1 x2 x3) ∧ (¬ x4 = (-1) → vp_in x4 4 ∧ vp_in x4 4 ∧ (((u (5 + zn x4)).1 0 0 ≤ x5 → wp_X5_widestHole_113 Q u x1 x2 x3) ∧ (¬ (u (5 + zn x4)).1 0 0 ≤ x5 → vp_in x4 4 ∧ vp_in x4 4 ∧ wp_X3_at (u (5 + zn x4)) x5 0 (fun r115 v116 => ∀ u118 : Nat → RS, u118 = va_up u (5 + zn x4) v116 → ((¬ r115 = x1 → wp_X5_widestHole_107 Q B28 u118 x1 x2 x3 x4 x5) ∧ (r115 = x1 → vp_in x4 4 ∧ vp_in x4 4 ∧ wp_X3_at (u118 (5 + zn x4)) x5 1 (fun r122 v123 => ∀ u125 : Nat → RS, u125 = va_up u118 (5 + zn x4) v123 → ∀ x126 : Int32, x126 = zmax x3 (r122 - x2) → vp_in x4 4 ∧ vp_in x4 4 ∧ wp_X3_at (u125 (5 + zn x4)) x5 2 (fun r128 v129 => ∀ u131 : Nat → RS, u131 = va_up u125 (5 + zn x4) v129 → ∀ x132 : Int32, x132 = r122 + r128 → wp_X5_widestHole_107 Q B28 u131 x1 x132 x126 x4 x5)))))))))
set_option maxRecDepth 20000 in
theorem b_X5_widestHole_28 (C : zC p s m args meth c g A cX5_widestHole RX5 7) (hr : meth.sig.returnType = (some .int)) (ad : Nat → Nat → Nat) (Q : Int32 → (Nat → RS) → Prop) (B28 : (Nat → RS) → Int32 → Int32 → Int32 → Int32 → Int32 → Prop) (hB28 : ∀ (u : (Nat → RS)) (x1 : Int32) (x2 : Int32) (x3 : Int32) (x4 : Int32) (x5 : Int32), B28 u x1 x2 x3 x4 x5 → j_X5_widestHole p l e s m args below meth c g A ad Q u 28 [(0, .ref (ad 0 0)), (1, .int x1), (2, .int x2), (3, .int x3), (4, .int x4), (5, .int x5)] []) (u : (Nat → RS)) (x1 : Int32) (x2 : Int32) (x3 : Int32) (x4 : Int32) (x5 : Int32) (h : wp_X5_widestHole_28 Q B28 u x1 x2 x3 x4 x5) : j_X5_widestHole p l e s m args below meth c g A ad Q u 28 [(0, .ref (ad 0 0)), (1, .int x1), (2, .int x2), (3, .int x3), (4, .int x4), (5, .int x5)] [] := by
  unfold wp_X5_widestHole_28 at h
  refine z_iload C dX5_widestHole_28 4 rfl ?_
  refine z_iconst (v := (-1)) C dX5_widestHole_30 (by decide) ?_
  refine z_icmp_eq C dX5_widestHole_31 (tgt := 113) (by decide) (fun hc107 => ?_) (fun hc107 => ?_)
  · have h := h.1 hc107
    refine z_lv (lv1 := [(0, .ref (ad 0 0)), (1, .int x1), (2, .int x2), (3, .int x3)]) [0, 1, 2, 3] rfl ?_
    exact b_X5_widestHole_113 C hr ad Q u x1 x2 x3 h
  · have h := h.2 hc107
    refine z_iload C dX5_widestHole_34 5 rfl ?_
    refine z_aload_n C dX5_widestHole_36 rfl 0 rfl ?_
    refine Sg5_queues C fl5_34 dX5_widestHole_37 ?_
    refine z_iload C dX5_widestHole_40 4 rfl ?_
    obtain ⟨hi111, h⟩ := h
    refine Saq C hi111 dX5_widestHole_42 ?_
    obtain ⟨hi112, h⟩ := h
    refine Sg3_number C hi112 fl5_118 dX5_widestHole_43 ?_
    refine z_icmp_ge C dX5_widestHole_46 (tgt := 113) (by decide) (fun hc113 => ?_) (fun hc113 => ?_)
    · have h := h.1 hc113
      refine z_lv (lv1 := [(0, .ref (ad 0 0)), (1, .int x1), (2, .int x2), (3, .int x3)]) [0, 1, 2, 3] rfl ?_
      exact b_X5_widestHole_113 C hr ad Q u x1 x2 x3 h
    · have h := h.2 hc113
      refine z_aload_n C dX5_widestHole_49 rfl 0 rfl ?_
      refine Sg5_queues C fl5_34 dX5_widestHole_50 ?_
      refine z_iload C dX5_widestHole_53 4 rfl ?_
      obtain ⟨hi114, h⟩ := h
      refine Saq C hi114 dX5_widestHole_55 ?_
      refine z_iload C dX5_widestHole_56 5 rfl ?_
      refine z_iconst (v := 0) C dX5_widestHole_58 (by decide) ?_
      obtain ⟨hi117, h⟩ := h
      refine Sc3i (As := [.int x5, .int 0]) C hi117 (c_X3_at l g (ad (5 + zn x4)) (u (5 + zn x4)) x5 0 _ h) v_X3_at ml5_164 rfl ⟨Nat.le_of_ble_eq_true rfl, Nat.le_of_ble_eq_true rfl⟩ ⟨Nat.zero_le _, Nat.zero_le _⟩ (Nat.le_of_ble_eq_true rfl) rfl dX5_widestHole_59 ?_
      intro r115 v116 h
      refine stS (fun u118 eu118 => ?_)
      have h := h u118 eu118
      refine z_iload_n C dX5_widestHole_62 rfl 1 rfl ?_
      refine z_icmp_ne C dX5_widestHole_63 (tgt := 107) (by decide) (fun hc119 => ?_) (fun hc119 => ?_)
      · have h := h.1 hc119
        exact b_X5_widestHole_107 C hr ad Q B28 hB28 u118 x1 x2 x3 x4 x5 h
      · have h := h.2 hc119
        refine z_aload_n C dX5_widestHole_66 rfl 0 rfl ?_
        refine Sg5_queues C fl5_34 dX5_widestHole_67 ?_
        refine z_iload C dX5_widestHole_70 4 rfl ?_
        obtain ⟨hi121, h⟩ := h
        refine Saq C hi121 dX5_widestHole_72 ?_
        refine z_iload C dX5_widestHole_73 5 rfl ?_
        refine z_iconst (v := 1) C dX5_widestHole_75 (by decide) ?_
        obtain ⟨hi124, h⟩ := h
        refine Sc3i (As := [.int x5, .int 1]) C hi124 (c_X3_at l g (ad (5 + zn x4)) (u118 (5 + zn x4)) x5 1 _ h) v_X3_at ml5_164 rfl ⟨Nat.le_of_ble_eq_true rfl, Nat.le_of_ble_eq_true rfl⟩ ⟨Nat.zero_le _, Nat.zero_le _⟩ (Nat.le_of_ble_eq_true rfl) rfl dX5_widestHole_76 ?_
        intro r122 v123 h
        refine stS (fun u125 eu125 => ?_)
        have h := h u125 eu125
        refine z_istore (lv1 := [(6, .int r122), (0, .ref (ad 0 0)), (1, .int x1), (2, .int x2), (3, .int x3), (4, .int x4), (5, .int x5)]) C dX5_widestHole_79 (by decide) rfl ?_
        refine z_iload_n C dX5_widestHole_81 rfl 4 rfl ?_
        refine z_iload C dX5_widestHole_82 0 rfl ?_
        refine z_iload_n C dX5_widestHole_84 rfl 3 rfl ?_
        refine z_isub C dX5_widestHole_85 ?_
        refine z_mmax C mj5_203 (Nat.le_of_ble_eq_true rfl) (Nat.le_of_ble_eq_true rfl) ⟨Nat.zero_le _, Nat.zero_le _⟩ dX5_widestHole_86 ?_
        refine z_topi (fun x126 ex126 => ?_)
        have h := h x126 ex126
        refine z_istore_n (lv1 := [(3, .int x126), (6, .int r122), (0, .ref (ad 0 0)), (1, .int x1), (2, .int x2), (4, .int x4), (5, .int x5)]) C dX5_widestHole_89 rfl (by decide) rfl ?_
        refine z_iload C dX5_widestHole_90 1 rfl ?_
        refine z_aload_n C dX5_widestHole_92 rfl 2 rfl ?_
        refine Sg5_queues C fl5_34 dX5_widestHole_93 ?_
        refine z_iload C dX5_widestHole_96 5 rfl ?_
        obtain ⟨hi127, h⟩ := h
        refine Saq C hi127 dX5_widestHole_98 ?_
        refine z_iload C dX5_widestHole_99 6 rfl ?_
        refine z_iconst (v := 2) C dX5_widestHole_101 (by decide) ?_
        obtain ⟨hi130, h⟩ := h
        refine Sc3i (As := [.int x5, .int 2]) C hi130 (c_X3_at l g (ad (5 + zn x4)) (u125 (5 + zn x4)) x5 2 _ h) v_X3_at ml5_164 rfl ⟨Nat.le_of_ble_eq_true rfl, Nat.le_of_ble_eq_true rfl⟩ ⟨Nat.zero_le _, Nat.zero_le _⟩ (Nat.le_of_ble_eq_true rfl) rfl dX5_widestHole_102 ?_
        intro r128 v129 h
        refine stS (fun u131 eu131 => ?_)
        have h := h u131 eu131
        refine z_iadd C dX5_widestHole_105 ?_
        refine z_topi (fun x132 ex132 => ?_)
        have h := h x132 ex132
        refine z_istore_n (lv1 := [(2, .int x132), (3, .int x126), (6, .int r122), (0, .ref (ad 0 0)), (1, .int x1), (4, .int x4), (5, .int x5)]) C dX5_widestHole_106 rfl (by decide) rfl ?_
        refine z_lv (lv1 := [(0, .ref (ad 0 0)), (1, .int x1), (2, .int x132), (3, .int x126), (4, .int x4), (5, .int x5)]) [3, 4, 0, 1, 5, 6] rfl ?_
        exact b_X5_widestHole_107 C hr ad Q B28 hB28 u131 x1 x132 x126 x4 x5 h
theorem l_X5_widestHole_28 (C : zC p s m args meth c g A cX5_widestHole RX5 7) (hr : meth.sig.returnType = (some .int)) (ad : Nat → Nat → Nat) (Q : Int32 → (Nat → RS) → Prop) : ∀ (n : Nat) (u : (Nat → RS)) (x1 : Int32) (x2 : Int32) (x3 : Int32) (x4 : Int32) (x5 : Int32), zit6 (wp_X5_widestHole_28 Q) n u x1 x2 x3 x4 x5 → j_X5_widestHole p l e s m args below meth c g A ad Q u 28 [(0, .ref (ad 0 0)), (1, .int x1), (2, .int x2), (3, .int x3), (4, .int x4), (5, .int x5)] [] := by
  intro n
  induction n with
  | zero => exact fun u x1 x2 x3 x4 x5 h => h.elim
  | succ n ih => exact fun u x1 x2 x3 x4 x5 h => b_X5_widestHole_28 C hr ad Q (zit6 (wp_X5_widestHole_28 Q) n) ih u x1 x2 x3 x4 x5 h
def wp_X5_widestHole (u : (Nat → RS)) (x1 : Int32) (Q : Int32 → (Nat → RS) → Prop) : Prop :=
  wp_X0_get (u 2) 15 x1 (fun r101 v102 => ∀ u103 : Nat → RS, u103 = va_up u 2 v102 → wp_X0_get (u103 2) 7 x1 (fun r104 v105 => ∀ u106 : Nat → RS, u106 = va_up u103 2 v105 → (∃ n, zit6 (wp_X5_widestHole_28 Q) n u106 x1 r101 0 r104 0)))
set_option maxRecDepth 20000 in
theorem c_X5_widestHole (l : Launch) (g : zG) (ad : Nat → Nat → Nat) (u : (Nat → RS)) (x1 : Int32) (Q : Int32 → (Nat → RS) → Prop) (h : wp_X5_widestHole u x1 Q) : zMi l yX5_widestHole cX5_widestHole 7 (some .int) 1 0 0 g [.ref (ad 0 0), .int x1] (wS g ad u) (wS g ad) Q := by
  refine zMi_of RX5 (by decide) rfl [(0, .ref (ad 0 0)), (1, .int x1)] rfl (Nat.le_of_ble_eq_true rfl) (fun p e s m args below meth c A C hr hnm => ?_)
  unfold wp_X5_widestHole at h
  refine z_aload_n C dX5_widestHole_0 rfl 0 rfl ?_
  refine Sg5_flows C fl5_21 dX5_widestHole_1 ?_
  refine z_bipush (v := 15) C dX5_widestHole_4 (by decide) ?_
  refine z_iload_n C dX5_widestHole_6 rfl 1 rfl ?_
  refine Sc0i (As := [.int 15, .int x1]) C (c_X0_get l g (ad 2) (u 2) 15 x1 _ h) v_X0_get ml5_87 rfl ⟨Nat.le_of_ble_eq_true rfl, Nat.le_of_ble_eq_true rfl⟩ ⟨Nat.zero_le _, Nat.zero_le _⟩ (Nat.le_of_ble_eq_true rfl) rfl dX5_widestHole_7 ?_
  intro r101 v102 h
  refine stS (fun u103 eu103 => ?_)
  have h := h u103 eu103
  refine z_istore_n (lv1 := [(2, .int r101), (0, .ref (ad 0 0)), (1, .int x1)]) C dX5_widestHole_10 rfl (by decide) rfl ?_
  refine z_iconst (v := 0) C dX5_widestHole_11 (by decide) ?_
  refine z_istore_n (lv1 := [(3, .int 0), (2, .int r101), (0, .ref (ad 0 0)), (1, .int x1)]) C dX5_widestHole_12 rfl (by decide) rfl ?_
  refine z_aload_n C dX5_widestHole_13 rfl 2 rfl ?_
  refine Sg5_flows C fl5_21 dX5_widestHole_14 ?_
  refine z_bipush (v := 7) C dX5_widestHole_17 (by decide) ?_
  refine z_iload_n C dX5_widestHole_19 rfl 3 rfl ?_
  refine Sc0i (As := [.int 7, .int x1]) C (c_X0_get l g (ad 2) (u103 2) 7 x1 _ h) v_X0_get ml5_87 rfl ⟨Nat.le_of_ble_eq_true rfl, Nat.le_of_ble_eq_true rfl⟩ ⟨Nat.zero_le _, Nat.zero_le _⟩ (Nat.le_of_ble_eq_true rfl) rfl dX5_widestHole_20 ?_
  intro r104 v105 h
  refine stS (fun u106 eu106 => ?_)
  have h := h u106 eu106
  refine z_istore (lv1 := [(4, .int r104), (3, .int 0), (2, .int r101), (0, .ref (ad 0 0)), (1, .int x1)]) C dX5_widestHole_23 (by decide) rfl ?_
  refine z_iconst (v := 0) C dX5_widestHole_25 (by decide) ?_
  refine z_istore (lv1 := [(5, .int 0), (4, .int r104), (3, .int 0), (2, .int r101), (0, .ref (ad 0 0)), (1, .int x1)]) C dX5_widestHole_26 (by decide) rfl ?_
  refine z_lv (lv1 := [(0, .ref (ad 0 0)), (1, .int x1), (2, .int r101), (3, .int 0), (4, .int r104), (5, .int 0)]) [4, 5, 3, 2, 1, 0] rfl ?_
  obtain ⟨n9, h⟩ := h
  exact l_X5_widestHole_28 C hr ad Q n9 u106 x1 r101 0 r104 0 h
abbrev j_X5_hashFlow (p : Program) (l : Launch) (e : Env) (s : State) (m : MethodId) (args : Array Value) (below : List Frame) (meth : Method) (c : Code) (g : zG) (A : Nat → Prop) (ad : Nat → Nat → Nat) (Q : Int32 → (Nat → RS) → Prop) (u : (Nat → RS)) (pc : Nat) (lv : List (Nat × Value)) (st : List Value) : Prop := zJ p l e (zR 3 0 0) s m args below meth c g A 2 (zQi below args s g A 0 0 (wS g ad) Q) (wS g ad u) 0 0 pc lv st
def wp_X5_hashFlow (u : (Nat → RS)) (x1 : Int32) (Q : Int32 → (Nat → RS) → Prop) : Prop :=
  wp_X0_get (u 2) 0 x1 (fun r101 v102 => ∀ u103 : Nat → RS, u103 = va_up u 2 v102 → wp_X0_get (u103 2) 1 x1 (fun r104 v105 => ∀ u106 : Nat → RS, u106 = va_up u103 2 v105 → wp_X0_get (u106 2) 2 x1 (fun r107 v108 => ∀ u109 : Nat → RS, u109 = va_up u106 2 v108 → wp_X0_get (u109 2) 3 x1 (fun r110 v111 => ∀ u112 : Nat → RS, u112 = va_up u109 2 v111 → wp_X0_get (u112 2) 4 x1 (fun r113 v114 => ∀ u115 : Nat → RS, u115 = va_up u112 2 v114 → wp_X2_hashFields (u115 1) r101 r104 r107 r110 r113 (fun r116 v117 => ∀ u118 : Nat → RS, u118 = va_up u115 1 v117 → Q r116 u118))))))
set_option maxRecDepth 20000 in
theorem c_X5_hashFlow (l : Launch) (g : zG) (ad : Nat → Nat → Nat) (u : (Nat → RS)) (x1 : Int32) (Q : Int32 → (Nat → RS) → Prop) (h : wp_X5_hashFlow u x1 Q) : zMi l yX5_hashFlow cX5_hashFlow 2 (some .int) 3 0 0 g [.ref (ad 0 0), .int x1] (wS g ad u) (wS g ad) Q := by
  refine zMi_of RX5 (by decide) rfl [(0, .ref (ad 0 0)), (1, .int x1)] rfl (Nat.le_of_ble_eq_true rfl) (fun p e s m args below meth c A C hr hnm => ?_)
  unfold wp_X5_hashFlow at h
  refine z_aload_n C dX5_hashFlow_0 rfl 0 rfl ?_
  refine Sg5_key C fl5_12 dX5_hashFlow_1 ?_
  refine z_aload_n C dX5_hashFlow_4 rfl 0 rfl ?_
  refine Sg5_flows C fl5_21 dX5_hashFlow_5 ?_
  refine z_iconst (v := 0) C dX5_hashFlow_8 (by decide) ?_
  refine z_iload_n C dX5_hashFlow_9 rfl 1 rfl ?_
  refine Sc0i (As := [.int 0, .int x1]) C (c_X0_get l g (ad 2) (u 2) 0 x1 _ h) v_X0_get ml5_87 rfl ⟨Nat.le_of_ble_eq_true rfl, Nat.le_of_ble_eq_true rfl⟩ ⟨Nat.zero_le _, Nat.zero_le _⟩ (Nat.le_of_ble_eq_true rfl) rfl dX5_hashFlow_10 ?_
  intro r101 v102 h
  refine stS (fun u103 eu103 => ?_)
  have h := h u103 eu103
  refine z_aload_n C dX5_hashFlow_13 rfl 0 rfl ?_
  refine Sg5_flows C fl5_21 dX5_hashFlow_14 ?_
  refine z_iconst (v := 1) C dX5_hashFlow_17 (by decide) ?_
  refine z_iload_n C dX5_hashFlow_18 rfl 1 rfl ?_
  refine Sc0i (As := [.int 1, .int x1]) C (c_X0_get l g (ad 2) (u103 2) 1 x1 _ h) v_X0_get ml5_87 rfl ⟨Nat.le_of_ble_eq_true rfl, Nat.le_of_ble_eq_true rfl⟩ ⟨Nat.zero_le _, Nat.zero_le _⟩ (Nat.le_of_ble_eq_true rfl) rfl dX5_hashFlow_19 ?_
  intro r104 v105 h
  refine stS (fun u106 eu106 => ?_)
  have h := h u106 eu106
  refine z_aload_n C dX5_hashFlow_22 rfl 0 rfl ?_
  refine Sg5_flows C fl5_21 dX5_hashFlow_23 ?_
  refine z_iconst (v := 2) C dX5_hashFlow_26 (by decide) ?_
  refine z_iload_n C dX5_hashFlow_27 rfl 1 rfl ?_
  refine Sc0i (As := [.int 2, .int x1]) C (c_X0_get l g (ad 2) (u106 2) 2 x1 _ h) v_X0_get ml5_87 rfl ⟨Nat.le_of_ble_eq_true rfl, Nat.le_of_ble_eq_true rfl⟩ ⟨Nat.zero_le _, Nat.zero_le _⟩ (Nat.le_of_ble_eq_true rfl) rfl dX5_hashFlow_28 ?_
  intro r107 v108 h
  refine stS (fun u109 eu109 => ?_)
  have h := h u109 eu109
  refine z_aload_n C dX5_hashFlow_31 rfl 0 rfl ?_
  refine Sg5_flows C fl5_21 dX5_hashFlow_32 ?_
  refine z_iconst (v := 3) C dX5_hashFlow_35 (by decide) ?_
  refine z_iload_n C dX5_hashFlow_36 rfl 1 rfl ?_
  refine Sc0i (As := [.int 3, .int x1]) C (c_X0_get l g (ad 2) (u109 2) 3 x1 _ h) v_X0_get ml5_87 rfl ⟨Nat.le_of_ble_eq_true rfl, Nat.le_of_ble_eq_true rfl⟩ ⟨Nat.zero_le _, Nat.zero_le _⟩ (Nat.le_of_ble_eq_true rfl) rfl dX5_hashFlow_37 ?_
  intro r110 v111 h
  refine stS (fun u112 eu112 => ?_)
  have h := h u112 eu112
  refine z_aload_n C dX5_hashFlow_40 rfl 0 rfl ?_
  refine Sg5_flows C fl5_21 dX5_hashFlow_41 ?_
  refine z_iconst (v := 4) C dX5_hashFlow_44 (by decide) ?_
  refine z_iload_n C dX5_hashFlow_45 rfl 1 rfl ?_
  refine Sc0i (As := [.int 4, .int x1]) C (c_X0_get l g (ad 2) (u112 2) 4 x1 _ h) v_X0_get ml5_87 rfl ⟨Nat.le_of_ble_eq_true rfl, Nat.le_of_ble_eq_true rfl⟩ ⟨Nat.zero_le _, Nat.zero_le _⟩ (Nat.le_of_ble_eq_true rfl) rfl dX5_hashFlow_46 ?_
  intro r113 v114 h
  refine stS (fun u115 eu115 => ?_)
  have h := h u115 eu115
  refine Sc2i (As := [.int r101, .int r104, .int r107, .int r110, .int r113]) C (c_X2_hashFields l g (ad 1) (u115 1) r101 r104 r107 r110 r113 _ h) v_X2_hashFields ml5_91 rfl ⟨Nat.le_of_ble_eq_true rfl, Nat.le_of_ble_eq_true rfl⟩ ⟨Nat.zero_le _, Nat.zero_le _⟩ (Nat.le_of_ble_eq_true rfl) rfl dX5_hashFlow_49 ?_
  intro r116 v117 h
  refine stS (fun u118 eu118 => ?_)
  have h := h u118 eu118
  exact z_iret C hr u118 rfl h dX5_hashFlow_52
abbrev j_X5_give (p : Program) (l : Launch) (e : Env) (s : State) (m : MethodId) (args : Array Value) (below : List Frame) (meth : Method) (c : Code) (g : zG) (A : Nat → Prop) (ad : Nat → Nat → Nat) (Q : (Nat → RS) → Prop) (u : (Nat → RS)) (pc : Nat) (lv : List (Nat × Value)) (st : List Value) : Prop := zJ p l e (zR 3 0 0) s m args below meth c g A 4 (zQv below args s g A 0 0 (wS g ad) Q) (wS g ad u) 0 0 pc lv st
def wp_X5_give_137 (Q : (Nat → RS) → Prop) (u : (Nat → RS)) : Prop :=
  Q u
set_option maxRecDepth 20000 in
theorem b_X5_give_137 (C : zC p s m args meth c g A cX5_give RX5 4) (hr : meth.sig.returnType = none) (ad : Nat → Nat → Nat) (Q : (Nat → RS) → Prop) (u : (Nat → RS)) (h : wp_X5_give_137 Q u) : j_X5_give p l e s m args below meth c g A ad Q u 137 [(0, .ref (ad 0 0))] [] := by
  unfold wp_X5_give_137 at h
  exact z_vret C hr u rfl h dX5_give_137
def wp_X5_give (u : (Nat → RS)) (x1 : Int32) (x2 : Int32) (Q : (Nat → RS) → Prop) : Prop :=
  wp_X4_endOf (u 4) x1 (fun r101 v102 => ∀ u103 : Nat → RS, u103 = va_up u 4 v102 → wp_X0_put (u103 2) 15 x1 r101 (fun v104 => ∀ u105 : Nat → RS, u105 = va_up u103 2 v104 → wp_X0_add (u105 2) 16 x1 1 (fun v106 => ∀ u107 : Nat → RS, u107 = va_up u105 2 v106 → wp_X4_sizeOf (u107 4) x1 (fun r108 v109 => ∀ u110 : Nat → RS, u110 = va_up u107 4 v109 → wp_X0_add (u110 2) 19 x1 r108 (fun v111 => ∀ u112 : Nat → RS, u112 = va_up u110 2 v111 → wp_X4_close (u112 4) x1 ((u112 0).1 5 4) ((u112 0).1 5 5) (fun v113 => ∀ u114 : Nat → RS, u114 = va_up u112 4 v113 → wp_X0_get (u114 2) 17 x1 (fun r115 v116 => ∀ u117 : Nat → RS, u117 = va_up u114 2 v116 → ((¬ (u117 0).1 5 6 = 1 → wp_X5_give_137 Q u117) ∧ ((u117 0).1 5 6 = 1 → ((r115 = (-1) → wp_X5_give_137 Q u117) ∧ (¬ r115 = (-1) → ((r115 = x2 → wp_X5_give_137 Q u117) ∧ (¬ r115 = x2 → wp_X0_get (u117 2) 13 x1 (fun r121 v122 => ∀ u123 : Nat → RS, u123 = va_up u117 2 v122 → ((r121 = r115 → wp_X5_give_137 Q u123) ∧ (¬ r121 = r115 → wp_X0_putRule (u123 2) x1 r115 ((u123 0).1 6 0) (fun r125 v126 => ∀ u127 : Nat → RS, u127 = va_up u123 2 v126 → ∀ u128 : Nat → RS, u128 = va_up u127 0 (rN (u127 0) 7 (((u127 0).1 7 0) + 1)) → wp_X5_give_137 Q u128)))))))))))))))))
set_option maxRecDepth 20000 in
theorem c_X5_give (l : Launch) (g : zG) (ad : Nat → Nat → Nat) (u : (Nat → RS)) (x1 : Int32) (x2 : Int32) (Q : (Nat → RS) → Prop) (h : wp_X5_give u x1 x2 Q) : zMv l yX5_give cX5_give 4 none 3 0 0 g [.ref (ad 0 0), .int x1, .int x2] (wS g ad u) (wS g ad) Q := by
  refine zMv_of RX5 (by decide) rfl [(0, .ref (ad 0 0)), (1, .int x1), (2, .int x2)] rfl (Nat.le_of_ble_eq_true rfl) (fun p e s m args below meth c A C hr hnm => ?_)
  unfold wp_X5_give at h
  refine z_aload_n C dX5_give_0 rfl 0 rfl ?_
  refine Sg5_flows C fl5_21 dX5_give_1 ?_
  refine z_bipush (v := 15) C dX5_give_4 (by decide) ?_
  refine z_iload_n C dX5_give_6 rfl 1 rfl ?_
  refine z_aload_n C dX5_give_7 rfl 0 rfl ?_
  refine Sg5_segments C fl5_41 dX5_give_8 ?_
  refine z_iload_n C dX5_give_11 rfl 1 rfl ?_
  refine Sc4i (As := [.int x1]) C (c_X4_endOf l g (ad 4) (u 4) x1 _ h) v_X4_endOf ml5_190 rfl ⟨Nat.le_of_ble_eq_true rfl, Nat.le_of_ble_eq_true rfl⟩ ⟨Nat.zero_le _, Nat.zero_le _⟩ (Nat.le_of_ble_eq_true rfl) rfl dX5_give_12 ?_
  intro r101 v102 h
  refine stS (fun u103 eu103 => ?_)
  have h := h u103 eu103
  refine Sc0v (As := [.int 15, .int x1, .int r101]) C (c_X0_put l g (ad 2) (u103 2) 15 x1 r101 _ h) v_X0_put ml5_126 rfl ⟨Nat.le_of_ble_eq_true rfl, Nat.le_of_ble_eq_true rfl⟩ ⟨Nat.zero_le _, Nat.zero_le _⟩ (Nat.le_of_ble_eq_true rfl) rfl dX5_give_15 ?_
  intro v104 h
  refine stS (fun u105 eu105 => ?_)
  have h := h u105 eu105
  refine z_aload_n C dX5_give_18 rfl 0 rfl ?_
  refine Sg5_flows C fl5_21 dX5_give_19 ?_
  refine z_bipush (v := 16) C dX5_give_22 (by decide) ?_
  refine z_iload_n C dX5_give_24 rfl 1 rfl ?_
  refine z_iconst (v := 1) C dX5_give_25 (by decide) ?_
  refine Sc0v (As := [.int 16, .int x1, .int 1]) C (c_X0_add l g (ad 2) (u105 2) 16 x1 1 _ h) v_X0_add ml5_122 rfl ⟨Nat.le_of_ble_eq_true rfl, Nat.le_of_ble_eq_true rfl⟩ ⟨Nat.zero_le _, Nat.zero_le _⟩ (Nat.le_of_ble_eq_true rfl) rfl dX5_give_26 ?_
  intro v106 h
  refine stS (fun u107 eu107 => ?_)
  have h := h u107 eu107
  refine z_aload_n C dX5_give_29 rfl 0 rfl ?_
  refine Sg5_flows C fl5_21 dX5_give_30 ?_
  refine z_bipush (v := 19) C dX5_give_33 (by decide) ?_
  refine z_iload_n C dX5_give_35 rfl 1 rfl ?_
  refine z_aload_n C dX5_give_36 rfl 0 rfl ?_
  refine Sg5_segments C fl5_41 dX5_give_37 ?_
  refine z_iload_n C dX5_give_40 rfl 1 rfl ?_
  refine Sc4i (As := [.int x1]) C (c_X4_sizeOf l g (ad 4) (u107 4) x1 _ h) v_X4_sizeOf ml5_193 rfl ⟨Nat.le_of_ble_eq_true rfl, Nat.le_of_ble_eq_true rfl⟩ ⟨Nat.zero_le _, Nat.zero_le _⟩ (Nat.le_of_ble_eq_true rfl) rfl dX5_give_41 ?_
  intro r108 v109 h
  refine stS (fun u110 eu110 => ?_)
  have h := h u110 eu110
  refine Sc0v (As := [.int 19, .int x1, .int r108]) C (c_X0_add l g (ad 2) (u110 2) 19 x1 r108 _ h) v_X0_add ml5_122 rfl ⟨Nat.le_of_ble_eq_true rfl, Nat.le_of_ble_eq_true rfl⟩ ⟨Nat.zero_le _, Nat.zero_le _⟩ (Nat.le_of_ble_eq_true rfl) rfl dX5_give_44 ?_
  intro v111 h
  refine stS (fun u112 eu112 => ?_)
  have h := h u112 eu112
  refine z_aload_n C dX5_give_47 rfl 0 rfl ?_
  refine Sg5_segments C fl5_41 dX5_give_48 ?_
  refine z_iload_n C dX5_give_51 rfl 1 rfl ?_
  refine z_aload_n C dX5_give_52 rfl 0 rfl ?_
  refine Sg5_terms C fl5_54 dX5_give_53 ?_
  refine z_iconst (v := 4) C dX5_give_56 (by decide) ?_
  refine Sln5_terms C 4 (by decide +kernel) (vp_in_iff.mpr (by decide +kernel)) dX5_give_57 ?_
  refine z_aload_n C dX5_give_58 rfl 0 rfl ?_
  refine Sg5_terms C fl5_54 dX5_give_59 ?_
  refine z_iconst (v := 5) C dX5_give_62 (by decide) ?_
  refine Sln5_terms C 5 (by decide +kernel) (vp_in_iff.mpr (by decide +kernel)) dX5_give_63 ?_
  refine Sc4v (As := [.int x1, .int ((u112 0).1 5 4), .int ((u112 0).1 5 5)]) C (c_X4_close l g (ad 4) (u112 4) x1 ((u112 0).1 5 4) ((u112 0).1 5 5) _ h) v_X4_close ml5_196 rfl ⟨Nat.le_of_ble_eq_true rfl, Nat.le_of_ble_eq_true rfl⟩ ⟨Nat.zero_le _, Nat.zero_le _⟩ (Nat.le_of_ble_eq_true rfl) rfl dX5_give_64 ?_
  intro v113 h
  refine stS (fun u114 eu114 => ?_)
  have h := h u114 eu114
  refine z_aload_n C dX5_give_67 rfl 0 rfl ?_
  refine Sg5_flows C fl5_21 dX5_give_68 ?_
  refine z_bipush (v := 17) C dX5_give_71 (by decide) ?_
  refine z_iload_n C dX5_give_73 rfl 1 rfl ?_
  refine Sc0i (As := [.int 17, .int x1]) C (c_X0_get l g (ad 2) (u114 2) 17 x1 _ h) v_X0_get ml5_87 rfl ⟨Nat.le_of_ble_eq_true rfl, Nat.le_of_ble_eq_true rfl⟩ ⟨Nat.zero_le _, Nat.zero_le _⟩ (Nat.le_of_ble_eq_true rfl) rfl dX5_give_74 ?_
  intro r115 v116 h
  refine stS (fun u117 eu117 => ?_)
  have h := h u117 eu117
  refine z_istore_n (lv1 := [(3, .int r115), (0, .ref (ad 0 0)), (1, .int x1), (2, .int x2)]) C dX5_give_77 rfl (by decide) rfl ?_
  refine z_aload_n C dX5_give_78 rfl 1 rfl ?_
  refine Sg5_terms C fl5_54 dX5_give_79 ?_
  refine z_bipush (v := 6) C dX5_give_82 (by decide) ?_
  refine Sln5_terms C 6 (by decide +kernel) (vp_in_iff.mpr (by decide +kernel)) dX5_give_84 ?_
  refine z_iconst (v := 1) C dX5_give_85 (by decide) ?_
  refine z_icmp_ne C dX5_give_86 (tgt := 137) (by decide) (fun hc118 => ?_) (fun hc118 => ?_)
  · have h := h.1 hc118
    refine z_lv (lv1 := [(0, .ref (ad 0 0))]) [1] rfl ?_
    exact b_X5_give_137 C hr ad Q u117 h
  · have h := h.2 hc118
    refine z_iload_n C dX5_give_89 rfl 0 rfl ?_
    refine z_iconst (v := (-1)) C dX5_give_90 (by decide) ?_
    refine z_icmp_eq C dX5_give_91 (tgt := 137) (by decide) (fun hc119 => ?_) (fun hc119 => ?_)
    · have h := h.1 hc119
      refine z_lv (lv1 := [(0, .ref (ad 0 0))]) [1] rfl ?_
      exact b_X5_give_137 C hr ad Q u117 h
    · have h := h.2 hc119
      refine z_iload_n C dX5_give_94 rfl 0 rfl ?_
      refine z_iload_n C dX5_give_95 rfl 3 rfl ?_
      refine z_icmp_eq C dX5_give_96 (tgt := 137) (by decide) (fun hc120 => ?_) (fun hc120 => ?_)
      · have h := h.1 hc120
        refine z_lv (lv1 := [(0, .ref (ad 0 0))]) [1] rfl ?_
        exact b_X5_give_137 C hr ad Q u117 h
      · have h := h.2 hc120
        refine z_aload_n C dX5_give_99 rfl 1 rfl ?_
        refine Sg5_flows C fl5_21 dX5_give_100 ?_
        refine z_bipush (v := 13) C dX5_give_103 (by decide) ?_
        refine z_iload_n C dX5_give_105 rfl 2 rfl ?_
        refine Sc0i (As := [.int 13, .int x1]) C (c_X0_get l g (ad 2) (u117 2) 13 x1 _ h) v_X0_get ml5_87 rfl ⟨Nat.le_of_ble_eq_true rfl, Nat.le_of_ble_eq_true rfl⟩ ⟨Nat.zero_le _, Nat.zero_le _⟩ (Nat.le_of_ble_eq_true rfl) rfl dX5_give_106 ?_
        intro r121 v122 h
        refine stS (fun u123 eu123 => ?_)
        have h := h u123 eu123
        refine z_iload_n C dX5_give_109 rfl 0 rfl ?_
        refine z_icmp_eq C dX5_give_110 (tgt := 137) (by decide) (fun hc124 => ?_) (fun hc124 => ?_)
        · have h := h.1 hc124
          refine z_lv (lv1 := [(0, .ref (ad 0 0))]) [1] rfl ?_
          exact b_X5_give_137 C hr ad Q u123 h
        · have h := h.2 hc124
          refine z_aload_n C dX5_give_113 rfl 1 rfl ?_
          refine Sg5_flows C fl5_21 dX5_give_114 ?_
          refine z_iload_n C dX5_give_117 rfl 2 rfl ?_
          refine z_iload_n C dX5_give_118 rfl 0 rfl ?_
          refine z_aload_n C dX5_give_119 rfl 1 rfl ?_
          refine Sg5_time C fl5_80 dX5_give_120 ?_
          refine Sc0i (As := [.int x1, .int r115, .int ((u123 0).1 6 0)]) C (c_X0_putRule l g (ad 2) (u123 2) x1 r115 ((u123 0).1 6 0) _ h) v_X0_putRule ml5_199 rfl ⟨Nat.le_of_ble_eq_true rfl, Nat.le_of_ble_eq_true rfl⟩ ⟨Nat.zero_le _, Nat.zero_le _⟩ (Nat.le_of_ble_eq_true rfl) rfl dX5_give_123 ?_
          intro r125 v126 h
          refine stS (fun u127 eu127 => ?_)
          have h := h u127 eu127
          refine z_pop C dX5_give_126 rfl ?_
          refine z_aload_n C dX5_give_127 rfl 1 rfl ?_
          refine z_dup C dX5_give_128 rfl ?_
          refine Sg5_followed C fl5_84 dX5_give_129 ?_
          refine z_iconst (v := 1) C dX5_give_132 (by decide) ?_
          refine z_iadd C dX5_give_133 ?_
          refine Sp5_followed C fl5_84 dX5_give_134 ?_
          refine stS (fun u128 eu128 => ?_)
          have h := h u128 eu128
          refine z_lv (lv1 := [(0, .ref (ad 0 0))]) [1] rfl ?_
          exact b_X5_give_137 C hr ad Q u128 h
abbrev j_X5_entryOf (p : Program) (l : Launch) (e : Env) (s : State) (m : MethodId) (args : Array Value) (below : List Frame) (meth : Method) (c : Code) (g : zG) (A : Nat → Prop) (ad : Nat → Nat → Nat) (Q : Int32 → (Nat → RS) → Prop) (u : (Nat → RS)) (pc : Nat) (lv : List (Nat × Value)) (st : List Value) : Prop := zJ p l e (zR 4 0 0) s m args below meth c g A 2 (zQi below args s g A 0 0 (wS g ad) Q) (wS g ad u) 0 0 pc lv st
def wp_X5_entryOf (u : (Nat → RS)) (x1 : Int32) (Q : Int32 → (Nat → RS) → Prop) : Prop :=
  wp_X5_hashFlow u x1 (fun r101 v102 => wp_X7_entryOfHash r101 (fun r103 => Q r103 v102))
set_option maxRecDepth 20000 in
theorem c_X5_entryOf (l : Launch) (g : zG) (ad : Nat → Nat → Nat) (u : (Nat → RS)) (x1 : Int32) (Q : Int32 → (Nat → RS) → Prop) (h : wp_X5_entryOf u x1 Q) : zMi l yX5_entryOf cX5_entryOf 2 (some .int) 4 0 0 g [.ref (ad 0 0), .int x1] (wS g ad u) (wS g ad) Q := by
  refine zMi_of RX5 (by decide) rfl [(0, .ref (ad 0 0)), (1, .int x1)] rfl (Nat.le_of_ble_eq_true rfl) (fun p e s m args below meth c A C hr hnm => ?_)
  unfold wp_X5_entryOf at h
  refine z_aload_n C dX5_entryOf_0 rfl 0 rfl ?_
  refine z_iload_n C dX5_entryOf_1 rfl 1 rfl ?_
  refine Sc5i (As := [.int x1]) C (c_X5_hashFlow l g ad u x1 _ h) v_X5_hashFlow ml5_99 rfl ⟨Nat.le_of_ble_eq_true rfl, Nat.le_of_ble_eq_true rfl⟩ ⟨Nat.zero_le _, Nat.zero_le _⟩ (Nat.le_of_ble_eq_true rfl) rfl dX5_entryOf_2 ?_
  intro r101 v102 h
  refine cNi (As := [.int r101]) C (c_X7_entryOfHash l g r101 _ h) s_X7_entryOfHash mn5_103 ⟨Nat.le_of_ble_eq_true rfl, Nat.le_of_ble_eq_true rfl⟩ ⟨Nat.zero_le _, Nat.zero_le _⟩ (Nat.le_of_ble_eq_true rfl) rfl dX5_entryOf_5 ?_
  intro r103 h
  exact z_iret C hr v102 rfl h dX5_entryOf_8
abbrev j_X5_takeBatch (p : Program) (l : Launch) (e : Env) (s : State) (m : MethodId) (args : Array Value) (below : List Frame) (meth : Method) (c : Code) (g : zG) (A : Nat → Prop) (ad : Nat → Nat → Nat) (Q : Int32 → (Nat → RS) → Prop) (u : (Nat → RS)) (pc : Nat) (lv : List (Nat × Value)) (st : List Value) : Prop := zJ p l e (zR 4 0 0) s m args below meth c g A 8 (zQi below args s g A 0 0 (wS g ad) Q) (wS g ad u) 0 0 pc lv st
def wp_X5_takeBatch_188 (Q : Int32 → (Nat → RS) → Prop) (B157 : (Nat → RS) → Int32 → Int32 → Int32 → Int32 → Prop) (u : (Nat → RS)) (x1 : Int32) (q2 : Int32) (x3 : Int32) (x4 : Int32) : Prop :=
  ∀ x113 : Int32, x113 = x4 + 1 → B157 u x1 q2 x3 x113
set_option maxRecDepth 20000 in
theorem b_X5_takeBatch_188 (C : zC p s m args meth c g A cX5_takeBatch RX5 8) (hr : meth.sig.returnType = (some .int)) (ad : Nat → Nat → Nat) (Q : Int32 → (Nat → RS) → Prop) (B157 : (Nat → RS) → Int32 → Int32 → Int32 → Int32 → Prop) (hB157 : ∀ (u : (Nat → RS)) (x1 : Int32) (q2 : Int32) (x3 : Int32) (x4 : Int32), B157 u x1 q2 x3 x4 → j_X5_takeBatch p l e s m args below meth c g A ad Q u 157 [(0, .ref (ad 0 0)), (1, .int x1), (2, .ref (ad (5 + zn q2) 0)), (3, .int x3), (4, .int x4)] []) (u : (Nat → RS)) (x1 : Int32) (q2 : Int32) (x3 : Int32) (x4 : Int32) (h : wp_X5_takeBatch_188 Q B157 u x1 q2 x3 x4) : j_X5_takeBatch p l e s m args below meth c g A ad Q u 188 [(0, .ref (ad 0 0)), (1, .int x1), (2, .ref (ad (5 + zn q2) 0)), (3, .int x3), (4, .int x4)] [] := by
  unfold wp_X5_takeBatch_188 at h
  obtain ⟨x113, ex113⟩ : ∃ y : Int32, y = x4 + 1 := ⟨_, rfl⟩
  have h := h x113 ex113
  refine z_iinc (v := x113) (lv1 := [(4, .int x113), (0, .ref (ad 0 0)), (1, .int x1), (2, .ref (ad (5 + zn q2) 0)), (3, .int x3)]) C dX5_takeBatch_188 4 rfl (by rw [ex113]; rfl) (by decide) rfl ?_
  refine z_goto C dX5_takeBatch_191 (tgt := 157) (by decide) ?_
  refine z_lv (lv1 := [(0, .ref (ad 0 0)), (1, .int x1), (2, .ref (ad (5 + zn q2) 0)), (3, .int x3), (4, .int x113)]) [1, 2, 3, 4, 0] rfl ?_
  exact hB157 u x1 q2 x3 x113 h
def wp_X5_takeBatch_157 (Q : Int32 → (Nat → RS) → Prop) (B157 : (Nat → RS) → Int32 → Int32 → Int32 → Int32 → Prop) (u : (Nat → RS)) (x1 : Int32) (q2 : Int32) (x3 : Int32) (x4 : Int32) : Prop :=
  (((u 2).1 0 0 ≤ x4 → vp_in q2 4 ∧ wp_X3_takeAway (u (5 + zn q2)) x3 ((u 0).1 6 0) (fun v106 => ∀ u108 : Nat → RS, u108 = va_up u (5 + zn q2) v106 → Q x3 u108)) ∧ (¬ (u 2).1 0 0 ≤ x4 → wp_X4_isOpen (u 4) x4 (fun r109 v110 => ∀ u111 : Nat → RS, u111 = va_up u 4 v110 → ((r109 = 0 → wp_X5_takeBatch_188 Q B157 u111 x1 q2 x3 x4) ∧ (¬ r109 = 0 → wp_X5_give u111 x4 x1 (fun v114 => wp_X5_takeBatch_188 Q B157 v114 x1 q2 x3 x4))))))
set_option maxRecDepth 20000 in
theorem b_X5_takeBatch_157 (C : zC p s m args meth c g A cX5_takeBatch RX5 8) (hr : meth.sig.returnType = (some .int)) (ad : Nat → Nat → Nat) (Q : Int32 → (Nat → RS) → Prop) (B157 : (Nat → RS) → Int32 → Int32 → Int32 → Int32 → Prop) (hB157 : ∀ (u : (Nat → RS)) (x1 : Int32) (q2 : Int32) (x3 : Int32) (x4 : Int32), B157 u x1 q2 x3 x4 → j_X5_takeBatch p l e s m args below meth c g A ad Q u 157 [(0, .ref (ad 0 0)), (1, .int x1), (2, .ref (ad (5 + zn q2) 0)), (3, .int x3), (4, .int x4)] []) (u : (Nat → RS)) (x1 : Int32) (q2 : Int32) (x3 : Int32) (x4 : Int32) (h : wp_X5_takeBatch_157 Q B157 u x1 q2 x3 x4) : j_X5_takeBatch p l e s m args below meth c g A ad Q u 157 [(0, .ref (ad 0 0)), (1, .int x1), (2, .ref (ad (5 + zn q2) 0)), (3, .int x3), (4, .int x4)] [] := by
  unfold wp_X5_takeBatch_157 at h
  refine z_iload C dX5_takeBatch_157 4 rfl ?_
  refine z_aload_n C dX5_takeBatch_159 rfl 0 rfl ?_
  refine Sg5_flows C fl5_21 dX5_takeBatch_160 ?_
  refine Sg0_number C fl5_112 dX5_takeBatch_163 ?_
  refine z_icmp_ge C dX5_takeBatch_166 (tgt := 194) (by decide) (fun hc105 => ?_) (fun hc105 => ?_)
  · have h := h.1 hc105
    refine z_aload_n C dX5_takeBatch_194 rfl 2 rfl ?_
    refine z_iload_n C dX5_takeBatch_195 rfl 3 rfl ?_
    refine z_aload_n C dX5_takeBatch_196 rfl 0 rfl ?_
    refine Sg5_time C fl5_80 dX5_takeBatch_197 ?_
    obtain ⟨hi107, h⟩ := h
    refine Sc3v (As := [.int x3, .int ((u 0).1 6 0)]) C hi107 (c_X3_takeAway l g (ad (5 + zn q2)) (u (5 + zn q2)) x3 ((u 0).1 6 0) _ h) v_X3_takeAway ml5_187 rfl ⟨Nat.le_of_ble_eq_true rfl, Nat.le_of_ble_eq_true rfl⟩ ⟨Nat.zero_le _, Nat.zero_le _⟩ (Nat.le_of_ble_eq_true rfl) rfl dX5_takeBatch_200 ?_
    intro v106 h
    refine stS (fun u108 eu108 => ?_)
    have h := h u108 eu108
    refine z_iload_n C dX5_takeBatch_203 rfl 3 rfl ?_
    exact z_iret C hr u108 rfl h dX5_takeBatch_204
  · have h := h.2 hc105
    refine z_aload_n C dX5_takeBatch_169 rfl 0 rfl ?_
    refine Sg5_segments C fl5_41 dX5_takeBatch_170 ?_
    refine z_iload C dX5_takeBatch_173 4 rfl ?_
    refine Sc4i (As := [.int x4]) C (c_X4_isOpen l g (ad 4) (u 4) x4 _ h) v_X4_isOpen ml5_174 rfl ⟨Nat.le_of_ble_eq_true rfl, Nat.le_of_ble_eq_true rfl⟩ ⟨Nat.zero_le _, Nat.zero_le _⟩ (Nat.le_of_ble_eq_true rfl) rfl dX5_takeBatch_175 ?_
    intro r109 v110 h
    refine stS (fun u111 eu111 => ?_)
    have h := h u111 eu111
    refine z_if_eq C dX5_takeBatch_178 (tgt := 188) (by decide) (fun hc112 => ?_) (fun hc112 => ?_)
    · have h := h.1 hc112
      exact b_X5_takeBatch_188 C hr ad Q B157 hB157 u111 x1 q2 x3 x4 h
    · have h := h.2 hc112
      refine z_aload_n C dX5_takeBatch_181 rfl 0 rfl ?_
      refine z_iload C dX5_takeBatch_182 4 rfl ?_
      refine z_iload_n C dX5_takeBatch_184 rfl 1 rfl ?_
      refine Sc5v (As := [.int x4, .int x1]) C (c_X5_give l g ad u111 x4 x1 _ h) v_X5_give ml5_177 rfl ⟨Nat.le_of_ble_eq_true rfl, Nat.le_of_ble_eq_true rfl⟩ ⟨Nat.zero_le _, Nat.zero_le _⟩ (Nat.le_of_ble_eq_true rfl) rfl dX5_takeBatch_185 ?_
      intro v114 h
      exact b_X5_takeBatch_188 C hr ad Q B157 hB157 v114 x1 q2 x3 x4 h
theorem l_X5_takeBatch_157 (C : zC p s m args meth c g A cX5_takeBatch RX5 8) (hr : meth.sig.returnType = (some .int)) (ad : Nat → Nat → Nat) (Q : Int32 → (Nat → RS) → Prop) : ∀ (n : Nat) (u : (Nat → RS)) (x1 : Int32) (q2 : Int32) (x3 : Int32) (x4 : Int32), zit5 (wp_X5_takeBatch_157 Q) n u x1 q2 x3 x4 → j_X5_takeBatch p l e s m args below meth c g A ad Q u 157 [(0, .ref (ad 0 0)), (1, .int x1), (2, .ref (ad (5 + zn q2) 0)), (3, .int x3), (4, .int x4)] [] := by
  intro n
  induction n with
  | zero => exact fun u x1 q2 x3 x4 h => h.elim
  | succ n ih => exact fun u x1 q2 x3 x4 h => b_X5_takeBatch_157 C hr ad Q (zit5 (wp_X5_takeBatch_157 Q) n) ih u x1 q2 x3 x4 h
def wp_X5_takeBatch_139 (Q : Int32 → (Nat → RS) → Prop) (B20 : (Nat → RS) → Int32 → Int32 → Int32 → Int32 → Prop) (u : (Nat → RS)) (x1 : Int32) (q2 : Int32) (x3 : Int32) (x4 : Int32) (x5 : Int32) : Prop :=
  wp_X0_nowTaken (u 2) x5 (fun v142 => ∀ u143 : Nat → RS, u143 = va_up u 2 v142 → ∀ x144 : Int32, x144 = x4 + 1 → B20 u143 x1 q2 x3 x144)
set_option maxRecDepth 20000 in
theorem b_X5_takeBatch_139 (C : zC p s m args meth c g A cX5_takeBatch RX5 8) (hr : meth.sig.returnType = (some .int)) (ad : Nat → Nat → Nat) (Q : Int32 → (Nat → RS) → Prop) (B20 : (Nat → RS) → Int32 → Int32 → Int32 → Int32 → Prop) (hB20 : ∀ (u : (Nat → RS)) (x1 : Int32) (q2 : Int32) (x3 : Int32) (x4 : Int32), B20 u x1 q2 x3 x4 → j_X5_takeBatch p l e s m args below meth c g A ad Q u 20 [(0, .ref (ad 0 0)), (1, .int x1), (2, .ref (ad (5 + zn q2) 0)), (3, .int x3), (4, .int x4)] []) (u : (Nat → RS)) (x1 : Int32) (q2 : Int32) (x3 : Int32) (x4 : Int32) (x5 : Int32) (h : wp_X5_takeBatch_139 Q B20 u x1 q2 x3 x4 x5) : j_X5_takeBatch p l e s m args below meth c g A ad Q u 139 [(0, .ref (ad 0 0)), (1, .int x1), (2, .ref (ad (5 + zn q2) 0)), (3, .int x3), (4, .int x4), (5, .int x5)] [] := by
  unfold wp_X5_takeBatch_139 at h
  refine z_aload_n C dX5_takeBatch_139 rfl 0 rfl ?_
  refine Sg5_flows C fl5_21 dX5_takeBatch_140 ?_
  refine z_iload C dX5_takeBatch_143 5 rfl ?_
  refine Sc0v (As := [.int x5]) C (c_X0_nowTaken l g (ad 2) (u 2) x5 _ h) v_X0_nowTaken ml5_183 rfl ⟨Nat.le_of_ble_eq_true rfl, Nat.le_of_ble_eq_true rfl⟩ ⟨Nat.zero_le _, Nat.zero_le _⟩ (Nat.le_of_ble_eq_true rfl) rfl dX5_takeBatch_145 ?_
  intro v142 h
  refine stS (fun u143 eu143 => ?_)
  have h := h u143 eu143
  obtain ⟨x144, ex144⟩ : ∃ y : Int32, y = x4 + 1 := ⟨_, rfl⟩
  have h := h x144 ex144
  refine z_iinc (v := x144) (lv1 := [(4, .int x144), (0, .ref (ad 0 0)), (1, .int x1), (2, .ref (ad (5 + zn q2) 0)), (3, .int x3), (5, .int x5)]) C dX5_takeBatch_148 4 rfl (by rw [ex144]; rfl) (by decide) rfl ?_
  refine z_goto C dX5_takeBatch_151 (tgt := 20) (by decide) ?_
  refine z_lv (lv1 := [(0, .ref (ad 0 0)), (1, .int x1), (2, .ref (ad (5 + zn q2) 0)), (3, .int x3), (4, .int x144)]) [1, 2, 3, 4, 0] rfl ?_
  exact hB20 u143 x1 q2 x3 x144 h
def wp_X5_takeBatch_121 (Q : Int32 → (Nat → RS) → Prop) (B20 : (Nat → RS) → Int32 → Int32 → Int32 → Int32 → Prop) (u : (Nat → RS)) (x1 : Int32) (q2 : Int32) (x3 : Int32) (x4 : Int32) (x5 : Int32) : Prop :=
  vp_in q2 4 ∧ wp_X3_at (u (5 + zn q2)) x4 3 (fun r137 v138 => ∀ u140 : Nat → RS, u140 = va_up u (5 + zn q2) v138 → ((¬ r137 = 1 → wp_X5_takeBatch_139 Q B20 u140 x1 q2 x3 x4 x5) ∧ (r137 = 1 → wp_X5_give u140 x5 x1 (fun v145 => wp_X5_takeBatch_139 Q B20 v145 x1 q2 x3 x4 x5))))
set_option maxRecDepth 20000 in
theorem b_X5_takeBatch_121 (C : zC p s m args meth c g A cX5_takeBatch RX5 8) (hr : meth.sig.returnType = (some .int)) (ad : Nat → Nat → Nat) (Q : Int32 → (Nat → RS) → Prop) (B20 : (Nat → RS) → Int32 → Int32 → Int32 → Int32 → Prop) (hB20 : ∀ (u : (Nat → RS)) (x1 : Int32) (q2 : Int32) (x3 : Int32) (x4 : Int32), B20 u x1 q2 x3 x4 → j_X5_takeBatch p l e s m args below meth c g A ad Q u 20 [(0, .ref (ad 0 0)), (1, .int x1), (2, .ref (ad (5 + zn q2) 0)), (3, .int x3), (4, .int x4)] []) (u : (Nat → RS)) (x1 : Int32) (q2 : Int32) (x3 : Int32) (x4 : Int32) (x5 : Int32) (h : wp_X5_takeBatch_121 Q B20 u x1 q2 x3 x4 x5) : j_X5_takeBatch p l e s m args below meth c g A ad Q u 121 [(0, .ref (ad 0 0)), (1, .int x1), (2, .ref (ad (5 + zn q2) 0)), (3, .int x3), (4, .int x4), (5, .int x5)] [] := by
  unfold wp_X5_takeBatch_121 at h
  refine z_aload_n C dX5_takeBatch_121 rfl 2 rfl ?_
  refine z_iload C dX5_takeBatch_122 4 rfl ?_
  refine z_iconst (v := 3) C dX5_takeBatch_124 (by decide) ?_
  obtain ⟨hi139, h⟩ := h
  refine Sc3i (As := [.int x4, .int 3]) C hi139 (c_X3_at l g (ad (5 + zn q2)) (u (5 + zn q2)) x4 3 _ h) v_X3_at ml5_164 rfl ⟨Nat.le_of_ble_eq_true rfl, Nat.le_of_ble_eq_true rfl⟩ ⟨Nat.zero_le _, Nat.zero_le _⟩ (Nat.le_of_ble_eq_true rfl) rfl dX5_takeBatch_125 ?_
  intro r137 v138 h
  refine stS (fun u140 eu140 => ?_)
  have h := h u140 eu140
  refine z_iconst (v := 1) C dX5_takeBatch_128 (by decide) ?_
  refine z_icmp_ne C dX5_takeBatch_129 (tgt := 139) (by decide) (fun hc141 => ?_) (fun hc141 => ?_)
  · have h := h.1 hc141
    exact b_X5_takeBatch_139 C hr ad Q B20 hB20 u140 x1 q2 x3 x4 x5 h
  · have h := h.2 hc141
    refine z_aload_n C dX5_takeBatch_132 rfl 0 rfl ?_
    refine z_iload C dX5_takeBatch_133 5 rfl ?_
    refine z_iload_n C dX5_takeBatch_135 rfl 1 rfl ?_
    refine Sc5v (As := [.int x5, .int x1]) C (c_X5_give l g ad u140 x5 x1 _ h) v_X5_give ml5_177 rfl ⟨Nat.le_of_ble_eq_true rfl, Nat.le_of_ble_eq_true rfl⟩ ⟨Nat.zero_le _, Nat.zero_le _⟩ (Nat.le_of_ble_eq_true rfl) rfl dX5_takeBatch_136 ?_
    intro v145 h
    exact b_X5_takeBatch_139 C hr ad Q B20 hB20 v145 x1 q2 x3 x4 x5 h
def wp_X5_takeBatch_108 (Q : Int32 → (Nat → RS) → Prop) (B20 : (Nat → RS) → Int32 → Int32 → Int32 → Int32 → Prop) (u : (Nat → RS)) (x1 : Int32) (q2 : Int32) (x3 : Int32) (x4 : Int32) (x5 : Int32) (x6 : Int32) (x7 : Int32) : Prop :=
  wp_X4_open (u 4) x5 x6 x7 (fun v135 => ∀ u136 : Nat → RS, u136 = va_up u 4 v135 → wp_X5_takeBatch_121 Q B20 u136 x1 q2 x3 x4 x5)
set_option maxRecDepth 20000 in
theorem b_X5_takeBatch_108 (C : zC p s m args meth c g A cX5_takeBatch RX5 8) (hr : meth.sig.returnType = (some .int)) (ad : Nat → Nat → Nat) (Q : Int32 → (Nat → RS) → Prop) (B20 : (Nat → RS) → Int32 → Int32 → Int32 → Int32 → Prop) (hB20 : ∀ (u : (Nat → RS)) (x1 : Int32) (q2 : Int32) (x3 : Int32) (x4 : Int32), B20 u x1 q2 x3 x4 → j_X5_takeBatch p l e s m args below meth c g A ad Q u 20 [(0, .ref (ad 0 0)), (1, .int x1), (2, .ref (ad (5 + zn q2) 0)), (3, .int x3), (4, .int x4)] []) (u : (Nat → RS)) (x1 : Int32) (q2 : Int32) (x3 : Int32) (x4 : Int32) (x5 : Int32) (x6 : Int32) (x7 : Int32) (h : wp_X5_takeBatch_108 Q B20 u x1 q2 x3 x4 x5 x6 x7) : j_X5_takeBatch p l e s m args below meth c g A ad Q u 108 [(0, .ref (ad 0 0)), (1, .int x1), (2, .ref (ad (5 + zn q2) 0)), (3, .int x3), (4, .int x4), (5, .int x5), (6, .int x6), (7, .int x7)] [] := by
  unfold wp_X5_takeBatch_108 at h
  refine z_aload_n C dX5_takeBatch_108 rfl 0 rfl ?_
  refine Sg5_segments C fl5_41 dX5_takeBatch_109 ?_
  refine z_iload C dX5_takeBatch_112 5 rfl ?_
  refine z_iload C dX5_takeBatch_114 6 rfl ?_
  refine z_iload C dX5_takeBatch_116 7 rfl ?_
  refine Sc4v (As := [.int x5, .int x6, .int x7]) C (c_X4_open l g (ad 4) (u 4) x5 x6 x7 _ h) v_X4_open ml5_180 rfl ⟨Nat.le_of_ble_eq_true rfl, Nat.le_of_ble_eq_true rfl⟩ ⟨Nat.zero_le _, Nat.zero_le _⟩ (Nat.le_of_ble_eq_true rfl) rfl dX5_takeBatch_118 ?_
  intro v135 h
  refine stS (fun u136 eu136 => ?_)
  have h := h u136 eu136
  refine z_lv (lv1 := [(0, .ref (ad 0 0)), (1, .int x1), (2, .ref (ad (5 + zn q2) 0)), (3, .int x3), (4, .int x4), (5, .int x5)]) [0, 1, 2, 3, 4, 5] rfl ?_
  exact b_X5_takeBatch_121 C hr ad Q B20 hB20 u136 x1 q2 x3 x4 x5 h
def wp_X5_takeBatch_20 (Q : Int32 → (Nat → RS) → Prop) (B20 : (Nat → RS) → Int32 → Int32 → Int32 → Int32 → Prop) (u : (Nat → RS)) (x1 : Int32) (q2 : Int32) (x3 : Int32) (x4 : Int32) : Prop :=
  ((x3 ≤ x4 → (∃ n, zit5 (wp_X5_takeBatch_157 Q) n u x1 q2 x3 0)) ∧ (¬ x3 ≤ x4 → vp_in q2 4 ∧ wp_X3_at (u (5 + zn q2)) x4 0 (fun r115 v116 => ∀ u118 : Nat → RS, u118 = va_up u (5 + zn q2) v116 → vp_in q2 4 ∧ wp_X3_at (u118 (5 + zn q2)) x4 1 (fun r119 v120 => ∀ u122 : Nat → RS, u122 = va_up u118 (5 + zn q2) v120 → vp_in q2 4 ∧ wp_X3_at (u122 (5 + zn q2)) x4 2 (fun r123 v124 => ∀ u126 : Nat → RS, u126 = va_up u122 (5 + zn q2) v124 → wp_X4_fits (u126 4) r115 r119 r123 ((u126 0).1 5 3) (fun r127 v128 => ∀ u129 : Nat → RS, u129 = va_up u126 4 v128 → ((r127 = 0 → wp_X4_isOpen (u129 4) r115 (fun r131 v132 => ∀ u133 : Nat → RS, u133 = va_up u129 4 v132 → ((r131 = 0 → wp_X5_takeBatch_108 Q B20 u133 x1 q2 x3 x4 r115 r119 r123) ∧ (¬ r131 = 0 → wp_X5_give u133 r115 x1 (fun v146 => wp_X5_takeBatch_108 Q B20 v146 x1 q2 x3 x4 r115 r119 r123))))) ∧ (¬ r127 = 0 → wp_X4_join (u129 4) r115 r123 (fun v147 => ∀ u148 : Nat → RS, u148 = va_up u129 4 v147 → wp_X5_takeBatch_121 Q B20 u148 x1 q2 x3 x4 r115)))))))))
set_option maxRecDepth 20000 in
theorem b_X5_takeBatch_20 (C : zC p s m args meth c g A cX5_takeBatch RX5 8) (hr : meth.sig.returnType = (some .int)) (ad : Nat → Nat → Nat) (Q : Int32 → (Nat → RS) → Prop) (B20 : (Nat → RS) → Int32 → Int32 → Int32 → Int32 → Prop) (hB20 : ∀ (u : (Nat → RS)) (x1 : Int32) (q2 : Int32) (x3 : Int32) (x4 : Int32), B20 u x1 q2 x3 x4 → j_X5_takeBatch p l e s m args below meth c g A ad Q u 20 [(0, .ref (ad 0 0)), (1, .int x1), (2, .ref (ad (5 + zn q2) 0)), (3, .int x3), (4, .int x4)] []) (u : (Nat → RS)) (x1 : Int32) (q2 : Int32) (x3 : Int32) (x4 : Int32) (h : wp_X5_takeBatch_20 Q B20 u x1 q2 x3 x4) : j_X5_takeBatch p l e s m args below meth c g A ad Q u 20 [(0, .ref (ad 0 0)), (1, .int x1), (2, .ref (ad (5 + zn q2) 0)), (3, .int x3), (4, .int x4)] [] := by
  unfold wp_X5_takeBatch_20 at h
  refine z_iload C dX5_takeBatch_20 4 rfl ?_
  refine z_iload_n C dX5_takeBatch_22 rfl 3 rfl ?_
  refine z_icmp_ge C dX5_takeBatch_23 (tgt := 154) (by decide) (fun hc104 => ?_) (fun hc104 => ?_)
  · have h := h.1 hc104
    refine z_iconst (v := 0) C dX5_takeBatch_154 (by decide) ?_
    refine z_istore (lv1 := [(4, .int 0), (0, .ref (ad 0 0)), (1, .int x1), (2, .ref (ad (5 + zn q2) 0)), (3, .int x3)]) C dX5_takeBatch_155 (by decide) rfl ?_
    refine z_lv (lv1 := [(0, .ref (ad 0 0)), (1, .int x1), (2, .ref (ad (5 + zn q2) 0)), (3, .int x3), (4, .int 0)]) [1, 2, 3, 4, 0] rfl ?_
    obtain ⟨n9, h⟩ := h
    exact l_X5_takeBatch_157 C hr ad Q n9 u x1 q2 x3 0 h
  · have h := h.2 hc104
    refine z_aload_n C dX5_takeBatch_26 rfl 2 rfl ?_
    refine z_iload C dX5_takeBatch_27 4 rfl ?_
    refine z_iconst (v := 0) C dX5_takeBatch_29 (by decide) ?_
    obtain ⟨hi117, h⟩ := h
    refine Sc3i (As := [.int x4, .int 0]) C hi117 (c_X3_at l g (ad (5 + zn q2)) (u (5 + zn q2)) x4 0 _ h) v_X3_at ml5_164 rfl ⟨Nat.le_of_ble_eq_true rfl, Nat.le_of_ble_eq_true rfl⟩ ⟨Nat.zero_le _, Nat.zero_le _⟩ (Nat.le_of_ble_eq_true rfl) rfl dX5_takeBatch_30 ?_
    intro r115 v116 h
    refine stS (fun u118 eu118 => ?_)
    have h := h u118 eu118
    refine z_istore (lv1 := [(5, .int r115), (0, .ref (ad 0 0)), (1, .int x1), (2, .ref (ad (5 + zn q2) 0)), (3, .int x3), (4, .int x4)]) C dX5_takeBatch_33 (by decide) rfl ?_
    refine z_aload_n C dX5_takeBatch_35 rfl 3 rfl ?_
    refine z_iload C dX5_takeBatch_36 5 rfl ?_
    refine z_iconst (v := 1) C dX5_takeBatch_38 (by decide) ?_
    obtain ⟨hi121, h⟩ := h
    refine Sc3i (As := [.int x4, .int 1]) C hi121 (c_X3_at l g (ad (5 + zn q2)) (u118 (5 + zn q2)) x4 1 _ h) v_X3_at ml5_164 rfl ⟨Nat.le_of_ble_eq_true rfl, Nat.le_of_ble_eq_true rfl⟩ ⟨Nat.zero_le _, Nat.zero_le _⟩ (Nat.le_of_ble_eq_true rfl) rfl dX5_takeBatch_39 ?_
    intro r119 v120 h
    refine stS (fun u122 eu122 => ?_)
    have h := h u122 eu122
    refine z_istore (lv1 := [(6, .int r119), (5, .int r115), (0, .ref (ad 0 0)), (1, .int x1), (2, .ref (ad (5 + zn q2) 0)), (3, .int x3), (4, .int x4)]) C dX5_takeBatch_42 (by decide) rfl ?_
    refine z_aload_n C dX5_takeBatch_44 rfl 4 rfl ?_
    refine z_iload C dX5_takeBatch_45 6 rfl ?_
    refine z_iconst (v := 2) C dX5_takeBatch_47 (by decide) ?_
    obtain ⟨hi125, h⟩ := h
    refine Sc3i (As := [.int x4, .int 2]) C hi125 (c_X3_at l g (ad (5 + zn q2)) (u122 (5 + zn q2)) x4 2 _ h) v_X3_at ml5_164 rfl ⟨Nat.le_of_ble_eq_true rfl, Nat.le_of_ble_eq_true rfl⟩ ⟨Nat.zero_le _, Nat.zero_le _⟩ (Nat.le_of_ble_eq_true rfl) rfl dX5_takeBatch_48 ?_
    intro r123 v124 h
    refine stS (fun u126 eu126 => ?_)
    have h := h u126 eu126
    refine z_istore (lv1 := [(7, .int r123), (6, .int r119), (5, .int r115), (0, .ref (ad 0 0)), (1, .int x1), (2, .ref (ad (5 + zn q2) 0)), (3, .int x3), (4, .int x4)]) C dX5_takeBatch_51 (by decide) rfl ?_
    refine z_aload_n C dX5_takeBatch_53 rfl 3 rfl ?_
    refine Sg5_segments C fl5_41 dX5_takeBatch_54 ?_
    refine z_iload C dX5_takeBatch_57 2 rfl ?_
    refine z_iload C dX5_takeBatch_59 1 rfl ?_
    refine z_iload C dX5_takeBatch_61 0 rfl ?_
    refine z_aload_n C dX5_takeBatch_63 rfl 3 rfl ?_
    refine Sg5_terms C fl5_54 dX5_takeBatch_64 ?_
    refine z_iconst (v := 3) C dX5_takeBatch_67 (by decide) ?_
    refine Sln5_terms C 3 (by decide +kernel) (vp_in_iff.mpr (by decide +kernel)) dX5_takeBatch_68 ?_
    refine Sc4i (As := [.int r115, .int r119, .int r123, .int ((u126 0).1 5 3)]) C (c_X4_fits l g (ad 4) (u126 4) r115 r119 r123 ((u126 0).1 5 3) _ h) v_X4_fits ml5_167 rfl ⟨Nat.le_of_ble_eq_true rfl, Nat.le_of_ble_eq_true rfl⟩ ⟨Nat.zero_le _, Nat.zero_le _⟩ (Nat.le_of_ble_eq_true rfl) rfl dX5_takeBatch_69 ?_
    intro r127 v128 h
    refine stS (fun u129 eu129 => ?_)
    have h := h u129 eu129
    refine z_if_eq C dX5_takeBatch_72 (tgt := 89) (by decide) (fun hc130 => ?_) (fun hc130 => ?_)
    · have h := h.1 hc130
      refine z_aload_n C dX5_takeBatch_89 rfl 3 rfl ?_
      refine Sg5_segments C fl5_41 dX5_takeBatch_90 ?_
      refine z_iload C dX5_takeBatch_93 2 rfl ?_
      refine Sc4i (As := [.int r115]) C (c_X4_isOpen l g (ad 4) (u129 4) r115 _ h) v_X4_isOpen ml5_174 rfl ⟨Nat.le_of_ble_eq_true rfl, Nat.le_of_ble_eq_true rfl⟩ ⟨Nat.zero_le _, Nat.zero_le _⟩ (Nat.le_of_ble_eq_true rfl) rfl dX5_takeBatch_95 ?_
      intro r131 v132 h
      refine stS (fun u133 eu133 => ?_)
      have h := h u133 eu133
      refine z_if_eq C dX5_takeBatch_98 (tgt := 108) (by decide) (fun hc134 => ?_) (fun hc134 => ?_)
      · have h := h.1 hc134
        refine z_lv (lv1 := [(0, .ref (ad 0 0)), (1, .int x1), (2, .ref (ad (5 + zn q2) 0)), (3, .int x3), (4, .int x4), (5, .int r115), (6, .int r119), (7, .int r123)]) [3, 4, 5, 6, 7, 2, 1, 0] rfl ?_
        exact b_X5_takeBatch_108 C hr ad Q B20 hB20 u133 x1 q2 x3 x4 r115 r119 r123 h
      · have h := h.2 hc134
        refine z_aload_n C dX5_takeBatch_101 rfl 3 rfl ?_
        refine z_iload C dX5_takeBatch_102 2 rfl ?_
        refine z_iload_n C dX5_takeBatch_104 rfl 4 rfl ?_
        refine Sc5v (As := [.int r115, .int x1]) C (c_X5_give l g ad u133 r115 x1 _ h) v_X5_give ml5_177 rfl ⟨Nat.le_of_ble_eq_true rfl, Nat.le_of_ble_eq_true rfl⟩ ⟨Nat.zero_le _, Nat.zero_le _⟩ (Nat.le_of_ble_eq_true rfl) rfl dX5_takeBatch_105 ?_
        intro v146 h
        refine z_lv (lv1 := [(0, .ref (ad 0 0)), (1, .int x1), (2, .ref (ad (5 + zn q2) 0)), (3, .int x3), (4, .int x4), (5, .int r115), (6, .int r119), (7, .int r123)]) [3, 4, 5, 6, 7, 2, 1, 0] rfl ?_
        exact b_X5_takeBatch_108 C hr ad Q B20 hB20 v146 x1 q2 x3 x4 r115 r119 r123 h
    · have h := h.2 hc130
      refine z_aload_n C dX5_takeBatch_75 rfl 3 rfl ?_
      refine Sg5_segments C fl5_41 dX5_takeBatch_76 ?_
      refine z_iload C dX5_takeBatch_79 2 rfl ?_
      refine z_iload C dX5_takeBatch_81 0 rfl ?_
      refine Sc4v (As := [.int r115, .int r123]) C (c_X4_join l g (ad 4) (u129 4) r115 r123 _ h) v_X4_join ml5_171 rfl ⟨Nat.le_of_ble_eq_true rfl, Nat.le_of_ble_eq_true rfl⟩ ⟨Nat.zero_le _, Nat.zero_le _⟩ (Nat.le_of_ble_eq_true rfl) rfl dX5_takeBatch_83 ?_
      intro v147 h
      refine stS (fun u148 eu148 => ?_)
      have h := h u148 eu148
      refine z_goto C dX5_takeBatch_86 (tgt := 121) (by decide) ?_
      refine z_lv (lv1 := [(0, .ref (ad 0 0)), (1, .int x1), (2, .ref (ad (5 + zn q2) 0)), (3, .int x3), (4, .int x4), (5, .int r115)]) [3, 4, 5, 6, 7, 2] rfl ?_
      exact b_X5_takeBatch_121 C hr ad Q B20 hB20 u148 x1 q2 x3 x4 r115 h
theorem l_X5_takeBatch_20 (C : zC p s m args meth c g A cX5_takeBatch RX5 8) (hr : meth.sig.returnType = (some .int)) (ad : Nat → Nat → Nat) (Q : Int32 → (Nat → RS) → Prop) : ∀ (n : Nat) (u : (Nat → RS)) (x1 : Int32) (q2 : Int32) (x3 : Int32) (x4 : Int32), zit5 (wp_X5_takeBatch_20 Q) n u x1 q2 x3 x4 → j_X5_takeBatch p l e s m args below meth c g A ad Q u 20 [(0, .ref (ad 0 0)), (1, .int x1), (2, .ref (ad (5 + zn q2) 0)), (3, .int x3), (4, .int x4)] [] := by
  intro n
  induction n with
  | zero => exact fun u x1 q2 x3 x4 h => h.elim
  | succ n ih => exact fun u x1 q2 x3 x4 h => b_X5_takeBatch_20 C hr ad Q (zit5 (wp_X5_takeBatch_20 Q) n) ih u x1 q2 x3 x4 h
def wp_X5_takeBatch (u : (Nat → RS)) (x1 : Int32) (Q : Int32 → (Nat → RS) → Prop) : Prop :=
  vp_in x1 4 ∧ vp_in x1 4 ∧ ∀ x103 : Int32, x103 = zmin 16 ((u (5 + zn x1)).1 0 0) → (∃ n, zit5 (wp_X5_takeBatch_20 Q) n u x1 x1 x103 0)
set_option maxRecDepth 20000 in
theorem c_X5_takeBatch (l : Launch) (g : zG) (ad : Nat → Nat → Nat) (u : (Nat → RS)) (x1 : Int32) (Q : Int32 → (Nat → RS) → Prop) (h : wp_X5_takeBatch u x1 Q) : zMi l yX5_takeBatch cX5_takeBatch 8 (some .int) 4 0 0 g [.ref (ad 0 0), .int x1] (wS g ad u) (wS g ad) Q := by
  refine zMi_of RX5 (by decide) rfl [(0, .ref (ad 0 0)), (1, .int x1)] rfl (Nat.le_of_ble_eq_true rfl) (fun p e s m args below meth c A C hr hnm => ?_)
  unfold wp_X5_takeBatch at h
  refine z_aload_n C dX5_takeBatch_0 rfl 0 rfl ?_
  refine Sg5_queues C fl5_34 dX5_takeBatch_1 ?_
  refine z_iload_n C dX5_takeBatch_4 rfl 1 rfl ?_
  obtain ⟨hi101, h⟩ := h
  refine Saq C hi101 dX5_takeBatch_5 ?_
  refine z_astore_n (lv1 := [(2, .ref (ad (5 + zn x1) 0)), (0, .ref (ad 0 0)), (1, .int x1)]) C dX5_takeBatch_6 rfl (by decide) rfl ?_
  refine z_bipush (v := 16) C dX5_takeBatch_7 (by decide) ?_
  refine z_aload_n C dX5_takeBatch_9 rfl 0 rfl ?_
  obtain ⟨hi102, h⟩ := h
  refine Sg3_number C hi102 fl5_118 dX5_takeBatch_10 ?_
  refine z_mmin C mj5_159 (Nat.le_of_ble_eq_true rfl) (Nat.le_of_ble_eq_true rfl) ⟨Nat.zero_le _, Nat.zero_le _⟩ dX5_takeBatch_13 ?_
  refine z_topi (fun x103 ex103 => ?_)
  have h := h x103 ex103
  refine z_istore_n (lv1 := [(3, .int x103), (2, .ref (ad (5 + zn x1) 0)), (0, .ref (ad 0 0)), (1, .int x1)]) C dX5_takeBatch_16 rfl (by decide) rfl ?_
  refine z_iconst (v := 0) C dX5_takeBatch_17 (by decide) ?_
  refine z_istore (lv1 := [(4, .int 0), (3, .int x103), (2, .ref (ad (5 + zn x1) 0)), (0, .ref (ad 0 0)), (1, .int x1)]) C dX5_takeBatch_18 (by decide) rfl ?_
  refine z_lv (lv1 := [(0, .ref (ad 0 0)), (1, .int x1), (2, .ref (ad (5 + zn x1) 0)), (3, .int x103), (4, .int 0)]) [3, 4, 2, 1, 0] rfl ?_
  obtain ⟨n9, h⟩ := h
  exact l_X5_takeBatch_20 C hr ad Q n9 u x1 x1 x103 0 h
abbrev j_X5_wishOf (p : Program) (l : Launch) (e : Env) (s : State) (m : MethodId) (args : Array Value) (below : List Frame) (meth : Method) (c : Code) (g : zG) (A : Nat → Prop) (ad : Nat → Nat → Nat) (Q : Int32 → (Nat → RS) → Prop) (u : (Nat → RS)) (pc : Nat) (lv : List (Nat × Value)) (st : List Value) : Prop := zJ p l e (zR 5 0 0) s m args below meth c g A 3 (zQi below args s g A 0 0 (wS g ad) Q) (wS g ad u) 0 0 pc lv st
def wp_X5_wishOf_33 (Q : Int32 → (Nat → RS) → Prop) (u : (Nat → RS)) (t0 : Int32) : Prop :=
  Q t0 u
set_option maxRecDepth 20000 in
theorem b_X5_wishOf_33 (C : zC p s m args meth c g A cX5_wishOf RX5 3) (hr : meth.sig.returnType = (some .int)) (ad : Nat → Nat → Nat) (Q : Int32 → (Nat → RS) → Prop) (u : (Nat → RS)) (t0 : Int32) (h : wp_X5_wishOf_33 Q u t0) : j_X5_wishOf p l e s m args below meth c g A ad Q u 33 [(0, .ref (ad 0 0))] [.int t0] := by
  unfold wp_X5_wishOf_33 at h
  exact z_iret C hr u rfl h dX5_wishOf_33
def wp_X5_wishOf (u : (Nat → RS)) (x1 : Int32) (Q : Int32 → (Nat → RS) → Prop) : Prop :=
  wp_X0_get (u 2) 13 x1 (fun r101 v102 => ∀ u103 : Nat → RS, u103 = va_up u 2 v102 → ((r101 = (-1) → wp_X5_entryOf u103 x1 (fun r105 v106 => vp_in r105 16 ∧ wp_X5_wishOf_33 Q v106 ((v106 3).1 0 (zn r105)))) ∧ (¬ r101 = (-1) → wp_X5_wishOf_33 Q u103 r101)))
set_option maxRecDepth 20000 in
theorem c_X5_wishOf (l : Launch) (g : zG) (ad : Nat → Nat → Nat) (u : (Nat → RS)) (x1 : Int32) (Q : Int32 → (Nat → RS) → Prop) (h : wp_X5_wishOf u x1 Q) : zMi l yX5_wishOf cX5_wishOf 3 (some .int) 5 0 0 g [.ref (ad 0 0), .int x1] (wS g ad u) (wS g ad) Q := by
  refine zMi_of RX5 (by decide) rfl [(0, .ref (ad 0 0)), (1, .int x1)] rfl (Nat.le_of_ble_eq_true rfl) (fun p e s m args below meth c A C hr hnm => ?_)
  unfold wp_X5_wishOf at h
  refine z_aload_n C dX5_wishOf_0 rfl 0 rfl ?_
  refine Sg5_flows C fl5_21 dX5_wishOf_1 ?_
  refine z_bipush (v := 13) C dX5_wishOf_4 (by decide) ?_
  refine z_iload_n C dX5_wishOf_6 rfl 1 rfl ?_
  refine Sc0i (As := [.int 13, .int x1]) C (c_X0_get l g (ad 2) (u 2) 13 x1 _ h) v_X0_get ml5_87 rfl ⟨Nat.le_of_ble_eq_true rfl, Nat.le_of_ble_eq_true rfl⟩ ⟨Nat.zero_le _, Nat.zero_le _⟩ (Nat.le_of_ble_eq_true rfl) rfl dX5_wishOf_7 ?_
  intro r101 v102 h
  refine stS (fun u103 eu103 => ?_)
  have h := h u103 eu103
  refine z_istore_n (lv1 := [(2, .int r101), (0, .ref (ad 0 0)), (1, .int x1)]) C dX5_wishOf_10 rfl (by decide) rfl ?_
  refine z_iload_n C dX5_wishOf_11 rfl 0 rfl ?_
  refine z_iconst (v := (-1)) C dX5_wishOf_12 (by decide) ?_
  refine z_icmp_eq C dX5_wishOf_13 (tgt := 20) (by decide) (fun hc104 => ?_) (fun hc104 => ?_)
  · have h := h.1 hc104
    refine z_aload_n C dX5_wishOf_20 rfl 1 rfl ?_
    refine Sg5_table C fl5_28 dX5_wishOf_21 ?_
    refine Sg6_queueOf C fl5_106 dX5_wishOf_24 ?_
    refine z_aload_n C dX5_wishOf_27 rfl 1 rfl ?_
    refine z_iload_n C dX5_wishOf_28 rfl 2 rfl ?_
    refine Sc5i (As := [.int x1]) C (c_X5_entryOf l g ad u103 x1 _ h) v_X5_entryOf ml5_109 rfl ⟨Nat.le_of_ble_eq_true rfl, Nat.le_of_ble_eq_true rfl⟩ ⟨Nat.zero_le _, Nat.zero_le _⟩ (Nat.le_of_ble_eq_true rfl) rfl dX5_wishOf_29 ?_
    intro r105 v106 h
    obtain ⟨hi107, h⟩ := h
    refine Sl6_queueOf C hi107 dX5_wishOf_32 ?_
    refine z_lv (lv1 := [(0, .ref (ad 0 0))]) [1] rfl ?_
    exact b_X5_wishOf_33 C hr ad Q v106 ((v106 3).1 0 (zn r105)) h
  · have h := h.2 hc104
    refine z_iload_n C dX5_wishOf_16 rfl 0 rfl ?_
    refine z_goto C dX5_wishOf_17 (tgt := 33) (by decide) ?_
    refine z_lv (lv1 := [(0, .ref (ad 0 0))]) [1] rfl ?_
    exact b_X5_wishOf_33 C hr ad Q u103 r101 h
abbrev j_X5_flowsOfEntry (p : Program) (l : Launch) (e : Env) (s : State) (m : MethodId) (args : Array Value) (below : List Frame) (meth : Method) (c : Code) (g : zG) (A : Nat → Prop) (ad : Nat → Nat → Nat) (Q : Int32 → (Nat → RS) → Prop) (u : (Nat → RS)) (pc : Nat) (lv : List (Nat × Value)) (st : List Value) : Prop := zJ p l e (zR 5 0 0) s m args below meth c g A 4 (zQi below args s g A 0 0 (wS g ad) Q) (wS g ad u) 0 0 pc lv st
def wp_X5_flowsOfEntry_30 (Q : Int32 → (Nat → RS) → Prop) (B4 : (Nat → RS) → Int32 → Int32 → Int32 → Prop) (u : (Nat → RS)) (x1 : Int32) (x2 : Int32) (x3 : Int32) : Prop :=
  ∀ x105 : Int32, x105 = x3 + 1 → B4 u x1 x2 x105
set_option maxRecDepth 20000 in
theorem b_X5_flowsOfEntry_30 (C : zC p s m args meth c g A cX5_flowsOfEntry RX5 4) (hr : meth.sig.returnType = (some .int)) (ad : Nat → Nat → Nat) (Q : Int32 → (Nat → RS) → Prop) (B4 : (Nat → RS) → Int32 → Int32 → Int32 → Prop) (hB4 : ∀ (u : (Nat → RS)) (x1 : Int32) (x2 : Int32) (x3 : Int32), B4 u x1 x2 x3 → j_X5_flowsOfEntry p l e s m args below meth c g A ad Q u 4 [(0, .ref (ad 0 0)), (1, .int x1), (2, .int x2), (3, .int x3)] []) (u : (Nat → RS)) (x1 : Int32) (x2 : Int32) (x3 : Int32) (h : wp_X5_flowsOfEntry_30 Q B4 u x1 x2 x3) : j_X5_flowsOfEntry p l e s m args below meth c g A ad Q u 30 [(0, .ref (ad 0 0)), (1, .int x1), (2, .int x2), (3, .int x3)] [] := by
  unfold wp_X5_flowsOfEntry_30 at h
  obtain ⟨x105, ex105⟩ : ∃ y : Int32, y = x3 + 1 := ⟨_, rfl⟩
  have h := h x105 ex105
  refine z_iinc (v := x105) (lv1 := [(3, .int x105), (0, .ref (ad 0 0)), (1, .int x1), (2, .int x2)]) C dX5_flowsOfEntry_30 3 rfl (by rw [ex105]; rfl) (by decide) rfl ?_
  refine z_goto C dX5_flowsOfEntry_33 (tgt := 4) (by decide) ?_
  refine z_lv (lv1 := [(0, .ref (ad 0 0)), (1, .int x1), (2, .int x2), (3, .int x105)]) [1, 2, 3, 0] rfl ?_
  exact hB4 u x1 x2 x105 h
def wp_X5_flowsOfEntry_4 (Q : Int32 → (Nat → RS) → Prop) (B4 : (Nat → RS) → Int32 → Int32 → Int32 → Prop) (u : (Nat → RS)) (x1 : Int32) (x2 : Int32) (x3 : Int32) : Prop :=
  (((u 2).1 0 0 ≤ x3 → Q x2 u) ∧ (¬ (u 2).1 0 0 ≤ x3 → wp_X5_entryOf u x3 (fun r102 v103 => ((¬ r102 = x1 → wp_X5_flowsOfEntry_30 Q B4 v103 x1 x2 x3) ∧ (r102 = x1 → ∀ x106 : Int32, x106 = x2 ||| (1 <<< (x3 &&& 31)) → wp_X5_flowsOfEntry_30 Q B4 v103 x1 x106 x3)))))
set_option maxRecDepth 20000 in
theorem b_X5_flowsOfEntry_4 (C : zC p s m args meth c g A cX5_flowsOfEntry RX5 4) (hr : meth.sig.returnType = (some .int)) (ad : Nat → Nat → Nat) (Q : Int32 → (Nat → RS) → Prop) (B4 : (Nat → RS) → Int32 → Int32 → Int32 → Prop) (hB4 : ∀ (u : (Nat → RS)) (x1 : Int32) (x2 : Int32) (x3 : Int32), B4 u x1 x2 x3 → j_X5_flowsOfEntry p l e s m args below meth c g A ad Q u 4 [(0, .ref (ad 0 0)), (1, .int x1), (2, .int x2), (3, .int x3)] []) (u : (Nat → RS)) (x1 : Int32) (x2 : Int32) (x3 : Int32) (h : wp_X5_flowsOfEntry_4 Q B4 u x1 x2 x3) : j_X5_flowsOfEntry p l e s m args below meth c g A ad Q u 4 [(0, .ref (ad 0 0)), (1, .int x1), (2, .int x2), (3, .int x3)] [] := by
  unfold wp_X5_flowsOfEntry_4 at h
  refine z_iload_n C dX5_flowsOfEntry_4 rfl 3 rfl ?_
  refine z_aload_n C dX5_flowsOfEntry_5 rfl 0 rfl ?_
  refine Sg5_flows C fl5_21 dX5_flowsOfEntry_6 ?_
  refine Sg0_number C fl5_112 dX5_flowsOfEntry_9 ?_
  refine z_icmp_ge C dX5_flowsOfEntry_12 (tgt := 36) (by decide) (fun hc101 => ?_) (fun hc101 => ?_)
  · have h := h.1 hc101
    refine z_iload_n C dX5_flowsOfEntry_36 rfl 2 rfl ?_
    exact z_iret C hr u rfl h dX5_flowsOfEntry_37
  · have h := h.2 hc101
    refine z_aload_n C dX5_flowsOfEntry_15 rfl 0 rfl ?_
    refine z_iload_n C dX5_flowsOfEntry_16 rfl 3 rfl ?_
    refine Sc5i (As := [.int x3]) C (c_X5_entryOf l g ad u x3 _ h) v_X5_entryOf ml5_109 rfl ⟨Nat.le_of_ble_eq_true rfl, Nat.le_of_ble_eq_true rfl⟩ ⟨Nat.zero_le _, Nat.zero_le _⟩ (Nat.le_of_ble_eq_true rfl) rfl dX5_flowsOfEntry_17 ?_
    intro r102 v103 h
    refine z_iload_n C dX5_flowsOfEntry_20 rfl 1 rfl ?_
    refine z_icmp_ne C dX5_flowsOfEntry_21 (tgt := 30) (by decide) (fun hc104 => ?_) (fun hc104 => ?_)
    · have h := h.1 hc104
      exact b_X5_flowsOfEntry_30 C hr ad Q B4 hB4 v103 x1 x2 x3 h
    · have h := h.2 hc104
      refine z_iload_n C dX5_flowsOfEntry_24 rfl 2 rfl ?_
      refine z_iconst (v := 1) C dX5_flowsOfEntry_25 (by decide) ?_
      refine z_iload_n C dX5_flowsOfEntry_26 rfl 3 rfl ?_
      refine z_ishl C dX5_flowsOfEntry_27 ?_
      refine z_ior C dX5_flowsOfEntry_28 ?_
      refine z_topi (fun x106 ex106 => ?_)
      have h := h x106 ex106
      refine z_istore_n (lv1 := [(2, .int x106), (0, .ref (ad 0 0)), (1, .int x1), (3, .int x3)]) C dX5_flowsOfEntry_29 rfl (by decide) rfl ?_
      refine z_lv (lv1 := [(0, .ref (ad 0 0)), (1, .int x1), (2, .int x106), (3, .int x3)]) [1, 2, 0, 3] rfl ?_
      exact b_X5_flowsOfEntry_30 C hr ad Q B4 hB4 v103 x1 x106 x3 h
theorem l_X5_flowsOfEntry_4 (C : zC p s m args meth c g A cX5_flowsOfEntry RX5 4) (hr : meth.sig.returnType = (some .int)) (ad : Nat → Nat → Nat) (Q : Int32 → (Nat → RS) → Prop) : ∀ (n : Nat) (u : (Nat → RS)) (x1 : Int32) (x2 : Int32) (x3 : Int32), zit4 (wp_X5_flowsOfEntry_4 Q) n u x1 x2 x3 → j_X5_flowsOfEntry p l e s m args below meth c g A ad Q u 4 [(0, .ref (ad 0 0)), (1, .int x1), (2, .int x2), (3, .int x3)] [] := by
  intro n
  induction n with
  | zero => exact fun u x1 x2 x3 h => h.elim
  | succ n ih => exact fun u x1 x2 x3 h => b_X5_flowsOfEntry_4 C hr ad Q (zit4 (wp_X5_flowsOfEntry_4 Q) n) ih u x1 x2 x3 h
def wp_X5_flowsOfEntry (u : (Nat → RS)) (x1 : Int32) (Q : Int32 → (Nat → RS) → Prop) : Prop :=
  (∃ n, zit4 (wp_X5_flowsOfEntry_4 Q) n u x1 0 0)
set_option maxRecDepth 20000 in
theorem c_X5_flowsOfEntry (l : Launch) (g : zG) (ad : Nat → Nat → Nat) (u : (Nat → RS)) (x1 : Int32) (Q : Int32 → (Nat → RS) → Prop) (h : wp_X5_flowsOfEntry u x1 Q) : zMi l yX5_flowsOfEntry cX5_flowsOfEntry 4 (some .int) 5 0 0 g [.ref (ad 0 0), .int x1] (wS g ad u) (wS g ad) Q := by
  refine zMi_of RX5 (by decide) rfl [(0, .ref (ad 0 0)), (1, .int x1)] rfl (Nat.le_of_ble_eq_true rfl) (fun p e s m args below meth c A C hr hnm => ?_)
  unfold wp_X5_flowsOfEntry at h
  refine z_iconst (v := 0) C dX5_flowsOfEntry_0 (by decide) ?_
  refine z_istore_n (lv1 := [(2, .int 0), (0, .ref (ad 0 0)), (1, .int x1)]) C dX5_flowsOfEntry_1 rfl (by decide) rfl ?_
  refine z_iconst (v := 0) C dX5_flowsOfEntry_2 (by decide) ?_
  refine z_istore_n (lv1 := [(3, .int 0), (2, .int 0), (0, .ref (ad 0 0)), (1, .int x1)]) C dX5_flowsOfEntry_3 rfl (by decide) rfl ?_
  refine z_lv (lv1 := [(0, .ref (ad 0 0)), (1, .int x1), (2, .int 0), (3, .int 0)]) [2, 3, 1, 0] rfl ?_
  obtain ⟨n9, h⟩ := h
  exact l_X5_flowsOfEntry_4 C hr ad Q n9 u x1 0 0 h
abbrev j_X5_arrive (p : Program) (l : Launch) (e : Env) (s : State) (m : MethodId) (args : Array Value) (below : List Frame) (meth : Method) (c : Code) (g : zG) (A : Nat → Prop) (ad : Nat → Nat → Nat) (Q : Int32 → (Nat → RS) → Prop) (u : (Nat → RS)) (pc : Nat) (lv : List (Nat × Value)) (st : List Value) : Prop := zJ p l e (zR 5 0 0) s m args below meth c g A 11 (zQi below args s g A 0 0 (wS g ad) Q) (wS g ad u) 0 0 pc lv st
def wp_X5_arrive_255 (Q : Int32 → (Nat → RS) → Prop) (u : (Nat → RS)) (x8 : Int32) : Prop :=
  Q x8 u
set_option maxRecDepth 20000 in
theorem b_X5_arrive_255 (C : zC p s m args meth c g A cX5_arrive RX5 11) (hr : meth.sig.returnType = (some .int)) (ad : Nat → Nat → Nat) (Q : Int32 → (Nat → RS) → Prop) (u : (Nat → RS)) (x8 : Int32) (h : wp_X5_arrive_255 Q u x8) : j_X5_arrive p l e s m args below meth c g A ad Q u 255 [(0, .ref (ad 0 0)), (8, .int x8)] [] := by
  unfold wp_X5_arrive_255 at h
  refine z_iload C dX5_arrive_255 1 rfl ?_
  exact z_iret C hr u rfl h dX5_arrive_257
def wp_X5_arrive_107 (Q : Int32 → (Nat → RS) → Prop) (u : (Nat → RS)) (x1 : Int32) (x2 : Int32) (x3 : Int32) (x4 : Int32) (x8 : Int32) : Prop :=
  wp_X0_add (u 2) 10 x1 1 (fun v114 => ∀ u115 : Nat → RS, u115 = va_up u 2 v114 → vp_in x4 16 ∧ vp_in x4 16 ∧ ∀ u118 : Nat → RS, u118 = va_up u115 3 (rI (u115 3) 1 (upd ((u115 3).1 1) (zn x4) (((u115 3).1 1 (zn x4)) + 1))) → wp_X0_get (u118 2) 9 x1 (fun r119 v120 => ∀ u121 : Nat → RS, u121 = va_up u118 2 v120 → wp_X0_put (u121 2) 9 x1 (r119 + x2) (fun v122 => ∀ u123 : Nat → RS, u123 = va_up u121 2 v122 → vp_in x8 4 ∧ vp_in x8 4 ∧ (((u123 (5 + zn x8)).1 0 0 < (u123 0).1 5 0 → vp_in x8 4 ∧ wp_X3_append (u123 (5 + zn x8)) x1 r119 x2 x3 ((u123 0).1 6 0) (fun v127 => ∀ u129 : Nat → RS, u129 = va_up u123 (5 + zn x8) v127 → wp_X0_nowWaits (u129 2) x1 x8 (fun v130 => ∀ u131 : Nat → RS, u131 = va_up u129 2 v130 → vp_in x8 4 ∧ (((u131 (5 + zn x8)).1 0 0 < (u131 0).1 5 8 → wp_X5_arrive_255 Q u131 x8) ∧ (¬ (u131 (5 + zn x8)).1 0 0 < (u131 0).1 5 8 → wp_X0_add (u131 2) 18 x1 1 (fun v134 => ∀ u135 : Nat → RS, u135 = va_up u131 2 v134 → wp_X5_arrive_255 Q u135 x8)))))) ∧ (¬ (u123 (5 + zn x8)).1 0 0 < (u123 0).1 5 0 → wp_X0_add (u123 2) 11 x1 1 (fun v136 => ∀ u137 : Nat → RS, u137 = va_up u123 2 v136 → vp_in x8 4 ∧ vp_in x8 4 ∧ ∀ u140 : Nat → RS, u140 = va_up u137 (5 + zn x8) (rN (u137 (5 + zn x8)) 2 (((u137 (5 + zn x8)).1 2 0) + 1)) → Q 4 u140))))))
set_option maxRecDepth 20000 in
theorem b_X5_arrive_107 (C : zC p s m args meth c g A cX5_arrive RX5 11) (hr : meth.sig.returnType = (some .int)) (ad : Nat → Nat → Nat) (Q : Int32 → (Nat → RS) → Prop) (u : (Nat → RS)) (x1 : Int32) (x2 : Int32) (x3 : Int32) (x4 : Int32) (x8 : Int32) (h : wp_X5_arrive_107 Q u x1 x2 x3 x4 x8) : j_X5_arrive p l e s m args below meth c g A ad Q u 107 [(0, .ref (ad 0 0)), (1, .int x1), (2, .int x2), (3, .int x3), (4, .int x4), (8, .int x8)] [] := by
  unfold wp_X5_arrive_107 at h
  refine z_aload_n C dX5_arrive_107 rfl 0 rfl ?_
  refine Sg5_flows C fl5_21 dX5_arrive_108 ?_
  refine z_bipush (v := 10) C dX5_arrive_111 (by decide) ?_
  refine z_iload_n C dX5_arrive_113 rfl 1 rfl ?_
  refine z_iconst (v := 1) C dX5_arrive_114 (by decide) ?_
  refine Sc0v (As := [.int 10, .int x1, .int 1]) C (c_X0_add l g (ad 2) (u 2) 10 x1 1 _ h) v_X0_add ml5_122 rfl ⟨Nat.le_of_ble_eq_true rfl, Nat.le_of_ble_eq_true rfl⟩ ⟨Nat.zero_le _, Nat.zero_le _⟩ (Nat.le_of_ble_eq_true rfl) rfl dX5_arrive_115 ?_
  intro v114 h
  refine stS (fun u115 eu115 => ?_)
  have h := h u115 eu115
  refine z_aload_n C dX5_arrive_118 rfl 0 rfl ?_
  refine Sg5_table C fl5_28 dX5_arrive_119 ?_
  refine Sg6_hits C fl5_129 dX5_arrive_122 ?_
  refine z_iload C dX5_arrive_125 4 rfl ?_
  refine z_dup2 C dX5_arrive_127 rfl rfl ?_
  obtain ⟨hi116, h⟩ := h
  refine Sl6_hits C hi116 dX5_arrive_128 ?_
  refine z_iconst (v := 1) C dX5_arrive_129 (by decide) ?_
  refine z_iadd C dX5_arrive_130 ?_
  obtain ⟨hi117, h⟩ := h
  refine Ss6_hits C hi117 dX5_arrive_131 ?_
  refine stS (fun u118 eu118 => ?_)
  have h := h u118 eu118
  refine z_aload_n C dX5_arrive_132 rfl 0 rfl ?_
  refine Sg5_flows C fl5_21 dX5_arrive_133 ?_
  refine z_bipush (v := 9) C dX5_arrive_136 (by decide) ?_
  refine z_iload_n C dX5_arrive_138 rfl 1 rfl ?_
  refine Sc0i (As := [.int 9, .int x1]) C (c_X0_get l g (ad 2) (u118 2) 9 x1 _ h) v_X0_get ml5_87 rfl ⟨Nat.le_of_ble_eq_true rfl, Nat.le_of_ble_eq_true rfl⟩ ⟨Nat.zero_le _, Nat.zero_le _⟩ (Nat.le_of_ble_eq_true rfl) rfl dX5_arrive_139 ?_
  intro r119 v120 h
  refine stS (fun u121 eu121 => ?_)
  have h := h u121 eu121
  refine z_istore (lv1 := [(9, .int r119), (0, .ref (ad 0 0)), (1, .int x1), (2, .int x2), (3, .int x3), (4, .int x4), (8, .int x8)]) C dX5_arrive_142 (by decide) rfl ?_
  refine z_aload_n C dX5_arrive_144 rfl 1 rfl ?_
  refine Sg5_flows C fl5_21 dX5_arrive_145 ?_
  refine z_bipush (v := 9) C dX5_arrive_148 (by decide) ?_
  refine z_iload_n C dX5_arrive_150 rfl 2 rfl ?_
  refine z_iload C dX5_arrive_151 0 rfl ?_
  refine z_iload_n C dX5_arrive_153 rfl 3 rfl ?_
  refine z_iadd C dX5_arrive_154 ?_
  refine Sc0v (As := [.int 9, .int x1, .int (r119 + x2)]) C (c_X0_put l g (ad 2) (u121 2) 9 x1 (r119 + x2) _ h) v_X0_put ml5_126 rfl ⟨Nat.le_of_ble_eq_true rfl, Nat.le_of_ble_eq_true rfl⟩ ⟨Nat.zero_le _, Nat.zero_le _⟩ (Nat.le_of_ble_eq_true rfl) rfl dX5_arrive_155 ?_
  intro v122 h
  refine stS (fun u123 eu123 => ?_)
  have h := h u123 eu123
  refine z_aload_n C dX5_arrive_158 rfl 1 rfl ?_
  refine Sg5_queues C fl5_34 dX5_arrive_159 ?_
  refine z_iload C dX5_arrive_162 6 rfl ?_
  obtain ⟨hi124, h⟩ := h
  refine Saq C hi124 dX5_arrive_164 ?_
  refine z_astore (lv1 := [(10, .ref (ad (5 + zn x8) 0)), (9, .int r119), (0, .ref (ad 0 0)), (1, .int x1), (2, .int x2), (3, .int x3), (4, .int x4), (8, .int x8)]) C dX5_arrive_165 (by decide) rfl ?_
  refine z_aload C dX5_arrive_167 0 rfl ?_
  obtain ⟨hi125, h⟩ := h
  refine Sg3_number C hi125 fl5_118 dX5_arrive_169 ?_
  refine z_aload_n C dX5_arrive_172 rfl 2 rfl ?_
  refine Sg5_terms C fl5_54 dX5_arrive_173 ?_
  refine z_iconst (v := 0) C dX5_arrive_176 (by decide) ?_
  refine Sln5_terms C 0 (by decide +kernel) (vp_in_iff.mpr (by decide +kernel)) dX5_arrive_177 ?_
  refine z_icmp_lt C dX5_arrive_178 (tgt := 205) (by decide) (fun hc126 => ?_) (fun hc126 => ?_)
  · have h := h.1 hc126
    refine z_aload C dX5_arrive_205 0 rfl ?_
    refine z_iload_n C dX5_arrive_207 rfl 3 rfl ?_
    refine z_iload C dX5_arrive_208 1 rfl ?_
    refine z_iload_n C dX5_arrive_210 rfl 4 rfl ?_
    refine z_iload_n C dX5_arrive_211 rfl 5 rfl ?_
    refine z_aload_n C dX5_arrive_212 rfl 2 rfl ?_
    refine Sg5_time C fl5_80 dX5_arrive_213 ?_
    obtain ⟨hi128, h⟩ := h
    refine Sc3v (As := [.int x1, .int r119, .int x2, .int x3, .int ((u123 0).1 6 0)]) C hi128 (c_X3_append l g (ad (5 + zn x8)) (u123 (5 + zn x8)) x1 r119 x2 x3 ((u123 0).1 6 0) _ h) v_X3_append ml5_135 rfl ⟨Nat.le_of_ble_eq_true rfl, Nat.le_of_ble_eq_true rfl⟩ ⟨Nat.zero_le _, Nat.zero_le _⟩ (Nat.le_of_ble_eq_true rfl) rfl dX5_arrive_216 ?_
    intro v127 h
    refine stS (fun u129 eu129 => ?_)
    have h := h u129 eu129
    refine z_aload_n C dX5_arrive_219 rfl 2 rfl ?_
    refine Sg5_flows C fl5_21 dX5_arrive_220 ?_
    refine z_iload_n C dX5_arrive_223 rfl 3 rfl ?_
    refine z_iload C dX5_arrive_224 7 rfl ?_
    refine Sc0v (As := [.int x1, .int x8]) C (c_X0_nowWaits l g (ad 2) (u129 2) x1 x8 _ h) v_X0_nowWaits ml5_139 rfl ⟨Nat.le_of_ble_eq_true rfl, Nat.le_of_ble_eq_true rfl⟩ ⟨Nat.zero_le _, Nat.zero_le _⟩ (Nat.le_of_ble_eq_true rfl) rfl dX5_arrive_226 ?_
    intro v130 h
    refine stS (fun u131 eu131 => ?_)
    have h := h u131 eu131
    refine z_aload C dX5_arrive_229 0 rfl ?_
    obtain ⟨hi132, h⟩ := h
    refine Sg3_number C hi132 fl5_118 dX5_arrive_231 ?_
    refine z_aload_n C dX5_arrive_234 rfl 2 rfl ?_
    refine Sg5_terms C fl5_54 dX5_arrive_235 ?_
    refine z_bipush (v := 8) C dX5_arrive_238 (by decide) ?_
    refine Sln5_terms C 8 (by decide +kernel) (vp_in_iff.mpr (by decide +kernel)) dX5_arrive_240 ?_
    refine z_icmp_lt C dX5_arrive_241 (tgt := 255) (by decide) (fun hc133 => ?_) (fun hc133 => ?_)
    · have h := h.1 hc133
      refine z_lv (lv1 := [(0, .ref (ad 0 0)), (8, .int x8)]) [2, 7] rfl ?_
      exact b_X5_arrive_255 C hr ad Q u131 x8 h
    · have h := h.2 hc133
      refine z_aload_n C dX5_arrive_244 rfl 2 rfl ?_
      refine Sg5_flows C fl5_21 dX5_arrive_245 ?_
      refine z_bipush (v := 18) C dX5_arrive_248 (by decide) ?_
      refine z_iload_n C dX5_arrive_250 rfl 3 rfl ?_
      refine z_iconst (v := 1) C dX5_arrive_251 (by decide) ?_
      refine Sc0v (As := [.int 18, .int x1, .int 1]) C (c_X0_add l g (ad 2) (u131 2) 18 x1 1 _ h) v_X0_add ml5_122 rfl ⟨Nat.le_of_ble_eq_true rfl, Nat.le_of_ble_eq_true rfl⟩ ⟨Nat.zero_le _, Nat.zero_le _⟩ (Nat.le_of_ble_eq_true rfl) rfl dX5_arrive_252 ?_
      intro v134 h
      refine stS (fun u135 eu135 => ?_)
      have h := h u135 eu135
      refine z_lv (lv1 := [(0, .ref (ad 0 0)), (8, .int x8)]) [2, 7] rfl ?_
      exact b_X5_arrive_255 C hr ad Q u135 x8 h
  · have h := h.2 hc126
    refine z_aload_n C dX5_arrive_181 rfl 2 rfl ?_
    refine Sg5_flows C fl5_21 dX5_arrive_182 ?_
    refine z_bipush (v := 11) C dX5_arrive_185 (by decide) ?_
    refine z_iload_n C dX5_arrive_187 rfl 3 rfl ?_
    refine z_iconst (v := 1) C dX5_arrive_188 (by decide) ?_
    refine Sc0v (As := [.int 11, .int x1, .int 1]) C (c_X0_add l g (ad 2) (u123 2) 11 x1 1 _ h) v_X0_add ml5_122 rfl ⟨Nat.le_of_ble_eq_true rfl, Nat.le_of_ble_eq_true rfl⟩ ⟨Nat.zero_le _, Nat.zero_le _⟩ (Nat.le_of_ble_eq_true rfl) rfl dX5_arrive_189 ?_
    intro v136 h
    refine stS (fun u137 eu137 => ?_)
    have h := h u137 eu137
    refine z_aload C dX5_arrive_192 0 rfl ?_
    refine z_dup C dX5_arrive_194 rfl ?_
    obtain ⟨hi138, h⟩ := h
    refine Sg3_lost C hi138 fl5_132 dX5_arrive_195 ?_
    refine z_iconst (v := 1) C dX5_arrive_198 (by decide) ?_
    refine z_iadd C dX5_arrive_199 ?_
    obtain ⟨hi139, h⟩ := h
    refine Sp3_lost C hi139 fl5_132 dX5_arrive_200 ?_
    refine stS (fun u140 eu140 => ?_)
    have h := h u140 eu140
    refine z_iconst (v := 4) C dX5_arrive_203 (by decide) ?_
    exact z_iret C hr u140 rfl h dX5_arrive_204
def wp_X5_arrive_87 (Q : Int32 → (Nat → RS) → Prop) (u : (Nat → RS)) (x1 : Int32) (x2 : Int32) (x3 : Int32) (x4 : Int32) (x5 : Int32) (x8 : Int32) : Prop :=
  ((x5 = (-1) → wp_X5_arrive_107 Q u x1 x2 x3 x4 x8) ∧ (¬ x5 = (-1) → wp_X0_put (u 2) 14 x1 ((u 0).1 6 0) (fun v141 => ∀ u142 : Nat → RS, u142 = va_up u 2 v141 → wp_X5_arrive_107 Q u142 x1 x2 x3 x4 x8)))
set_option maxRecDepth 20000 in
theorem b_X5_arrive_87 (C : zC p s m args meth c g A cX5_arrive RX5 11) (hr : meth.sig.returnType = (some .int)) (ad : Nat → Nat → Nat) (Q : Int32 → (Nat → RS) → Prop) (u : (Nat → RS)) (x1 : Int32) (x2 : Int32) (x3 : Int32) (x4 : Int32) (x5 : Int32) (x8 : Int32) (h : wp_X5_arrive_87 Q u x1 x2 x3 x4 x5 x8) : j_X5_arrive p l e s m args below meth c g A ad Q u 87 [(0, .ref (ad 0 0)), (1, .int x1), (2, .int x2), (3, .int x3), (4, .int x4), (5, .int x5), (8, .int x8)] [] := by
  unfold wp_X5_arrive_87 at h
  refine z_iload C dX5_arrive_87 5 rfl ?_
  refine z_iconst (v := (-1)) C dX5_arrive_89 (by decide) ?_
  refine z_icmp_eq C dX5_arrive_90 (tgt := 107) (by decide) (fun hc113 => ?_) (fun hc113 => ?_)
  · have h := h.1 hc113
    refine z_lv (lv1 := [(0, .ref (ad 0 0)), (1, .int x1), (2, .int x2), (3, .int x3), (4, .int x4), (8, .int x8)]) [0, 1, 2, 3, 4, 6] rfl ?_
    exact b_X5_arrive_107 C hr ad Q u x1 x2 x3 x4 x8 h
  · have h := h.2 hc113
    refine z_aload_n C dX5_arrive_93 rfl 0 rfl ?_
    refine Sg5_flows C fl5_21 dX5_arrive_94 ?_
    refine z_bipush (v := 14) C dX5_arrive_97 (by decide) ?_
    refine z_iload_n C dX5_arrive_99 rfl 1 rfl ?_
    refine z_aload_n C dX5_arrive_100 rfl 0 rfl ?_
    refine Sg5_time C fl5_80 dX5_arrive_101 ?_
    refine Sc0v (As := [.int 14, .int x1, .int ((u 0).1 6 0)]) C (c_X0_put l g (ad 2) (u 2) 14 x1 ((u 0).1 6 0) _ h) v_X0_put ml5_126 rfl ⟨Nat.le_of_ble_eq_true rfl, Nat.le_of_ble_eq_true rfl⟩ ⟨Nat.zero_le _, Nat.zero_le _⟩ (Nat.le_of_ble_eq_true rfl) rfl dX5_arrive_104 ?_
    intro v141 h
    refine stS (fun u142 eu142 => ?_)
    have h := h u142 eu142
    refine z_lv (lv1 := [(0, .ref (ad 0 0)), (1, .int x1), (2, .int x2), (3, .int x3), (4, .int x4), (8, .int x8)]) [0, 1, 2, 3, 4, 6] rfl ?_
    exact b_X5_arrive_107 C hr ad Q u142 x1 x2 x3 x4 x8 h
def wp_X5_arrive_67 (Q : Int32 → (Nat → RS) → Prop) (u : (Nat → RS)) (x1 : Int32) (x2 : Int32) (x3 : Int32) (x4 : Int32) (x5 : Int32) (x6 : Int32) (t0 : Int32) : Prop :=
  ((t0 = x6 → wp_X5_arrive_87 Q u x1 x2 x3 x4 x5 t0) ∧ (¬ t0 = x6 → wp_X0_add (u 2) 12 x1 1 (fun v143 => ∀ u144 : Nat → RS, u144 = va_up u 2 v143 → wp_X5_arrive_87 Q u144 x1 x2 x3 x4 x5 t0)))
set_option maxRecDepth 20000 in
theorem b_X5_arrive_67 (C : zC p s m args meth c g A cX5_arrive RX5 11) (hr : meth.sig.returnType = (some .int)) (ad : Nat → Nat → Nat) (Q : Int32 → (Nat → RS) → Prop) (u : (Nat → RS)) (x1 : Int32) (x2 : Int32) (x3 : Int32) (x4 : Int32) (x5 : Int32) (x6 : Int32) (t0 : Int32) (h : wp_X5_arrive_67 Q u x1 x2 x3 x4 x5 x6 t0) : j_X5_arrive p l e s m args below meth c g A ad Q u 67 [(0, .ref (ad 0 0)), (1, .int x1), (2, .int x2), (3, .int x3), (4, .int x4), (5, .int x5), (6, .int x6)] [.int t0] := by
  unfold wp_X5_arrive_67 at h
  refine z_istore (lv1 := [(8, .int t0), (0, .ref (ad 0 0)), (1, .int x1), (2, .int x2), (3, .int x3), (4, .int x4), (5, .int x5), (6, .int x6)]) C dX5_arrive_67 (by decide) rfl ?_
  refine z_iload C dX5_arrive_69 0 rfl ?_
  refine z_iload C dX5_arrive_71 7 rfl ?_
  refine z_icmp_eq C dX5_arrive_73 (tgt := 87) (by decide) (fun hc112 => ?_) (fun hc112 => ?_)
  · have h := h.1 hc112
    refine z_lv (lv1 := [(0, .ref (ad 0 0)), (1, .int x1), (2, .int x2), (3, .int x3), (4, .int x4), (5, .int x5), (8, .int t0)]) [1, 2, 3, 4, 5, 6, 0] rfl ?_
    exact b_X5_arrive_87 C hr ad Q u x1 x2 x3 x4 x5 t0 h
  · have h := h.2 hc112
    refine z_aload_n C dX5_arrive_76 rfl 1 rfl ?_
    refine Sg5_flows C fl5_21 dX5_arrive_77 ?_
    refine z_bipush (v := 12) C dX5_arrive_80 (by decide) ?_
    refine z_iload_n C dX5_arrive_82 rfl 2 rfl ?_
    refine z_iconst (v := 1) C dX5_arrive_83 (by decide) ?_
    refine Sc0v (As := [.int 12, .int x1, .int 1]) C (c_X0_add l g (ad 2) (u 2) 12 x1 1 _ h) v_X0_add ml5_122 rfl ⟨Nat.le_of_ble_eq_true rfl, Nat.le_of_ble_eq_true rfl⟩ ⟨Nat.zero_le _, Nat.zero_le _⟩ (Nat.le_of_ble_eq_true rfl) rfl dX5_arrive_84 ?_
    intro v143 h
    refine stS (fun u144 eu144 => ?_)
    have h := h u144 eu144
    refine z_lv (lv1 := [(0, .ref (ad 0 0)), (1, .int x1), (2, .int x2), (3, .int x3), (4, .int x4), (5, .int x5), (8, .int t0)]) [1, 2, 3, 4, 5, 6, 0] rfl ?_
    exact b_X5_arrive_87 C hr ad Q u144 x1 x2 x3 x4 x5 t0 h
def wp_X5_arrive_40 (Q : Int32 → (Nat → RS) → Prop) (u : (Nat → RS)) (x1 : Int32) (x2 : Int32) (x3 : Int32) (x4 : Int32) (x5 : Int32) (t0 : Int32) : Prop :=
  wp_X0_get (u 2) 7 x1 (fun r108 v109 => ∀ u110 : Nat → RS, u110 = va_up u 2 v109 → ((¬ r108 = (-1) → wp_X5_arrive_67 Q u110 x1 x2 x3 x4 x5 t0 r108) ∧ (r108 = (-1) → wp_X5_arrive_67 Q u110 x1 x2 x3 x4 x5 t0 t0)))
set_option maxRecDepth 20000 in
theorem b_X5_arrive_40 (C : zC p s m args meth c g A cX5_arrive RX5 11) (hr : meth.sig.returnType = (some .int)) (ad : Nat → Nat → Nat) (Q : Int32 → (Nat → RS) → Prop) (u : (Nat → RS)) (x1 : Int32) (x2 : Int32) (x3 : Int32) (x4 : Int32) (x5 : Int32) (t0 : Int32) (h : wp_X5_arrive_40 Q u x1 x2 x3 x4 x5 t0) : j_X5_arrive p l e s m args below meth c g A ad Q u 40 [(0, .ref (ad 0 0)), (1, .int x1), (2, .int x2), (3, .int x3), (4, .int x4), (5, .int x5)] [.int t0] := by
  unfold wp_X5_arrive_40 at h
  refine z_istore (lv1 := [(6, .int t0), (0, .ref (ad 0 0)), (1, .int x1), (2, .int x2), (3, .int x3), (4, .int x4), (5, .int x5)]) C dX5_arrive_40 (by decide) rfl ?_
  refine z_aload_n C dX5_arrive_42 rfl 1 rfl ?_
  refine Sg5_flows C fl5_21 dX5_arrive_43 ?_
  refine z_bipush (v := 7) C dX5_arrive_46 (by decide) ?_
  refine z_iload_n C dX5_arrive_48 rfl 2 rfl ?_
  refine Sc0i (As := [.int 7, .int x1]) C (c_X0_get l g (ad 2) (u 2) 7 x1 _ h) v_X0_get ml5_87 rfl ⟨Nat.le_of_ble_eq_true rfl, Nat.le_of_ble_eq_true rfl⟩ ⟨Nat.zero_le _, Nat.zero_le _⟩ (Nat.le_of_ble_eq_true rfl) rfl dX5_arrive_49 ?_
  intro r108 v109 h
  refine stS (fun u110 eu110 => ?_)
  have h := h u110 eu110
  refine z_istore (lv1 := [(7, .int r108), (6, .int t0), (0, .ref (ad 0 0)), (1, .int x1), (2, .int x2), (3, .int x3), (4, .int x4), (5, .int x5)]) C dX5_arrive_52 (by decide) rfl ?_
  refine z_iload C dX5_arrive_54 0 rfl ?_
  refine z_iconst (v := (-1)) C dX5_arrive_56 (by decide) ?_
  refine z_icmp_ne C dX5_arrive_57 (tgt := 65) (by decide) (fun hc111 => ?_) (fun hc111 => ?_)
  · have h := h.1 hc111
    refine z_iload C dX5_arrive_65 0 rfl ?_
    refine z_lv (lv1 := [(0, .ref (ad 0 0)), (1, .int x1), (2, .int x2), (3, .int x3), (4, .int x4), (5, .int x5), (6, .int t0)]) [2, 3, 4, 5, 6, 7, 1] rfl ?_
    exact b_X5_arrive_67 C hr ad Q u110 x1 x2 x3 x4 x5 t0 r108 h
  · have h := h.2 hc111
    refine z_iload C dX5_arrive_60 1 rfl ?_
    refine z_goto C dX5_arrive_62 (tgt := 67) (by decide) ?_
    refine z_lv (lv1 := [(0, .ref (ad 0 0)), (1, .int x1), (2, .int x2), (3, .int x3), (4, .int x4), (5, .int x5), (6, .int t0)]) [2, 3, 4, 5, 6, 7, 1] rfl ?_
    exact b_X5_arrive_67 C hr ad Q u110 x1 x2 x3 x4 x5 t0 t0 h
def wp_X5_arrive (u : (Nat → RS)) (x1 : Int32) (x2 : Int32) (x3 : Int32) (Q : Int32 → (Nat → RS) → Prop) : Prop :=
  wp_X5_entryOf u x1 (fun r101 v102 => wp_X0_get (v102 2) 13 x1 (fun r103 v104 => ∀ u105 : Nat → RS, u105 = va_up v102 2 v104 → ((r103 = (-1) → vp_in r101 16 ∧ wp_X5_arrive_40 Q u105 x1 x2 x3 r101 r103 ((u105 3).1 0 (zn r101))) ∧ (¬ r103 = (-1) → wp_X5_arrive_40 Q u105 x1 x2 x3 r101 r103 r103))))
set_option maxRecDepth 20000 in
theorem c_X5_arrive (l : Launch) (g : zG) (ad : Nat → Nat → Nat) (u : (Nat → RS)) (x1 : Int32) (x2 : Int32) (x3 : Int32) (Q : Int32 → (Nat → RS) → Prop) (h : wp_X5_arrive u x1 x2 x3 Q) : zMi l yX5_arrive cX5_arrive 11 (some .int) 5 0 0 g [.ref (ad 0 0), .int x1, .int x2, .int x3] (wS g ad u) (wS g ad) Q := by
  refine zMi_of RX5 (by decide) rfl [(0, .ref (ad 0 0)), (1, .int x1), (2, .int x2), (3, .int x3)] rfl (Nat.le_of_ble_eq_true rfl) (fun p e s m args below meth c A C hr hnm => ?_)
  unfold wp_X5_arrive at h
  refine z_aload_n C dX5_arrive_0 rfl 0 rfl ?_
  refine z_iload_n C dX5_arrive_1 rfl 1 rfl ?_
  refine Sc5i (As := [.int x1]) C (c_X5_entryOf l g ad u x1 _ h) v_X5_entryOf ml5_109 rfl ⟨Nat.le_of_ble_eq_true rfl, Nat.le_of_ble_eq_true rfl⟩ ⟨Nat.zero_le _, Nat.zero_le _⟩ (Nat.le_of_ble_eq_true rfl) rfl dX5_arrive_2 ?_
  intro r101 v102 h
  refine z_istore (lv1 := [(4, .int r101), (0, .ref (ad 0 0)), (1, .int x1), (2, .int x2), (3, .int x3)]) C dX5_arrive_5 (by decide) rfl ?_
  refine z_aload_n C dX5_arrive_7 rfl 1 rfl ?_
  refine Sg5_flows C fl5_21 dX5_arrive_8 ?_
  refine z_bipush (v := 13) C dX5_arrive_11 (by decide) ?_
  refine z_iload_n C dX5_arrive_13 rfl 2 rfl ?_
  refine Sc0i (As := [.int 13, .int x1]) C (c_X0_get l g (ad 2) (v102 2) 13 x1 _ h) v_X0_get ml5_87 rfl ⟨Nat.le_of_ble_eq_true rfl, Nat.le_of_ble_eq_true rfl⟩ ⟨Nat.zero_le _, Nat.zero_le _⟩ (Nat.le_of_ble_eq_true rfl) rfl dX5_arrive_14 ?_
  intro r103 v104 h
  refine stS (fun u105 eu105 => ?_)
  have h := h u105 eu105
  refine z_istore (lv1 := [(5, .int r103), (4, .int r101), (0, .ref (ad 0 0)), (1, .int x1), (2, .int x2), (3, .int x3)]) C dX5_arrive_17 (by decide) rfl ?_
  refine z_iload C dX5_arrive_19 0 rfl ?_
  refine z_iconst (v := (-1)) C dX5_arrive_21 (by decide) ?_
  refine z_icmp_eq C dX5_arrive_22 (tgt := 30) (by decide) (fun hc106 => ?_) (fun hc106 => ?_)
  · have h := h.1 hc106
    refine z_aload_n C dX5_arrive_30 rfl 2 rfl ?_
    refine Sg5_table C fl5_28 dX5_arrive_31 ?_
    refine Sg6_queueOf C fl5_106 dX5_arrive_34 ?_
    refine z_iload C dX5_arrive_37 1 rfl ?_
    obtain ⟨hi107, h⟩ := h
    refine Sl6_queueOf C hi107 dX5_arrive_39 ?_
    refine z_lv (lv1 := [(0, .ref (ad 0 0)), (1, .int x1), (2, .int x2), (3, .int x3), (4, .int r101), (5, .int r103)]) [2, 3, 4, 5, 1, 0] rfl ?_
    exact b_X5_arrive_40 C hr ad Q u105 x1 x2 x3 r101 r103 ((u105 3).1 0 (zn r101)) h
  · have h := h.2 hc106
    refine z_iload C dX5_arrive_25 0 rfl ?_
    refine z_goto C dX5_arrive_27 (tgt := 40) (by decide) ?_
    refine z_lv (lv1 := [(0, .ref (ad 0 0)), (1, .int x1), (2, .int x2), (3, .int x3), (4, .int r101), (5, .int r103)]) [2, 3, 4, 5, 1, 0] rfl ?_
    exact b_X5_arrive_40 C hr ad Q u105 x1 x2 x3 r101 r103 r103 h
abbrev j_X5_passTick (p : Program) (l : Launch) (e : Env) (s : State) (m : MethodId) (args : Array Value) (below : List Frame) (meth : Method) (c : Code) (g : zG) (A : Nat → Prop) (ad : Nat → Nat → Nat) (Q : (Nat → RS) → Prop) (u : (Nat → RS)) (pc : Nat) (lv : List (Nat × Value)) (st : List Value) : Prop := zJ p l e (zR 5 0 0) s m args below meth c g A 3 (zQv below args s g A 0 0 (wS g ad) Q) (wS g ad u) 0 0 pc lv st
def wp_X5_passTick_94 (Q : (Nat → RS) → Prop) (B29 : (Nat → RS) → Int32 → Prop) (u : (Nat → RS)) (x1 : Int32) : Prop :=
  ∀ x115 : Int32, x115 = x1 + 1 → B29 u x115
set_option maxRecDepth 20000 in
theorem b_X5_passTick_94 (C : zC p s m args meth c g A cX5_passTick RX5 3) (hr : meth.sig.returnType = none) (ad : Nat → Nat → Nat) (Q : (Nat → RS) → Prop) (B29 : (Nat → RS) → Int32 → Prop) (hB29 : ∀ (u : (Nat → RS)) (x1 : Int32), B29 u x1 → j_X5_passTick p l e s m args below meth c g A ad Q u 29 [(0, .ref (ad 0 0)), (1, .int x1)] []) (u : (Nat → RS)) (x1 : Int32) (h : wp_X5_passTick_94 Q B29 u x1) : j_X5_passTick p l e s m args below meth c g A ad Q u 94 [(0, .ref (ad 0 0)), (1, .int x1)] [] := by
  unfold wp_X5_passTick_94 at h
  obtain ⟨x115, ex115⟩ : ∃ y : Int32, y = x1 + 1 := ⟨_, rfl⟩
  have h := h x115 ex115
  refine z_iinc (v := x115) (lv1 := [(1, .int x115), (0, .ref (ad 0 0))]) C dX5_passTick_94 1 rfl (by rw [ex115]; rfl) (by decide) rfl ?_
  refine z_goto C dX5_passTick_97 (tgt := 29) (by decide) ?_
  refine z_lv (lv1 := [(0, .ref (ad 0 0)), (1, .int x115)]) [1, 0] rfl ?_
  exact hB29 u x115 h
def wp_X5_passTick_29 (Q : (Nat → RS) → Prop) (B29 : (Nat → RS) → Int32 → Prop) (u : (Nat → RS)) (x1 : Int32) : Prop :=
  ((4 ≤ x1 → Q u) ∧ (¬ 4 ≤ x1 → vp_in x1 4 ∧ vp_in x1 4 ∧ wp_X3_keepPace (u (5 + zn x1)) (fun v106 => ∀ u108 : Nat → RS, u108 = va_up u (5 + zn x1) v106 → vp_in x1 4 ∧ vp_in x1 4 ∧ wp_X3_isDue (u108 (5 + zn x1)) ((u108 0).1 6 0) ((u108 0).1 5 1) ((u108 0).1 5 7) (fun r110 v111 => ∀ u113 : Nat → RS, u113 = va_up u108 (5 + zn x1) v111 → ((r110 = 0 → wp_X5_passTick_94 Q B29 u113 x1) ∧ (¬ r110 = 0 → wp_X5_takeBatch u113 x1 (fun r116 v117 => vp_in x1 4 ∧ vp_in x1 4 ∧ wp_X3_learn (v117 (5 + zn x1)) r116 ((v117 0).1 5 1) (fun v119 => ∀ u121 : Nat → RS, u121 = va_up v117 (5 + zn x1) v119 → wp_X5_passTick_94 Q B29 u121 x1))))))))
set_option maxRecDepth 20000 in
theorem b_X5_passTick_29 (C : zC p s m args meth c g A cX5_passTick RX5 3) (hr : meth.sig.returnType = none) (ad : Nat → Nat → Nat) (Q : (Nat → RS) → Prop) (B29 : (Nat → RS) → Int32 → Prop) (hB29 : ∀ (u : (Nat → RS)) (x1 : Int32), B29 u x1 → j_X5_passTick p l e s m args below meth c g A ad Q u 29 [(0, .ref (ad 0 0)), (1, .int x1)] []) (u : (Nat → RS)) (x1 : Int32) (h : wp_X5_passTick_29 Q B29 u x1) : j_X5_passTick p l e s m args below meth c g A ad Q u 29 [(0, .ref (ad 0 0)), (1, .int x1)] [] := by
  unfold wp_X5_passTick_29 at h
  refine z_iload_n C dX5_passTick_29 rfl 1 rfl ?_
  refine z_iconst (v := 4) C dX5_passTick_30 (by decide) ?_
  refine z_icmp_ge C dX5_passTick_31 (tgt := 100) (by decide) (fun hc104 => ?_) (fun hc104 => ?_)
  · have h := h.1 hc104
    exact z_vret C hr u rfl h dX5_passTick_100
  · have h := h.2 hc104
    refine z_aload_n C dX5_passTick_34 rfl 0 rfl ?_
    refine Sg5_queues C fl5_34 dX5_passTick_35 ?_
    refine z_iload_n C dX5_passTick_38 rfl 1 rfl ?_
    obtain ⟨hi105, h⟩ := h
    refine Saq C hi105 dX5_passTick_39 ?_
    obtain ⟨hi107, h⟩ := h
    refine Sc3v (As := []) C hi107 (c_X3_keepPace l g (ad (5 + zn x1)) (u (5 + zn x1)) _ h) v_X3_keepPace ml5_146 rfl ⟨Nat.le_of_ble_eq_true rfl, Nat.le_of_ble_eq_true rfl⟩ ⟨Nat.zero_le _, Nat.zero_le _⟩ (Nat.le_of_ble_eq_true rfl) rfl dX5_passTick_40 ?_
    intro v106 h
    refine stS (fun u108 eu108 => ?_)
    have h := h u108 eu108
    refine z_aload_n C dX5_passTick_43 rfl 0 rfl ?_
    refine Sg5_queues C fl5_34 dX5_passTick_44 ?_
    refine z_iload_n C dX5_passTick_47 rfl 1 rfl ?_
    obtain ⟨hi109, h⟩ := h
    refine Saq C hi109 dX5_passTick_48 ?_
    refine z_aload_n C dX5_passTick_49 rfl 0 rfl ?_
    refine Sg5_time C fl5_80 dX5_passTick_50 ?_
    refine z_aload_n C dX5_passTick_53 rfl 0 rfl ?_
    refine Sg5_terms C fl5_54 dX5_passTick_54 ?_
    refine z_iconst (v := 1) C dX5_passTick_57 (by decide) ?_
    refine Sln5_terms C 1 (by decide +kernel) (vp_in_iff.mpr (by decide +kernel)) dX5_passTick_58 ?_
    refine z_aload_n C dX5_passTick_59 rfl 0 rfl ?_
    refine Sg5_terms C fl5_54 dX5_passTick_60 ?_
    refine z_bipush (v := 7) C dX5_passTick_63 (by decide) ?_
    refine Sln5_terms C 7 (by decide +kernel) (vp_in_iff.mpr (by decide +kernel)) dX5_passTick_65 ?_
    obtain ⟨hi112, h⟩ := h
    refine Sc3i (As := [.int ((u108 0).1 6 0), .int ((u108 0).1 5 1), .int ((u108 0).1 5 7)]) C hi112 (c_X3_isDue l g (ad (5 + zn x1)) (u108 (5 + zn x1)) ((u108 0).1 6 0) ((u108 0).1 5 1) ((u108 0).1 5 7) _ h) v_X3_isDue ml5_149 rfl ⟨Nat.le_of_ble_eq_true rfl, Nat.le_of_ble_eq_true rfl⟩ ⟨Nat.zero_le _, Nat.zero_le _⟩ (Nat.le_of_ble_eq_true rfl) rfl dX5_passTick_66 ?_
    intro r110 v111 h
    refine stS (fun u113 eu113 => ?_)
    have h := h u113 eu113
    refine z_if_eq C dX5_passTick_69 (tgt := 94) (by decide) (fun hc114 => ?_) (fun hc114 => ?_)
    · have h := h.1 hc114
      exact b_X5_passTick_94 C hr ad Q B29 hB29 u113 x1 h
    · have h := h.2 hc114
      refine z_aload_n C dX5_passTick_72 rfl 0 rfl ?_
      refine z_iload_n C dX5_passTick_73 rfl 1 rfl ?_
      refine Sc5i (As := [.int x1]) C (c_X5_takeBatch l g ad u113 x1 _ h) v_X5_takeBatch ml5_153 rfl ⟨Nat.le_of_ble_eq_true rfl, Nat.le_of_ble_eq_true rfl⟩ ⟨Nat.zero_le _, Nat.zero_le _⟩ (Nat.le_of_ble_eq_true rfl) rfl dX5_passTick_74 ?_
      intro r116 v117 h
      refine z_istore_n (lv1 := [(2, .int r116), (0, .ref (ad 0 0)), (1, .int x1)]) C dX5_passTick_77 rfl (by decide) rfl ?_
      refine z_aload_n C dX5_passTick_78 rfl 1 rfl ?_
      refine Sg5_queues C fl5_34 dX5_passTick_79 ?_
      refine z_iload_n C dX5_passTick_82 rfl 2 rfl ?_
      obtain ⟨hi118, h⟩ := h
      refine Saq C hi118 dX5_passTick_83 ?_
      refine z_iload_n C dX5_passTick_84 rfl 0 rfl ?_
      refine z_aload_n C dX5_passTick_85 rfl 1 rfl ?_
      refine Sg5_terms C fl5_54 dX5_passTick_86 ?_
      refine z_iconst (v := 1) C dX5_passTick_89 (by decide) ?_
      refine Sln5_terms C 1 (by decide +kernel) (vp_in_iff.mpr (by decide +kernel)) dX5_passTick_90 ?_
      obtain ⟨hi120, h⟩ := h
      refine Sc3v (As := [.int r116, .int ((v117 0).1 5 1)]) C hi120 (c_X3_learn l g (ad (5 + zn x1)) (v117 (5 + zn x1)) r116 ((v117 0).1 5 1) _ h) v_X3_learn ml5_156 rfl ⟨Nat.le_of_ble_eq_true rfl, Nat.le_of_ble_eq_true rfl⟩ ⟨Nat.zero_le _, Nat.zero_le _⟩ (Nat.le_of_ble_eq_true rfl) rfl dX5_passTick_91 ?_
      intro v119 h
      refine stS (fun u121 eu121 => ?_)
      have h := h u121 eu121
      refine z_lv (lv1 := [(0, .ref (ad 0 0)), (1, .int x1)]) [1, 2] rfl ?_
      exact b_X5_passTick_94 C hr ad Q B29 hB29 u121 x1 h
theorem l_X5_passTick_29 (C : zC p s m args meth c g A cX5_passTick RX5 3) (hr : meth.sig.returnType = none) (ad : Nat → Nat → Nat) (Q : (Nat → RS) → Prop) : ∀ (n : Nat) (u : (Nat → RS)) (x1 : Int32), zit2 (wp_X5_passTick_29 Q) n u x1 → j_X5_passTick p l e s m args below meth c g A ad Q u 29 [(0, .ref (ad 0 0)), (1, .int x1)] [] := by
  intro n
  induction n with
  | zero => exact fun u x1 h => h.elim
  | succ n ih => exact fun u x1 h => b_X5_passTick_29 C hr ad Q (zit2 (wp_X5_passTick_29 Q) n) ih u x1 h
def wp_X5_passTick (u : (Nat → RS)) (Q : (Nat → RS) → Prop) : Prop :=
  ∀ u101 : Nat → RS, u101 = va_up u 0 (rN (u 0) 6 (((u 0).1 6 0) + 1)) → wp_X0_dropOldRules (u101 2) ((u101 0).1 6 0) ((u101 0).1 5 2) (fun v102 => ∀ u103 : Nat → RS, u103 = va_up u101 2 v102 → (∃ n, zit2 (wp_X5_passTick_29 Q) n u103 0))
set_option maxRecDepth 20000 in
theorem c_X5_passTick (l : Launch) (g : zG) (ad : Nat → Nat → Nat) (u : (Nat → RS)) (Q : (Nat → RS) → Prop) (h : wp_X5_passTick u Q) : zMv l yX5_passTick cX5_passTick 3 none 5 0 0 g [.ref (ad 0 0)] (wS g ad u) (wS g ad) Q := by
  refine zMv_of RX5 (by decide) rfl [(0, .ref (ad 0 0))] rfl (Nat.le_of_ble_eq_true rfl) (fun p e s m args below meth c A C hr hnm => ?_)
  unfold wp_X5_passTick at h
  refine z_aload_n C dX5_passTick_0 rfl 0 rfl ?_
  refine z_dup C dX5_passTick_1 rfl ?_
  refine Sg5_time C fl5_80 dX5_passTick_2 ?_
  refine z_iconst (v := 1) C dX5_passTick_5 (by decide) ?_
  refine z_iadd C dX5_passTick_6 ?_
  refine Sp5_time C fl5_80 dX5_passTick_7 ?_
  refine stS (fun u101 eu101 => ?_)
  have h := h u101 eu101
  refine z_aload_n C dX5_passTick_10 rfl 0 rfl ?_
  refine Sg5_flows C fl5_21 dX5_passTick_11 ?_
  refine z_aload_n C dX5_passTick_14 rfl 0 rfl ?_
  refine Sg5_time C fl5_80 dX5_passTick_15 ?_
  refine z_aload_n C dX5_passTick_18 rfl 0 rfl ?_
  refine Sg5_terms C fl5_54 dX5_passTick_19 ?_
  refine z_iconst (v := 2) C dX5_passTick_22 (by decide) ?_
  refine Sln5_terms C 2 (by decide +kernel) (vp_in_iff.mpr (by decide +kernel)) dX5_passTick_23 ?_
  refine Sc0v (As := [.int ((u101 0).1 6 0), .int ((u101 0).1 5 2)]) C (c_X0_dropOldRules l g (ad 2) (u101 2) ((u101 0).1 6 0) ((u101 0).1 5 2) _ h) v_X0_dropOldRules ml5_143 rfl ⟨Nat.le_of_ble_eq_true rfl, Nat.le_of_ble_eq_true rfl⟩ ⟨Nat.zero_le _, Nat.zero_le _⟩ (Nat.le_of_ble_eq_true rfl) rfl dX5_passTick_24 ?_
  intro v102 h
  refine stS (fun u103 eu103 => ?_)
  have h := h u103 eu103
  refine z_iconst (v := 0) C dX5_passTick_27 (by decide) ?_
  refine z_istore_n (lv1 := [(1, .int 0), (0, .ref (ad 0 0))]) C dX5_passTick_28 rfl (by decide) rfl ?_
  refine z_lv (lv1 := [(0, .ref (ad 0 0)), (1, .int 0)]) [1, 0] rfl ?_
  obtain ⟨n9, h⟩ := h
  exact l_X5_passTick_29 C hr ad Q n9 u103 0 h
abbrev j_X5_flowsWishing (p : Program) (l : Launch) (e : Env) (s : State) (m : MethodId) (args : Array Value) (below : List Frame) (meth : Method) (c : Code) (g : zG) (A : Nat → Prop) (ad : Nat → Nat → Nat) (Q : Int32 → (Nat → RS) → Prop) (u : (Nat → RS)) (pc : Nat) (lv : List (Nat × Value)) (st : List Value) : Prop := zJ p l e (zR 6 0 0) s m args below meth c g A 4 (zQi below args s g A 0 0 (wS g ad) Q) (wS g ad u) 0 0 pc lv st
def wp_X5_flowsWishing_30 (Q : Int32 → (Nat → RS) → Prop) (B4 : (Nat → RS) → Int32 → Int32 → Int32 → Prop) (u : (Nat → RS)) (x1 : Int32) (x2 : Int32) (x3 : Int32) : Prop :=
  ∀ x105 : Int32, x105 = x3 + 1 → B4 u x1 x2 x105
set_option maxRecDepth 20000 in
theorem b_X5_flowsWishing_30 (C : zC p s m args meth c g A cX5_flowsWishing RX5 4) (hr : meth.sig.returnType = (some .int)) (ad : Nat → Nat → Nat) (Q : Int32 → (Nat → RS) → Prop) (B4 : (Nat → RS) → Int32 → Int32 → Int32 → Prop) (hB4 : ∀ (u : (Nat → RS)) (x1 : Int32) (x2 : Int32) (x3 : Int32), B4 u x1 x2 x3 → j_X5_flowsWishing p l e s m args below meth c g A ad Q u 4 [(0, .ref (ad 0 0)), (1, .int x1), (2, .int x2), (3, .int x3)] []) (u : (Nat → RS)) (x1 : Int32) (x2 : Int32) (x3 : Int32) (h : wp_X5_flowsWishing_30 Q B4 u x1 x2 x3) : j_X5_flowsWishing p l e s m args below meth c g A ad Q u 30 [(0, .ref (ad 0 0)), (1, .int x1), (2, .int x2), (3, .int x3)] [] := by
  unfold wp_X5_flowsWishing_30 at h
  obtain ⟨x105, ex105⟩ : ∃ y : Int32, y = x3 + 1 := ⟨_, rfl⟩
  have h := h x105 ex105
  refine z_iinc (v := x105) (lv1 := [(3, .int x105), (0, .ref (ad 0 0)), (1, .int x1), (2, .int x2)]) C dX5_flowsWishing_30 3 rfl (by rw [ex105]; rfl) (by decide) rfl ?_
  refine z_goto C dX5_flowsWishing_33 (tgt := 4) (by decide) ?_
  refine z_lv (lv1 := [(0, .ref (ad 0 0)), (1, .int x1), (2, .int x2), (3, .int x105)]) [1, 2, 3, 0] rfl ?_
  exact hB4 u x1 x2 x105 h
def wp_X5_flowsWishing_4 (Q : Int32 → (Nat → RS) → Prop) (B4 : (Nat → RS) → Int32 → Int32 → Int32 → Prop) (u : (Nat → RS)) (x1 : Int32) (x2 : Int32) (x3 : Int32) : Prop :=
  (((u 2).1 0 0 ≤ x3 → Q x2 u) ∧ (¬ (u 2).1 0 0 ≤ x3 → wp_X5_wishOf u x3 (fun r102 v103 => ((¬ r102 = x1 → wp_X5_flowsWishing_30 Q B4 v103 x1 x2 x3) ∧ (r102 = x1 → ∀ x106 : Int32, x106 = x2 ||| (1 <<< (x3 &&& 31)) → wp_X5_flowsWishing_30 Q B4 v103 x1 x106 x3)))))
set_option maxRecDepth 20000 in
theorem b_X5_flowsWishing_4 (C : zC p s m args meth c g A cX5_flowsWishing RX5 4) (hr : meth.sig.returnType = (some .int)) (ad : Nat → Nat → Nat) (Q : Int32 → (Nat → RS) → Prop) (B4 : (Nat → RS) → Int32 → Int32 → Int32 → Prop) (hB4 : ∀ (u : (Nat → RS)) (x1 : Int32) (x2 : Int32) (x3 : Int32), B4 u x1 x2 x3 → j_X5_flowsWishing p l e s m args below meth c g A ad Q u 4 [(0, .ref (ad 0 0)), (1, .int x1), (2, .int x2), (3, .int x3)] []) (u : (Nat → RS)) (x1 : Int32) (x2 : Int32) (x3 : Int32) (h : wp_X5_flowsWishing_4 Q B4 u x1 x2 x3) : j_X5_flowsWishing p l e s m args below meth c g A ad Q u 4 [(0, .ref (ad 0 0)), (1, .int x1), (2, .int x2), (3, .int x3)] [] := by
  unfold wp_X5_flowsWishing_4 at h
  refine z_iload_n C dX5_flowsWishing_4 rfl 3 rfl ?_
  refine z_aload_n C dX5_flowsWishing_5 rfl 0 rfl ?_
  refine Sg5_flows C fl5_21 dX5_flowsWishing_6 ?_
  refine Sg0_number C fl5_112 dX5_flowsWishing_9 ?_
  refine z_icmp_ge C dX5_flowsWishing_12 (tgt := 36) (by decide) (fun hc101 => ?_) (fun hc101 => ?_)
  · have h := h.1 hc101
    refine z_iload_n C dX5_flowsWishing_36 rfl 2 rfl ?_
    exact z_iret C hr u rfl h dX5_flowsWishing_37
  · have h := h.2 hc101
    refine z_aload_n C dX5_flowsWishing_15 rfl 0 rfl ?_
    refine z_iload_n C dX5_flowsWishing_16 rfl 3 rfl ?_
    refine Sc5i (As := [.int x3]) C (c_X5_wishOf l g ad u x3 _ h) v_X5_wishOf ml5_115 rfl ⟨Nat.le_of_ble_eq_true rfl, Nat.le_of_ble_eq_true rfl⟩ ⟨Nat.zero_le _, Nat.zero_le _⟩ (Nat.le_of_ble_eq_true rfl) rfl dX5_flowsWishing_17 ?_
    intro r102 v103 h
    refine z_iload_n C dX5_flowsWishing_20 rfl 1 rfl ?_
    refine z_icmp_ne C dX5_flowsWishing_21 (tgt := 30) (by decide) (fun hc104 => ?_) (fun hc104 => ?_)
    · have h := h.1 hc104
      exact b_X5_flowsWishing_30 C hr ad Q B4 hB4 v103 x1 x2 x3 h
    · have h := h.2 hc104
      refine z_iload_n C dX5_flowsWishing_24 rfl 2 rfl ?_
      refine z_iconst (v := 1) C dX5_flowsWishing_25 (by decide) ?_
      refine z_iload_n C dX5_flowsWishing_26 rfl 3 rfl ?_
      refine z_ishl C dX5_flowsWishing_27 ?_
      refine z_ior C dX5_flowsWishing_28 ?_
      refine z_topi (fun x106 ex106 => ?_)
      have h := h x106 ex106
      refine z_istore_n (lv1 := [(2, .int x106), (0, .ref (ad 0 0)), (1, .int x1), (3, .int x3)]) C dX5_flowsWishing_29 rfl (by decide) rfl ?_
      refine z_lv (lv1 := [(0, .ref (ad 0 0)), (1, .int x1), (2, .int x106), (3, .int x3)]) [1, 2, 0, 3] rfl ?_
      exact b_X5_flowsWishing_30 C hr ad Q B4 hB4 v103 x1 x106 x3 h
theorem l_X5_flowsWishing_4 (C : zC p s m args meth c g A cX5_flowsWishing RX5 4) (hr : meth.sig.returnType = (some .int)) (ad : Nat → Nat → Nat) (Q : Int32 → (Nat → RS) → Prop) : ∀ (n : Nat) (u : (Nat → RS)) (x1 : Int32) (x2 : Int32) (x3 : Int32), zit4 (wp_X5_flowsWishing_4 Q) n u x1 x2 x3 → j_X5_flowsWishing p l e s m args below meth c g A ad Q u 4 [(0, .ref (ad 0 0)), (1, .int x1), (2, .int x2), (3, .int x3)] [] := by
  intro n
  induction n with
  | zero => exact fun u x1 x2 x3 h => h.elim
  | succ n ih => exact fun u x1 x2 x3 h => b_X5_flowsWishing_4 C hr ad Q (zit4 (wp_X5_flowsWishing_4 Q) n) ih u x1 x2 x3 h
def wp_X5_flowsWishing (u : (Nat → RS)) (x1 : Int32) (Q : Int32 → (Nat → RS) → Prop) : Prop :=
  (∃ n, zit4 (wp_X5_flowsWishing_4 Q) n u x1 0 0)
set_option maxRecDepth 20000 in
theorem c_X5_flowsWishing (l : Launch) (g : zG) (ad : Nat → Nat → Nat) (u : (Nat → RS)) (x1 : Int32) (Q : Int32 → (Nat → RS) → Prop) (h : wp_X5_flowsWishing u x1 Q) : zMi l yX5_flowsWishing cX5_flowsWishing 4 (some .int) 6 0 0 g [.ref (ad 0 0), .int x1] (wS g ad u) (wS g ad) Q := by
  refine zMi_of RX5 (by decide) rfl [(0, .ref (ad 0 0)), (1, .int x1)] rfl (Nat.le_of_ble_eq_true rfl) (fun p e s m args below meth c A C hr hnm => ?_)
  unfold wp_X5_flowsWishing at h
  refine z_iconst (v := 0) C dX5_flowsWishing_0 (by decide) ?_
  refine z_istore_n (lv1 := [(2, .int 0), (0, .ref (ad 0 0)), (1, .int x1)]) C dX5_flowsWishing_1 rfl (by decide) rfl ?_
  refine z_iconst (v := 0) C dX5_flowsWishing_2 (by decide) ?_
  refine z_istore_n (lv1 := [(3, .int 0), (2, .int 0), (0, .ref (ad 0 0)), (1, .int x1)]) C dX5_flowsWishing_3 rfl (by decide) rfl ?_
  refine z_lv (lv1 := [(0, .ref (ad 0 0)), (1, .int x1), (2, .int 0), (3, .int 0)]) [2, 3, 1, 0] rfl ?_
  obtain ⟨n9, h⟩ := h
  exact l_X5_flowsWishing_4 C hr ad Q n9 u x1 0 0 h
end WC
