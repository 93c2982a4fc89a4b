section WC
variable {p : Program} {l : Launch} {e : Env} {s : State} {m : MethodId} {args : Array Value} {below : List Frame} {meth : Method} {c : Code} {g : zG} {A : Nat → Prop}
abbrev j_X7_given (p : Program) (l : Launch) (e : Env) (s : State) (m : MethodId) (args : Array Value) (below : List Frame) (meth : Method) (c : Code) (g : zG) (A : Nat → Prop) (ma ha : Nat → Nat) (bd : Nat → Nat → Nat) (Q : Int64 → TS → Prop) (u : TS) (k n : Nat) (pc : Nat) (lv : List (Nat × Value)) (st : List Value) : Prop := zJ p l e (zR 0 0 0) s m args below meth c g A 2 (zQl below args s g A 0 0 (wT g ma ha bd) Q) (wT g ma ha bd u) k n pc lv st
def wp_X7_given_28 (Q : Int64 → TS → Prop) (u : TS) (t0 : Int64) : Prop :=
  Q t0 u
set_option maxRecDepth 20000 in
theorem b_X7_given_28 (C : zC p s m args meth c g A cX7_given RX7 2) (hr : meth.sig.returnType = (some .long)) (ma ha : Nat → Nat) (bd : Nat → Nat → Nat) (Q : Int64 → TS → Prop) (u : TS) (t0 : Int64) (h : wp_X7_given_28 Q u t0) : j_X7_given p l e s m args below meth c g A ma ha bd Q u 0 0 28 [(0, .ref (ma 0))] [.long t0] := by
  unfold wp_X7_given_28 at h
  exact z_lret C hr u rfl h dX7_given_28
def wp_X7_given_10 (Q : Int64 → TS → Prop) (u : TS) : Prop :=
  wp_X7_given_28 Q u (-1)
set_option maxRecDepth 20000 in
theorem b_X7_given_10 (C : zC p s m args meth c g A cX7_given RX7 2) (hr : meth.sig.returnType = (some .long)) (ma ha : Nat → Nat) (bd : Nat → Nat → Nat) (Q : Int64 → TS → Prop) (u : TS) (h : wp_X7_given_10 Q u) : j_X7_given p l e s m args below meth c g A ma ha bd Q u 0 0 10 [(0, .ref (ma 0))] [] := by
  unfold wp_X7_given_10 at h
  refine z_ldc2 (v := (-1)) C dX7_given_10 k7_232 ?_
  refine z_goto C dX7_given_13 (tgt := 28) (by decide) ?_
  exact b_X7_given_28 C hr ma ha bd Q u (-1) h
def wp_X7_given (u : TS) (x1 : Int32) (Q : Int64 → TS → Prop) : Prop :=
  ((x1 < 0 → wp_X7_given_10 Q u) ∧ (¬ x1 < 0 → ((x1 < 7 → vp_in x1 7 ∧ wp_X7_given_28 Q u ((u.2.2.1 4).2 1 (zn x1))) ∧ (¬ x1 < 7 → wp_X7_given_10 Q u))))
set_option maxRecDepth 20000 in
theorem c_X7_given (l : Launch) (g : zG) (ma ha : Nat → Nat) (bd : Nat → Nat → Nat) (u : TS) (x1 : Int32) (Q : Int64 → TS → Prop) (h : wp_X7_given u x1 Q) : zMl l yX7_given cX7_given 2 (some .long) 0 0 0 g [.ref (ma 0), .int x1] (wT g ma ha bd u) (wT g ma ha bd) Q := by
  refine zMl_of RX7 (by decide) rfl [(0, .ref (ma 0)), (1, .int x1)] rfl (Nat.le_of_ble_eq_true rfl) (fun p e s m args below meth c A C hr hnm => ?_)
  unfold wp_X7_given at h
  refine z_iload_n C dX7_given_0 rfl 1 rfl ?_
  refine z_if_lt C dX7_given_1 (tgt := 10) (by decide) (fun hc101 => ?_) (fun hc101 => ?_)
  · have h := h.1 hc101
    refine z_lv (lv1 := [(0, .ref (ma 0))]) [0] rfl ?_
    exact b_X7_given_10 C hr ma ha bd Q u h
  · have h := h.2 hc101
    refine z_iload_n C dX7_given_4 rfl 1 rfl ?_
    refine z_bipush (v := 7) C dX7_given_5 (by decide) ?_
    refine z_icmp_lt C dX7_given_7 (tgt := 16) (by decide) (fun hc102 => ?_) (fun hc102 => ?_)
    · have h := h.1 hc102
      refine z_aload_n C dX7_given_16 rfl 0 rfl ?_
      refine g7_now C fl7_10 dX7_given_17 ?_
      refine Tg5_segments C fl7_154 dX7_given_20 ?_
      refine Tg4_totals C fl7_158 dX7_given_23 ?_
      refine z_iload_n C dX7_given_26 rfl 1 rfl ?_
      obtain ⟨hi103, h⟩ := h
      refine Tl4_totals C hi103 dX7_given_27 ?_
      refine z_lv (lv1 := [(0, .ref (ma 0))]) [0] rfl ?_
      exact b_X7_given_28 C hr ma ha bd Q u ((u.2.2.1 4).2 1 (zn x1)) h
    · have h := h.2 hc102
      refine z_lv (lv1 := [(0, .ref (ma 0))]) [0] rfl ?_
      exact b_X7_given_10 C hr ma ha bd Q u h
abbrev j_X7_status (p : Program) (l : Launch) (e : Env) (s : State) (m : MethodId) (args : Array Value) (below : List Frame) (meth : Method) (c : Code) (g : zG) (A : Nat → Prop) (ma ha : Nat → Nat) (bd : Nat → Nat → Nat) (Q : Int32 → TS → Prop) (u : TS) (k n : Nat) (pc : Nat) (lv : List (Nat × Value)) (st : List Value) : Prop := zJ p l e (zR 0 0 0) s m args below meth c g A 1 (zQi below args s g A 0 0 (wT g ma ha bd) Q) (wT g ma ha bd u) k n pc lv st
def wp_X7_status (u : TS) (Q : Int32 → TS → Prop) : Prop :=
  Q (u.1.1 4 0) u
set_option maxRecDepth 20000 in
theorem c_X7_status (l : Launch) (g : zG) (ma ha : Nat → Nat) (bd : Nat → Nat → Nat) (u : TS) (Q : Int32 → TS → Prop) (h : wp_X7_status u Q) : zMi l yX7_status cX7_status 1 (some .int) 0 0 0 g [.ref (ma 0)] (wT g ma ha bd u) (wT g ma ha bd) Q := by
  refine zMi_of RX7 (by decide) rfl [(0, .ref (ma 0))] rfl (Nat.le_of_ble_eq_true rfl) (fun p e s m args below meth c A C hr hnm => ?_)
  unfold wp_X7_status at h
  refine z_aload_n C dX7_status_0 rfl 0 rfl ?_
  refine g7_latestRefusal C fl7_74 dX7_status_1 ?_
  exact z_iret C hr u rfl h dX7_status_4
abbrev j_X7_refuse (p : Program) (l : Launch) (e : Env) (s : State) (m : MethodId) (args : Array Value) (below : List Frame) (meth : Method) (c : Code) (g : zG) (A : Nat → Prop) (ma ha : Nat → Nat) (bd : Nat → Nat → Nat) (Q : Int32 → TS → Prop) (u : TS) (k n : Nat) (pc : Nat) (lv : List (Nat × Value)) (st : List Value) : Prop := zJ p l e (zR 0 0 0) s m args below meth c g A 2 (zQi below args s g A 0 0 (wT g ma ha bd) Q) (wT g ma ha bd u) k n pc lv st
def wp_X7_refuse (u : TS) (x1 : Int32) (Q : Int32 → TS → Prop) : Prop :=
  ∀ u101 : TS, u101 = tM u (rN u.1 4 x1) → vp_in (-x1) 6 ∧ vp_in (-x1) 6 ∧ ∀ u104 : TS, u104 = tM u101 (rI u101.1 3 (upd (u101.1.1 3) (zn (-x1)) ((u101.1.1 3 (zn (-x1))) + 1))) → Q x1 u104
set_option maxRecDepth 20000 in
theorem c_X7_refuse (l : Launch) (g : zG) (ma ha : Nat → Nat) (bd : Nat → Nat → Nat) (u : TS) (x1 : Int32) (Q : Int32 → TS → Prop) (h : wp_X7_refuse u x1 Q) : zMi l yX7_refuse cX7_refuse 2 (some .int) 0 0 0 g [.ref (ma 0), .int x1] (wT g ma ha bd u) (wT g ma ha bd) Q := by
  refine zMi_of RX7 (by decide) rfl [(0, .ref (ma 0)), (1, .int x1)] rfl (Nat.le_of_ble_eq_true rfl) (fun p e s m args below meth c A C hr hnm => ?_)
  unfold wp_X7_refuse at h
  refine z_aload_n C dX7_refuse_0 rfl 0 rfl ?_
  refine z_iload_n C dX7_refuse_1 rfl 1 rfl ?_
  refine p7_latestRefusal C fl7_74 dX7_refuse_2 ?_
  refine stT (tM u (rN u.1 4 x1)) (fun u101 eu101 => ?_)
  have h := h u101 eu101
  refine z_aload_n C dX7_refuse_5 rfl 0 rfl ?_
  refine g7_refused C fl7_27 dX7_refuse_6 ?_
  refine z_iload_n C dX7_refuse_9 rfl 1 rfl ?_
  refine z_ineg C dX7_refuse_10 ?_
  refine z_dup2 C dX7_refuse_11 rfl rfl ?_
  obtain ⟨hi102, h⟩ := h
  refine l7_refused C hi102 dX7_refuse_12 ?_
  refine z_iconst (v := 1) C dX7_refuse_13 (by decide) ?_
  refine z_iadd C dX7_refuse_14 ?_
  obtain ⟨hi103, h⟩ := h
  refine s7_refused C hi103 dX7_refuse_15 ?_
  refine stT (tM u101 (rI u101.1 3 (upd (u101.1.1 3) (zn (-x1)) ((u101.1.1 3 (zn (-x1))) + 1)))) (fun u104 eu104 => ?_)
  have h := h u104 eu104
  refine z_iload_n C dX7_refuse_16 rfl 1 rfl ?_
  exact z_iret C hr u104 rfl h dX7_refuse_17
abbrev j_X7_refusals (p : Program) (l : Launch) (e : Env) (s : State) (m : MethodId) (args : Array Value) (below : List Frame) (meth : Method) (c : Code) (g : zG) (A : Nat → Prop) (ma ha : Nat → Nat) (bd : Nat → Nat → Nat) (Q : Int32 → TS → Prop) (u : TS) (k n : Nat) (pc : Nat) (lv : List (Nat × Value)) (st : List Value) : Prop := zJ p l e (zR 0 0 0) s m args below meth c g A 2 (zQi below args s g A 0 0 (wT g ma ha bd) Q) (wT g ma ha bd u) k n pc lv st
def wp_X7_refusals (u : TS) (x1 : Int32) (Q : Int32 → TS → Prop) : Prop :=
  ((x1 = 10 → Q (u.1.1 3 (zn 1)) u) ∧ (x1 = 11 → Q (u.1.1 3 (zn 2)) u) ∧ (x1 = 12 → Q (u.1.1 3 (zn 4)) u) ∧ (¬ x1 = 10 → ¬ x1 = 11 → ¬ x1 = 12 → Q (u.1.1 3 (zn 5)) u))
set_option maxRecDepth 20000 in
theorem c_X7_refusals (l : Launch) (g : zG) (ma ha : Nat → Nat) (bd : Nat → Nat → Nat) (u : TS) (x1 : Int32) (Q : Int32 → TS → Prop) (h : wp_X7_refusals u x1 Q) : zMi l yX7_refusals cX7_refusals 2 (some .int) 0 0 0 g [.ref (ma 0), .int x1] (wT g ma ha bd u) (wT g ma ha bd) Q := by
  refine zMi_of RX7 (by decide) rfl [(0, .ref (ma 0)), (1, .int x1)] rfl (Nat.le_of_ble_eq_true rfl) (fun p e s m args below meth c A C hr hnm => ?_)
  unfold wp_X7_refusals at h
  refine z_iload_n C dX7_refusals_0 rfl 1 rfl ?_
  by_cases hx101 : x1 = 10
  · have h := h.1 hx101
    refine z_tIn C dX7_refusals_1 (10) (by rw [hx101]; decide) (by decide) (by decide) rfl (tgt := 28) (by decide) ?_
    refine z_aload_n C dX7_refusals_28 rfl 0 rfl ?_
    refine g7_refused C fl7_27 dX7_refusals_29 ?_
    refine z_iconst (v := 1) C dX7_refusals_32 (by decide) ?_
    refine l7_refused C (vp_in_iff.mpr (by decide +kernel)) dX7_refusals_33 ?_
    exact z_iret C hr u rfl h dX7_refusals_34
  have h := h.2
  by_cases hx102 : x1 = 11
  · have h := h.1 hx102
    refine z_tIn C dX7_refusals_1 (11) (by rw [hx102]; decide) (by decide) (by decide) rfl (tgt := 35) (by decide) ?_
    refine z_aload_n C dX7_refusals_35 rfl 0 rfl ?_
    refine g7_refused C fl7_27 dX7_refusals_36 ?_
    refine z_iconst (v := 2) C dX7_refusals_39 (by decide) ?_
    refine l7_refused C (vp_in_iff.mpr (by decide +kernel)) dX7_refusals_40 ?_
    exact z_iret C hr u rfl h dX7_refusals_41
  have h := h.2
  by_cases hx103 : x1 = 12
  · have h := h.1 hx103
    refine z_tIn C dX7_refusals_1 (12) (by rw [hx103]; decide) (by decide) (by decide) rfl (tgt := 42) (by decide) ?_
    refine z_aload_n C dX7_refusals_42 rfl 0 rfl ?_
    refine g7_refused C fl7_27 dX7_refusals_43 ?_
    refine z_iconst (v := 4) C dX7_refusals_46 (by decide) ?_
    refine l7_refused C (vp_in_iff.mpr (by decide +kernel)) dX7_refusals_47 ?_
    exact z_iret C hr u rfl h dX7_refusals_48
  have h := h.2
  have h := h hx101 hx102 hx103
  have thx101 := lv_neT (a := 10) hx101 (by decide)
  have thx102 := lv_neT (a := 11) hx102 (by decide)
  have thx103 := lv_neT (a := 12) hx103 (by decide)
  refine z_tOut C dX7_refusals_1 (by omega) (tgt := 49) (by decide) ?_
  refine z_aload_n C dX7_refusals_49 rfl 0 rfl ?_
  refine g7_refused C fl7_27 dX7_refusals_50 ?_
  refine z_iconst (v := 5) C dX7_refusals_53 (by decide) ?_
  refine l7_refused C (vp_in_iff.mpr (by decide +kernel)) dX7_refusals_54 ?_
  exact z_iret C hr u rfl h dX7_refusals_55
abbrev j_X7_isFlow (p : Program) (l : Launch) (e : Env) (s : State) (m : MethodId) (args : Array Value) (below : List Frame) (meth : Method) (c : Code) (g : zG) (A : Nat → Prop) (ma ha : Nat → Nat) (bd : Nat → Nat → Nat) (Q : Int32 → TS → Prop) (u : TS) (k n : Nat) (pc : Nat) (lv : List (Nat × Value)) (st : List Value) : Prop := zJ p l e (zR 0 0 0) s m args below meth c g A 2 (zQi below args s g A 0 0 (wT g ma ha bd) Q) (wT g ma ha bd u) k n pc lv st
def wp_X7_isFlow_23 (Q : Int32 → TS → Prop) (u : TS) (t0 : Int32) : Prop :=
  (zBool t0 ∧ Q t0 u)
set_option maxRecDepth 20000 in
theorem b_X7_isFlow_23 (C : zC p s m args meth c g A cX7_isFlow RX7 2) (hr : meth.sig.returnType = (some .boolean)) (ma ha : Nat → Nat) (bd : Nat → Nat → Nat) (Q : Int32 → TS → Prop) (u : TS) (t0 : Int32) (h : wp_X7_isFlow_23 Q u t0) : j_X7_isFlow p l e s m args below meth c g A ma ha bd Q u 0 0 23 [(0, .ref (ma 0))] [.int t0] := by
  unfold wp_X7_isFlow_23 at h
  exact z_zret C hr u rfl h.1 h.2 dX7_isFlow_23
def wp_X7_isFlow_22 (Q : Int32 → TS → Prop) (u : TS) : Prop :=
  wp_X7_isFlow_23 Q u 0
set_option maxRecDepth 20000 in
theorem b_X7_isFlow_22 (C : zC p s m args meth c g A cX7_isFlow RX7 2) (hr : meth.sig.returnType = (some .boolean)) (ma ha : Nat → Nat) (bd : Nat → Nat → Nat) (Q : Int32 → TS → Prop) (u : TS) (h : wp_X7_isFlow_22 Q u) : j_X7_isFlow p l e s m args below meth c g A ma ha bd Q u 0 0 22 [(0, .ref (ma 0))] [] := by
  unfold wp_X7_isFlow_22 at h
  refine z_iconst (v := 0) C dX7_isFlow_22 (by decide) ?_
  exact b_X7_isFlow_23 C hr ma ha bd Q u 0 h
def wp_X7_isFlow (u : TS) (x1 : Int32) (Q : Int32 → TS → Prop) : Prop :=
  ((x1 < 0 → wp_X7_isFlow_22 Q u) ∧ (¬ x1 < 0 → (((u.2.2.1 2).1 0 0 ≤ x1 → wp_X7_isFlow_22 Q u) ∧ (¬ (u.2.2.1 2).1 0 0 ≤ x1 → wp_X7_isFlow_23 Q u 1))))
set_option maxRecDepth 20000 in
theorem c_X7_isFlow (l : Launch) (g : zG) (ma ha : Nat → Nat) (bd : Nat → Nat → Nat) (u : TS) (x1 : Int32) (Q : Int32 → TS → Prop) (h : wp_X7_isFlow u x1 Q) : zMi l yX7_isFlow cX7_isFlow 2 (some .boolean) 0 0 0 g [.ref (ma 0), .int x1] (wT g ma ha bd u) (wT g ma ha bd) Q := by
  refine zMi_of RX7 (by decide) rfl [(0, .ref (ma 0)), (1, .int x1)] rfl (Nat.le_of_ble_eq_true rfl) (fun p e s m args below meth c A C hr hnm => ?_)
  unfold wp_X7_isFlow at h
  refine z_iload_n C dX7_isFlow_0 rfl 1 rfl ?_
  refine z_if_lt C dX7_isFlow_1 (tgt := 22) (by decide) (fun hc101 => ?_) (fun hc101 => ?_)
  · have h := h.1 hc101
    refine z_lv (lv1 := [(0, .ref (ma 0))]) [0] rfl ?_
    exact b_X7_isFlow_22 C hr ma ha bd Q u h
  · have h := h.2 hc101
    refine z_iload_n C dX7_isFlow_4 rfl 1 rfl ?_
    refine z_aload_n C dX7_isFlow_5 rfl 0 rfl ?_
    refine g7_now C fl7_10 dX7_isFlow_6 ?_
    refine Tg5_flows C fl7_64 dX7_isFlow_9 ?_
    refine Tg0_number C fl7_77 dX7_isFlow_12 ?_
    refine z_icmp_ge C dX7_isFlow_15 (tgt := 22) (by decide) (fun hc102 => ?_) (fun hc102 => ?_)
    · have h := h.1 hc102
      refine z_lv (lv1 := [(0, .ref (ma 0))]) [0] rfl ?_
      exact b_X7_isFlow_22 C hr ma ha bd Q u h
    · have h := h.2 hc102
      refine z_iconst (v := 1) C dX7_isFlow_18 (by decide) ?_
      refine z_goto C dX7_isFlow_19 (tgt := 23) (by decide) ?_
      refine z_lv (lv1 := [(0, .ref (ma 0))]) [0] rfl ?_
      exact b_X7_isFlow_23 C hr ma ha bd Q u 1 h
abbrev j_X7_waits (p : Program) (l : Launch) (e : Env) (s : State) (m : MethodId) (args : Array Value) (below : List Frame) (meth : Method) (c : Code) (g : zG) (A : Nat → Prop) (ma ha : Nat → Nat) (bd : Nat → Nat → Nat) (Q : Int32 → TS → Prop) (u : TS) (k n : Nat) (pc : Nat) (lv : List (Nat × Value)) (st : List Value) : Prop := zJ p l e (zR 1 0 0) s m args below meth c g A 4 (zQi below args s g A 0 0 (wT g ma ha bd) Q) (wT g ma ha bd u) k n pc lv st
def wp_X7_waits_36 (Q : Int32 → TS → Prop) (u : TS) : Prop :=
  Q (-1) u
set_option maxRecDepth 20000 in
theorem b_X7_waits_36 (C : zC p s m args meth c g A cX7_waits RX7 4) (hr : meth.sig.returnType = (some .int)) (ma ha : Nat → Nat) (bd : Nat → Nat → Nat) (Q : Int32 → TS → Prop) (u : TS) (h : wp_X7_waits_36 Q u) : j_X7_waits p l e s m args below meth c g A ma ha bd Q u 0 0 36 [(0, .ref (ma 0))] [] := by
  unfold wp_X7_waits_36 at h
  refine z_iconst (v := (-1)) C dX7_waits_36 (by decide) ?_
  exact z_iret C hr u rfl h dX7_waits_37
def wp_X7_waits (u : TS) (x1 : Int32) (x2 : Int32) (x3 : Int32) (Q : Int32 → TS → Prop) : Prop :=
  wp_X7_isQueue x1 (fun r101 => ((r101 = 0 → wp_X7_waits_36 Q u) ∧ (¬ r101 = 0 → ((x2 < 0 → wp_X7_waits_36 Q u) ∧ (¬ x2 < 0 → vp_in x1 4 ∧ vp_in x1 4 ∧ (((u.2.2.1 (5 + zn x1)).1 0 0 ≤ x2 → wp_X7_waits_36 Q u) ∧ (¬ (u.2.2.1 (5 + zn x1)).1 0 0 ≤ x2 → ((x3 < 0 → wp_X7_waits_36 Q u) ∧ (¬ x3 < 0 → ((x3 < 4 → vp_in x1 4 ∧ vp_in x1 4 ∧ wp_X3_at (u.2.2.1 (5 + zn x1)) x2 x3 (fun r110 v111 => ∀ u113 : TS, u113 = tN u (va_up u.2.2.1 (5 + zn x1) v111) → Q r110 u113)) ∧ (¬ x3 < 4 → wp_X7_waits_36 Q u)))))))))))
set_option maxRecDepth 20000 in
theorem c_X7_waits (l : Launch) (g : zG) (ma ha : Nat → Nat) (bd : Nat → Nat → Nat) (u : TS) (x1 : Int32) (x2 : Int32) (x3 : Int32) (Q : Int32 → TS → Prop) (h : wp_X7_waits u x1 x2 x3 Q) : zMi l yX7_waits cX7_waits 4 (some .int) 1 0 0 g [.ref (ma 0), .int x1, .int x2, .int x3] (wT g ma ha bd u) (wT g ma ha bd) Q := by
  refine zMi_of RX7 (by decide) rfl [(0, .ref (ma 0)), (1, .int x1), (2, .int x2), (3, .int x3)] rfl (Nat.le_of_ble_eq_true rfl) (fun p e s m args below meth c A C hr hnm => ?_)
  unfold wp_X7_waits at h
  refine z_iload_n C dX7_waits_0 rfl 1 rfl ?_
  refine cSi (As := [.int x1]) C (c_X7_isQueue l g x1 _ h) s_X7_isQueue ml7_86 ⟨Nat.le_of_ble_eq_true rfl, Nat.le_of_ble_eq_true rfl⟩ ⟨Nat.le_of_ble_eq_true rfl, Nat.le_of_ble_eq_true rfl⟩ (Nat.le_of_ble_eq_true rfl) rfl dX7_waits_1 ?_
  intro r101 h
  refine z_if_eq C dX7_waits_4 (tgt := 36) (by decide) (fun hc102 => ?_) (fun hc102 => ?_)
  · have h := h.1 hc102
    refine z_lv (lv1 := [(0, .ref (ma 0))]) [0] rfl ?_
    exact b_X7_waits_36 C hr ma ha bd Q u h
  · have h := h.2 hc102
    refine z_iload_n C dX7_waits_7 rfl 2 rfl ?_
    refine z_if_lt C dX7_waits_8 (tgt := 36) (by decide) (fun hc103 => ?_) (fun hc103 => ?_)
    · have h := h.1 hc103
      refine z_lv (lv1 := [(0, .ref (ma 0))]) [0] rfl ?_
      exact b_X7_waits_36 C hr ma ha bd Q u h
    · have h := h.2 hc103
      refine z_iload_n C dX7_waits_11 rfl 2 rfl ?_
      refine z_aload_n C dX7_waits_12 rfl 0 rfl ?_
      refine g7_now C fl7_10 dX7_waits_13 ?_
      refine Tg5_queues C fl7_167 dX7_waits_16 ?_
      refine z_iload_n C dX7_waits_19 rfl 1 rfl ?_
      obtain ⟨hi104, h⟩ := h
      refine Taq C hi104 dX7_waits_20 ?_
      obtain ⟨hi105, h⟩ := h
      refine Tg3_number C hi105 fl7_171 dX7_waits_21 ?_
      refine z_icmp_ge C dX7_waits_24 (tgt := 36) (by decide) (fun hc106 => ?_) (fun hc106 => ?_)
      · have h := h.1 hc106
        refine z_lv (lv1 := [(0, .ref (ma 0))]) [0] rfl ?_
        exact b_X7_waits_36 C hr ma ha bd Q u h
      · have h := h.2 hc106
        refine z_iload_n C dX7_waits_27 rfl 3 rfl ?_
        refine z_if_lt C dX7_waits_28 (tgt := 36) (by decide) (fun hc107 => ?_) (fun hc107 => ?_)
        · have h := h.1 hc107
          refine z_lv (lv1 := [(0, .ref (ma 0))]) [0] rfl ?_
          exact b_X7_waits_36 C hr ma ha bd Q u h
        · have h := h.2 hc107
          refine z_iload_n C dX7_waits_31 rfl 3 rfl ?_
          refine z_iconst (v := 4) C dX7_waits_32 (by decide) ?_
          refine z_icmp_lt C dX7_waits_33 (tgt := 38) (by decide) (fun hc108 => ?_) (fun hc108 => ?_)
          · have h := h.1 hc108
            refine z_aload_n C dX7_waits_38 rfl 0 rfl ?_
            refine g7_now C fl7_10 dX7_waits_39 ?_
            refine Tg5_queues C fl7_167 dX7_waits_42 ?_
            refine z_iload_n C dX7_waits_45 rfl 1 rfl ?_
            obtain ⟨hi109, h⟩ := h
            refine Taq C hi109 dX7_waits_46 ?_
            refine z_iload_n C dX7_waits_47 rfl 2 rfl ?_
            refine z_iload_n C dX7_waits_48 rfl 3 rfl ?_
            obtain ⟨hi112, h⟩ := h
            refine Tc3i (As := [.int x2, .int x3]) C hi112 (c_X3_at l g (bd (5 + zn x1)) (u.2.2.1 (5 + zn x1)) x2 x3 _ h) v_X3_at ml7_223 rfl ⟨Nat.le_of_ble_eq_true rfl, Nat.le_of_ble_eq_true rfl⟩ ⟨Nat.le_of_ble_eq_true rfl, Nat.le_of_ble_eq_true rfl⟩ (Nat.le_of_ble_eq_true rfl) rfl dX7_waits_49 ?_
            intro r110 v111 h
            refine stT (tN u (va_up u.2.2.1 (5 + zn x1) v111)) (fun u113 eu113 => ?_)
            have h := h u113 eu113
            exact z_iret C hr u113 rfl h dX7_waits_52
          · have h := h.2 hc108
            refine z_lv (lv1 := [(0, .ref (ma 0))]) [0] rfl ?_
            exact b_X7_waits_36 C hr ma ha bd Q u h
abbrev j_X7_segment (p : Program) (l : Launch) (e : Env) (s : State) (m : MethodId) (args : Array Value) (below : List Frame) (meth : Method) (c : Code) (g : zG) (A : Nat → Prop) (ma ha : Nat → Nat) (bd : Nat → Nat → Nat) (Q : Int32 → TS → Prop) (u : TS) (k n : Nat) (pc : Nat) (lv : List (Nat × Value)) (st : List Value) : Prop := zJ p l e (zR 1 0 0) s m args below meth c g A 3 (zQi below args s g A 0 0 (wT g ma ha bd) Q) (wT g ma ha bd u) k n pc lv st
def wp_X7_segment_28 (Q : Int32 → TS → Prop) (u : TS) : Prop :=
  Q (-1) u
set_option maxRecDepth 20000 in
theorem b_X7_segment_28 (C : zC p s m args meth c g A cX7_segment RX7 3) (hr : meth.sig.returnType = (some .int)) (ma ha : Nat → Nat) (bd : Nat → Nat → Nat) (Q : Int32 → TS → Prop) (u : TS) (h : wp_X7_segment_28 Q u) : j_X7_segment p l e s m args below meth c g A ma ha bd Q u 0 0 28 [(0, .ref (ma 0))] [] := by
  unfold wp_X7_segment_28 at h
  refine z_iconst (v := (-1)) C dX7_segment_28 (by decide) ?_
  exact z_iret C hr u rfl h dX7_segment_29
def wp_X7_segment (u : TS) (x1 : Int32) (x2 : Int32) (Q : Int32 → TS → Prop) : Prop :=
  ((x1 < 0 → wp_X7_segment_28 Q u) ∧ (¬ x1 < 0 → (((u.2.2.1 4).1 0 0 ≤ x1 → wp_X7_segment_28 Q u) ∧ (¬ (u.2.2.1 4).1 0 0 ≤ x1 → ((x2 < 0 → wp_X7_segment_28 Q u) ∧ (¬ x2 < 0 → ((x2 < 6 → wp_X4_lately (u.2.2.1 4) x1 x2 (fun r105 v106 => ∀ u107 : TS, u107 = tN u (va_up u.2.2.1 4 v106) → Q r105 u107)) ∧ (¬ x2 < 6 → wp_X7_segment_28 Q u))))))))
set_option maxRecDepth 20000 in
theorem c_X7_segment (l : Launch) (g : zG) (ma ha : Nat → Nat) (bd : Nat → Nat → Nat) (u : TS) (x1 : Int32) (x2 : Int32) (Q : Int32 → TS → Prop) (h : wp_X7_segment u x1 x2 Q) : zMi l yX7_segment cX7_segment 3 (some .int) 1 0 0 g [.ref (ma 0), .int x1, .int x2] (wT g ma ha bd u) (wT g ma ha bd) Q := by
  refine zMi_of RX7 (by decide) rfl [(0, .ref (ma 0)), (1, .int x1), (2, .int x2)] rfl (Nat.le_of_ble_eq_true rfl) (fun p e s m args below meth c A C hr hnm => ?_)
  unfold wp_X7_segment at h
  refine z_iload_n C dX7_segment_0 rfl 1 rfl ?_
  refine z_if_lt C dX7_segment_1 (tgt := 28) (by decide) (fun hc101 => ?_) (fun hc101 => ?_)
  · have h := h.1 hc101
    refine z_lv (lv1 := [(0, .ref (ma 0))]) [0] rfl ?_
    exact b_X7_segment_28 C hr ma ha bd Q u h
  · have h := h.2 hc101
    refine z_iload_n C dX7_segment_4 rfl 1 rfl ?_
    refine z_aload_n C dX7_segment_5 rfl 0 rfl ?_
    refine g7_now C fl7_10 dX7_segment_6 ?_
    refine Tg5_segments C fl7_154 dX7_segment_9 ?_
    refine Tg4_kept C fl7_226 dX7_segment_12 ?_
    refine z_icmp_ge C dX7_segment_15 (tgt := 28) (by decide) (fun hc102 => ?_) (fun hc102 => ?_)
    · have h := h.1 hc102
      refine z_lv (lv1 := [(0, .ref (ma 0))]) [0] rfl ?_
      exact b_X7_segment_28 C hr ma ha bd Q u h
    · have h := h.2 hc102
      refine z_iload_n C dX7_segment_18 rfl 2 rfl ?_
      refine z_if_lt C dX7_segment_19 (tgt := 28) (by decide) (fun hc103 => ?_) (fun hc103 => ?_)
      · have h := h.1 hc103
        refine z_lv (lv1 := [(0, .ref (ma 0))]) [0] rfl ?_
        exact b_X7_segment_28 C hr ma ha bd Q u h
      · have h := h.2 hc103
        refine z_iload_n C dX7_segment_22 rfl 2 rfl ?_
        refine z_bipush (v := 6) C dX7_segment_23 (by decide) ?_
        refine z_icmp_lt C dX7_segment_25 (tgt := 30) (by decide) (fun hc104 => ?_) (fun hc104 => ?_)
        · have h := h.1 hc104
          refine z_aload_n C dX7_segment_30 rfl 0 rfl ?_
          refine g7_now C fl7_10 dX7_segment_31 ?_
          refine Tg5_segments C fl7_154 dX7_segment_34 ?_
          refine z_iload_n C dX7_segment_37 rfl 1 rfl ?_
          refine z_iload_n C dX7_segment_38 rfl 2 rfl ?_
          refine Tc4i (As := [.int x1, .int x2]) C (c_X4_lately l g (bd 4) (u.2.2.1 4) x1 x2 _ h) v_X4_lately ml7_229 rfl ⟨Nat.le_of_ble_eq_true rfl, Nat.le_of_ble_eq_true rfl⟩ ⟨Nat.le_of_ble_eq_true rfl, Nat.le_of_ble_eq_true rfl⟩ (Nat.le_of_ble_eq_true rfl) rfl dX7_segment_39 ?_
          intro r105 v106 h
          refine stT (tN u (va_up u.2.2.1 4 v106)) (fun u107 eu107 => ?_)
          have h := h u107 eu107
          exact z_iret C hr u107 rfl h dX7_segment_42
        · have h := h.2 hc104
          refine z_lv (lv1 := [(0, .ref (ma 0))]) [0] rfl ?_
          exact b_X7_segment_28 C hr ma ha bd Q u h
abbrev j_X7_window (p : Program) (l : Launch) (e : Env) (s : State) (m : MethodId) (args : Array Value) (below : List Frame) (meth : Method) (c : Code) (g : zG) (A : Nat → Prop) (ma ha : Nat → Nat) (bd : Nat → Nat → Nat) (Q : Int32 → TS → Prop) (u : TS) (k n : Nat) (pc : Nat) (lv : List (Nat × Value)) (st : List Value) : Prop := zJ p l e (zR 1 0 0) s m args below meth c g A 2 (zQi below args s g A 0 0 (wT g ma ha bd) Q) (wT g ma ha bd u) k n pc lv st
def wp_X7_window_25 (Q : Int32 → TS → Prop) (u : TS) (t0 : Int32) : Prop :=
  Q t0 u
set_option maxRecDepth 20000 in
theorem b_X7_window_25 (C : zC p s m args meth c g A cX7_window RX7 2) (hr : meth.sig.returnType = (some .int)) (ma ha : Nat → Nat) (bd : Nat → Nat → Nat) (Q : Int32 → TS → Prop) (u : TS) (t0 : Int32) (h : wp_X7_window_25 Q u t0) : j_X7_window p l e s m args below meth c g A ma ha bd Q u 0 0 25 [(0, .ref (ma 0))] [.int t0] := by
  unfold wp_X7_window_25 at h
  exact z_iret C hr u rfl h dX7_window_25
def wp_X7_window_10 (Q : Int32 → TS → Prop) (u : TS) : Prop :=
  wp_X7_window_25 Q u 0
set_option maxRecDepth 20000 in
theorem b_X7_window_10 (C : zC p s m args meth c g A cX7_window RX7 2) (hr : meth.sig.returnType = (some .int)) (ma ha : Nat → Nat) (bd : Nat → Nat → Nat) (Q : Int32 → TS → Prop) (u : TS) (h : wp_X7_window_10 Q u) : j_X7_window p l e s m args below meth c g A ma ha bd Q u 0 0 10 [(0, .ref (ma 0))] [] := by
  unfold wp_X7_window_10 at h
  refine z_iconst (v := 0) C dX7_window_10 (by decide) ?_
  refine z_goto C dX7_window_11 (tgt := 25) (by decide) ?_
  exact b_X7_window_25 C hr ma ha bd Q u 0 h
def wp_X7_window (u : TS) (x1 : Int32) (Q : Int32 → TS → Prop) : Prop :=
  ((x1 < 0 → wp_X7_window_10 Q u) ∧ (¬ x1 < 0 → ((x1 ≤ 40 → wp_X2_bitsFrom (u.2.2.1 1) x1 (fun r103 v104 => ∀ u105 : TS, u105 = tN u (va_up u.2.2.1 1 v104) → wp_X7_window_25 Q u105 r103)) ∧ (¬ x1 ≤ 40 → wp_X7_window_10 Q u))))
set_option maxRecDepth 20000 in
theorem c_X7_window (l : Launch) (g : zG) (ma ha : Nat → Nat) (bd : Nat → Nat → Nat) (u : TS) (x1 : Int32) (Q : Int32 → TS → Prop) (h : wp_X7_window u x1 Q) : zMi l yX7_window cX7_window 2 (some .int) 1 0 0 g [.ref (ma 0), .int x1] (wT g ma ha bd u) (wT g ma ha bd) Q := by
  refine zMi_of RX7 (by decide) rfl [(0, .ref (ma 0)), (1, .int x1)] rfl (Nat.le_of_ble_eq_true rfl) (fun p e s m args below meth c A C hr hnm => ?_)
  unfold wp_X7_window at h
  refine z_iload_n C dX7_window_0 rfl 1 rfl ?_
  refine z_if_lt C dX7_window_1 (tgt := 10) (by decide) (fun hc101 => ?_) (fun hc101 => ?_)
  · have h := h.1 hc101
    refine z_lv (lv1 := [(0, .ref (ma 0))]) [0] rfl ?_
    exact b_X7_window_10 C hr ma ha bd Q u h
  · have h := h.2 hc101
    refine z_iload_n C dX7_window_4 rfl 1 rfl ?_
    refine z_bipush (v := 40) C dX7_window_5 (by decide) ?_
    refine z_icmp_le C dX7_window_7 (tgt := 14) (by decide) (fun hc102 => ?_) (fun hc102 => ?_)
    · have h := h.1 hc102
      refine z_aload_n C dX7_window_14 rfl 0 rfl ?_
      refine g7_now C fl7_10 dX7_window_15 ?_
      refine Tg5_key C fl7_46 dX7_window_18 ?_
      refine z_iload_n C dX7_window_21 rfl 1 rfl ?_
      refine Tc2i (As := [.int x1]) C (c_X2_bitsFrom l g (bd 1) (u.2.2.1 1) x1 _ h) v_X2_bitsFrom ml7_234 rfl ⟨Nat.le_of_ble_eq_true rfl, Nat.le_of_ble_eq_true rfl⟩ ⟨Nat.le_of_ble_eq_true rfl, Nat.le_of_ble_eq_true rfl⟩ (Nat.le_of_ble_eq_true rfl) rfl dX7_window_22 ?_
      intro r103 v104 h
      refine stT (tN u (va_up u.2.2.1 1 v104)) (fun u105 eu105 => ?_)
      have h := h u105 eu105
      refine z_lv (lv1 := [(0, .ref (ma 0))]) [0] rfl ?_
      exact b_X7_window_25 C hr ma ha bd Q u105 r103 h
    · have h := h.2 hc102
      refine z_lv (lv1 := [(0, .ref (ma 0))]) [0] rfl ?_
      exact b_X7_window_10 C hr ma ha bd Q u h
abbrev j_X7_ratio (p : Program) (l : Launch) (e : Env) (s : State) (m : MethodId) (args : Array Value) (below : List Frame) (meth : Method) (c : Code) (g : zG) (A : Nat → Prop) (ma ha : Nat → Nat) (bd : Nat → Nat → Nat) (Q : Int64 → TS → Prop) (u : TS) (k n : Nat) (pc : Nat) (lv : List (Nat × Value)) (st : List Value) : Prop := zJ p l e (zR 1 0 0) s m args below meth c g A 12 (zQl below args s g A 0 0 (wT g ma ha bd) Q) (wT g ma ha bd u) k n pc lv st
def wp_X7_ratio_28 (Q : Int64 → TS → Prop) (u : TS) : Prop :=
  Q (-1) u
set_option maxRecDepth 20000 in
theorem b_X7_ratio_28 (C : zC p s m args meth c g A cX7_ratio RX7 12) (hr : meth.sig.returnType = (some .long)) (ma ha : Nat → Nat) (bd : Nat → Nat → Nat) (Q : Int64 → TS → Prop) (u : TS) (h : wp_X7_ratio_28 Q u) : j_X7_ratio p l e s m args below meth c g A ma ha bd Q u 0 0 28 [(0, .ref (ma 0))] [] := by
  unfold wp_X7_ratio_28 at h
  refine z_ldc2 (v := (-1)) C dX7_ratio_28 k7_232 ?_
  exact z_lret C hr u rfl h dX7_ratio_31
def wp_X7_ratio_96 (Q : Int64 → TS → Prop) (u : TS) (y6 : Int64) (y8 : Int64) (t0 : Int64) : Prop :=
  wp_X7_commonDivisor y6 y8 (fun r109 => ¬ r109 = 0 ∧ Q (t0 / r109) u)
set_option maxRecDepth 20000 in
theorem b_X7_ratio_96 (C : zC p s m args meth c g A cX7_ratio RX7 12) (hr : meth.sig.returnType = (some .long)) (ma ha : Nat → Nat) (bd : Nat → Nat → Nat) (Q : Int64 → TS → Prop) (u : TS) (y6 : Int64) (y8 : Int64) (t0 : Int64) (h : wp_X7_ratio_96 Q u y6 y8 t0) : j_X7_ratio p l e s m args below meth c g A ma ha bd Q u 0 0 96 [(0, .ref (ma 0)), (6, .long y6), (8, .long y8)] [.long t0] := by
  unfold wp_X7_ratio_96 at h
  refine z_lstore (lv1 := [(10, .long t0), (0, .ref (ma 0)), (6, .long y6), (8, .long y8)]) C dX7_ratio_96 (by decide) rfl ?_
  refine z_lload C dX7_ratio_98 0 rfl ?_
  refine z_lload C dX7_ratio_100 2 rfl ?_
  refine z_lload C dX7_ratio_102 3 rfl ?_
  refine cSl (As := [.long y6, .long y8]) C (c_X7_commonDivisor l g y6 y8 _ h) s_X7_commonDivisor ml7_261 ⟨Nat.le_of_ble_eq_true rfl, Nat.le_of_ble_eq_true rfl⟩ ⟨Nat.le_of_ble_eq_true rfl, Nat.le_of_ble_eq_true rfl⟩ (Nat.le_of_ble_eq_true rfl) rfl dX7_ratio_104 ?_
  intro r109 h
  obtain ⟨hy110, h⟩ := h
  refine z_ldiv C dX7_ratio_107 hy110 ?_
  exact z_lret C hr u rfl h dX7_ratio_108
def wp_X7_ratio_81 (Q : Int64 → TS → Prop) (u : TS) (x1 : Int32) (y6 : Int64) (t0 : Int64) : Prop :=
  ((¬ x1 - x1 / 2 * 2 = 0 → wp_X7_ratio_96 Q u y6 t0 t0) ∧ (x1 - x1 / 2 * 2 = 0 → wp_X7_ratio_96 Q u y6 t0 y6))
set_option maxRecDepth 20000 in
theorem b_X7_ratio_81 (C : zC p s m args meth c g A cX7_ratio RX7 12) (hr : meth.sig.returnType = (some .long)) (ma ha : Nat → Nat) (bd : Nat → Nat → Nat) (Q : Int64 → TS → Prop) (u : TS) (x1 : Int32) (y6 : Int64) (t0 : Int64) (h : wp_X7_ratio_81 Q u x1 y6 t0) : j_X7_ratio p l e s m args below meth c g A ma ha bd Q u 0 0 81 [(0, .ref (ma 0)), (1, .int x1), (6, .long y6)] [.long t0] := by
  unfold wp_X7_ratio_81 at h
  refine z_lstore (lv1 := [(8, .long t0), (0, .ref (ma 0)), (1, .int x1), (6, .long y6)]) C dX7_ratio_81 (by decide) rfl ?_
  refine z_iload_n C dX7_ratio_83 rfl 2 rfl ?_
  refine z_iconst (v := 2) C dX7_ratio_84 (by decide) ?_
  refine z_irem C dX7_ratio_85 (by decide) ?_
  refine z_if_ne C dX7_ratio_86 (tgt := 94) (by decide) (fun hc108 => ?_) (fun hc108 => ?_)
  · have h := h.1 hc108
    refine z_lload C dX7_ratio_94 0 rfl ?_
    refine z_lv (lv1 := [(0, .ref (ma 0)), (6, .long y6), (8, .long t0)]) [1, 3, 0] rfl ?_
    exact b_X7_ratio_96 C hr ma ha bd Q u y6 t0 t0 h
  · have h := h.2 hc108
    refine z_lload C dX7_ratio_89 3 rfl ?_
    refine z_goto C dX7_ratio_91 (tgt := 96) (by decide) ?_
    refine z_lv (lv1 := [(0, .ref (ma 0)), (6, .long y6), (8, .long t0)]) [1, 3, 0] rfl ?_
    exact b_X7_ratio_96 C hr ma ha bd Q u y6 t0 y6 h
def wp_X7_ratio_68 (Q : Int64 → TS → Prop) (u : TS) (x1 : Int32) (y2 : Int64) (y4 : Int64) (t0 : Int64) : Prop :=
  ((2 ≤ x1 → wp_X7_ratio_81 Q u x1 t0 y2) ∧ (¬ 2 ≤ x1 → wp_X7_ratio_81 Q u x1 t0 y4))
set_option maxRecDepth 20000 in
theorem b_X7_ratio_68 (C : zC p s m args meth c g A cX7_ratio RX7 12) (hr : meth.sig.returnType = (some .long)) (ma ha : Nat → Nat) (bd : Nat → Nat → Nat) (Q : Int64 → TS → Prop) (u : TS) (x1 : Int32) (y2 : Int64) (y4 : Int64) (t0 : Int64) (h : wp_X7_ratio_68 Q u x1 y2 y4 t0) : j_X7_ratio p l e s m args below meth c g A ma ha bd Q u 0 0 68 [(0, .ref (ma 0)), (1, .int x1), (2, .long y2), (4, .long y4)] [.long t0] := by
  unfold wp_X7_ratio_68 at h
  refine z_lstore (lv1 := [(6, .long t0), (0, .ref (ma 0)), (1, .int x1), (2, .long y2), (4, .long y4)]) C dX7_ratio_68 (by decide) rfl ?_
  refine z_iload_n C dX7_ratio_70 rfl 2 rfl ?_
  refine z_iconst (v := 2) C dX7_ratio_71 (by decide) ?_
  refine z_icmp_ge C dX7_ratio_72 (tgt := 80) (by decide) (fun hc107 => ?_) (fun hc107 => ?_)
  · have h := h.1 hc107
    refine z_lload_n C dX7_ratio_80 rfl 3 rfl ?_
    refine z_lv (lv1 := [(0, .ref (ma 0)), (1, .int x1), (6, .long t0)]) [1, 2, 0] rfl ?_
    exact b_X7_ratio_81 C hr ma ha bd Q u x1 t0 y2 h
  · have h := h.2 hc107
    refine z_lload C dX7_ratio_75 4 rfl ?_
    refine z_goto C dX7_ratio_77 (tgt := 81) (by decide) ?_
    refine z_lv (lv1 := [(0, .ref (ma 0)), (1, .int x1), (6, .long t0)]) [1, 2, 0] rfl ?_
    exact b_X7_ratio_81 C hr ma ha bd Q u x1 t0 y4 h
def wp_X7_ratio (u : TS) (x1 : Int32) (Q : Int64 → TS → Prop) : Prop :=
  ∀ y101 : Int64, y101 = (u.2.2.1 4).2 1 0 → ((x1 < 0 → wp_X7_ratio_28 Q u) ∧ (¬ x1 < 0 → ((3 < x1 → wp_X7_ratio_28 Q u) ∧ (¬ 3 < x1 → ((¬ lg_cmp y101 0 = 0 → ∀ y105 : Int64, y105 = (u.2.2.1 4).2 1 1 → ((2 ≤ x1 → wp_X7_ratio_68 Q u x1 y101 y105 y105) ∧ (¬ 2 ≤ x1 → wp_X7_ratio_68 Q u x1 y101 y105 ((u.2.2.1 4).2 1 2)))) ∧ (lg_cmp y101 0 = 0 → wp_X7_ratio_28 Q u))))))
set_option maxRecDepth 20000 in
theorem c_X7_ratio (l : Launch) (g : zG) (ma ha : Nat → Nat) (bd : Nat → Nat → Nat) (u : TS) (x1 : Int32) (Q : Int64 → TS → Prop) (h : wp_X7_ratio u x1 Q) : zMl l yX7_ratio cX7_ratio 12 (some .long) 1 0 0 g [.ref (ma 0), .int x1] (wT g ma ha bd u) (wT g ma ha bd) Q := by
  refine zMl_of RX7 (by decide) rfl [(0, .ref (ma 0)), (1, .int x1)] rfl (Nat.le_of_ble_eq_true rfl) (fun p e s m args below meth c A C hr hnm => ?_)
  unfold wp_X7_ratio at h
  refine z_aload_n C dX7_ratio_0 rfl 0 rfl ?_
  refine g7_now C fl7_10 dX7_ratio_1 ?_
  refine Tg5_segments C fl7_154 dX7_ratio_4 ?_
  refine Tg4_totals C fl7_158 dX7_ratio_7 ?_
  refine z_iconst (v := 0) C dX7_ratio_10 (by decide) ?_
  refine Tln4_totals C 0 (by decide +kernel) (vp_in_iff.mpr (by decide +kernel)) dX7_ratio_11 ?_
  refine z_topl (fun y101 ey101 => ?_)
  have h := h y101 ey101
  refine z_lstore_n (lv1 := [(2, .long y101), (0, .ref (ma 0)), (1, .int x1)]) C dX7_ratio_12 rfl (by decide) rfl ?_
  refine z_iload_n C dX7_ratio_13 rfl 2 rfl ?_
  refine z_if_lt C dX7_ratio_14 (tgt := 28) (by decide) (fun hc102 => ?_) (fun hc102 => ?_)
  · have h := h.1 hc102
    refine z_lv (lv1 := [(0, .ref (ma 0))]) [1] rfl ?_
    exact b_X7_ratio_28 C hr ma ha bd Q u h
  · have h := h.2 hc102
    refine z_iload_n C dX7_ratio_17 rfl 2 rfl ?_
    refine z_iconst (v := 3) C dX7_ratio_18 (by decide) ?_
    refine z_icmp_gt C dX7_ratio_19 (tgt := 28) (by decide) (fun hc103 => ?_) (fun hc103 => ?_)
    · have h := h.1 hc103
      refine z_lv (lv1 := [(0, .ref (ma 0))]) [1] rfl ?_
      exact b_X7_ratio_28 C hr ma ha bd Q u h
    · have h := h.2 hc103
      refine z_lload_n C dX7_ratio_22 rfl 0 rfl ?_
      refine z_lconst (v := 0) C dX7_ratio_23 (by decide) ?_
      refine z_lcmp C dX7_ratio_24 ?_
      refine z_if_ne C dX7_ratio_25 (tgt := 32) (by decide) (fun hc104 => ?_) (fun hc104 => ?_)
      · have h := h.1 hc104
        refine z_aload_n C dX7_ratio_32 rfl 1 rfl ?_
        refine g7_now C fl7_10 dX7_ratio_33 ?_
        refine Tg5_segments C fl7_154 dX7_ratio_36 ?_
        refine Tg4_totals C fl7_158 dX7_ratio_39 ?_
        refine z_iconst (v := 1) C dX7_ratio_42 (by decide) ?_
        refine Tln4_totals C 1 (by decide +kernel) (vp_in_iff.mpr (by decide +kernel)) dX7_ratio_43 ?_
        refine z_topl (fun y105 ey105 => ?_)
        have h := h y105 ey105
        refine z_lstore (lv1 := [(4, .long y105), (2, .long y101), (0, .ref (ma 0)), (1, .int x1)]) C dX7_ratio_44 (by decide) rfl ?_
        refine z_iload_n C dX7_ratio_46 rfl 3 rfl ?_
        refine z_iconst (v := 2) C dX7_ratio_47 (by decide) ?_
        refine z_icmp_ge C dX7_ratio_48 (tgt := 66) (by decide) (fun hc106 => ?_) (fun hc106 => ?_)
        · have h := h.1 hc106
          refine z_lload C dX7_ratio_66 0 rfl ?_
          refine z_lv (lv1 := [(0, .ref (ma 0)), (1, .int x1), (2, .long y101), (4, .long y105)]) [2, 3, 1, 0] rfl ?_
          exact b_X7_ratio_68 C hr ma ha bd Q u x1 y101 y105 y105 h
        · have h := h.2 hc106
          refine z_aload_n C dX7_ratio_51 rfl 2 rfl ?_
          refine g7_now C fl7_10 dX7_ratio_52 ?_
          refine Tg5_segments C fl7_154 dX7_ratio_55 ?_
          refine Tg4_totals C fl7_158 dX7_ratio_58 ?_
          refine z_iconst (v := 2) C dX7_ratio_61 (by decide) ?_
          refine Tln4_totals C 2 (by decide +kernel) (vp_in_iff.mpr (by decide +kernel)) dX7_ratio_62 ?_
          refine z_goto C dX7_ratio_63 (tgt := 68) (by decide) ?_
          refine z_lv (lv1 := [(0, .ref (ma 0)), (1, .int x1), (2, .long y101), (4, .long y105)]) [2, 3, 1, 0] rfl ?_
          exact b_X7_ratio_68 C hr ma ha bd Q u x1 y101 y105 ((u.2.2.1 4).2 1 2) h
      · have h := h.2 hc104
        refine z_lv (lv1 := [(0, .ref (ma 0))]) [1] rfl ?_
        exact b_X7_ratio_28 C hr ma ha bd Q u h
abbrev j_X7_burstFits (p : Program) (l : Launch) (e : Env) (s : State) (m : MethodId) (args : Array Value) (below : List Frame) (meth : Method) (c : Code) (g : zG) (A : Nat → Prop) (ma ha : Nat → Nat) (bd : Nat → Nat → Nat) (Q : Int32 → TS → Prop) (u : TS) (k n : Nat) (pc : Nat) (lv : List (Nat × Value)) (st : List Value) : Prop := zJ p l e (zR 1 0 0) s m args below meth c g A 8 (zQi below args s g A 0 0 (wT g ma ha bd) Q) (wT g ma ha bd u) k n pc lv st
def wp_X7_burstFits_99 (Q : Int32 → TS → Prop) (u : TS) : Prop :=
  Q 1 u
set_option maxRecDepth 20000 in
theorem b_X7_burstFits_99 (C : zC p s m args meth c g A cX7_burstFits RX7 8) (hr : meth.sig.returnType = (some .boolean)) (ma ha : Nat → Nat) (bd : Nat → Nat → Nat) (Q : Int32 → TS → Prop) (u : TS) (h : wp_X7_burstFits_99 Q u) : j_X7_burstFits p l e s m args below meth c g A ma ha bd Q u 0 0 99 [(0, .ref (ma 0))] [] := by
  unfold wp_X7_burstFits_99 at h
  refine z_iconst (v := 1) C dX7_burstFits_99 (by decide) ?_
  exact z_zret C hr u rfl (Or.inr rfl) h dX7_burstFits_100
def wp_X7_burstFits_51 (Q : Int32 → TS → Prop) (B15 : TS → Int32 → Int32 → Int32 → Int32 → Int32 → Prop) (u : TS) (x1 : Int32) (x2 : Int32) (x3 : Int32) (x4 : Int32) (x5 : Int32) (t0 : Int32) : Prop :=
  ¬ x4 = 0 ∧ ∀ x106 : Int32, x106 = (((x2 - x5) + x4) - 1) / x4 → wp_X0_get (u.2.2.1 2) 9 t0 (fun r107 v108 => ∀ u109 : TS, u109 = tN u (va_up u.2.2.1 2 v108) → ((r107 + (x106 * x3) ≤ 1000000000 → ∀ x111 : Int32, x111 = x5 + 1 → B15 u109 x1 x2 x3 x4 x111) ∧ (¬ r107 + (x106 * x3) ≤ 1000000000 → Q 0 u109)))
set_option maxRecDepth 20000 in
theorem b_X7_burstFits_51 (C : zC p s m args meth c g A cX7_burstFits RX7 8) (hr : meth.sig.returnType = (some .boolean)) (ma ha : Nat → Nat) (bd : Nat → Nat → Nat) (Q : Int32 → TS → Prop) (B15 : TS → Int32 → Int32 → Int32 → Int32 → Int32 → Prop) (hB15 : ∀ (u : TS) (x1 : Int32) (x2 : Int32) (x3 : Int32) (x4 : Int32) (x5 : Int32), B15 u x1 x2 x3 x4 x5 → j_X7_burstFits p l e s m args below meth c g A ma ha bd Q u 0 0 15 [(0, .ref (ma 0)), (1, .int x1), (2, .int x2), (3, .int x3), (4, .int x4), (5, .int x5)] []) (u : TS) (x1 : Int32) (x2 : Int32) (x3 : Int32) (x4 : Int32) (x5 : Int32) (t0 : Int32) (h : wp_X7_burstFits_51 Q B15 u x1 x2 x3 x4 x5 t0) : j_X7_burstFits p l e s m args below meth c g A ma ha bd Q u 0 0 51 [(0, .ref (ma 0)), (1, .int x1), (2, .int x2), (3, .int x3), (4, .int x4), (5, .int x5)] [.int t0] := by
  unfold wp_X7_burstFits_51 at h
  refine z_istore (lv1 := [(6, .int t0), (0, .ref (ma 0)), (1, .int x1), (2, .int x2), (3, .int x3), (4, .int x4), (5, .int x5)]) C dX7_burstFits_51 (by decide) rfl ?_
  refine z_iload_n C dX7_burstFits_53 rfl 3 rfl ?_
  refine z_iload C dX7_burstFits_54 6 rfl ?_
  refine z_isub C dX7_burstFits_56 ?_
  refine z_iload C dX7_burstFits_57 5 rfl ?_
  refine z_iadd C dX7_burstFits_59 ?_
  refine z_iconst (v := 1) C dX7_burstFits_60 (by decide) ?_
  refine z_isub C dX7_burstFits_61 ?_
  refine z_iload C dX7_burstFits_62 5 rfl ?_
  obtain ⟨hy105, h⟩ := h
  refine z_idiv C dX7_burstFits_64 hy105 ?_
  refine z_topi (fun x106 ex106 => ?_)
  have h := h x106 ex106
  refine z_istore (lv1 := [(7, .int x106), (6, .int t0), (0, .ref (ma 0)), (1, .int x1), (2, .int x2), (3, .int x3), (4, .int x4), (5, .int x5)]) C dX7_burstFits_65 (by decide) rfl ?_
  refine z_aload_n C dX7_burstFits_67 rfl 2 rfl ?_
  refine g7_now C fl7_10 dX7_burstFits_68 ?_
  refine Tg5_flows C fl7_64 dX7_burstFits_71 ?_
  refine z_bipush (v := 9) C dX7_burstFits_74 (by decide) ?_
  refine z_iload C dX7_burstFits_76 1 rfl ?_
  refine Tc0i (As := [.int 9, .int t0]) C (c_X0_get l g (bd 2) (u.2.2.1 2) 9 t0 _ h) v_X0_get ml7_108 rfl ⟨Nat.le_of_ble_eq_true rfl, Nat.le_of_ble_eq_true rfl⟩ ⟨Nat.le_of_ble_eq_true rfl, Nat.le_of_ble_eq_true rfl⟩ (Nat.le_of_ble_eq_true rfl) rfl dX7_burstFits_78 ?_
  intro r107 v108 h
  refine stT (tN u (va_up u.2.2.1 2 v108)) (fun u109 eu109 => ?_)
  have h := h u109 eu109
  refine z_iload C dX7_burstFits_81 0 rfl ?_
  refine z_iload_n C dX7_burstFits_83 rfl 5 rfl ?_
  refine z_imul C dX7_burstFits_84 ?_
  refine z_iadd C dX7_burstFits_85 ?_
  refine z_ldc (v := 1000000000) C dX7_burstFits_86 k7_141 ?_
  refine z_icmp_le C dX7_burstFits_88 (tgt := 93) (by decide) (fun hc110 => ?_) (fun hc110 => ?_)
  · have h := h.1 hc110
    obtain ⟨x111, ex111⟩ : ∃ y : Int32, y = x5 + 1 := ⟨_, rfl⟩
    have h := h x111 ex111
    refine z_iinc (v := x111) (lv1 := [(5, .int x111), (7, .int x106), (6, .int t0), (0, .ref (ma 0)), (1, .int x1), (2, .int x2), (3, .int x3), (4, .int x4)]) C dX7_burstFits_93 7 rfl (by rw [ex111]; rfl) (by decide) rfl ?_
    refine z_goto C dX7_burstFits_96 (tgt := 15) (by decide) ?_
    refine z_lv (lv1 := [(0, .ref (ma 0)), (1, .int x1), (2, .int x2), (3, .int x3), (4, .int x4), (5, .int x111)]) [3, 4, 5, 6, 7, 0] rfl ?_
    exact hB15 u109 x1 x2 x3 x4 x111 h
  · have h := h.2 hc110
    refine z_iconst (v := 0) C dX7_burstFits_91 (by decide) ?_
    exact z_zret C hr u109 rfl (Or.inl rfl) h dX7_burstFits_92
def wp_X7_burstFits_15 (Q : Int32 → TS → Prop) (B15 : TS → Int32 → Int32 → Int32 → Int32 → Int32 → Prop) (u : TS) (x1 : Int32) (x2 : Int32) (x3 : Int32) (x4 : Int32) (x5 : Int32) : Prop :=
  ((x2 ≤ x5 → wp_X7_burstFits_99 Q u) ∧ (¬ x2 ≤ x5 → ((x4 ≤ x5 → wp_X7_burstFits_99 Q u) ∧ (¬ x4 ≤ x5 → ((x4 ≤ x1 + x5 → wp_X7_burstFits_51 Q B15 u x1 x2 x3 x4 x5 ((x1 + x5) - x4)) ∧ (¬ x4 ≤ x1 + x5 → wp_X7_burstFits_51 Q B15 u x1 x2 x3 x4 x5 (x1 + x5)))))))
set_option maxRecDepth 20000 in
theorem b_X7_burstFits_15 (C : zC p s m args meth c g A cX7_burstFits RX7 8) (hr : meth.sig.returnType = (some .boolean)) (ma ha : Nat → Nat) (bd : Nat → Nat → Nat) (Q : Int32 → TS → Prop) (B15 : TS → Int32 → Int32 → Int32 → Int32 → Int32 → Prop) (hB15 : ∀ (u : TS) (x1 : Int32) (x2 : Int32) (x3 : Int32) (x4 : Int32) (x5 : Int32), B15 u x1 x2 x3 x4 x5 → j_X7_burstFits p l e s m args below meth c g A ma ha bd Q u 0 0 15 [(0, .ref (ma 0)), (1, .int x1), (2, .int x2), (3, .int x3), (4, .int x4), (5, .int x5)] []) (u : TS) (x1 : Int32) (x2 : Int32) (x3 : Int32) (x4 : Int32) (x5 : Int32) (h : wp_X7_burstFits_15 Q B15 u x1 x2 x3 x4 x5) : j_X7_burstFits p l e s m args below meth c g A ma ha bd Q u 0 0 15 [(0, .ref (ma 0)), (1, .int x1), (2, .int x2), (3, .int x3), (4, .int x4), (5, .int x5)] [] := by
  unfold wp_X7_burstFits_15 at h
  refine z_iload C dX7_burstFits_15 5 rfl ?_
  refine z_iload_n C dX7_burstFits_17 rfl 2 rfl ?_
  refine z_icmp_ge C dX7_burstFits_18 (tgt := 99) (by decide) (fun hc102 => ?_) (fun hc102 => ?_)
  · have h := h.1 hc102
    refine z_lv (lv1 := [(0, .ref (ma 0))]) [0] rfl ?_
    exact b_X7_burstFits_99 C hr ma ha bd Q u h
  · have h := h.2 hc102
    refine z_iload C dX7_burstFits_21 5 rfl ?_
    refine z_iload C dX7_burstFits_23 4 rfl ?_
    refine z_icmp_ge C dX7_burstFits_25 (tgt := 99) (by decide) (fun hc103 => ?_) (fun hc103 => ?_)
    · have h := h.1 hc103
      refine z_lv (lv1 := [(0, .ref (ma 0))]) [0] rfl ?_
      exact b_X7_burstFits_99 C hr ma ha bd Q u h
    · have h := h.2 hc103
      refine z_iload_n C dX7_burstFits_28 rfl 1 rfl ?_
      refine z_iload C dX7_burstFits_29 5 rfl ?_
      refine z_iadd C dX7_burstFits_31 ?_
      refine z_iload C dX7_burstFits_32 4 rfl ?_
      refine z_icmp_ge C dX7_burstFits_34 (tgt := 44) (by decide) (fun hc104 => ?_) (fun hc104 => ?_)
      · have h := h.1 hc104
        refine z_iload_n C dX7_burstFits_44 rfl 1 rfl ?_
        refine z_iload C dX7_burstFits_45 5 rfl ?_
        refine z_iadd C dX7_burstFits_47 ?_
        refine z_iload C dX7_burstFits_48 4 rfl ?_
        refine z_isub C dX7_burstFits_50 ?_
        exact b_X7_burstFits_51 C hr ma ha bd Q B15 hB15 u x1 x2 x3 x4 x5 ((x1 + x5) - x4) h
      · have h := h.2 hc104
        refine z_iload_n C dX7_burstFits_37 rfl 1 rfl ?_
        refine z_iload C dX7_burstFits_38 5 rfl ?_
        refine z_iadd C dX7_burstFits_40 ?_
        refine z_goto C dX7_burstFits_41 (tgt := 51) (by decide) ?_
        exact b_X7_burstFits_51 C hr ma ha bd Q B15 hB15 u x1 x2 x3 x4 x5 (x1 + x5) h
theorem l_X7_burstFits_15 (C : zC p s m args meth c g A cX7_burstFits RX7 8) (hr : meth.sig.returnType = (some .boolean)) (ma ha : Nat → Nat) (bd : Nat → Nat → Nat) (Q : Int32 → TS → Prop) : ∀ (n : Nat) (u : TS) (x1 : Int32) (x2 : Int32) (x3 : Int32) (x4 : Int32) (x5 : Int32), zit6 (wp_X7_burstFits_15 Q) n u x1 x2 x3 x4 x5 → j_X7_burstFits p l e s m args below meth c g A ma ha bd Q u 0 0 15 [(0, .ref (ma 0)), (1, .int x1), (2, .int x2), (3, .int x3), (4, .int x4), (5, .int x5)] [] := by
  intro n
  induction n with
  | zero => exact fun u x1 x2 x3 x4 x5 h => h.elim
  | succ n ih => exact fun u x1 x2 x3 x4 x5 h => b_X7_burstFits_15 C hr ma ha bd Q (zit6 (wp_X7_burstFits_15 Q) n) ih u x1 x2 x3 x4 x5 h
def wp_X7_burstFits (u : TS) (x1 : Int32) (x2 : Int32) (x3 : Int32) (Q : Int32 → TS → Prop) : Prop :=
  ∀ x101 : Int32, x101 = (u.2.2.1 2).1 0 0 → (∃ n, zit6 (wp_X7_burstFits_15 Q) n u x1 x2 x3 x101 0)
set_option maxRecDepth 20000 in
theorem c_X7_burstFits (l : Launch) (g : zG) (ma ha : Nat → Nat) (bd : Nat → Nat → Nat) (u : TS) (x1 : Int32) (x2 : Int32) (x3 : Int32) (Q : Int32 → TS → Prop) (h : wp_X7_burstFits u x1 x2 x3 Q) : zMi l yX7_burstFits cX7_burstFits 8 (some .boolean) 1 0 0 g [.ref (ma 0), .int x1, .int x2, .int x3] (wT g ma ha bd u) (wT g ma ha bd) Q := by
  refine zMi_of RX7 (by decide) rfl [(0, .ref (ma 0)), (1, .int x1), (2, .int x2), (3, .int x3)] rfl (Nat.le_of_ble_eq_true rfl) (fun p e s m args below meth c A C hr hnm => ?_)
  unfold wp_X7_burstFits at h
  refine z_aload_n C dX7_burstFits_0 rfl 0 rfl ?_
  refine g7_now C fl7_10 dX7_burstFits_1 ?_
  refine Tg5_flows C fl7_64 dX7_burstFits_4 ?_
  refine Tg0_number C fl7_77 dX7_burstFits_7 ?_
  refine z_topi (fun x101 ex101 => ?_)
  have h := h x101 ex101
  refine z_istore (lv1 := [(4, .int x101), (0, .ref (ma 0)), (1, .int x1), (2, .int x2), (3, .int x3)]) C dX7_burstFits_10 (by decide) rfl ?_
  refine z_iconst (v := 0) C dX7_burstFits_12 (by decide) ?_
  refine z_istore (lv1 := [(5, .int 0), (4, .int x101), (0, .ref (ma 0)), (1, .int x1), (2, .int x2), (3, .int x3)]) C dX7_burstFits_13 (by decide) rfl ?_
  refine z_lv (lv1 := [(0, .ref (ma 0)), (1, .int x1), (2, .int x2), (3, .int x3), (4, .int x101), (5, .int 0)]) [2, 3, 4, 5, 1, 0] rfl ?_
  obtain ⟨n9, h⟩ := h
  exact l_X7_burstFits_15 C hr ma ha bd Q n9 u x1 x2 x3 x101 0 h
abbrev j_X7_find (p : Program) (l : Launch) (e : Env) (s : State) (m : MethodId) (args : Array Value) (below : List Frame) (meth : Method) (c : Code) (g : zG) (A : Nat → Prop) (ma ha : Nat → Nat) (bd : Nat → Nat → Nat) (Q : Int32 → TS → Prop) (u : TS) (k n : Nat) (pc : Nat) (lv : List (Nat × Value)) (st : List Value) : Prop := zJ p l e (zR 2 0 0) s m args below meth c g A 6 (zQi below args s g A 0 0 (wT g ma ha bd) Q) (wT g ma ha bd u) k n pc lv st
def wp_X7_find (u : TS) (x1 : Int32) (x2 : Int32) (x3 : Int32) (x4 : Int32) (x5 : Int32) (Q : Int32 → TS → Prop) : Prop :=
  wp_X0_numberOf (u.2.2.1 2) x1 x2 x3 x4 x5 (fun r101 v102 => ∀ u103 : TS, u103 = tN u (va_up u.2.2.1 2 v102) → Q r101 u103)
set_option maxRecDepth 20000 in
theorem c_X7_find (l : Launch) (g : zG) (ma ha : Nat → Nat) (bd : Nat → Nat → Nat) (u : TS) (x1 : Int32) (x2 : Int32) (x3 : Int32) (x4 : Int32) (x5 : Int32) (Q : Int32 → TS → Prop) (h : wp_X7_find u x1 x2 x3 x4 x5 Q) : zMi l yX7_find cX7_find 6 (some .int) 2 0 0 g [.ref (ma 0), .int x1, .int x2, .int x3, .int x4, .int x5] (wT g ma ha bd u) (wT g ma ha bd) Q := by
  refine zMi_of RX7 (by decide) rfl [(0, .ref (ma 0)), (1, .int x1), (2, .int x2), (3, .int x3), (4, .int x4), (5, .int x5)] rfl (Nat.le_of_ble_eq_true rfl) (fun p e s m args below meth c A C hr hnm => ?_)
  unfold wp_X7_find at h
  refine z_aload_n C dX7_find_0 rfl 0 rfl ?_
  refine g7_now C fl7_10 dX7_find_1 ?_
  refine Tg5_flows C fl7_64 dX7_find_4 ?_
  refine z_iload_n C dX7_find_7 rfl 1 rfl ?_
  refine z_iload_n C dX7_find_8 rfl 2 rfl ?_
  refine z_iload_n C dX7_find_9 rfl 3 rfl ?_
  refine z_iload C dX7_find_10 4 rfl ?_
  refine z_iload C dX7_find_12 5 rfl ?_
  refine Tc0i (As := [.int x1, .int x2, .int x3, .int x4, .int x5]) C (c_X0_numberOf l g (bd 2) (u.2.2.1 2) x1 x2 x3 x4 x5 _ h) v_X0_numberOf ml7_68 rfl ⟨Nat.le_of_ble_eq_true rfl, Nat.le_of_ble_eq_true rfl⟩ ⟨Nat.le_of_ble_eq_true rfl, Nat.le_of_ble_eq_true rfl⟩ (Nat.le_of_ble_eq_true rfl) rfl dX7_find_14 ?_
  intro r101 v102 h
  refine stT (tN u (va_up u.2.2.1 2 v102)) (fun u103 eu103 => ?_)
  have h := h u103 eu103
  exact z_iret C hr u103 rfl h dX7_find_17
abbrev j_X7_missing (p : Program) (l : Launch) (e : Env) (s : State) (m : MethodId) (args : Array Value) (below : List Frame) (meth : Method) (c : Code) (g : zG) (A : Nat → Prop) (ma ha : Nat → Nat) (bd : Nat → Nat → Nat) (Q : Int32 → TS → Prop) (u : TS) (k n : Nat) (pc : Nat) (lv : List (Nat × Value)) (st : List Value) : Prop := zJ p l e (zR 2 0 0) s m args below meth c g A 3 (zQi below args s g A 0 0 (wT g ma ha bd) Q) (wT g ma ha bd u) k n pc lv st
def wp_X7_missing (u : TS) (x1 : Int32) (x2 : Int32) (Q : Int32 → TS → Prop) : Prop :=
  wp_X7_isFlow u x1 (fun r101 u102 => ((¬ r101 = 0 → ((x2 = 0 → wp_X5_missingBytes u102.2.2.1 x1 (fun r105 v106 => ∀ u107 : TS, u107 = tN u102 (v106) → Q r105 u107)) ∧ (x2 = 1 → wp_X5_widestHole u102.2.2.1 x1 (fun r109 v110 => ∀ u111 : TS, u111 = tN u102 (v110) → Q r109 u111)) ∧ (¬ x2 = 0 → ¬ x2 = 1 → Q (-1) u102))) ∧ (r101 = 0 → Q (-1) u102)))
set_option maxRecDepth 20000 in
theorem c_X7_missing (l : Launch) (g : zG) (ma ha : Nat → Nat) (bd : Nat → Nat → Nat) (u : TS) (x1 : Int32) (x2 : Int32) (Q : Int32 → TS → Prop) (h : wp_X7_missing u x1 x2 Q) : zMi l yX7_missing cX7_missing 3 (some .int) 2 0 0 g [.ref (ma 0), .int x1, .int x2] (wT g ma ha bd u) (wT g ma ha bd) Q := by
  refine zMi_of RX7 (by decide) rfl [(0, .ref (ma 0)), (1, .int x1), (2, .int x2)] rfl (Nat.le_of_ble_eq_true rfl) (fun p e s m args below meth c A C hr hnm => ?_)
  unfold wp_X7_missing at h
  refine z_aload_n C dX7_missing_0 rfl 0 rfl ?_
  refine z_iload_n C dX7_missing_1 rfl 1 rfl ?_
  refine c7i (As := [.int x1]) C (c_X7_isFlow l g ma ha bd u x1 _ h) v_X7_isFlow ml7_105 rfl ⟨Nat.le_of_ble_eq_true rfl, Nat.le_of_ble_eq_true rfl⟩ ⟨Nat.le_of_ble_eq_true rfl, Nat.le_of_ble_eq_true rfl⟩ (Nat.le_of_ble_eq_true rfl) rfl dX7_missing_2 ?_
  intro r101 u102 h
  refine z_if_ne C dX7_missing_5 (tgt := 10) (by decide) (fun hc103 => ?_) (fun hc103 => ?_)
  · have h := h.1 hc103
    refine z_iload_n C dX7_missing_10 rfl 2 rfl ?_
    by_cases hx104 : x2 = 0
    · have h := h.1 hx104
      refine z_lsw C dX7_missing_11 (by decide) (by rw [hx104]; try rfl) (tgt := 36) (by decide) ?_
      refine z_aload_n C dX7_missing_36 rfl 0 rfl ?_
      refine g7_now C fl7_10 dX7_missing_37 ?_
      refine z_iload_n C dX7_missing_40 rfl 1 rfl ?_
      refine Tc5i (As := [.int x1]) C (c_X5_missingBytes l g bd u102.2.2.1 x1 _ h) v_X5_missingBytes ml7_202 rfl ⟨Nat.le_of_ble_eq_true rfl, Nat.le_of_ble_eq_true rfl⟩ ⟨Nat.le_of_ble_eq_true rfl, Nat.le_of_ble_eq_true rfl⟩ (Nat.le_of_ble_eq_true rfl) rfl dX7_missing_41 ?_
      intro r105 v106 h
      refine stT (tN u102 (v106)) (fun u107 eu107 => ?_)
      have h := h u107 eu107
      exact z_iret C hr u107 rfl h dX7_missing_44
    have h := h.2
    by_cases hx108 : x2 = 1
    · have h := h.1 hx108
      refine z_lsw C dX7_missing_11 (by decide) (by rw [hx108]; try rfl) (tgt := 45) (by decide) ?_
      refine z_aload_n C dX7_missing_45 rfl 0 rfl ?_
      refine g7_now C fl7_10 dX7_missing_46 ?_
      refine z_iload_n C dX7_missing_49 rfl 1 rfl ?_
      refine Tc5i (As := [.int x1]) C (c_X5_widestHole l g bd u102.2.2.1 x1 _ h) v_X5_widestHole ml7_205 rfl ⟨Nat.le_of_ble_eq_true rfl, Nat.le_of_ble_eq_true rfl⟩ ⟨Nat.le_of_ble_eq_true rfl, Nat.le_of_ble_eq_true rfl⟩ (Nat.le_of_ble_eq_true rfl) rfl dX7_missing_50 ?_
      intro r109 v110 h
      refine stT (tN u102 (v110)) (fun u111 eu111 => ?_)
      have h := h u111 eu111
      exact z_iret C hr u111 rfl h dX7_missing_53
    have h := h.2
    have h := h hx104 hx108
    refine z_lsw C dX7_missing_11 (by decide) (off := 43) (by simp only [Op.lookupswitch.offset]; rw [if_neg (fun z => lv_neT (a := 0) hx104 (by decide) z.symm), if_neg (fun z => lv_neT (a := 1) hx108 (by decide) z.symm)]) (tgt := 54) (by decide) ?_
    refine z_iconst (v := (-1)) C dX7_missing_54 (by decide) ?_
    exact z_iret C hr u102 rfl h dX7_missing_55
  · have h := h.2 hc103
    refine z_iconst (v := (-1)) C dX7_missing_8 (by decide) ?_
    exact z_iret C hr u102 rfl h dX7_missing_9
abbrev j_X7_reach (p : Program) (l : Launch) (e : Env) (s : State) (m : MethodId) (args : Array Value) (below : List Frame) (meth : Method) (c : Code) (g : zG) (A : Nat → Prop) (ma ha : Nat → Nat) (bd : Nat → Nat → Nat) (Q : Int32 → TS → Prop) (u : TS) (k n : Nat) (pc : Nat) (lv : List (Nat × Value)) (st : List Value) : Prop := zJ p l e (zR 2 0 0) s m args below meth c g A 1 (zQi below args s g A 0 0 (wT g ma ha bd) Q) (wT g ma ha bd u) k n pc lv st
def wp_X7_reach (u : TS) (Q : Int32 → TS → Prop) : Prop :=
  wp_X2_entriesInReach (u.2.2.1 1) (fun r101 v102 => ∀ u103 : TS, u103 = tN u (va_up u.2.2.1 1 v102) → wp_J6_bitCount r101 (fun r104 => Q r104 u103))
set_option maxRecDepth 20000 in
theorem c_X7_reach (l : Launch) (g : zG) (ma ha : Nat → Nat) (bd : Nat → Nat → Nat) (u : TS) (Q : Int32 → TS → Prop) (h : wp_X7_reach u Q) : zMi l yX7_reach cX7_reach 1 (some .int) 2 0 0 g [.ref (ma 0)] (wT g ma ha bd u) (wT g ma ha bd) Q := by
  refine zMi_of RX7 (by decide) rfl [(0, .ref (ma 0))] rfl (Nat.le_of_ble_eq_true rfl) (fun p e s m args below meth c A C hr hnm => ?_)
  unfold wp_X7_reach at h
  refine z_aload_n C dX7_reach_0 rfl 0 rfl ?_
  refine g7_now C fl7_10 dX7_reach_1 ?_
  refine Tg5_key C fl7_46 dX7_reach_4 ?_
  refine Tc2i (As := []) C (c_X2_entriesInReach l g (bd 1) (u.2.2.1 1) _ h) v_X2_entriesInReach ml7_241 rfl ⟨Nat.le_of_ble_eq_true rfl, Nat.le_of_ble_eq_true rfl⟩ ⟨Nat.le_of_ble_eq_true rfl, Nat.le_of_ble_eq_true rfl⟩ (Nat.le_of_ble_eq_true rfl) rfl dX7_reach_7 ?_
  intro r101 v102 h
  refine stT (tN u (va_up u.2.2.1 1 v102)) (fun u103 eu103 => ?_)
  have h := h u103 eu103
  refine cSi (As := [.int r101]) C (c_J6_bitCount l g r101 _ h) s_J6_bitCount mj7_244 ⟨Nat.le_of_ble_eq_true rfl, Nat.le_of_ble_eq_true rfl⟩ ⟨Nat.le_of_ble_eq_true rfl, Nat.le_of_ble_eq_true rfl⟩ (Nat.le_of_ble_eq_true rfl) rfl dX7_reach_10 ?_
  intro r104 h
  exact z_iret C hr u103 rfl h dX7_reach_13
abbrev j_X7_count (p : Program) (l : Launch) (e : Env) (s : State) (m : MethodId) (args : Array Value) (below : List Frame) (meth : Method) (c : Code) (g : zG) (A : Nat → Prop) (ma ha : Nat → Nat) (bd : Nat → Nat → Nat) (Q : Int32 → TS → Prop) (u : TS) (k n : Nat) (pc : Nat) (lv : List (Nat × Value)) (st : List Value) : Prop := zJ p l e (zR 2 0 0) s m args below meth c g A 2 (zQi below args s g A 0 0 (wT g ma ha bd) Q) (wT g ma ha bd u) k n pc lv st
def wp_X7_count_285 (Q : Int32 → TS → Prop) (u : TS) : Prop :=
  Q (-1) u
set_option maxRecDepth 20000 in
theorem b_X7_count_285 (C : zC p s m args meth c g A cX7_count RX7 2) (hr : meth.sig.returnType = (some .int)) (ma ha : Nat → Nat) (bd : Nat → Nat → Nat) (Q : Int32 → TS → Prop) (u : TS) (h : wp_X7_count_285 Q u) : j_X7_count p l e s m args below meth c g A ma ha bd Q u 0 0 285 [(0, .ref (ma 0))] [] := by
  unfold wp_X7_count_285 at h
  refine z_iconst (v := (-1)) C dX7_count_285 (by decide) ?_
  exact z_iret C hr u rfl h dX7_count_286
def wp_X7_count_43 (Q : Int32 → TS → Prop) (u : TS) (x1 : Int32) : Prop :=
  ((x1 = 0 → Q ((u.2.2.1 0).1 6 0) u) ∧ (x1 = 1 → Q ((u.2.2.1 2).1 0 0) u) ∧ (x1 = 2 → wp_X0_ruleNumber (u.2.2.1 2) (fun r106 v107 => ∀ u108 : TS, u108 = tN u (va_up u.2.2.1 2 v107) → Q r106 u108)) ∧ (x1 = 3 → Q ((u.2.2.1 1).1 0 0) u) ∧ (x1 = 4 → wp_X5_packetsWaiting u.2.2.1 (fun r111 v112 => ∀ u113 : TS, u113 = tN u (v112) → Q r111 u113)) ∧ (x1 = 5 → wp_X0_sum (u.2.2.1 2) 10 (fun r115 v116 => ∀ u117 : TS, u117 = tN u (va_up u.2.2.1 2 v116) → Q r115 u117)) ∧ (x1 = 6 → wp_X0_sum (u.2.2.1 2) 11 (fun r119 v120 => ∀ u121 : TS, u121 = tN u (va_up u.2.2.1 2 v120) → Q r119 u121)) ∧ (x1 = 7 → wp_X0_sum (u.2.2.1 2) 12 (fun r123 v124 => ∀ u125 : TS, u125 = tN u (va_up u.2.2.1 2 v124) → Q r123 u125)) ∧ (x1 = 8 → wp_X5_callsInAll u.2.2.1 (fun r127 v128 => ∀ u129 : TS, u129 = tN u (v128) → Q r127 u129)) ∧ (x1 = 9 → Q (u.2.1.1 0 0) u) ∧ (x1 = 10 → wp_X7_count_285 Q u) ∧ (x1 = 11 → wp_X7_count_285 Q u) ∧ (x1 = 12 → wp_X7_count_285 Q u) ∧ (x1 = 13 → wp_X7_count_285 Q u) ∧ (x1 = 14 → wp_X7_count_285 Q u) ∧ (x1 = 15 → wp_X7_count_285 Q u) ∧ (x1 = 16 → wp_X7_count_285 Q u) ∧ (x1 = 17 → wp_X7_count_285 Q u) ∧ (x1 = 18 → wp_X7_count_285 Q u) ∧ (x1 = 19 → wp_X7_count_285 Q u) ∧ (x1 = 20 → wp_X7_count_285 Q u) ∧ (x1 = 21 → wp_X7_count_285 Q u) ∧ (x1 = 22 → wp_X7_count_285 Q u) ∧ (x1 = 23 → Q ((u.2.2.1 0).1 7 0) u) ∧ (x1 = 24 → wp_X0_sum (u.2.2.1 2) 18 (fun r146 v147 => ∀ u148 : TS, u148 = tN u (va_up u.2.2.1 2 v147) → Q r146 u148)) ∧ (¬ x1 = 0 → ¬ x1 = 1 → ¬ x1 = 2 → ¬ x1 = 3 → ¬ x1 = 4 → ¬ x1 = 5 → ¬ x1 = 6 → ¬ x1 = 7 → ¬ x1 = 8 → ¬ x1 = 9 → ¬ x1 = 10 → ¬ x1 = 11 → ¬ x1 = 12 → ¬ x1 = 13 → ¬ x1 = 14 → ¬ x1 = 15 → ¬ x1 = 16 → ¬ x1 = 17 → ¬ x1 = 18 → ¬ x1 = 19 → ¬ x1 = 20 → ¬ x1 = 21 → ¬ x1 = 22 → ¬ x1 = 23 → ¬ x1 = 24 → wp_X7_count_285 Q u))
set_option maxRecDepth 20000 in
theorem b_X7_count_43 (C : zC p s m args meth c g A cX7_count RX7 2) (hr : meth.sig.returnType = (some .int)) (ma ha : Nat → Nat) (bd : Nat → Nat → Nat) (Q : Int32 → TS → Prop) (u : TS) (x1 : Int32) (h : wp_X7_count_43 Q u x1) : j_X7_count p l e s m args below meth c g A ma ha bd Q u 0 0 43 [(0, .ref (ma 0)), (1, .int x1)] [] := by
  unfold wp_X7_count_43 at h
  refine z_iload_n C dX7_count_43 rfl 1 rfl ?_
  by_cases hx103 : x1 = 0
  · have h := h.1 hx103
    refine z_tIn C dX7_count_44 (0) (by rw [hx103]; decide) (by decide) (by decide) rfl (tgt := 160) (by decide) ?_
    refine z_aload_n C dX7_count_160 rfl 0 rfl ?_
    refine g7_now C fl7_10 dX7_count_161 ?_
    refine Tg5_time C fl7_119 dX7_count_164 ?_
    exact z_iret C hr u rfl h dX7_count_167
  have h := h.2
  by_cases hx104 : x1 = 1
  · have h := h.1 hx104
    refine z_tIn C dX7_count_44 (1) (by rw [hx104]; decide) (by decide) (by decide) rfl (tgt := 168) (by decide) ?_
    refine z_aload_n C dX7_count_168 rfl 0 rfl ?_
    refine g7_now C fl7_10 dX7_count_169 ?_
    refine Tg5_flows C fl7_64 dX7_count_172 ?_
    refine Tg0_number C fl7_77 dX7_count_175 ?_
    exact z_iret C hr u rfl h dX7_count_178
  have h := h.2
  by_cases hx105 : x1 = 2
  · have h := h.1 hx105
    refine z_tIn C dX7_count_44 (2) (by rw [hx105]; decide) (by decide) (by decide) rfl (tgt := 179) (by decide) ?_
    refine z_aload_n C dX7_count_179 rfl 0 rfl ?_
    refine g7_now C fl7_10 dX7_count_180 ?_
    refine Tg5_flows C fl7_64 dX7_count_183 ?_
    refine Tc0i (As := []) C (c_X0_ruleNumber l g (bd 2) (u.2.2.1 2) _ h) v_X0_ruleNumber ml7_281 rfl ⟨Nat.le_of_ble_eq_true rfl, Nat.le_of_ble_eq_true rfl⟩ ⟨Nat.le_of_ble_eq_true rfl, Nat.le_of_ble_eq_true rfl⟩ (Nat.le_of_ble_eq_true rfl) rfl dX7_count_186 ?_
    intro r106 v107 h
    refine stT (tN u (va_up u.2.2.1 2 v107)) (fun u108 eu108 => ?_)
    have h := h u108 eu108
    exact z_iret C hr u108 rfl h dX7_count_189
  have h := h.2
  by_cases hx109 : x1 = 3
  · have h := h.1 hx109
    refine z_tIn C dX7_count_44 (3) (by rw [hx109]; decide) (by decide) (by decide) rfl (tgt := 190) (by decide) ?_
    refine z_aload_n C dX7_count_190 rfl 0 rfl ?_
    refine g7_now C fl7_10 dX7_count_191 ?_
    refine Tg5_key C fl7_46 dX7_count_194 ?_
    refine Tg2_counting C fl7_56 dX7_count_197 ?_
    exact z_iret C hr u rfl h dX7_count_200
  have h := h.2
  by_cases hx110 : x1 = 4
  · have h := h.1 hx110
    refine z_tIn C dX7_count_44 (4) (by rw [hx110]; decide) (by decide) (by decide) rfl (tgt := 201) (by decide) ?_
    refine z_aload_n C dX7_count_201 rfl 0 rfl ?_
    refine g7_now C fl7_10 dX7_count_202 ?_
    refine Tc5i (As := []) C (c_X5_packetsWaiting l g bd u.2.2.1 _ h) v_X5_packetsWaiting ml7_275 rfl ⟨Nat.le_of_ble_eq_true rfl, Nat.le_of_ble_eq_true rfl⟩ ⟨Nat.le_of_ble_eq_true rfl, Nat.le_of_ble_eq_true rfl⟩ (Nat.le_of_ble_eq_true rfl) rfl dX7_count_205 ?_
    intro r111 v112 h
    refine stT (tN u (v112)) (fun u113 eu113 => ?_)
    have h := h u113 eu113
    exact z_iret C hr u113 rfl h dX7_count_208
  have h := h.2
  by_cases hx114 : x1 = 5
  · have h := h.1 hx114
    refine z_tIn C dX7_count_44 (5) (by rw [hx114]; decide) (by decide) (by decide) rfl (tgt := 209) (by decide) ?_
    refine z_aload_n C dX7_count_209 rfl 0 rfl ?_
    refine g7_now C fl7_10 dX7_count_210 ?_
    refine Tg5_flows C fl7_64 dX7_count_213 ?_
    refine z_bipush (v := 10) C dX7_count_216 (by decide) ?_
    refine Tc0i (As := [.int 10]) C (c_X0_sum l g (bd 2) (u.2.2.1 2) 10 _ h) v_X0_sum ml7_290 rfl ⟨Nat.le_of_ble_eq_true rfl, Nat.le_of_ble_eq_true rfl⟩ ⟨Nat.le_of_ble_eq_true rfl, Nat.le_of_ble_eq_true rfl⟩ (Nat.le_of_ble_eq_true rfl) rfl dX7_count_218 ?_
    intro r115 v116 h
    refine stT (tN u (va_up u.2.2.1 2 v116)) (fun u117 eu117 => ?_)
    have h := h u117 eu117
    exact z_iret C hr u117 rfl h dX7_count_221
  have h := h.2
  by_cases hx118 : x1 = 6
  · have h := h.1 hx118
    refine z_tIn C dX7_count_44 (6) (by rw [hx118]; decide) (by decide) (by decide) rfl (tgt := 222) (by decide) ?_
    refine z_aload_n C dX7_count_222 rfl 0 rfl ?_
    refine g7_now C fl7_10 dX7_count_223 ?_
    refine Tg5_flows C fl7_64 dX7_count_226 ?_
    refine z_bipush (v := 11) C dX7_count_229 (by decide) ?_
    refine Tc0i (As := [.int 11]) C (c_X0_sum l g (bd 2) (u.2.2.1 2) 11 _ h) v_X0_sum ml7_290 rfl ⟨Nat.le_of_ble_eq_true rfl, Nat.le_of_ble_eq_true rfl⟩ ⟨Nat.le_of_ble_eq_true rfl, Nat.le_of_ble_eq_true rfl⟩ (Nat.le_of_ble_eq_true rfl) rfl dX7_count_231 ?_
    intro r119 v120 h
    refine stT (tN u (va_up u.2.2.1 2 v120)) (fun u121 eu121 => ?_)
    have h := h u121 eu121
    exact z_iret C hr u121 rfl h dX7_count_234
  have h := h.2
  by_cases hx122 : x1 = 7
  · have h := h.1 hx122
    refine z_tIn C dX7_count_44 (7) (by rw [hx122]; decide) (by decide) (by decide) rfl (tgt := 235) (by decide) ?_
    refine z_aload_n C dX7_count_235 rfl 0 rfl ?_
    refine g7_now C fl7_10 dX7_count_236 ?_
    refine Tg5_flows C fl7_64 dX7_count_239 ?_
    refine z_bipush (v := 12) C dX7_count_242 (by decide) ?_
    refine Tc0i (As := [.int 12]) C (c_X0_sum l g (bd 2) (u.2.2.1 2) 12 _ h) v_X0_sum ml7_290 rfl ⟨Nat.le_of_ble_eq_true rfl, Nat.le_of_ble_eq_true rfl⟩ ⟨Nat.le_of_ble_eq_true rfl, Nat.le_of_ble_eq_true rfl⟩ (Nat.le_of_ble_eq_true rfl) rfl dX7_count_244 ?_
    intro r123 v124 h
    refine stT (tN u (va_up u.2.2.1 2 v124)) (fun u125 eu125 => ?_)
    have h := h u125 eu125
    exact z_iret C hr u125 rfl h dX7_count_247
  have h := h.2
  by_cases hx126 : x1 = 8
  · have h := h.1 hx126
    refine z_tIn C dX7_count_44 (8) (by rw [hx126]; decide) (by decide) (by decide) rfl (tgt := 248) (by decide) ?_
    refine z_aload_n C dX7_count_248 rfl 0 rfl ?_
    refine g7_now C fl7_10 dX7_count_249 ?_
    refine Tc5i (As := []) C (c_X5_callsInAll l g bd u.2.2.1 _ h) v_X5_callsInAll ml7_278 rfl ⟨Nat.le_of_ble_eq_true rfl, Nat.le_of_ble_eq_true rfl⟩ ⟨Nat.le_of_ble_eq_true rfl, Nat.le_of_ble_eq_true rfl⟩ (Nat.le_of_ble_eq_true rfl) rfl dX7_count_252 ?_
    intro r127 v128 h
    refine stT (tN u (v128)) (fun u129 eu129 => ?_)
    have h := h u129 eu129
    exact z_iret C hr u129 rfl h dX7_count_255
  have h := h.2
  by_cases hx130 : x1 = 9
  · have h := h.1 hx130
    refine z_tIn C dX7_count_44 (9) (by rw [hx130]; decide) (by decide) (by decide) rfl (tgt := 256) (by decide) ?_
    refine z_aload_n C dX7_count_256 rfl 0 rfl ?_
    refine g7_history C fl7_19 dX7_count_257 ?_
    refine gT1_number C fl7_177 dX7_count_260 ?_
    exact z_iret C hr u rfl h dX7_count_263
  have h := h.2
  by_cases hx131 : x1 = 10
  · have h := h.1 hx131
    refine z_tIn C dX7_count_44 (10) (by rw [hx131]; decide) (by decide) (by decide) rfl (tgt := 285) (by decide) ?_
    refine z_lv (lv1 := [(0, .ref (ma 0))]) [0] rfl ?_
    exact b_X7_count_285 C hr ma ha bd Q u h
  have h := h.2
  by_cases hx132 : x1 = 11
  · have h := h.1 hx132
    refine z_tIn C dX7_count_44 (11) (by rw [hx132]; decide) (by decide) (by decide) rfl (tgt := 285) (by decide) ?_
    refine z_lv (lv1 := [(0, .ref (ma 0))]) [0] rfl ?_
    exact b_X7_count_285 C hr ma ha bd Q u h
  have h := h.2
  by_cases hx133 : x1 = 12
  · have h := h.1 hx133
    refine z_tIn C dX7_count_44 (12) (by rw [hx133]; decide) (by decide) (by decide) rfl (tgt := 285) (by decide) ?_
    refine z_lv (lv1 := [(0, .ref (ma 0))]) [0] rfl ?_
    exact b_X7_count_285 C hr ma ha bd Q u h
  have h := h.2
  by_cases hx134 : x1 = 13
  · have h := h.1 hx134
    refine z_tIn C dX7_count_44 (13) (by rw [hx134]; decide) (by decide) (by decide) rfl (tgt := 285) (by decide) ?_
    refine z_lv (lv1 := [(0, .ref (ma 0))]) [0] rfl ?_
    exact b_X7_count_285 C hr ma ha bd Q u h
  have h := h.2
  by_cases hx135 : x1 = 14
  · have h := h.1 hx135
    refine z_tIn C dX7_count_44 (14) (by rw [hx135]; decide) (by decide) (by decide) rfl (tgt := 285) (by decide) ?_
    refine z_lv (lv1 := [(0, .ref (ma 0))]) [0] rfl ?_
    exact b_X7_count_285 C hr ma ha bd Q u h
  have h := h.2
  by_cases hx136 : x1 = 15
  · have h := h.1 hx136
    refine z_tIn C dX7_count_44 (15) (by rw [hx136]; decide) (by decide) (by decide) rfl (tgt := 285) (by decide) ?_
    refine z_lv (lv1 := [(0, .ref (ma 0))]) [0] rfl ?_
    exact b_X7_count_285 C hr ma ha bd Q u h
  have h := h.2
  by_cases hx137 : x1 = 16
  · have h := h.1 hx137
    refine z_tIn C dX7_count_44 (16) (by rw [hx137]; decide) (by decide) (by decide) rfl (tgt := 285) (by decide) ?_
    refine z_lv (lv1 := [(0, .ref (ma 0))]) [0] rfl ?_
    exact b_X7_count_285 C hr ma ha bd Q u h
  have h := h.2
  by_cases hx138 : x1 = 17
  · have h := h.1 hx138
    refine z_tIn C dX7_count_44 (17) (by rw [hx138]; decide) (by decide) (by decide) rfl (tgt := 285) (by decide) ?_
    refine z_lv (lv1 := [(0, .ref (ma 0))]) [0] rfl ?_
    exact b_X7_count_285 C hr ma ha bd Q u h
  have h := h.2
  by_cases hx139 : x1 = 18
  · have h := h.1 hx139
    refine z_tIn C dX7_count_44 (18) (by rw [hx139]; decide) (by decide) (by decide) rfl (tgt := 285) (by decide) ?_
    refine z_lv (lv1 := [(0, .ref (ma 0))]) [0] rfl ?_
    exact b_X7_count_285 C hr ma ha bd Q u h
  have h := h.2
  by_cases hx140 : x1 = 19
  · have h := h.1 hx140
    refine z_tIn C dX7_count_44 (19) (by rw [hx140]; decide) (by decide) (by decide) rfl (tgt := 285) (by decide) ?_
    refine z_lv (lv1 := [(0, .ref (ma 0))]) [0] rfl ?_
    exact b_X7_count_285 C hr ma ha bd Q u h
  have h := h.2
  by_cases hx141 : x1 = 20
  · have h := h.1 hx141
    refine z_tIn C dX7_count_44 (20) (by rw [hx141]; decide) (by decide) (by decide) rfl (tgt := 285) (by decide) ?_
    refine z_lv (lv1 := [(0, .ref (ma 0))]) [0] rfl ?_
    exact b_X7_count_285 C hr ma ha bd Q u h
  have h := h.2
  by_cases hx142 : x1 = 21
  · have h := h.1 hx142
    refine z_tIn C dX7_count_44 (21) (by rw [hx142]; decide) (by decide) (by decide) rfl (tgt := 285) (by decide) ?_
    refine z_lv (lv1 := [(0, .ref (ma 0))]) [0] rfl ?_
    exact b_X7_count_285 C hr ma ha bd Q u h
  have h := h.2
  by_cases hx143 : x1 = 22
  · have h := h.1 hx143
    refine z_tIn C dX7_count_44 (22) (by rw [hx143]; decide) (by decide) (by decide) rfl (tgt := 285) (by decide) ?_
    refine z_lv (lv1 := [(0, .ref (ma 0))]) [0] rfl ?_
    exact b_X7_count_285 C hr ma ha bd Q u h
  have h := h.2
  by_cases hx144 : x1 = 23
  · have h := h.1 hx144
    refine z_tIn C dX7_count_44 (23) (by rw [hx144]; decide) (by decide) (by decide) rfl (tgt := 264) (by decide) ?_
    refine z_aload_n C dX7_count_264 rfl 0 rfl ?_
    refine g7_now C fl7_10 dX7_count_265 ?_
    refine Tg5_followed C fl7_293 dX7_count_268 ?_
    exact z_iret C hr u rfl h dX7_count_271
  have h := h.2
  by_cases hx145 : x1 = 24
  · have h := h.1 hx145
    refine z_tIn C dX7_count_44 (24) (by rw [hx145]; decide) (by decide) (by decide) rfl (tgt := 272) (by decide) ?_
    refine z_aload_n C dX7_count_272 rfl 0 rfl ?_
    refine g7_now C fl7_10 dX7_count_273 ?_
    refine Tg5_flows C fl7_64 dX7_count_276 ?_
    refine z_bipush (v := 18) C dX7_count_279 (by decide) ?_
    refine Tc0i (As := [.int 18]) C (c_X0_sum l g (bd 2) (u.2.2.1 2) 18 _ h) v_X0_sum ml7_290 rfl ⟨Nat.le_of_ble_eq_true rfl, Nat.le_of_ble_eq_true rfl⟩ ⟨Nat.le_of_ble_eq_true rfl, Nat.le_of_ble_eq_true rfl⟩ (Nat.le_of_ble_eq_true rfl) rfl dX7_count_281 ?_
    intro r146 v147 h
    refine stT (tN u (va_up u.2.2.1 2 v147)) (fun u148 eu148 => ?_)
    have h := h u148 eu148
    exact z_iret C hr u148 rfl h dX7_count_284
  have h := h.2
  have h := h hx103 hx104 hx105 hx109 hx110 hx114 hx118 hx122 hx126 hx130 hx131 hx132 hx133 hx134 hx135 hx136 hx137 hx138 hx139 hx140 hx141 hx142 hx143 hx144 hx145
  have thx103 := lv_neT (a := 0) hx103 (by decide)
  have thx104 := lv_neT (a := 1) hx104 (by decide)
  have thx105 := lv_neT (a := 2) hx105 (by decide)
  have thx109 := lv_neT (a := 3) hx109 (by decide)
  have thx110 := lv_neT (a := 4) hx110 (by decide)
  have thx114 := lv_neT (a := 5) hx114 (by decide)
  have thx118 := lv_neT (a := 6) hx118 (by decide)
  have thx122 := lv_neT (a := 7) hx122 (by decide)
  have thx126 := lv_neT (a := 8) hx126 (by decide)
  have thx130 := lv_neT (a := 9) hx130 (by decide)
  have thx131 := lv_neT (a := 10) hx131 (by decide)
  have thx132 := lv_neT (a := 11) hx132 (by decide)
  have thx133 := lv_neT (a := 12) hx133 (by decide)
  have thx134 := lv_neT (a := 13) hx134 (by decide)
  have thx135 := lv_neT (a := 14) hx135 (by decide)
  have thx136 := lv_neT (a := 15) hx136 (by decide)
  have thx137 := lv_neT (a := 16) hx137 (by decide)
  have thx138 := lv_neT (a := 17) hx138 (by decide)
  have thx139 := lv_neT (a := 18) hx139 (by decide)
  have thx140 := lv_neT (a := 19) hx140 (by decide)
  have thx141 := lv_neT (a := 20) hx141 (by decide)
  have thx142 := lv_neT (a := 21) hx142 (by decide)
  have thx143 := lv_neT (a := 22) hx143 (by decide)
  have thx144 := lv_neT (a := 23) hx144 (by decide)
  have thx145 := lv_neT (a := 24) hx145 (by decide)
  refine z_tOut C dX7_count_44 (by omega) (tgt := 285) (by decide) ?_
  refine z_lv (lv1 := [(0, .ref (ma 0))]) [0] rfl ?_
  exact b_X7_count_285 C hr ma ha bd Q u h
def wp_X7_count_18 (Q : Int32 → TS → Prop) (u : TS) (x1 : Int32) : Prop :=
  ((x1 < 14 → wp_X7_count_43 Q u x1) ∧ (¬ x1 < 14 → ((23 ≤ x1 → wp_X7_count_43 Q u x1) ∧ (¬ 23 ≤ x1 → vp_in (x1 - 14) 9 ∧ Q ((u.2.2.1 0).1 5 (zn (x1 - 14))) u))))
set_option maxRecDepth 20000 in
theorem b_X7_count_18 (C : zC p s m args meth c g A cX7_count RX7 2) (hr : meth.sig.returnType = (some .int)) (ma ha : Nat → Nat) (bd : Nat → Nat → Nat) (Q : Int32 → TS → Prop) (u : TS) (x1 : Int32) (h : wp_X7_count_18 Q u x1) : j_X7_count p l e s m args below meth c g A ma ha bd Q u 0 0 18 [(0, .ref (ma 0)), (1, .int x1)] [] := by
  unfold wp_X7_count_18 at h
  refine z_iload_n C dX7_count_18 rfl 1 rfl ?_
  refine z_bipush (v := 14) C dX7_count_19 (by decide) ?_
  refine z_icmp_lt C dX7_count_21 (tgt := 43) (by decide) (fun hc102 => ?_) (fun hc102 => ?_)
  · have h := h.1 hc102
    exact b_X7_count_43 C hr ma ha bd Q u x1 h
  · have h := h.2 hc102
    refine z_iload_n C dX7_count_24 rfl 1 rfl ?_
    refine z_bipush (v := 23) C dX7_count_25 (by decide) ?_
    refine z_icmp_ge C dX7_count_27 (tgt := 43) (by decide) (fun hc149 => ?_) (fun hc149 => ?_)
    · have h := h.1 hc149
      exact b_X7_count_43 C hr ma ha bd Q u x1 h
    · have h := h.2 hc149
      refine z_aload_n C dX7_count_30 rfl 0 rfl ?_
      refine g7_now C fl7_10 dX7_count_31 ?_
      refine Tg5_terms C fl7_135 dX7_count_34 ?_
      refine z_iload_n C dX7_count_37 rfl 1 rfl ?_
      refine z_bipush (v := 14) C dX7_count_38 (by decide) ?_
      refine z_isub C dX7_count_40 ?_
      obtain ⟨hi150, h⟩ := h
      refine Tl5_terms C hi150 dX7_count_41 ?_
      exact z_iret C hr u rfl h dX7_count_42
def wp_X7_count (u : TS) (x1 : Int32) (Q : Int32 → TS → Prop) : Prop :=
  ((x1 < 10 → wp_X7_count_18 Q u x1) ∧ (¬ x1 < 10 → ((13 < x1 → wp_X7_count_18 Q u x1) ∧ (¬ 13 < x1 → wp_X7_refusals u x1 (fun r152 u153 => Q r152 u153)))))
set_option maxRecDepth 20000 in
theorem c_X7_count (l : Launch) (g : zG) (ma ha : Nat → Nat) (bd : Nat → Nat → Nat) (u : TS) (x1 : Int32) (Q : Int32 → TS → Prop) (h : wp_X7_count u x1 Q) : zMi l yX7_count cX7_count 2 (some .int) 2 0 0 g [.ref (ma 0), .int x1] (wT g ma ha bd u) (wT g ma ha bd) Q := by
  refine zMi_of RX7 (by decide) rfl [(0, .ref (ma 0)), (1, .int x1)] rfl (Nat.le_of_ble_eq_true rfl) (fun p e s m args below meth c A C hr hnm => ?_)
  unfold wp_X7_count at h
  refine z_iload_n C dX7_count_0 rfl 1 rfl ?_
  refine z_bipush (v := 10) C dX7_count_1 (by decide) ?_
  refine z_icmp_lt C dX7_count_3 (tgt := 18) (by decide) (fun hc101 => ?_) (fun hc101 => ?_)
  · have h := h.1 hc101
    exact b_X7_count_18 C hr ma ha bd Q u x1 h
  · have h := h.2 hc101
    refine z_iload_n C dX7_count_6 rfl 1 rfl ?_
    refine z_bipush (v := 13) C dX7_count_7 (by decide) ?_
    refine z_icmp_gt C dX7_count_9 (tgt := 18) (by decide) (fun hc151 => ?_) (fun hc151 => ?_)
    · have h := h.1 hc151
      exact b_X7_count_18 C hr ma ha bd Q u x1 h
    · have h := h.2 hc151
      refine z_aload_n C dX7_count_12 rfl 0 rfl ?_
      refine z_iload_n C dX7_count_13 rfl 1 rfl ?_
      refine c7i (As := [.int x1]) C (c_X7_refusals l g ma ha bd u x1 _ h) v_X7_refusals ml7_287 rfl ⟨Nat.le_of_ble_eq_true rfl, Nat.le_of_ble_eq_true rfl⟩ ⟨Nat.le_of_ble_eq_true rfl, Nat.le_of_ble_eq_true rfl⟩ (Nat.le_of_ble_eq_true rfl) rfl dX7_count_14 ?_
      intro r152 u153 h
      exact z_iret C hr u153 rfl h dX7_count_17
abbrev j_X7_unlikeEntries (p : Program) (l : Launch) (e : Env) (s : State) (m : MethodId) (args : Array Value) (below : List Frame) (meth : Method) (c : Code) (g : zG) (A : Nat → Prop) (ma ha : Nat → Nat) (bd : Nat → Nat → Nat) (Q : Int32 → TS → Prop) (u : TS) (k n : Nat) (pc : Nat) (lv : List (Nat × Value)) (st : List Value) : Prop := zJ p l e (zR 2 0 0) s m args below meth c g A 4 (zQi below args s g A 0 0 (wT g ma ha bd) Q) (wT g ma ha bd u) k n pc lv st
def wp_X7_unlikeEntries_4 (Q : Int32 → TS → Prop) (B4 : TS → Int32 → Int32 → Int32 → Prop) (u : TS) (x1 : Int32) (x2 : Int32) (x3 : Int32) : Prop :=
  (((u.2.2.1 2).1 0 0 ≤ x3 → wp_J6_bitCount x2 (fun r102 => Q r102 u)) ∧ (¬ (u.2.2.1 2).1 0 0 ≤ x3 → vp_in x3 24 ∧ wp_X7_entryByRepeated x1 (u.1.1 6 (zn x3)) (fun r104 => ∀ x105 : Int32, x105 = x2 ||| (1 <<< (r104 &&& 31)) → ∀ x106 : Int32, x106 = x3 + 1 → B4 u x1 x105 x106)))
set_option maxRecDepth 20000 in
theorem b_X7_unlikeEntries_4 (C : zC p s m args meth c g A cX7_unlikeEntries RX7 4) (hr : meth.sig.returnType = (some .int)) (ma ha : Nat → Nat) (bd : Nat → Nat → Nat) (Q : Int32 → TS → Prop) (B4 : TS → Int32 → Int32 → Int32 → Prop) (hB4 : ∀ (u : TS) (x1 : Int32) (x2 : Int32) (x3 : Int32), B4 u x1 x2 x3 → j_X7_unlikeEntries p l e s m args below meth c g A ma ha bd Q u 0 0 4 [(0, .ref (ma 0)), (1, .int x1), (2, .int x2), (3, .int x3)] []) (u : TS) (x1 : Int32) (x2 : Int32) (x3 : Int32) (h : wp_X7_unlikeEntries_4 Q B4 u x1 x2 x3) : j_X7_unlikeEntries p l e s m args below meth c g A ma ha bd Q u 0 0 4 [(0, .ref (ma 0)), (1, .int x1), (2, .int x2), (3, .int x3)] [] := by
  unfold wp_X7_unlikeEntries_4 at h
  refine z_iload_n C dX7_unlikeEntries_4 rfl 3 rfl ?_
  refine z_aload_n C dX7_unlikeEntries_5 rfl 0 rfl ?_
  refine g7_now C fl7_10 dX7_unlikeEntries_6 ?_
  refine Tg5_flows C fl7_64 dX7_unlikeEntries_9 ?_
  refine Tg0_number C fl7_77 dX7_unlikeEntries_12 ?_
  refine z_icmp_ge C dX7_unlikeEntries_15 (tgt := 39) (by decide) (fun hc101 => ?_) (fun hc101 => ?_)
  · have h := h.1 hc101
    refine z_iload_n C dX7_unlikeEntries_39 rfl 2 rfl ?_
    refine cSi (As := [.int x2]) C (c_J6_bitCount l g x2 _ h) s_J6_bitCount mj7_244 ⟨Nat.le_of_ble_eq_true rfl, Nat.le_of_ble_eq_true rfl⟩ ⟨Nat.le_of_ble_eq_true rfl, Nat.le_of_ble_eq_true rfl⟩ (Nat.le_of_ble_eq_true rfl) rfl dX7_unlikeEntries_40 ?_
    intro r102 h
    exact z_iret C hr u rfl h dX7_unlikeEntries_43
  · have h := h.2 hc101
    refine z_iload_n C dX7_unlikeEntries_18 rfl 2 rfl ?_
    refine z_iconst (v := 1) C dX7_unlikeEntries_19 (by decide) ?_
    refine z_iload_n C dX7_unlikeEntries_20 rfl 1 rfl ?_
    refine z_aload_n C dX7_unlikeEntries_21 rfl 0 rfl ?_
    refine g7_ofEachFlow C fl7_31 dX7_unlikeEntries_22 ?_
    refine z_iload_n C dX7_unlikeEntries_25 rfl 3 rfl ?_
    obtain ⟨hi103, h⟩ := h
    refine l7_ofEachFlow C hi103 dX7_unlikeEntries_26 ?_
    refine cSi (As := [.int x1, .int (u.1.1 6 (zn x3))]) C (c_X7_entryByRepeated l g x1 (u.1.1 6 (zn x3)) _ h) s_X7_entryByRepeated ml7_303 ⟨Nat.le_of_ble_eq_true rfl, Nat.le_of_ble_eq_true rfl⟩ ⟨Nat.le_of_ble_eq_true rfl, Nat.le_of_ble_eq_true rfl⟩ (Nat.le_of_ble_eq_true rfl) rfl dX7_unlikeEntries_27 ?_
    intro r104 h
    refine z_ishl C dX7_unlikeEntries_30 ?_
    refine z_ior C dX7_unlikeEntries_31 ?_
    refine z_topi (fun x105 ex105 => ?_)
    have h := h x105 ex105
    refine z_istore_n (lv1 := [(2, .int x105), (0, .ref (ma 0)), (1, .int x1), (3, .int x3)]) C dX7_unlikeEntries_32 rfl (by decide) rfl ?_
    obtain ⟨x106, ex106⟩ : ∃ y : Int32, y = x3 + 1 := ⟨_, rfl⟩
    have h := h x106 ex106
    refine z_iinc (v := x106) (lv1 := [(3, .int x106), (2, .int x105), (0, .ref (ma 0)), (1, .int x1)]) C dX7_unlikeEntries_33 3 rfl (by rw [ex106]; rfl) (by decide) rfl ?_
    refine z_goto C dX7_unlikeEntries_36 (tgt := 4) (by decide) ?_
    refine z_lv (lv1 := [(0, .ref (ma 0)), (1, .int x1), (2, .int x105), (3, .int x106)]) [2, 3, 1, 0] rfl ?_
    exact hB4 u x1 x105 x106 h
theorem l_X7_unlikeEntries_4 (C : zC p s m args meth c g A cX7_unlikeEntries RX7 4) (hr : meth.sig.returnType = (some .int)) (ma ha : Nat → Nat) (bd : Nat → Nat → Nat) (Q : Int32 → TS → Prop) : ∀ (n : Nat) (u : TS) (x1 : Int32) (x2 : Int32) (x3 : Int32), zit4 (wp_X7_unlikeEntries_4 Q) n u x1 x2 x3 → j_X7_unlikeEntries p l e s m args below meth c g A ma ha bd Q u 0 0 4 [(0, .ref (ma 0)), (1, .int x1), (2, .int x2), (3, .int x3)] [] := by
  intro n
  induction n with
  | zero => exact fun u x1 x2 x3 h => h.elim
  | succ n ih => exact fun u x1 x2 x3 h => b_X7_unlikeEntries_4 C hr ma ha bd Q (zit4 (wp_X7_unlikeEntries_4 Q) n) ih u x1 x2 x3 h
def wp_X7_unlikeEntries (u : TS) (x1 : Int32) (Q : Int32 → TS → Prop) : Prop :=
  (∃ n, zit4 (wp_X7_unlikeEntries_4 Q) n u x1 0 0)
set_option maxRecDepth 20000 in
theorem c_X7_unlikeEntries (l : Launch) (g : zG) (ma ha : Nat → Nat) (bd : Nat → Nat → Nat) (u : TS) (x1 : Int32) (Q : Int32 → TS → Prop) (h : wp_X7_unlikeEntries u x1 Q) : zMi l yX7_unlikeEntries cX7_unlikeEntries 4 (some .int) 2 0 0 g [.ref (ma 0), .int x1] (wT g ma ha bd u) (wT g ma ha bd) Q := by
  refine zMi_of RX7 (by decide) rfl [(0, .ref (ma 0)), (1, .int x1)] rfl (Nat.le_of_ble_eq_true rfl) (fun p e s m args below meth c A C hr hnm => ?_)
  unfold wp_X7_unlikeEntries at h
  refine z_iconst (v := 0) C dX7_unlikeEntries_0 (by decide) ?_
  refine z_istore_n (lv1 := [(2, .int 0), (0, .ref (ma 0)), (1, .int x1)]) C dX7_unlikeEntries_1 rfl (by decide) rfl ?_
  refine z_iconst (v := 0) C dX7_unlikeEntries_2 (by decide) ?_
  refine z_istore_n (lv1 := [(3, .int 0), (2, .int 0), (0, .ref (ma 0)), (1, .int x1)]) C dX7_unlikeEntries_3 rfl (by decide) rfl ?_
  refine z_lv (lv1 := [(0, .ref (ma 0)), (1, .int x1), (2, .int 0), (3, .int 0)]) [2, 3, 1, 0] rfl ?_
  obtain ⟨n9, h⟩ := h
  exact l_X7_unlikeEntries_4 C hr ma ha bd Q n9 u x1 0 0 h
abbrev j_X7_hash (p : Program) (l : Launch) (e : Env) (s : State) (m : MethodId) (args : Array Value) (below : List Frame) (meth : Method) (c : Code) (g : zG) (A : Nat → Prop) (ma ha : Nat → Nat) (bd : Nat → Nat → Nat) (Q : Int32 → TS → Prop) (u : TS) (k n : Nat) (pc : Nat) (lv : List (Nat × Value)) (st : List Value) : Prop := zJ p l e (zR 3 0 0) s m args below meth c g A 6 (zQi below args s g A 0 0 (wT g ma ha bd) Q) (wT g ma ha bd u) k n pc lv st
def wp_X7_hash (u : TS) (x1 : Int32) (x2 : Int32) (x3 : Int32) (x4 : Int32) (x5 : Int32) (Q : Int32 → TS → Prop) : Prop :=
  wp_X7_areFields x1 x2 x3 x4 x5 (fun r101 => ((¬ r101 = 0 → wp_X2_hashFields (u.2.2.1 1) x1 x2 x3 x4 x5 (fun r103 v104 => ∀ u105 : TS, u105 = tN u (va_up u.2.2.1 1 v104) → Q r103 u105)) ∧ (r101 = 0 → Q 0 u)))
set_option maxRecDepth 20000 in
theorem c_X7_hash (l : Launch) (g : zG) (ma ha : Nat → Nat) (bd : Nat → Nat → Nat) (u : TS) (x1 : Int32) (x2 : Int32) (x3 : Int32) (x4 : Int32) (x5 : Int32) (Q : Int32 → TS → Prop) (h : wp_X7_hash u x1 x2 x3 x4 x5 Q) : zMi l yX7_hash cX7_hash 6 (some .int) 3 0 0 g [.ref (ma 0), .int x1, .int x2, .int x3, .int x4, .int x5] (wT g ma ha bd u) (wT g ma ha bd) Q := by
  refine zMi_of RX7 (by decide) rfl [(0, .ref (ma 0)), (1, .int x1), (2, .int x2), (3, .int x3), (4, .int x4), (5, .int x5)] rfl (Nat.le_of_ble_eq_true rfl) (fun p e s m args below meth c A C hr hnm => ?_)
  unfold wp_X7_hash at h
  refine z_iload_n C dX7_hash_0 rfl 1 rfl ?_
  refine z_iload_n C dX7_hash_1 rfl 2 rfl ?_
  refine z_iload_n C dX7_hash_2 rfl 3 rfl ?_
  refine z_iload C dX7_hash_3 4 rfl ?_
  refine z_iload C dX7_hash_5 5 rfl ?_
  refine cSi (As := [.int x1, .int x2, .int x3, .int x4, .int x5]) C (c_X7_areFields l g x1 x2 x3 x4 x5 _ h) s_X7_areFields ml7_60 ⟨Nat.le_of_ble_eq_true rfl, Nat.le_of_ble_eq_true rfl⟩ ⟨Nat.le_of_ble_eq_true rfl, Nat.le_of_ble_eq_true rfl⟩ (Nat.le_of_ble_eq_true rfl) rfl dX7_hash_7 ?_
  intro r101 h
  refine z_if_ne C dX7_hash_10 (tgt := 15) (by decide) (fun hc102 => ?_) (fun hc102 => ?_)
  · have h := h.1 hc102
    refine z_aload_n C dX7_hash_15 rfl 0 rfl ?_
    refine g7_now C fl7_10 dX7_hash_16 ?_
    refine Tg5_key C fl7_46 dX7_hash_19 ?_
    refine z_iload_n C dX7_hash_22 rfl 1 rfl ?_
    refine z_iload_n C dX7_hash_23 rfl 2 rfl ?_
    refine z_iload_n C dX7_hash_24 rfl 3 rfl ?_
    refine z_iload C dX7_hash_25 4 rfl ?_
    refine z_iload C dX7_hash_27 5 rfl ?_
    refine Tc2i (As := [.int x1, .int x2, .int x3, .int x4, .int x5]) C (c_X2_hashFields l g (bd 1) (u.2.2.1 1) x1 x2 x3 x4 x5 _ h) v_X2_hashFields ml7_190 rfl ⟨Nat.le_of_ble_eq_true rfl, Nat.le_of_ble_eq_true rfl⟩ ⟨Nat.le_of_ble_eq_true rfl, Nat.le_of_ble_eq_true rfl⟩ (Nat.le_of_ble_eq_true rfl) rfl dX7_hash_29 ?_
    intro r103 v104 h
    refine stT (tN u (va_up u.2.2.1 1 v104)) (fun u105 eu105 => ?_)
    have h := h u105 eu105
    exact z_iret C hr u105 rfl h dX7_hash_32
  · have h := h.2 hc102
    refine z_iconst (v := 0) C dX7_hash_13 (by decide) ?_
    exact z_iret C hr u rfl h dX7_hash_14
abbrev j_X7_isBothWays (p : Program) (l : Launch) (e : Env) (s : State) (m : MethodId) (args : Array Value) (below : List Frame) (meth : Method) (c : Code) (g : zG) (A : Nat → Prop) (ma ha : Nat → Nat) (bd : Nat → Nat → Nat) (Q : Int32 → TS → Prop) (u : TS) (k n : Nat) (pc : Nat) (lv : List (Nat × Value)) (st : List Value) : Prop := zJ p l e (zR 3 0 0) s m args below meth c g A 1 (zQi below args s g A 0 0 (wT g ma ha bd) Q) (wT g ma ha bd u) k n pc lv st
def wp_X7_isBothWays (u : TS) (Q : Int32 → TS → Prop) : Prop :=
  wp_X2_hashesBothWaysAlike (u.2.2.1 1) (fun r101 v102 => ∀ u103 : TS, u103 = tN u (va_up u.2.2.1 1 v102) → (zBool r101 ∧ Q r101 u103))
set_option maxRecDepth 20000 in
theorem c_X7_isBothWays (l : Launch) (g : zG) (ma ha : Nat → Nat) (bd : Nat → Nat → Nat) (u : TS) (Q : Int32 → TS → Prop) (h : wp_X7_isBothWays u Q) : zMi l yX7_isBothWays cX7_isBothWays 1 (some .boolean) 3 0 0 g [.ref (ma 0)] (wT g ma ha bd u) (wT g ma ha bd) Q := by
  refine zMi_of RX7 (by decide) rfl [(0, .ref (ma 0))] rfl (Nat.le_of_ble_eq_true rfl) (fun p e s m args below meth c A C hr hnm => ?_)
  unfold wp_X7_isBothWays at h
  refine z_aload_n C dX7_isBothWays_0 rfl 0 rfl ?_
  refine g7_now C fl7_10 dX7_isBothWays_1 ?_
  refine Tg5_key C fl7_46 dX7_isBothWays_4 ?_
  refine Tc2i (As := []) C (c_X2_hashesBothWaysAlike l g (bd 1) (u.2.2.1 1) _ h) v_X2_hashesBothWaysAlike ml7_237 rfl ⟨Nat.le_of_ble_eq_true rfl, Nat.le_of_ble_eq_true rfl⟩ ⟨Nat.le_of_ble_eq_true rfl, Nat.le_of_ble_eq_true rfl⟩ (Nat.le_of_ble_eq_true rfl) rfl dX7_isBothWays_7 ?_
  intro r101 v102 h
  refine stT (tN u (va_up u.2.2.1 1 v102)) (fun u103 eu103 => ?_)
  have h := h u103 eu103
  exact z_zret C hr u103 rfl h.1 h.2 dX7_isBothWays_10
abbrev j_X7_spread (p : Program) (l : Launch) (e : Env) (s : State) (m : MethodId) (args : Array Value) (below : List Frame) (meth : Method) (c : Code) (g : zG) (A : Nat → Prop) (ma ha : Nat → Nat) (bd : Nat → Nat → Nat) (Q : Int32 → TS → Prop) (u : TS) (k n : Nat) (pc : Nat) (lv : List (Nat × Value)) (st : List Value) : Prop := zJ p l e (zR 3 0 0) s m args below meth c g A 6 (zQi below args s g A 0 0 (wT g ma ha bd) Q) (wT g ma ha bd u) k n pc lv st
def wp_X7_spread_22 (Q : Int32 → TS → Prop) (u : TS) : Prop :=
  Q (-1) u
set_option maxRecDepth 20000 in
theorem b_X7_spread_22 (C : zC p s m args meth c g A cX7_spread RX7 6) (hr : meth.sig.returnType = (some .int)) (ma ha : Nat → Nat) (bd : Nat → Nat → Nat) (Q : Int32 → TS → Prop) (u : TS) (h : wp_X7_spread_22 Q u) : j_X7_spread p l e s m args below meth c g A ma ha bd Q u 0 0 22 [(0, .ref (ma 0))] [] := by
  unfold wp_X7_spread_22 at h
  refine z_iconst (v := (-1)) C dX7_spread_22 (by decide) ?_
  exact z_iret C hr u rfl h dX7_spread_23
def wp_X7_spread_110 (Q : Int32 → TS → Prop) (u : TS) (t0 : Int32) : Prop :=
  Q t0 u
set_option maxRecDepth 20000 in
theorem b_X7_spread_110 (C : zC p s m args meth c g A cX7_spread RX7 6) (hr : meth.sig.returnType = (some .int)) (ma ha : Nat → Nat) (bd : Nat → Nat → Nat) (Q : Int32 → TS → Prop) (u : TS) (t0 : Int32) (h : wp_X7_spread_110 Q u t0) : j_X7_spread p l e s m args below meth c g A ma ha bd Q u 0 0 110 [(0, .ref (ma 0))] [.int t0] := by
  unfold wp_X7_spread_110 at h
  exact z_iret C hr u rfl h dX7_spread_110
def wp_X7_spread_95 (Q : Int32 → TS → Prop) (B67 : TS → Int32 → Int32 → Int32 → Int32 → Prop) (u : TS) (x1 : Int32) (x2 : Int32) (x3 : Int32) (x4 : Int32) : Prop :=
  ∀ x110 : Int32, x110 = x4 + 1 → B67 u x1 x2 x3 x110
set_option maxRecDepth 20000 in
theorem b_X7_spread_95 (C : zC p s m args meth c g A cX7_spread RX7 6) (hr : meth.sig.returnType = (some .int)) (ma ha : Nat → Nat) (bd : Nat → Nat → Nat) (Q : Int32 → TS → Prop) (B67 : TS → Int32 → Int32 → Int32 → Int32 → Prop) (hB67 : ∀ (u : TS) (x1 : Int32) (x2 : Int32) (x3 : Int32) (x4 : Int32), B67 u x1 x2 x3 x4 → j_X7_spread p l e s m args below meth c g A ma ha bd Q u 0 0 67 [(0, .ref (ma 0)), (1, .int x1), (2, .int x2), (3, .int x3), (4, .int x4)] []) (u : TS) (x1 : Int32) (x2 : Int32) (x3 : Int32) (x4 : Int32) (h : wp_X7_spread_95 Q B67 u x1 x2 x3 x4) : j_X7_spread p l e s m args below meth c g A ma ha bd Q u 0 0 95 [(0, .ref (ma 0)), (1, .int x1), (2, .int x2), (3, .int x3), (4, .int x4)] [] := by
  unfold wp_X7_spread_95 at h
  obtain ⟨x110, ex110⟩ : ∃ y : Int32, y = x4 + 1 := ⟨_, rfl⟩
  have h := h x110 ex110
  refine z_iinc (v := x110) (lv1 := [(4, .int x110), (0, .ref (ma 0)), (1, .int x1), (2, .int x2), (3, .int x3)]) C dX7_spread_95 4 rfl (by rw [ex110]; rfl) (by decide) rfl ?_
  refine z_goto C dX7_spread_98 (tgt := 67) (by decide) ?_
  refine z_lv (lv1 := [(0, .ref (ma 0)), (1, .int x1), (2, .int x2), (3, .int x3), (4, .int x110)]) [1, 2, 3, 4, 0] rfl ?_
  exact hB67 u x1 x2 x3 x110 h
def wp_X7_spread_67 (Q : Int32 → TS → Prop) (B67 : TS → Int32 → Int32 → Int32 → Int32 → Prop) (u : TS) (x1 : Int32) (x2 : Int32) (x3 : Int32) (x4 : Int32) : Prop :=
  ((256 ≤ x4 → ((¬ x1 = 0 → wp_X7_spread_110 Q u x3) ∧ (x1 = 0 → wp_X7_spread_110 Q u x2))) ∧ (¬ 256 ≤ x4 → wp_X7_unlikeEntries u x4 (fun r107 u108 => ((r107 ≤ x3 → wp_X7_spread_95 Q B67 u108 x1 x2 x3 x4) ∧ (¬ r107 ≤ x3 → wp_X7_spread_95 Q B67 u108 x1 x4 r107 x4)))))
set_option maxRecDepth 20000 in
theorem b_X7_spread_67 (C : zC p s m args meth c g A cX7_spread RX7 6) (hr : meth.sig.returnType = (some .int)) (ma ha : Nat → Nat) (bd : Nat → Nat → Nat) (Q : Int32 → TS → Prop) (B67 : TS → Int32 → Int32 → Int32 → Int32 → Prop) (hB67 : ∀ (u : TS) (x1 : Int32) (x2 : Int32) (x3 : Int32) (x4 : Int32), B67 u x1 x2 x3 x4 → j_X7_spread p l e s m args below meth c g A ma ha bd Q u 0 0 67 [(0, .ref (ma 0)), (1, .int x1), (2, .int x2), (3, .int x3), (4, .int x4)] []) (u : TS) (x1 : Int32) (x2 : Int32) (x3 : Int32) (x4 : Int32) (h : wp_X7_spread_67 Q B67 u x1 x2 x3 x4) : j_X7_spread p l e s m args below meth c g A ma ha bd Q u 0 0 67 [(0, .ref (ma 0)), (1, .int x1), (2, .int x2), (3, .int x3), (4, .int x4)] [] := by
  unfold wp_X7_spread_67 at h
  refine z_iload C dX7_spread_67 4 rfl ?_
  refine z_sipush (v := 256) C dX7_spread_69 (by decide) ?_
  refine z_icmp_ge C dX7_spread_72 (tgt := 101) (by decide) (fun hc105 => ?_) (fun hc105 => ?_)
  · have h := h.1 hc105
    refine z_iload_n C dX7_spread_101 rfl 1 rfl ?_
    refine z_if_ne C dX7_spread_102 (tgt := 109) (by decide) (fun hc106 => ?_) (fun hc106 => ?_)
    · have h := h.1 hc106
      refine z_iload_n C dX7_spread_109 rfl 3 rfl ?_
      refine z_lv (lv1 := [(0, .ref (ma 0))]) [0] rfl ?_
      exact b_X7_spread_110 C hr ma ha bd Q u x3 h
    · have h := h.2 hc106
      refine z_iload_n C dX7_spread_105 rfl 2 rfl ?_
      refine z_goto C dX7_spread_106 (tgt := 110) (by decide) ?_
      refine z_lv (lv1 := [(0, .ref (ma 0))]) [0] rfl ?_
      exact b_X7_spread_110 C hr ma ha bd Q u x2 h
  · have h := h.2 hc105
    refine z_aload_n C dX7_spread_75 rfl 0 rfl ?_
    refine z_iload C dX7_spread_76 4 rfl ?_
    refine c7i (As := [.int x4]) C (c_X7_unlikeEntries l g ma ha bd u x4 _ h) v_X7_unlikeEntries ml7_258 rfl ⟨Nat.le_of_ble_eq_true rfl, Nat.le_of_ble_eq_true rfl⟩ ⟨Nat.le_of_ble_eq_true rfl, Nat.le_of_ble_eq_true rfl⟩ (Nat.le_of_ble_eq_true rfl) rfl dX7_spread_78 ?_
    intro r107 u108 h
    refine z_istore (lv1 := [(5, .int r107), (0, .ref (ma 0)), (1, .int x1), (2, .int x2), (3, .int x3), (4, .int x4)]) C dX7_spread_81 (by decide) rfl ?_
    refine z_iload C dX7_spread_83 0 rfl ?_
    refine z_iload_n C dX7_spread_85 rfl 4 rfl ?_
    refine z_icmp_le C dX7_spread_86 (tgt := 95) (by decide) (fun hc109 => ?_) (fun hc109 => ?_)
    · have h := h.1 hc109
      refine z_lv (lv1 := [(0, .ref (ma 0)), (1, .int x1), (2, .int x2), (3, .int x3), (4, .int x4)]) [1, 2, 3, 4, 5] rfl ?_
      exact b_X7_spread_95 C hr ma ha bd Q B67 hB67 u108 x1 x2 x3 x4 h
    · have h := h.2 hc109
      refine z_iload C dX7_spread_89 0 rfl ?_
      refine z_istore_n (lv1 := [(3, .int r107), (5, .int r107), (0, .ref (ma 0)), (1, .int x1), (2, .int x2), (4, .int x4)]) C dX7_spread_91 rfl (by decide) rfl ?_
      refine z_iload C dX7_spread_92 5 rfl ?_
      refine z_istore_n (lv1 := [(2, .int x4), (3, .int r107), (5, .int r107), (0, .ref (ma 0)), (1, .int x1), (4, .int x4)]) C dX7_spread_94 rfl (by decide) rfl ?_
      refine z_lv (lv1 := [(0, .ref (ma 0)), (1, .int x1), (2, .int x4), (3, .int r107), (4, .int x4)]) [3, 4, 0, 1, 5] rfl ?_
      exact b_X7_spread_95 C hr ma ha bd Q B67 hB67 u108 x1 x4 r107 x4 h
theorem l_X7_spread_67 (C : zC p s m args meth c g A cX7_spread RX7 6) (hr : meth.sig.returnType = (some .int)) (ma ha : Nat → Nat) (bd : Nat → Nat → Nat) (Q : Int32 → TS → Prop) : ∀ (n : Nat) (u : TS) (x1 : Int32) (x2 : Int32) (x3 : Int32) (x4 : Int32), zit5 (wp_X7_spread_67 Q) n u x1 x2 x3 x4 → j_X7_spread p l e s m args below meth c g A ma ha bd Q u 0 0 67 [(0, .ref (ma 0)), (1, .int x1), (2, .int x2), (3, .int x3), (4, .int x4)] [] := by
  intro n
  induction n with
  | zero => exact fun u x1 x2 x3 x4 h => h.elim
  | succ n ih => exact fun u x1 x2 x3 x4 h => b_X7_spread_67 C hr ma ha bd Q (zit5 (wp_X7_spread_67 Q) n) ih u x1 x2 x3 x4 h
def wp_X7_spread_26 (Q : Int32 → TS → Prop) (B26 : TS → Int32 → Int32 → Prop) (u : TS) (x1 : Int32) (x2 : Int32) : Prop :=
  (((u.2.2.1 2).1 0 0 ≤ x2 → (∃ n, zit5 (wp_X7_spread_67 Q) n u x1 0 0 0)) ∧ (¬ (u.2.2.1 2).1 0 0 ≤ x2 → wp_X5_foldedFields u.2.2.1 x2 (fun r111 v112 => ∀ u113 : TS, u113 = tN u (v112) → vp_in x2 24 ∧ ∀ u115 : TS, u115 = tM u113 (rI u113.1 6 (upd (u113.1.1 6) (zn x2) r111)) → ∀ x116 : Int32, x116 = x2 + 1 → B26 u115 x1 x116)))
set_option maxRecDepth 20000 in
theorem b_X7_spread_26 (C : zC p s m args meth c g A cX7_spread RX7 6) (hr : meth.sig.returnType = (some .int)) (ma ha : Nat → Nat) (bd : Nat → Nat → Nat) (Q : Int32 → TS → Prop) (B26 : TS → Int32 → Int32 → Prop) (hB26 : ∀ (u : TS) (x1 : Int32) (x2 : Int32), B26 u x1 x2 → j_X7_spread p l e s m args below meth c g A ma ha bd Q u 0 0 26 [(0, .ref (ma 0)), (1, .int x1), (2, .int x2)] []) (u : TS) (x1 : Int32) (x2 : Int32) (h : wp_X7_spread_26 Q B26 u x1 x2) : j_X7_spread p l e s m args below meth c g A ma ha bd Q u 0 0 26 [(0, .ref (ma 0)), (1, .int x1), (2, .int x2)] [] := by
  unfold wp_X7_spread_26 at h
  refine z_iload_n C dX7_spread_26 rfl 2 rfl ?_
  refine z_aload_n C dX7_spread_27 rfl 0 rfl ?_
  refine g7_now C fl7_10 dX7_spread_28 ?_
  refine Tg5_flows C fl7_64 dX7_spread_31 ?_
  refine Tg0_number C fl7_77 dX7_spread_34 ?_
  refine z_icmp_ge C dX7_spread_37 (tgt := 60) (by decide) (fun hc104 => ?_) (fun hc104 => ?_)
  · have h := h.1 hc104
    refine z_iconst (v := 0) C dX7_spread_60 (by decide) ?_
    refine z_istore_n (lv1 := [(2, .int 0), (0, .ref (ma 0)), (1, .int x1)]) C dX7_spread_61 rfl (by decide) rfl ?_
    refine z_iconst (v := 0) C dX7_spread_62 (by decide) ?_
    refine z_istore_n (lv1 := [(3, .int 0), (2, .int 0), (0, .ref (ma 0)), (1, .int x1)]) C dX7_spread_63 rfl (by decide) rfl ?_
    refine z_iconst (v := 0) C dX7_spread_64 (by decide) ?_
    refine z_istore (lv1 := [(4, .int 0), (3, .int 0), (2, .int 0), (0, .ref (ma 0)), (1, .int x1)]) C dX7_spread_65 (by decide) rfl ?_
    refine z_lv (lv1 := [(0, .ref (ma 0)), (1, .int x1), (2, .int 0), (3, .int 0), (4, .int 0)]) [3, 4, 2, 1, 0] rfl ?_
    obtain ⟨n9, h⟩ := h
    exact l_X7_spread_67 C hr ma ha bd Q n9 u x1 0 0 0 h
  · have h := h.2 hc104
    refine z_aload_n C dX7_spread_40 rfl 0 rfl ?_
    refine g7_ofEachFlow C fl7_31 dX7_spread_41 ?_
    refine z_iload_n C dX7_spread_44 rfl 2 rfl ?_
    refine z_aload_n C dX7_spread_45 rfl 0 rfl ?_
    refine g7_now C fl7_10 dX7_spread_46 ?_
    refine z_iload_n C dX7_spread_49 rfl 2 rfl ?_
    refine Tc5i (As := [.int x2]) C (c_X5_foldedFields l g bd u.2.2.1 x2 _ h) v_X5_foldedFields ml7_255 rfl ⟨Nat.le_of_ble_eq_true rfl, Nat.le_of_ble_eq_true rfl⟩ ⟨Nat.le_of_ble_eq_true rfl, Nat.le_of_ble_eq_true rfl⟩ (Nat.le_of_ble_eq_true rfl) rfl dX7_spread_50 ?_
    intro r111 v112 h
    refine stT (tN u (v112)) (fun u113 eu113 => ?_)
    have h := h u113 eu113
    obtain ⟨hi114, h⟩ := h
    refine s7_ofEachFlow C hi114 dX7_spread_53 ?_
    refine stT (tM u113 (rI u113.1 6 (upd (u113.1.1 6) (zn x2) r111))) (fun u115 eu115 => ?_)
    have h := h u115 eu115
    obtain ⟨x116, ex116⟩ : ∃ y : Int32, y = x2 + 1 := ⟨_, rfl⟩
    have h := h x116 ex116
    refine z_iinc (v := x116) (lv1 := [(2, .int x116), (0, .ref (ma 0)), (1, .int x1)]) C dX7_spread_54 2 rfl (by rw [ex116]; rfl) (by decide) rfl ?_
    refine z_goto C dX7_spread_57 (tgt := 26) (by decide) ?_
    refine z_lv (lv1 := [(0, .ref (ma 0)), (1, .int x1), (2, .int x116)]) [1, 2, 0] rfl ?_
    exact hB26 u115 x1 x116 h
theorem l_X7_spread_26 (C : zC p s m args meth c g A cX7_spread RX7 6) (hr : meth.sig.returnType = (some .int)) (ma ha : Nat → Nat) (bd : Nat → Nat → Nat) (Q : Int32 → TS → Prop) : ∀ (n : Nat) (u : TS) (x1 : Int32) (x2 : Int32), zit3 (wp_X7_spread_26 Q) n u x1 x2 → j_X7_spread p l e s m args below meth c g A ma ha bd Q u 0 0 26 [(0, .ref (ma 0)), (1, .int x1), (2, .int x2)] [] := by
  intro n
  induction n with
  | zero => exact fun u x1 x2 h => h.elim
  | succ n ih => exact fun u x1 x2 h => b_X7_spread_26 C hr ma ha bd Q (zit3 (wp_X7_spread_26 Q) n) ih u x1 x2 h
def wp_X7_spread (u : TS) (x1 : Int32) (Q : Int32 → TS → Prop) : Prop :=
  ((x1 < 0 → wp_X7_spread_22 Q u) ∧ (¬ x1 < 0 → ((1 < x1 → wp_X7_spread_22 Q u) ∧ (¬ 1 < x1 → ((¬ (u.2.2.1 2).1 0 0 = 0 → (∃ n, zit3 (wp_X7_spread_26 Q) n u x1 0)) ∧ ((u.2.2.1 2).1 0 0 = 0 → wp_X7_spread_22 Q u))))))
set_option maxRecDepth 20000 in
theorem c_X7_spread (l : Launch) (g : zG) (ma ha : Nat → Nat) (bd : Nat → Nat → Nat) (u : TS) (x1 : Int32) (Q : Int32 → TS → Prop) (h : wp_X7_spread u x1 Q) : zMi l yX7_spread cX7_spread 6 (some .int) 3 0 0 g [.ref (ma 0), .int x1] (wT g ma ha bd u) (wT g ma ha bd) Q := by
  refine zMi_of RX7 (by decide) rfl [(0, .ref (ma 0)), (1, .int x1)] rfl (Nat.le_of_ble_eq_true rfl) (fun p e s m args below meth c A C hr hnm => ?_)
  unfold wp_X7_spread at h
  refine z_iload_n C dX7_spread_0 rfl 1 rfl ?_
  refine z_if_lt C dX7_spread_1 (tgt := 22) (by decide) (fun hc101 => ?_) (fun hc101 => ?_)
  · have h := h.1 hc101
    refine z_lv (lv1 := [(0, .ref (ma 0))]) [0] rfl ?_
    exact b_X7_spread_22 C hr ma ha bd Q u h
  · have h := h.2 hc101
    refine z_iload_n C dX7_spread_4 rfl 1 rfl ?_
    refine z_iconst (v := 1) C dX7_spread_5 (by decide) ?_
    refine z_icmp_gt C dX7_spread_6 (tgt := 22) (by decide) (fun hc102 => ?_) (fun hc102 => ?_)
    · have h := h.1 hc102
      refine z_lv (lv1 := [(0, .ref (ma 0))]) [0] rfl ?_
      exact b_X7_spread_22 C hr ma ha bd Q u h
    · have h := h.2 hc102
      refine z_aload_n C dX7_spread_9 rfl 0 rfl ?_
      refine g7_now C fl7_10 dX7_spread_10 ?_
      refine Tg5_flows C fl7_64 dX7_spread_13 ?_
      refine Tg0_number C fl7_77 dX7_spread_16 ?_
      refine z_if_ne C dX7_spread_19 (tgt := 24) (by decide) (fun hc103 => ?_) (fun hc103 => ?_)
      · have h := h.1 hc103
        refine z_iconst (v := 0) C dX7_spread_24 (by decide) ?_
        refine z_istore_n (lv1 := [(2, .int 0), (0, .ref (ma 0)), (1, .int x1)]) C dX7_spread_25 rfl (by decide) rfl ?_
        refine z_lv (lv1 := [(0, .ref (ma 0)), (1, .int x1), (2, .int 0)]) [1, 2, 0] rfl ?_
        obtain ⟨n9, h⟩ := h
        exact l_X7_spread_26 C hr ma ha bd Q n9 u x1 0 h
      · have h := h.2 hc103
        refine z_lv (lv1 := [(0, .ref (ma 0))]) [0] rfl ?_
        exact b_X7_spread_22 C hr ma ha bd Q u h
abbrev j_X7_undo (p : Program) (l : Launch) (e : Env) (s : State) (m : MethodId) (args : Array Value) (below : List Frame) (meth : Method) (c : Code) (g : zG) (A : Nat → Prop) (ma ha : Nat → Nat) (bd : Nat → Nat → Nat) (Q : Int32 → TS → Prop) (u : TS) (k n : Nat) (pc : Nat) (lv : List (Nat × Value)) (st : List Value) : Prop := zJ p l e (zR 4 0 0) s m args below meth c g A 1 (zQi below args s g A 0 0 (wT g ma ha bd) Q) (wT g ma ha bd u) k n pc lv st
def wp_X7_undo (u : TS) (Q : Int32 → TS → Prop) : Prop :=
  ((¬ u.2.1.1 0 0 = 0 → ∀ u102 : TS, u102 = tM u (rN u.1 4 0) → wp_X1_takeBack u102.2.1 u102.2.2.2.1 u102.2.2.1 (fun r103 h104 v105 => ∀ u106 : TS, u106 = tHN u102 h104 v105 → Q r103 u106)) ∧ (u.2.1.1 0 0 = 0 → wp_X7_refuse u (-4) (fun r107 u108 => Q r107 u108)))
set_option maxRecDepth 20000 in
theorem c_X7_undo (l : Launch) (g : zG) (ma ha : Nat → Nat) (bd : Nat → Nat → Nat) (u : TS) (Q : Int32 → TS → Prop) (h : wp_X7_undo u Q) : zMi l yX7_undo cX7_undo 1 (some .int) 4 0 0 g [.ref (ma 0)] (wT g ma ha bd u) (wT g ma ha bd) Q := by
  refine zMi_of RX7 (by decide) rfl [(0, .ref (ma 0))] rfl (Nat.le_of_ble_eq_true rfl) (fun p e s m args below meth c A C hr hnm => ?_)
  unfold wp_X7_undo at h
  refine z_aload_n C dX7_undo_0 rfl 0 rfl ?_
  refine g7_history C fl7_19 dX7_undo_1 ?_
  refine gT1_number C fl7_177 dX7_undo_4 ?_
  refine z_if_ne C dX7_undo_7 (tgt := 17) (by decide) (fun hc101 => ?_) (fun hc101 => ?_)
  · have h := h.1 hc101
    refine z_aload_n C dX7_undo_17 rfl 0 rfl ?_
    refine z_iconst (v := 0) C dX7_undo_18 (by decide) ?_
    refine p7_latestRefusal C fl7_74 dX7_undo_19 ?_
    refine stT (tM u (rN u.1 4 0)) (fun u102 eu102 => ?_)
    have h := h u102 eu102
    refine z_aload_n C dX7_undo_22 rfl 0 rfl ?_
    refine g7_history C fl7_19 dX7_undo_23 ?_
    refine z_aload_n C dX7_undo_26 rfl 0 rfl ?_
    refine g7_now C fl7_10 dX7_undo_27 ?_
    refine cU C (c_X1_takeBack l g ha bd u102.2.1 u102.2.2.2.1 u102.2.2.1 _ h) v_X1_takeBack ml7_178 ⟨Nat.le_of_ble_eq_true rfl, Nat.le_of_ble_eq_true rfl⟩ ⟨Nat.le_of_ble_eq_true rfl, Nat.le_of_ble_eq_true rfl⟩ (Nat.le_of_ble_eq_true rfl) dX7_undo_30 ?_
    intro r103 h104 v105 h
    refine stT (tHN u102 h104 v105) (fun u106 eu106 => ?_)
    have h := h u106 eu106
    exact z_iret C hr u106 rfl h dX7_undo_33
  · have h := h.2 hc101
    refine z_aload_n C dX7_undo_10 rfl 0 rfl ?_
    refine z_bipush (v := (-4)) C dX7_undo_11 (by decide) ?_
    refine c7i (As := [.int (-4)]) C (c_X7_refuse l g ma ha bd u (-4) _ h) v_X7_refuse ml7_38 rfl ⟨Nat.le_of_ble_eq_true rfl, Nat.le_of_ble_eq_true rfl⟩ ⟨Nat.le_of_ble_eq_true rfl, Nat.le_of_ble_eq_true rfl⟩ (Nat.le_of_ble_eq_true rfl) rfl dX7_undo_13 ?_
    intro r107 u108 h
    exact z_iret C hr u108 rfl h dX7_undo_16
abbrev j_X7_hashOf (p : Program) (l : Launch) (e : Env) (s : State) (m : MethodId) (args : Array Value) (below : List Frame) (meth : Method) (c : Code) (g : zG) (A : Nat → Prop) (ma ha : Nat → Nat) (bd : Nat → Nat → Nat) (Q : Int32 → TS → Prop) (u : TS) (k n : Nat) (pc : Nat) (lv : List (Nat × Value)) (st : List Value) : Prop := zJ p l e (zR 4 0 0) s m args below meth c g A 2 (zQi below args s g A 0 0 (wT g ma ha bd) Q) (wT g ma ha bd u) k n pc lv st
def wp_X7_hashOf_20 (Q : Int32 → TS → Prop) (u : TS) (t0 : Int32) : Prop :=
  Q t0 u
set_option maxRecDepth 20000 in
theorem b_X7_hashOf_20 (C : zC p s m args meth c g A cX7_hashOf RX7 2) (hr : meth.sig.returnType = (some .int)) (ma ha : Nat → Nat) (bd : Nat → Nat → Nat) (Q : Int32 → TS → Prop) (u : TS) (t0 : Int32) (h : wp_X7_hashOf_20 Q u t0) : j_X7_hashOf p l e s m args below meth c g A ma ha bd Q u 0 0 20 [(0, .ref (ma 0))] [.int t0] := by
  unfold wp_X7_hashOf_20 at h
  exact z_iret C hr u rfl h dX7_hashOf_20
def wp_X7_hashOf (u : TS) (x1 : Int32) (Q : Int32 → TS → Prop) : Prop :=
  wp_X7_isFlow u x1 (fun r101 u102 => ((r101 = 0 → wp_X7_hashOf_20 Q u102 0) ∧ (¬ r101 = 0 → wp_X5_hashFlow u102.2.2.1 x1 (fun r104 v105 => ∀ u106 : TS, u106 = tN u102 (v105) → wp_X7_hashOf_20 Q u106 r104))))
set_option maxRecDepth 20000 in
theorem c_X7_hashOf (l : Launch) (g : zG) (ma ha : Nat → Nat) (bd : Nat → Nat → Nat) (u : TS) (x1 : Int32) (Q : Int32 → TS → Prop) (h : wp_X7_hashOf u x1 Q) : zMi l yX7_hashOf cX7_hashOf 2 (some .int) 4 0 0 g [.ref (ma 0), .int x1] (wT g ma ha bd u) (wT g ma ha bd) Q := by
  refine zMi_of RX7 (by decide) rfl [(0, .ref (ma 0)), (1, .int x1)] rfl (Nat.le_of_ble_eq_true rfl) (fun p e s m args below meth c A C hr hnm => ?_)
  unfold wp_X7_hashOf at h
  refine z_aload_n C dX7_hashOf_0 rfl 0 rfl ?_
  refine z_iload_n C dX7_hashOf_1 rfl 1 rfl ?_
  refine c7i (As := [.int x1]) C (c_X7_isFlow l g ma ha bd u x1 _ h) v_X7_isFlow ml7_105 rfl ⟨Nat.le_of_ble_eq_true rfl, Nat.le_of_ble_eq_true rfl⟩ ⟨Nat.le_of_ble_eq_true rfl, Nat.le_of_ble_eq_true rfl⟩ (Nat.le_of_ble_eq_true rfl) rfl dX7_hashOf_2 ?_
  intro r101 u102 h
  refine z_if_eq C dX7_hashOf_5 (tgt := 19) (by decide) (fun hc103 => ?_) (fun hc103 => ?_)
  · have h := h.1 hc103
    refine z_iconst (v := 0) C dX7_hashOf_19 (by decide) ?_
    refine z_lv (lv1 := [(0, .ref (ma 0))]) [0] rfl ?_
    exact b_X7_hashOf_20 C hr ma ha bd Q u102 0 h
  · have h := h.2 hc103
    refine z_aload_n C dX7_hashOf_8 rfl 0 rfl ?_
    refine g7_now C fl7_10 dX7_hashOf_9 ?_
    refine z_iload_n C dX7_hashOf_12 rfl 1 rfl ?_
    refine Tc5i (As := [.int x1]) C (c_X5_hashFlow l g bd u102.2.2.1 x1 _ h) v_X5_hashFlow ml7_193 rfl ⟨Nat.le_of_ble_eq_true rfl, Nat.le_of_ble_eq_true rfl⟩ ⟨Nat.le_of_ble_eq_true rfl, Nat.le_of_ble_eq_true rfl⟩ (Nat.le_of_ble_eq_true rfl) rfl dX7_hashOf_13 ?_
    intro r104 v105 h
    refine stT (tN u102 (v105)) (fun u106 eu106 => ?_)
    have h := h u106 eu106
    refine z_goto C dX7_hashOf_16 (tgt := 20) (by decide) ?_
    refine z_lv (lv1 := [(0, .ref (ma 0))]) [0] rfl ?_
    exact b_X7_hashOf_20 C hr ma ha bd Q u106 r104 h
abbrev j_X7_aim (p : Program) (l : Launch) (e : Env) (s : State) (m : MethodId) (args : Array Value) (below : List Frame) (meth : Method) (c : Code) (g : zG) (A : Nat → Prop) (ma ha : Nat → Nat) (bd : Nat → Nat → Nat) (Q : Int32 → TS → Prop) (u : TS) (k n : Nat) (pc : Nat) (lv : List (Nat × Value)) (st : List Value) : Prop := zJ p l e (zR 4 0 0) s m args below meth c g A 5 (zQi below args s g A 0 0 (wT g ma ha bd) Q) (wT g ma ha bd u) k n pc lv st
def wp_X7_aim_15 (Q : Int32 → TS → Prop) (u : TS) : Prop :=
  Q (-1) u
set_option maxRecDepth 20000 in
theorem b_X7_aim_15 (C : zC p s m args meth c g A cX7_aim RX7 5) (hr : meth.sig.returnType = (some .int)) (ma ha : Nat → Nat) (bd : Nat → Nat → Nat) (Q : Int32 → TS → Prop) (u : TS) (h : wp_X7_aim_15 Q u) : j_X7_aim p l e s m args below meth c g A ma ha bd Q u 0 0 15 [(0, .ref (ma 0))] [] := by
  unfold wp_X7_aim_15 at h
  refine z_iconst (v := (-1)) C dX7_aim_15 (by decide) ?_
  exact z_iret C hr u rfl h dX7_aim_16
def wp_X7_aim_53 (Q : Int32 → TS → Prop) (B53 : TS → Int32 → Int32 → Int32 → Prop) (u : TS) (x2 : Int32) (x3 : Int32) (x4 : Int32) : Prop :=
  ((256 ≤ x4 → Q (-1) u) ∧ (¬ 256 ≤ x4 → wp_X2_part (u.2.2.1 1) 2 x4 (fun r117 v118 => ∀ u119 : TS, u119 = tN u (va_up u.2.2.1 1 v118) → wp_X7_entryOfHash (x3 ^^^ r117) (fun r120 => ((¬ r120 = x2 → ∀ x122 : Int32, x122 = x4 + 1 → B53 u119 x2 x3 x122) ∧ (r120 = x2 → Q x4 u119))))))
set_option maxRecDepth 20000 in
theorem b_X7_aim_53 (C : zC p s m args meth c g A cX7_aim RX7 5) (hr : meth.sig.returnType = (some .int)) (ma ha : Nat → Nat) (bd : Nat → Nat → Nat) (Q : Int32 → TS → Prop) (B53 : TS → Int32 → Int32 → Int32 → Prop) (hB53 : ∀ (u : TS) (x2 : Int32) (x3 : Int32) (x4 : Int32), B53 u x2 x3 x4 → j_X7_aim p l e s m args below meth c g A ma ha bd Q u 0 0 53 [(0, .ref (ma 0)), (2, .int x2), (3, .int x3), (4, .int x4)] []) (u : TS) (x2 : Int32) (x3 : Int32) (x4 : Int32) (h : wp_X7_aim_53 Q B53 u x2 x3 x4) : j_X7_aim p l e s m args below meth c g A ma ha bd Q u 0 0 53 [(0, .ref (ma 0)), (2, .int x2), (3, .int x3), (4, .int x4)] [] := by
  unfold wp_X7_aim_53 at h
  refine z_iload C dX7_aim_53 3 rfl ?_
  refine z_sipush (v := 256) C dX7_aim_55 (by decide) ?_
  refine z_icmp_ge C dX7_aim_58 (tgt := 92) (by decide) (fun hc116 => ?_) (fun hc116 => ?_)
  · have h := h.1 hc116
    refine z_iconst (v := (-1)) C dX7_aim_92 (by decide) ?_
    exact z_iret C hr u rfl h dX7_aim_93
  · have h := h.2 hc116
    refine z_iload_n C dX7_aim_61 rfl 2 rfl ?_
    refine z_aload_n C dX7_aim_62 rfl 0 rfl ?_
    refine g7_now C fl7_10 dX7_aim_63 ?_
    refine Tg5_key C fl7_46 dX7_aim_66 ?_
    refine z_iconst (v := 2) C dX7_aim_69 (by decide) ?_
    refine z_iload C dX7_aim_70 3 rfl ?_
    refine Tc2i (As := [.int 2, .int x4]) C (c_X2_part l g (bd 1) (u.2.2.1 1) 2 x4 _ h) v_X2_part ml7_249 rfl ⟨Nat.le_of_ble_eq_true rfl, Nat.le_of_ble_eq_true rfl⟩ ⟨Nat.le_of_ble_eq_true rfl, Nat.le_of_ble_eq_true rfl⟩ (Nat.le_of_ble_eq_true rfl) rfl dX7_aim_72 ?_
    intro r117 v118 h
    refine stT (tN u (va_up u.2.2.1 1 v118)) (fun u119 eu119 => ?_)
    have h := h u119 eu119
    refine z_ixor C dX7_aim_75 ?_
    refine cSi (As := [.int (x3 ^^^ r117)]) C (c_X7_entryOfHash l g (x3 ^^^ r117) _ h) s_X7_entryOfHash ml7_252 ⟨Nat.le_of_ble_eq_true rfl, Nat.le_of_ble_eq_true rfl⟩ ⟨Nat.le_of_ble_eq_true rfl, Nat.le_of_ble_eq_true rfl⟩ (Nat.le_of_ble_eq_true rfl) rfl dX7_aim_76 ?_
    intro r120 h
    refine z_iload_n C dX7_aim_79 rfl 1 rfl ?_
    refine z_icmp_ne C dX7_aim_80 (tgt := 86) (by decide) (fun hc121 => ?_) (fun hc121 => ?_)
    · have h := h.1 hc121
      obtain ⟨x122, ex122⟩ : ∃ y : Int32, y = x4 + 1 := ⟨_, rfl⟩
      have h := h x122 ex122
      refine z_iinc (v := x122) (lv1 := [(4, .int x122), (0, .ref (ma 0)), (2, .int x2), (3, .int x3)]) C dX7_aim_86 3 rfl (by rw [ex122]; rfl) (by decide) rfl ?_
      refine z_goto C dX7_aim_89 (tgt := 53) (by decide) ?_
      refine z_lv (lv1 := [(0, .ref (ma 0)), (2, .int x2), (3, .int x3), (4, .int x122)]) [1, 2, 3, 0] rfl ?_
      exact hB53 u119 x2 x3 x122 h
    · have h := h.2 hc121
      refine z_iload C dX7_aim_83 3 rfl ?_
      exact z_iret C hr u119 rfl h dX7_aim_85
theorem l_X7_aim_53 (C : zC p s m args meth c g A cX7_aim RX7 5) (hr : meth.sig.returnType = (some .int)) (ma ha : Nat → Nat) (bd : Nat → Nat → Nat) (Q : Int32 → TS → Prop) : ∀ (n : Nat) (u : TS) (x2 : Int32) (x3 : Int32) (x4 : Int32), zit4 (wp_X7_aim_53 Q) n u x2 x3 x4 → j_X7_aim p l e s m args below meth c g A ma ha bd Q u 0 0 53 [(0, .ref (ma 0)), (2, .int x2), (3, .int x3), (4, .int x4)] [] := by
  intro n
  induction n with
  | zero => exact fun u x2 x3 x4 h => h.elim
  | succ n ih => exact fun u x2 x3 x4 h => b_X7_aim_53 C hr ma ha bd Q (zit4 (wp_X7_aim_53 Q) n) ih u x2 x3 x4 h
def wp_X7_aim (u : TS) (x1 : Int32) (x2 : Int32) (Q : Int32 → TS → Prop) : Prop :=
  wp_X7_isFlow u x1 (fun r101 u102 => ((r101 = 0 → wp_X7_aim_15 Q u102) ∧ (¬ r101 = 0 → wp_X7_isEntry x2 (fun r104 => ((¬ r104 = 0 → wp_X5_hashFlow u102.2.2.1 x1 (fun r106 v107 => ∀ u108 : TS, u108 = tN u102 (v107) → wp_X0_get (u108.2.2.1 2) 2 x1 (fun r109 v110 => ∀ u111 : TS, u111 = tN u108 (va_up u108.2.2.1 2 v110) → wp_X2_part (u111.2.2.1 1) 2 r109 (fun r112 v113 => ∀ u114 : TS, u114 = tN u111 (va_up u111.2.2.1 1 v113) → ∀ x115 : Int32, x115 = r106 ^^^ r112 → (∃ n, zit4 (wp_X7_aim_53 Q) n u114 x2 x115 0))))) ∧ (r104 = 0 → wp_X7_aim_15 Q u102))))))
set_option maxRecDepth 20000 in
theorem c_X7_aim (l : Launch) (g : zG) (ma ha : Nat → Nat) (bd : Nat → Nat → Nat) (u : TS) (x1 : Int32) (x2 : Int32) (Q : Int32 → TS → Prop) (h : wp_X7_aim u x1 x2 Q) : zMi l yX7_aim cX7_aim 5 (some .int) 4 0 0 g [.ref (ma 0), .int x1, .int x2] (wT g ma ha bd u) (wT g ma ha bd) Q := by
  refine zMi_of RX7 (by decide) rfl [(0, .ref (ma 0)), (1, .int x1), (2, .int x2)] rfl (Nat.le_of_ble_eq_true rfl) (fun p e s m args below meth c A C hr hnm => ?_)
  unfold wp_X7_aim at h
  refine z_aload_n C dX7_aim_0 rfl 0 rfl ?_
  refine z_iload_n C dX7_aim_1 rfl 1 rfl ?_
  refine c7i (As := [.int x1]) C (c_X7_isFlow l g ma ha bd u x1 _ h) v_X7_isFlow ml7_105 rfl ⟨Nat.le_of_ble_eq_true rfl, Nat.le_of_ble_eq_true rfl⟩ ⟨Nat.le_of_ble_eq_true rfl, Nat.le_of_ble_eq_true rfl⟩ (Nat.le_of_ble_eq_true rfl) rfl dX7_aim_2 ?_
  intro r101 u102 h
  refine z_if_eq C dX7_aim_5 (tgt := 15) (by decide) (fun hc103 => ?_) (fun hc103 => ?_)
  · have h := h.1 hc103
    refine z_lv (lv1 := [(0, .ref (ma 0))]) [0] rfl ?_
    exact b_X7_aim_15 C hr ma ha bd Q u102 h
  · have h := h.2 hc103
    refine z_iload_n C dX7_aim_8 rfl 2 rfl ?_
    refine cSi (As := [.int x2]) C (c_X7_isEntry l g x2 _ h) s_X7_isEntry ml7_83 ⟨Nat.le_of_ble_eq_true rfl, Nat.le_of_ble_eq_true rfl⟩ ⟨Nat.le_of_ble_eq_true rfl, Nat.le_of_ble_eq_true rfl⟩ (Nat.le_of_ble_eq_true rfl) rfl dX7_aim_9 ?_
    intro r104 h
    refine z_if_ne C dX7_aim_12 (tgt := 17) (by decide) (fun hc105 => ?_) (fun hc105 => ?_)
    · have h := h.1 hc105
      refine z_aload_n C dX7_aim_17 rfl 0 rfl ?_
      refine g7_now C fl7_10 dX7_aim_18 ?_
      refine z_iload_n C dX7_aim_21 rfl 1 rfl ?_
      refine Tc5i (As := [.int x1]) C (c_X5_hashFlow l g bd u102.2.2.1 x1 _ h) v_X5_hashFlow ml7_193 rfl ⟨Nat.le_of_ble_eq_true rfl, Nat.le_of_ble_eq_true rfl⟩ ⟨Nat.le_of_ble_eq_true rfl, Nat.le_of_ble_eq_true rfl⟩ (Nat.le_of_ble_eq_true rfl) rfl dX7_aim_22 ?_
      intro r106 v107 h
      refine stT (tN u102 (v107)) (fun u108 eu108 => ?_)
      have h := h u108 eu108
      refine z_aload_n C dX7_aim_25 rfl 0 rfl ?_
      refine g7_now C fl7_10 dX7_aim_26 ?_
      refine Tg5_key C fl7_46 dX7_aim_29 ?_
      refine z_iconst (v := 2) C dX7_aim_32 (by decide) ?_
      refine z_aload_n C dX7_aim_33 rfl 0 rfl ?_
      refine g7_now C fl7_10 dX7_aim_34 ?_
      refine Tg5_flows C fl7_64 dX7_aim_37 ?_
      refine z_iconst (v := 2) C dX7_aim_40 (by decide) ?_
      refine z_iload_n C dX7_aim_41 rfl 1 rfl ?_
      refine Tc0i (As := [.int 2, .int x1]) C (c_X0_get l g (bd 2) (u108.2.2.1 2) 2 x1 _ h) v_X0_get ml7_108 rfl ⟨Nat.le_of_ble_eq_true rfl, Nat.le_of_ble_eq_true rfl⟩ ⟨Nat.le_of_ble_eq_true rfl, Nat.le_of_ble_eq_true rfl⟩ (Nat.le_of_ble_eq_true rfl) rfl dX7_aim_42 ?_
      intro r109 v110 h
      refine stT (tN u108 (va_up u108.2.2.1 2 v110)) (fun u111 eu111 => ?_)
      have h := h u111 eu111
      refine Tc2i (As := [.int 2, .int r109]) C (c_X2_part l g (bd 1) (u111.2.2.1 1) 2 r109 _ h) v_X2_part ml7_249 rfl ⟨Nat.le_of_ble_eq_true rfl, Nat.le_of_ble_eq_true rfl⟩ ⟨Nat.le_of_ble_eq_true rfl, Nat.le_of_ble_eq_true rfl⟩ (Nat.le_of_ble_eq_true rfl) rfl dX7_aim_45 ?_
      intro r112 v113 h
      refine stT (tN u111 (va_up u111.2.2.1 1 v113)) (fun u114 eu114 => ?_)
      have h := h u114 eu114
      refine z_ixor C dX7_aim_48 ?_
      refine z_topi (fun x115 ex115 => ?_)
      have h := h x115 ex115
      refine z_istore_n (lv1 := [(3, .int x115), (0, .ref (ma 0)), (1, .int x1), (2, .int x2)]) C dX7_aim_49 rfl (by decide) rfl ?_
      refine z_iconst (v := 0) C dX7_aim_50 (by decide) ?_
      refine z_istore (lv1 := [(4, .int 0), (3, .int x115), (0, .ref (ma 0)), (1, .int x1), (2, .int x2)]) C dX7_aim_51 (by decide) rfl ?_
      refine z_lv (lv1 := [(0, .ref (ma 0)), (2, .int x2), (3, .int x115), (4, .int 0)]) [2, 4, 1, 0] rfl ?_
      obtain ⟨n9, h⟩ := h
      exact l_X7_aim_53 C hr ma ha bd Q n9 u114 x2 x115 0 h
    · have h := h.2 hc105
      refine z_lv (lv1 := [(0, .ref (ma 0))]) [0] rfl ?_
      exact b_X7_aim_15 C hr ma ha bd Q u102 h
abbrev j_X7_alike (p : Program) (l : Launch) (e : Env) (s : State) (m : MethodId) (args : Array Value) (below : List Frame) (meth : Method) (c : Code) (g : zG) (A : Nat → Prop) (ma ha : Nat → Nat) (bd : Nat → Nat → Nat) (Q : Int32 → TS → Prop) (u : TS) (k n : Nat) (pc : Nat) (lv : List (Nat × Value)) (st : List Value) : Prop := zJ p l e (zR 4 0 0) s m args below meth c g A 3 (zQi below args s g A 0 0 (wT g ma ha bd) Q) (wT g ma ha bd u) k n pc lv st
def wp_X7_alike_56 (Q : Int32 → TS → Prop) (B38 : TS → Int32 → Prop) (B56 : TS → Int32 → Int32 → Prop) (u : TS) (x1 : Int32) (x2 : Int32) : Prop :=
  (((u.2.2.1 2).1 0 0 ≤ x2 → ∀ x105 : Int32, x105 = x1 + 1 → B38 u x105) ∧ (¬ (u.2.2.1 2).1 0 0 ≤ x2 → vp_in x2 24 ∧ vp_in x1 24 ∧ ((¬ u.1.1 6 (zn x2) = u.1.1 6 (zn x1) → ∀ x109 : Int32, x109 = x2 + 1 → B56 u x1 x109) ∧ (u.1.1 6 (zn x2) = u.1.1 6 (zn x1) → Q ((100 * x1) + x2) u))))
set_option maxRecDepth 20000 in
theorem b_X7_alike_56 (C : zC p s m args meth c g A cX7_alike RX7 3) (hr : meth.sig.returnType = (some .int)) (ma ha : Nat → Nat) (bd : Nat → Nat → Nat) (Q : Int32 → TS → Prop) (B38 : TS → Int32 → Prop) (hB38 : ∀ (u : TS) (x1 : Int32), B38 u x1 → j_X7_alike p l e s m args below meth c g A ma ha bd Q u 0 0 38 [(0, .ref (ma 0)), (1, .int x1)] []) (B56 : TS → Int32 → Int32 → Prop) (hB56 : ∀ (u : TS) (x1 : Int32) (x2 : Int32), B56 u x1 x2 → j_X7_alike p l e s m args below meth c g A ma ha bd Q u 0 0 56 [(0, .ref (ma 0)), (1, .int x1), (2, .int x2)] []) (u : TS) (x1 : Int32) (x2 : Int32) (h : wp_X7_alike_56 Q B38 B56 u x1 x2) : j_X7_alike p l e s m args below meth c g A ma ha bd Q u 0 0 56 [(0, .ref (ma 0)), (1, .int x1), (2, .int x2)] [] := by
  unfold wp_X7_alike_56 at h
  refine z_iload_n C dX7_alike_56 rfl 2 rfl ?_
  refine z_aload_n C dX7_alike_57 rfl 0 rfl ?_
  refine g7_now C fl7_10 dX7_alike_58 ?_
  refine Tg5_flows C fl7_64 dX7_alike_61 ?_
  refine Tg0_number C fl7_77 dX7_alike_64 ?_
  refine z_icmp_ge C dX7_alike_67 (tgt := 98) (by decide) (fun hc104 => ?_) (fun hc104 => ?_)
  · have h := h.1 hc104
    obtain ⟨x105, ex105⟩ : ∃ y : Int32, y = x1 + 1 := ⟨_, rfl⟩
    have h := h x105 ex105
    refine z_iinc (v := x105) (lv1 := [(1, .int x105), (0, .ref (ma 0)), (2, .int x2)]) C dX7_alike_98 1 rfl (by rw [ex105]; rfl) (by decide) rfl ?_
    refine z_goto C dX7_alike_101 (tgt := 38) (by decide) ?_
    refine z_lv (lv1 := [(0, .ref (ma 0)), (1, .int x105)]) [1, 0] rfl ?_
    exact hB38 u x105 h
  · have h := h.2 hc104
    refine z_aload_n C dX7_alike_70 rfl 0 rfl ?_
    refine g7_ofEachFlow C fl7_31 dX7_alike_71 ?_
    refine z_iload_n C dX7_alike_74 rfl 2 rfl ?_
    obtain ⟨hi106, h⟩ := h
    refine l7_ofEachFlow C hi106 dX7_alike_75 ?_
    refine z_aload_n C dX7_alike_76 rfl 0 rfl ?_
    refine g7_ofEachFlow C fl7_31 dX7_alike_77 ?_
    refine z_iload_n C dX7_alike_80 rfl 1 rfl ?_
    obtain ⟨hi107, h⟩ := h
    refine l7_ofEachFlow C hi107 dX7_alike_81 ?_
    refine z_icmp_ne C dX7_alike_82 (tgt := 92) (by decide) (fun hc108 => ?_) (fun hc108 => ?_)
    · have h := h.1 hc108
      obtain ⟨x109, ex109⟩ : ∃ y : Int32, y = x2 + 1 := ⟨_, rfl⟩
      have h := h x109 ex109
      refine z_iinc (v := x109) (lv1 := [(2, .int x109), (0, .ref (ma 0)), (1, .int x1)]) C dX7_alike_92 2 rfl (by rw [ex109]; rfl) (by decide) rfl ?_
      refine z_goto C dX7_alike_95 (tgt := 56) (by decide) ?_
      refine z_lv (lv1 := [(0, .ref (ma 0)), (1, .int x1), (2, .int x109)]) [1, 2, 0] rfl ?_
      exact hB56 u x1 x109 h
    · have h := h.2 hc108
      refine z_bipush (v := 100) C dX7_alike_85 (by decide) ?_
      refine z_iload_n C dX7_alike_87 rfl 1 rfl ?_
      refine z_imul C dX7_alike_88 ?_
      refine z_iload_n C dX7_alike_89 rfl 2 rfl ?_
      refine z_iadd C dX7_alike_90 ?_
      exact z_iret C hr u rfl h dX7_alike_91
theorem l_X7_alike_56 (C : zC p s m args meth c g A cX7_alike RX7 3) (hr : meth.sig.returnType = (some .int)) (ma ha : Nat → Nat) (bd : Nat → Nat → Nat) (Q : Int32 → TS → Prop) (B38 : TS → Int32 → Prop) (hB38 : ∀ (u : TS) (x1 : Int32), B38 u x1 → j_X7_alike p l e s m args below meth c g A ma ha bd Q u 0 0 38 [(0, .ref (ma 0)), (1, .int x1)] []) : ∀ (n : Nat) (u : TS) (x1 : Int32) (x2 : Int32), zit3 (wp_X7_alike_56 Q B38) n u x1 x2 → j_X7_alike p l e s m args below meth c g A ma ha bd Q u 0 0 56 [(0, .ref (ma 0)), (1, .int x1), (2, .int x2)] [] := by
  intro n
  induction n with
  | zero => exact fun u x1 x2 h => h.elim
  | succ n ih => exact fun u x1 x2 h => b_X7_alike_56 C hr ma ha bd Q B38 hB38 (zit3 (wp_X7_alike_56 Q B38) n) ih u x1 x2 h
def wp_X7_alike_38 (Q : Int32 → TS → Prop) (B38 : TS → Int32 → Prop) (u : TS) (x1 : Int32) : Prop :=
  (((u.2.2.1 2).1 0 0 ≤ x1 → Q (-1) u) ∧ (¬ (u.2.2.1 2).1 0 0 ≤ x1 → ∀ x103 : Int32, x103 = x1 + 1 → (∃ n, zit3 (wp_X7_alike_56 Q B38) n u x1 x103)))
set_option maxRecDepth 20000 in
theorem b_X7_alike_38 (C : zC p s m args meth c g A cX7_alike RX7 3) (hr : meth.sig.returnType = (some .int)) (ma ha : Nat → Nat) (bd : Nat → Nat → Nat) (Q : Int32 → TS → Prop) (B38 : TS → Int32 → Prop) (hB38 : ∀ (u : TS) (x1 : Int32), B38 u x1 → j_X7_alike p l e s m args below meth c g A ma ha bd Q u 0 0 38 [(0, .ref (ma 0)), (1, .int x1)] []) (u : TS) (x1 : Int32) (h : wp_X7_alike_38 Q B38 u x1) : j_X7_alike p l e s m args below meth c g A ma ha bd Q u 0 0 38 [(0, .ref (ma 0)), (1, .int x1)] [] := by
  unfold wp_X7_alike_38 at h
  refine z_iload_n C dX7_alike_38 rfl 1 rfl ?_
  refine z_aload_n C dX7_alike_39 rfl 0 rfl ?_
  refine g7_now C fl7_10 dX7_alike_40 ?_
  refine Tg5_flows C fl7_64 dX7_alike_43 ?_
  refine Tg0_number C fl7_77 dX7_alike_46 ?_
  refine z_icmp_ge C dX7_alike_49 (tgt := 104) (by decide) (fun hc102 => ?_) (fun hc102 => ?_)
  · have h := h.1 hc102
    refine z_iconst (v := (-1)) C dX7_alike_104 (by decide) ?_
    exact z_iret C hr u rfl h dX7_alike_105
  · have h := h.2 hc102
    refine z_iload_n C dX7_alike_52 rfl 1 rfl ?_
    refine z_iconst (v := 1) C dX7_alike_53 (by decide) ?_
    refine z_iadd C dX7_alike_54 ?_
    refine z_topi (fun x103 ex103 => ?_)
    have h := h x103 ex103
    refine z_istore_n (lv1 := [(2, .int x103), (0, .ref (ma 0)), (1, .int x1)]) C dX7_alike_55 rfl (by decide) rfl ?_
    refine z_lv (lv1 := [(0, .ref (ma 0)), (1, .int x1), (2, .int x103)]) [1, 2, 0] rfl ?_
    obtain ⟨n9, h⟩ := h
    exact l_X7_alike_56 C hr ma ha bd Q B38 hB38 n9 u x1 x103 h
theorem l_X7_alike_38 (C : zC p s m args meth c g A cX7_alike RX7 3) (hr : meth.sig.returnType = (some .int)) (ma ha : Nat → Nat) (bd : Nat → Nat → Nat) (Q : Int32 → TS → Prop) : ∀ (n : Nat) (u : TS) (x1 : Int32), zit2 (wp_X7_alike_38 Q) n u x1 → j_X7_alike p l e s m args below meth c g A ma ha bd Q u 0 0 38 [(0, .ref (ma 0)), (1, .int x1)] [] := by
  intro n
  induction n with
  | zero => exact fun u x1 h => h.elim
  | succ n ih => exact fun u x1 h => b_X7_alike_38 C hr ma ha bd Q (zit2 (wp_X7_alike_38 Q) n) ih u x1 h
def wp_X7_alike_2 (Q : Int32 → TS → Prop) (B2 : TS → Int32 → Prop) (u : TS) (x1 : Int32) : Prop :=
  (((u.2.2.1 2).1 0 0 ≤ x1 → (∃ n, zit2 (wp_X7_alike_38 Q) n u 0)) ∧ (¬ (u.2.2.1 2).1 0 0 ≤ x1 → wp_X5_hashFlow u.2.2.1 x1 (fun r110 v111 => ∀ u112 : TS, u112 = tN u (v111) → vp_in x1 24 ∧ ∀ u114 : TS, u114 = tM u112 (rI u112.1 6 (upd (u112.1.1 6) (zn x1) r110)) → ∀ x115 : Int32, x115 = x1 + 1 → B2 u114 x115)))
set_option maxRecDepth 20000 in
theorem b_X7_alike_2 (C : zC p s m args meth c g A cX7_alike RX7 3) (hr : meth.sig.returnType = (some .int)) (ma ha : Nat → Nat) (bd : Nat → Nat → Nat) (Q : Int32 → TS → Prop) (B2 : TS → Int32 → Prop) (hB2 : ∀ (u : TS) (x1 : Int32), B2 u x1 → j_X7_alike p l e s m args below meth c g A ma ha bd Q u 0 0 2 [(0, .ref (ma 0)), (1, .int x1)] []) (u : TS) (x1 : Int32) (h : wp_X7_alike_2 Q B2 u x1) : j_X7_alike p l e s m args below meth c g A ma ha bd Q u 0 0 2 [(0, .ref (ma 0)), (1, .int x1)] [] := by
  unfold wp_X7_alike_2 at h
  refine z_iload_n C dX7_alike_2 rfl 1 rfl ?_
  refine z_aload_n C dX7_alike_3 rfl 0 rfl ?_
  refine g7_now C fl7_10 dX7_alike_4 ?_
  refine Tg5_flows C fl7_64 dX7_alike_7 ?_
  refine Tg0_number C fl7_77 dX7_alike_10 ?_
  refine z_icmp_ge C dX7_alike_13 (tgt := 36) (by decide) (fun hc101 => ?_) (fun hc101 => ?_)
  · have h := h.1 hc101
    refine z_iconst (v := 0) C dX7_alike_36 (by decide) ?_
    refine z_istore_n (lv1 := [(1, .int 0), (0, .ref (ma 0))]) C dX7_alike_37 rfl (by decide) rfl ?_
    refine z_lv (lv1 := [(0, .ref (ma 0)), (1, .int 0)]) [1, 0] rfl ?_
    obtain ⟨n9, h⟩ := h
    exact l_X7_alike_38 C hr ma ha bd Q n9 u 0 h
  · have h := h.2 hc101
    refine z_aload_n C dX7_alike_16 rfl 0 rfl ?_
    refine g7_ofEachFlow C fl7_31 dX7_alike_17 ?_
    refine z_iload_n C dX7_alike_20 rfl 1 rfl ?_
    refine z_aload_n C dX7_alike_21 rfl 0 rfl ?_
    refine g7_now C fl7_10 dX7_alike_22 ?_
    refine z_iload_n C dX7_alike_25 rfl 1 rfl ?_
    refine Tc5i (As := [.int x1]) C (c_X5_hashFlow l g bd u.2.2.1 x1 _ h) v_X5_hashFlow ml7_193 rfl ⟨Nat.le_of_ble_eq_true rfl, Nat.le_of_ble_eq_true rfl⟩ ⟨Nat.le_of_ble_eq_true rfl, Nat.le_of_ble_eq_true rfl⟩ (Nat.le_of_ble_eq_true rfl) rfl dX7_alike_26 ?_
    intro r110 v111 h
    refine stT (tN u (v111)) (fun u112 eu112 => ?_)
    have h := h u112 eu112
    obtain ⟨hi113, h⟩ := h
    refine s7_ofEachFlow C hi113 dX7_alike_29 ?_
    refine stT (tM u112 (rI u112.1 6 (upd (u112.1.1 6) (zn x1) r110))) (fun u114 eu114 => ?_)
    have h := h u114 eu114
    obtain ⟨x115, ex115⟩ : ∃ y : Int32, y = x1 + 1 := ⟨_, rfl⟩
    have h := h x115 ex115
    refine z_iinc (v := x115) (lv1 := [(1, .int x115), (0, .ref (ma 0))]) C dX7_alike_30 1 rfl (by rw [ex115]; rfl) (by decide) rfl ?_
    refine z_goto C dX7_alike_33 (tgt := 2) (by decide) ?_
    refine z_lv (lv1 := [(0, .ref (ma 0)), (1, .int x115)]) [1, 0] rfl ?_
    exact hB2 u114 x115 h
theorem l_X7_alike_2 (C : zC p s m args meth c g A cX7_alike RX7 3) (hr : meth.sig.returnType = (some .int)) (ma ha : Nat → Nat) (bd : Nat → Nat → Nat) (Q : Int32 → TS → Prop) : ∀ (n : Nat) (u : TS) (x1 : Int32), zit2 (wp_X7_alike_2 Q) n u x1 → j_X7_alike p l e s m args below meth c g A ma ha bd Q u 0 0 2 [(0, .ref (ma 0)), (1, .int x1)] [] := by
  intro n
  induction n with
  | zero => exact fun u x1 h => h.elim
  | succ n ih => exact fun u x1 h => b_X7_alike_2 C hr ma ha bd Q (zit2 (wp_X7_alike_2 Q) n) ih u x1 h
def wp_X7_alike (u : TS) (Q : Int32 → TS → Prop) : Prop :=
  (∃ n, zit2 (wp_X7_alike_2 Q) n u 0)
set_option maxRecDepth 20000 in
theorem c_X7_alike (l : Launch) (g : zG) (ma ha : Nat → Nat) (bd : Nat → Nat → Nat) (u : TS) (Q : Int32 → TS → Prop) (h : wp_X7_alike u Q) : zMi l yX7_alike cX7_alike 3 (some .int) 4 0 0 g [.ref (ma 0)] (wT g ma ha bd u) (wT g ma ha bd) Q := by
  refine zMi_of RX7 (by decide) rfl [(0, .ref (ma 0))] rfl (Nat.le_of_ble_eq_true rfl) (fun p e s m args below meth c A C hr hnm => ?_)
  unfold wp_X7_alike at h
  refine z_iconst (v := 0) C dX7_alike_0 (by decide) ?_
  refine z_istore_n (lv1 := [(1, .int 0), (0, .ref (ma 0))]) C dX7_alike_1 rfl (by decide) rfl ?_
  refine z_lv (lv1 := [(0, .ref (ma 0)), (1, .int 0)]) [1, 0] rfl ?_
  obtain ⟨n9, h⟩ := h
  exact l_X7_alike_2 C hr ma ha bd Q n9 u 0 h
abbrev j_X7_load (p : Program) (l : Launch) (e : Env) (s : State) (m : MethodId) (args : Array Value) (below : List Frame) (meth : Method) (c : Code) (g : zG) (A : Nat → Prop) (ma ha : Nat → Nat) (bd : Nat → Nat → Nat) (Q : Int32 → TS → Prop) (u : TS) (k n : Nat) (pc : Nat) (lv : List (Nat × Value)) (st : List Value) : Prop := zJ p l e (zR 5 26 1308) s m args below meth c g A 3 (zQi below args s g A 26 1308 (wT g ma ha bd) Q) (wT g ma ha bd u) k n pc lv st
def wp_X7_load (u : TS) (x1 : Int32) (Q : Int32 → TS → Prop) : Prop :=
  ((x1 = 0 → wp_X6_mostHits (u.2.2.1 3) (fun r102 v103 => ∀ u104 : TS, u104 = tN u (va_up u.2.2.1 3 v103) → Q r102 u104)) ∧ (x1 = 1 → wp_X6_leastHits (u.2.2.1 3) (fun r106 v107 => ∀ u108 : TS, u108 = tN u (va_up u.2.2.1 3 v107) → Q r106 u108)) ∧ (x1 = 2 → wp_X7_paperOfNow u (fun pd110 ps111 => wp_X6_deal (ps111 3) (fun r112 v113 => ∀ ps114 : Nat → RS, ps114 = va_up ps111 3 v113 → wp_X6_mostHits (ps114 3) (fun r115 v116 => ∀ ps117 : Nat → RS, ps117 = va_up ps114 3 v116 → Q r115 (tP u pd110 ps117))))) ∧ (¬ x1 = 0 → ¬ x1 = 1 → ¬ x1 = 2 → Q (-1) u))
set_option maxRecDepth 20000 in
theorem c_X7_load (l : Launch) (g : zG) (ma ha : Nat → Nat) (bd : Nat → Nat → Nat) (u : TS) (x1 : Int32) (Q : Int32 → TS → Prop) (h : wp_X7_load u x1 Q) : zMi l yX7_load cX7_load 3 (some .int) 5 26 1308 g [.ref (ma 0), .int x1] (wT g ma ha bd u) (wT g ma ha bd) Q := by
  refine zMi_of RX7 (by decide) rfl [(0, .ref (ma 0)), (1, .int x1)] rfl (Nat.le_of_ble_eq_true rfl) (fun p e s m args below meth c A C hr hnm => ?_)
  unfold wp_X7_load at h
  refine z_iload_n C dX7_load_0 rfl 1 rfl ?_
  by_cases hx101 : x1 = 0
  · have h := h.1 hx101
    refine z_tIn C dX7_load_1 (0) (by rw [hx101]; decide) (by decide) (by decide) rfl (tgt := 28) (by decide) ?_
    refine z_aload_n C dX7_load_28 rfl 0 rfl ?_
    refine g7_now C fl7_10 dX7_load_29 ?_
    refine Tg5_table C fl7_89 dX7_load_32 ?_
    refine Tc6i (As := []) C (c_X6_mostHits l g (bd 3) (u.2.2.1 3) _ h) v_X6_mostHits ml7_265 rfl ⟨Nat.le_of_ble_eq_true rfl, Nat.le_of_ble_eq_true rfl⟩ ⟨Nat.le_of_ble_eq_true rfl, Nat.le_of_ble_eq_true rfl⟩ (Nat.le_of_ble_eq_true rfl) rfl dX7_load_35 ?_
    intro r102 v103 h
    refine stT (tN u (va_up u.2.2.1 3 v103)) (fun u104 eu104 => ?_)
    have h := h u104 eu104
    refine z_wide (k1 := 26) (n1 := 1308) (Nat.le_of_ble_eq_true rfl) (Nat.le_of_ble_eq_true rfl) ?_
    exact z_iret C hr u104 rfl h dX7_load_38
  have h := h.2
  by_cases hx105 : x1 = 1
  · have h := h.1 hx105
    refine z_tIn C dX7_load_1 (1) (by rw [hx105]; decide) (by decide) (by decide) rfl (tgt := 39) (by decide) ?_
    refine z_aload_n C dX7_load_39 rfl 0 rfl ?_
    refine g7_now C fl7_10 dX7_load_40 ?_
    refine Tg5_table C fl7_89 dX7_load_43 ?_
    refine Tc6i (As := []) C (c_X6_leastHits l g (bd 3) (u.2.2.1 3) _ h) v_X6_leastHits ml7_268 rfl ⟨Nat.le_of_ble_eq_true rfl, Nat.le_of_ble_eq_true rfl⟩ ⟨Nat.le_of_ble_eq_true rfl, Nat.le_of_ble_eq_true rfl⟩ (Nat.le_of_ble_eq_true rfl) rfl dX7_load_46 ?_
    intro r106 v107 h
    refine stT (tN u (va_up u.2.2.1 3 v107)) (fun u108 eu108 => ?_)
    have h := h u108 eu108
    refine z_wide (k1 := 26) (n1 := 1308) (Nat.le_of_ble_eq_true rfl) (Nat.le_of_ble_eq_true rfl) ?_
    exact z_iret C hr u108 rfl h dX7_load_49
  have h := h.2
  by_cases hx109 : x1 = 2
  · have h := h.1 hx109
    refine z_tIn C dX7_load_1 (2) (by rw [hx109]; decide) (by decide) (by decide) rfl (tgt := 50) (by decide) ?_
    refine z_aload_n C dX7_load_50 rfl 0 rfl ?_
    refine c7p C (c_X7_paperOfNow l g ma ha bd u _ h) v_X7_paperOfNow ml7_271 ⟨Nat.le_of_ble_eq_true rfl, Nat.le_of_ble_eq_true rfl⟩ ⟨Nat.le_of_ble_eq_true rfl, Nat.le_of_ble_eq_true rfl⟩ (Nat.le_of_ble_eq_true rfl) dX7_load_51 ?_
    intro pd110 ps111 h
    refine Pg5_table C fl7_89 dX7_load_54 ?_
    refine z_astore_n (lv1 := [(2, .ref (pd110 3 0)), (0, .ref (ma 0)), (1, .int x1)]) C dX7_load_57 rfl (by decide) rfl ?_
    refine z_aload_n C dX7_load_58 rfl 0 rfl ?_
    refine Pc6i (As := []) C (c_X6_deal l g (pd110 3) (ps111 3) _ h) v_X6_deal ml7_98 rfl ⟨Nat.le_of_ble_eq_true rfl, Nat.le_of_ble_eq_true rfl⟩ ⟨Nat.le_of_ble_eq_true rfl, Nat.le_of_ble_eq_true rfl⟩ (Nat.le_of_ble_eq_true rfl) rfl dX7_load_59 ?_
    intro r112 v113 h
    refine stP (va_up ps111 3 v113) (fun ps114 eps114 => ?_)
    have h := h ps114 eps114
    refine z_pop C dX7_load_62 rfl ?_
    refine z_aload_n C dX7_load_63 rfl 0 rfl ?_
    refine Pc6i (As := []) C (c_X6_mostHits l g (pd110 3) (ps114 3) _ h) v_X6_mostHits ml7_265 rfl ⟨Nat.le_of_ble_eq_true rfl, Nat.le_of_ble_eq_true rfl⟩ ⟨Nat.le_of_ble_eq_true rfl, Nat.le_of_ble_eq_true rfl⟩ (Nat.le_of_ble_eq_true rfl) rfl dX7_load_64 ?_
    intro r115 v116 h
    refine stP (va_up ps114 3 v116) (fun ps117 eps117 => ?_)
    have h := h ps117 eps117
    exact z_iret C hr (tP u pd110 ps117) rfl h dX7_load_67
  have h := h.2
  have h := h hx101 hx105 hx109
  have thx101 := lv_neT (a := 0) hx101 (by decide)
  have thx105 := lv_neT (a := 1) hx105 (by decide)
  have thx109 := lv_neT (a := 2) hx109 (by decide)
  refine z_tOut C dX7_load_1 (by omega) (tgt := 68) (by decide) ?_
  refine z_iconst (v := (-1)) C dX7_load_68 (by decide) ?_
  refine z_wide (k1 := 26) (n1 := 1308) (Nat.le_of_ble_eq_true rfl) (Nat.le_of_ble_eq_true rfl) ?_
  exact z_iret C hr u rfl h dX7_load_69
abbrev j_X7_joined (p : Program) (l : Launch) (e : Env) (s : State) (m : MethodId) (args : Array Value) (below : List Frame) (meth : Method) (c : Code) (g : zG) (A : Nat → Prop) (ma ha : Nat → Nat) (bd : Nat → Nat → Nat) (Q : Int32 → TS → Prop) (u : TS) (k n : Nat) (pc : Nat) (lv : List (Nat × Value)) (st : List Value) : Prop := zJ p l e (zR 5 26 1308) s m args below meth c g A 5 (zQi below args s g A 26 1308 (wT g ma ha bd) Q) (wT g ma ha bd u) k n pc lv st
def wp_X7_joined_16 (Q : Int32 → TS → Prop) (u : TS) : Prop :=
  Q (-1) u
set_option maxRecDepth 20000 in
theorem b_X7_joined_16 (C : zC p s m args meth c g A cX7_joined RX7 5) (hr : meth.sig.returnType = (some .int)) (ma ha : Nat → Nat) (bd : Nat → Nat → Nat) (Q : Int32 → TS → Prop) (u : TS) (h : wp_X7_joined_16 Q u) : j_X7_joined p l e s m args below meth c g A ma ha bd Q u 0 0 16 [(0, .ref (ma 0))] [] := by
  unfold wp_X7_joined_16 at h
  refine z_iconst (v := (-1)) C dX7_joined_16 (by decide) ?_
  refine z_wide (k1 := 26) (n1 := 1308) (Nat.le_of_ble_eq_true rfl) (Nat.le_of_ble_eq_true rfl) ?_
  exact z_iret C hr u rfl h dX7_joined_17
def wp_X7_joined_54 (Q : Int32 → TS → Prop) (B54 : TS → (Nat → Nat → Nat) → (Nat → RS) → Int32 → Int32 → Prop) (u : TS) (pd : Nat → Nat → Nat) (ps : Nat → RS) (x1 : Int32) (x4 : Int32) : Prop :=
  vp_in x1 4 ∧ vp_in x1 4 ∧ ((((tP u pd ps).2.2.1 (5 + zn x1)).1 0 0 ≤ x4 → Q ((((ps 4).2 1 0) - (((tP u pd ps).2.2.1 4).2 1 0)).toInt32) (tP u pd ps)) ∧ (¬ ((tP u pd ps).2.2.1 (5 + zn x1)).1 0 0 ≤ x4 → wp_X5_takeBatch ps x1 (fun r111 v112 => ∀ ps113 : Nat → RS, ps113 = v112 → ∀ x114 : Int32, x114 = x4 + 16 → B54 u pd ps113 x1 x114)))
set_option maxRecDepth 20000 in
theorem b_X7_joined_54 (C : zC p s m args meth c g A cX7_joined RX7 5) (hr : meth.sig.returnType = (some .int)) (ma ha : Nat → Nat) (bd : Nat → Nat → Nat) (Q : Int32 → TS → Prop) (B54 : TS → (Nat → Nat → Nat) → (Nat → RS) → Int32 → Int32 → Prop) (hB54 : ∀ (u : TS) (pd : Nat → Nat → Nat) (ps : Nat → RS) (x1 : Int32) (x4 : Int32), B54 u pd ps x1 x4 → j_X7_joined p l e s m args below meth c g A ma ha bd Q (tP u pd ps) 26 1308 54 [(0, .ref (ma 0)), (1, .int x1), (3, .ref (pd 0 0)), (4, .int x4)] []) (u : TS) (pd : Nat → Nat → Nat) (ps : Nat → RS) (x1 : Int32) (x4 : Int32) (h : wp_X7_joined_54 Q B54 u pd ps x1 x4) : j_X7_joined p l e s m args below meth c g A ma ha bd Q (tP u pd ps) 26 1308 54 [(0, .ref (ma 0)), (1, .int x1), (3, .ref (pd 0 0)), (4, .int x4)] [] := by
  unfold wp_X7_joined_54 at h
  refine z_iload C dX7_joined_54 3 rfl ?_
  refine z_aload_n C dX7_joined_56 rfl 0 rfl ?_
  refine g7_now C fl7_10 dX7_joined_57 ?_
  refine Tg5_queues C fl7_167 dX7_joined_60 ?_
  refine z_iload_n C dX7_joined_63 rfl 1 rfl ?_
  obtain ⟨hi108, h⟩ := h
  refine Taq C hi108 dX7_joined_64 ?_
  obtain ⟨hi109, h⟩ := h
  refine Tg3_number C hi109 fl7_171 dX7_joined_65 ?_
  refine z_icmp_ge C dX7_joined_68 (tgt := 83) (by decide) (fun hc110 => ?_) (fun hc110 => ?_)
  · have h := h.1 hc110
    refine z_aload_n C dX7_joined_83 rfl 2 rfl ?_
    refine Pg5_segments C fl7_154 dX7_joined_84 ?_
    refine Pg4_totals C fl7_158 dX7_joined_87 ?_
    refine z_iconst (v := 0) C dX7_joined_90 (by decide) ?_
    refine Pln4_totals C 0 (by decide +kernel) (vp_in_iff.mpr (by decide +kernel)) dX7_joined_91 ?_
    refine z_aload_n C dX7_joined_92 rfl 0 rfl ?_
    refine g7_now C fl7_10 dX7_joined_93 ?_
    refine Tg5_segments C fl7_154 dX7_joined_96 ?_
    refine Tg4_totals C fl7_158 dX7_joined_99 ?_
    refine z_iconst (v := 0) C dX7_joined_102 (by decide) ?_
    refine Tln4_totals C 0 (by decide +kernel) (vp_in_iff.mpr (by decide +kernel)) dX7_joined_103 ?_
    refine z_lsub C dX7_joined_104 ?_
    refine z_l2i C dX7_joined_105 ?_
    exact z_iret C hr (tP u pd ps) rfl h dX7_joined_106
  · have h := h.2 hc110
    refine z_aload_n C dX7_joined_71 rfl 2 rfl ?_
    refine z_iload_n C dX7_joined_72 rfl 1 rfl ?_
    refine Pc5i (As := [.int x1]) C (c_X5_takeBatch l g pd ps x1 _ h) v_X5_takeBatch ml7_174 rfl ⟨Nat.le_of_ble_eq_true rfl, Nat.le_of_ble_eq_true rfl⟩ ⟨Nat.le_of_ble_eq_true rfl, Nat.le_of_ble_eq_true rfl⟩ (Nat.le_of_ble_eq_true rfl) rfl dX7_joined_73 ?_
    intro r111 v112 h
    refine stP (v112) (fun ps113 eps113 => ?_)
    have h := h ps113 eps113
    refine z_pop C dX7_joined_76 rfl ?_
    obtain ⟨x114, ex114⟩ : ∃ y : Int32, y = x4 + 16 := ⟨_, rfl⟩
    have h := h x114 ex114
    refine z_iinc (v := x114) (lv1 := [(4, .int x114), (0, .ref (ma 0)), (1, .int x1), (3, .ref (pd 0 0))]) C dX7_joined_77 3 rfl (by rw [ex114]; rfl) (by decide) rfl ?_
    refine z_goto C dX7_joined_80 (tgt := 54) (by decide) ?_
    refine z_lv (lv1 := [(0, .ref (ma 0)), (1, .int x1), (3, .ref (pd 0 0)), (4, .int x114)]) [1, 2, 3, 0] rfl ?_
    exact hB54 u pd ps113 x1 x114 h
theorem l_X7_joined_54 (C : zC p s m args meth c g A cX7_joined RX7 5) (hr : meth.sig.returnType = (some .int)) (ma ha : Nat → Nat) (bd : Nat → Nat → Nat) (Q : Int32 → TS → Prop) : ∀ (n : Nat) (u : TS) (pd : Nat → Nat → Nat) (ps : Nat → RS) (x1 : Int32) (x4 : Int32), zit5 (wp_X7_joined_54 Q) n u pd ps x1 x4 → j_X7_joined p l e s m args below meth c g A ma ha bd Q (tP u pd ps) 26 1308 54 [(0, .ref (ma 0)), (1, .int x1), (3, .ref (pd 0 0)), (4, .int x4)] [] := by
  intro n
  induction n with
  | zero => exact fun u pd ps x1 x4 h => h.elim
  | succ n ih => exact fun u pd ps x1 x4 h => b_X7_joined_54 C hr ma ha bd Q (zit5 (wp_X7_joined_54 Q) n) ih u pd ps x1 x4 h
def wp_X7_joined_51 (Q : Int32 → TS → Prop) (u : TS) (pd : Nat → Nat → Nat) (ps : Nat → RS) (x1 : Int32) : Prop :=
  (∃ n, zit5 (wp_X7_joined_54 Q) n u pd ps x1 0)
set_option maxRecDepth 20000 in
theorem b_X7_joined_51 (C : zC p s m args meth c g A cX7_joined RX7 5) (hr : meth.sig.returnType = (some .int)) (ma ha : Nat → Nat) (bd : Nat → Nat → Nat) (Q : Int32 → TS → Prop) (u : TS) (pd : Nat → Nat → Nat) (ps : Nat → RS) (x1 : Int32) (h : wp_X7_joined_51 Q u pd ps x1) : j_X7_joined p l e s m args below meth c g A ma ha bd Q (tP u pd ps) 26 1308 51 [(0, .ref (ma 0)), (1, .int x1), (3, .ref (pd 0 0))] [] := by
  unfold wp_X7_joined_51 at h
  refine z_iconst (v := 0) C dX7_joined_51 (by decide) ?_
  refine z_istore (lv1 := [(4, .int 0), (0, .ref (ma 0)), (1, .int x1), (3, .ref (pd 0 0))]) C dX7_joined_52 (by decide) rfl ?_
  refine z_lv (lv1 := [(0, .ref (ma 0)), (1, .int x1), (3, .ref (pd 0 0)), (4, .int 0)]) [1, 2, 3, 0] rfl ?_
  obtain ⟨n9, h⟩ := h
  exact l_X7_joined_54 C hr ma ha bd Q n9 u pd ps x1 0 h
def wp_X7_joined_50 (Q : Int32 → TS → Prop) (u : TS) (pd : Nat → Nat → Nat) (ps : Nat → RS) (x1 : Int32) (t0 : Int32) (t1 : Int32) : Prop :=
  vp_in t1 9 ∧ ∀ ps117 : Nat → RS, ps117 = va_up ps 0 (rI (ps 0) 5 (upd ((ps 0).1 5) (zn t1) t0)) → wp_X7_joined_51 Q u pd ps117 x1
set_option maxRecDepth 20000 in
theorem b_X7_joined_50 (C : zC p s m args meth c g A cX7_joined RX7 5) (hr : meth.sig.returnType = (some .int)) (ma ha : Nat → Nat) (bd : Nat → Nat → Nat) (Q : Int32 → TS → Prop) (u : TS) (pd : Nat → Nat → Nat) (ps : Nat → RS) (x1 : Int32) (t0 : Int32) (t1 : Int32) (h : wp_X7_joined_50 Q u pd ps x1 t0 t1) : j_X7_joined p l e s m args below meth c g A ma ha bd Q (tP u pd ps) 26 1308 50 [(0, .ref (ma 0)), (1, .int x1), (3, .ref (pd 0 0))] [.int t0, .int t1, .ref (pd 0 2)] := by
  unfold wp_X7_joined_50 at h
  obtain ⟨hi116, h⟩ := h
  refine Ps5_terms C hi116 dX7_joined_50 ?_
  refine stP (va_up ps 0 (rI (ps 0) 5 (upd ((ps 0).1 5) (zn t1) t0))) (fun ps117 eps117 => ?_)
  have h := h ps117 eps117
  exact b_X7_joined_51 C hr ma ha bd Q u pd ps117 x1 h
def wp_X7_joined (u : TS) (x1 : Int32) (x2 : Int32) (Q : Int32 → TS → Prop) : Prop :=
  wp_X7_isQueue x1 (fun r101 => ((r101 = 0 → wp_X7_joined_16 Q u) ∧ (¬ r101 = 0 → ((x2 < 0 → wp_X7_joined_16 Q u) ∧ (¬ x2 < 0 → ((x2 ≤ 2 → wp_X7_paperOfNow u (fun pd105 ps106 => ((x2 = 0 → wp_X7_joined_51 Q u pd105 ps106 x1) ∧ (¬ x2 = 0 → ((¬ x2 = 1 → wp_X7_joined_50 Q u pd105 ps106 x1 (zLeast (zn 3)) 3) ∧ (x2 = 1 → wp_X7_joined_50 Q u pd105 ps106 x1 (zMost (zn 3)) 3)))))) ∧ (¬ x2 ≤ 2 → wp_X7_joined_16 Q u)))))))
set_option maxRecDepth 20000 in
theorem c_X7_joined (l : Launch) (g : zG) (ma ha : Nat → Nat) (bd : Nat → Nat → Nat) (u : TS) (x1 : Int32) (x2 : Int32) (Q : Int32 → TS → Prop) (h : wp_X7_joined u x1 x2 Q) : zMi l yX7_joined cX7_joined 5 (some .int) 5 26 1308 g [.ref (ma 0), .int x1, .int x2] (wT g ma ha bd u) (wT g ma ha bd) Q := by
  refine zMi_of RX7 (by decide) rfl [(0, .ref (ma 0)), (1, .int x1), (2, .int x2)] rfl (Nat.le_of_ble_eq_true rfl) (fun p e s m args below meth c A C hr hnm => ?_)
  unfold wp_X7_joined at h
  refine z_iload_n C dX7_joined_0 rfl 1 rfl ?_
  refine cSi (As := [.int x1]) C (c_X7_isQueue l g x1 _ h) s_X7_isQueue ml7_86 ⟨Nat.le_of_ble_eq_true rfl, Nat.le_of_ble_eq_true rfl⟩ ⟨Nat.le_of_ble_eq_true rfl, Nat.le_of_ble_eq_true rfl⟩ (Nat.le_of_ble_eq_true rfl) rfl dX7_joined_1 ?_
  intro r101 h
  refine z_if_eq C dX7_joined_4 (tgt := 16) (by decide) (fun hc102 => ?_) (fun hc102 => ?_)
  · have h := h.1 hc102
    refine z_lv (lv1 := [(0, .ref (ma 0))]) [0] rfl ?_
    exact b_X7_joined_16 C hr ma ha bd Q u h
  · have h := h.2 hc102
    refine z_iload_n C dX7_joined_7 rfl 2 rfl ?_
    refine z_if_lt C dX7_joined_8 (tgt := 16) (by decide) (fun hc103 => ?_) (fun hc103 => ?_)
    · have h := h.1 hc103
      refine z_lv (lv1 := [(0, .ref (ma 0))]) [0] rfl ?_
      exact b_X7_joined_16 C hr ma ha bd Q u h
    · have h := h.2 hc103
      refine z_iload_n C dX7_joined_11 rfl 2 rfl ?_
      refine z_iconst (v := 2) C dX7_joined_12 (by decide) ?_
      refine z_icmp_le C dX7_joined_13 (tgt := 18) (by decide) (fun hc104 => ?_) (fun hc104 => ?_)
      · have h := h.1 hc104
        refine z_aload_n C dX7_joined_18 rfl 0 rfl ?_
        refine c7p C (c_X7_paperOfNow l g ma ha bd u _ h) v_X7_paperOfNow ml7_271 ⟨Nat.le_of_ble_eq_true rfl, Nat.le_of_ble_eq_true rfl⟩ ⟨Nat.le_of_ble_eq_true rfl, Nat.le_of_ble_eq_true rfl⟩ (Nat.le_of_ble_eq_true rfl) dX7_joined_19 ?_
        intro pd105 ps106 h
        refine z_astore_n (lv1 := [(3, .ref (pd105 0 0)), (0, .ref (ma 0)), (1, .int x1), (2, .int x2)]) C dX7_joined_22 rfl (by decide) rfl ?_
        refine z_iload_n C dX7_joined_23 rfl 3 rfl ?_
        refine z_if_eq C dX7_joined_24 (tgt := 51) (by decide) (fun hc107 => ?_) (fun hc107 => ?_)
        · have h := h.1 hc107
          refine z_lv (lv1 := [(0, .ref (ma 0)), (1, .int x1), (3, .ref (pd105 0 0))]) [1, 2, 0] rfl ?_
          exact b_X7_joined_51 C hr ma ha bd Q u pd105 ps106 x1 h
        · have h := h.2 hc107
          refine z_aload_n C dX7_joined_27 rfl 0 rfl ?_
          refine Pg5_terms C fl7_135 dX7_joined_28 ?_
          refine z_iconst (v := 3) C dX7_joined_31 (by decide) ?_
          refine z_iload_n C dX7_joined_32 rfl 3 rfl ?_
          refine z_iconst (v := 1) C dX7_joined_33 (by decide) ?_
          refine z_icmp_ne C dX7_joined_34 (tgt := 45) (by decide) (fun hc115 => ?_) (fun hc115 => ?_)
          · have h := h.1 hc115
            refine z_gets C C.2.2.2.2.2.2.2.1.1 fl7_129 dX7_joined_45 ?_
            refine z_iconst (v := 3) C dX7_joined_48 (by decide) ?_
            refine z_tld C C.2.2.2.2.2.2.2.1.2.2.2.1 (vp_in_iff.mpr (by decide +kernel)) dX7_joined_49 ?_
            refine z_lv (lv1 := [(0, .ref (ma 0)), (1, .int x1), (3, .ref (pd105 0 0))]) [1, 2, 0] rfl ?_
            exact b_X7_joined_50 C hr ma ha bd Q u pd105 ps106 x1 (zLeast (zn 3)) 3 h
          · have h := h.2 hc115
            refine z_gets C C.2.2.2.2.2.2.2.1.2.2.1 fl7_132 dX7_joined_37 ?_
            refine z_iconst (v := 3) C dX7_joined_40 (by decide) ?_
            refine z_tld C C.2.2.2.2.2.2.2.1.2.2.2.2.2.1 (vp_in_iff.mpr (by decide +kernel)) dX7_joined_41 ?_
            refine z_goto C dX7_joined_42 (tgt := 50) (by decide) ?_
            refine z_lv (lv1 := [(0, .ref (ma 0)), (1, .int x1), (3, .ref (pd105 0 0))]) [1, 2, 0] rfl ?_
            exact b_X7_joined_50 C hr ma ha bd Q u pd105 ps106 x1 (zMost (zn 3)) 3 h
      · have h := h.2 hc104
        refine z_lv (lv1 := [(0, .ref (ma 0))]) [0] rfl ?_
        exact b_X7_joined_16 C hr ma ha bd Q u h
abbrev j_X7_begin (p : Program) (l : Launch) (e : Env) (s : State) (m : MethodId) (args : Array Value) (below : List Frame) (meth : Method) (c : Code) (g : zG) (A : Nat → Prop) (ma ha : Nat → Nat) (bd : Nat → Nat → Nat) (Q : TS → Prop) (u : TS) (k n : Nat) (pc : Nat) (lv : List (Nat × Value)) (st : List Value) : Prop := zJ p l e (zR 5 26 1308) s m args below meth c g A 2 (zQv below args s g A 26 1308 (wT g ma ha bd) Q) (wT g ma ha bd u) k n pc lv st
def wp_X7_begin (u : TS) (x1 : Int32) (Q : TS → Prop) : Prop :=
  ∀ u101 : TS, u101 = tM u (rN u.1 4 0) → wp_X1_keep u101.2.1 u101.2.2.2.1 u101.2.2.1 x1 (fun h102 sl103 => ∀ u104 : TS, u104 = tHB u101 h102 sl103 → Q u104)
set_option maxRecDepth 20000 in
theorem c_X7_begin (l : Launch) (g : zG) (ma ha : Nat → Nat) (bd : Nat → Nat → Nat) (u : TS) (x1 : Int32) (Q : TS → Prop) (h : wp_X7_begin u x1 Q) : zMv l yX7_begin cX7_begin 2 none 5 26 1308 g [.ref (ma 0), .int x1] (wT g ma ha bd u) (wT g ma ha bd) Q := by
  refine zMv_of RX7 (by decide) rfl [(0, .ref (ma 0)), (1, .int x1)] rfl (Nat.le_of_ble_eq_true rfl) (fun p e s m args below meth c A C hr hnm => ?_)
  unfold wp_X7_begin at h
  refine z_aload_n C dX7_begin_0 rfl 0 rfl ?_
  refine z_iconst (v := 0) C dX7_begin_1 (by decide) ?_
  refine p7_latestRefusal C fl7_74 dX7_begin_2 ?_
  refine stT (tM u (rN u.1 4 0)) (fun u101 eu101 => ?_)
  have h := h u101 eu101
  refine z_aload_n C dX7_begin_5 rfl 0 rfl ?_
  refine g7_history C fl7_19 dX7_begin_6 ?_
  refine z_iload_n C dX7_begin_9 rfl 1 rfl ?_
  refine z_aload_n C dX7_begin_10 rfl 0 rfl ?_
  refine g7_now C fl7_10 dX7_begin_11 ?_
  refine cK (y := yX1_keep) C (c_X1_keep l g ha bd u101.2.1 u101.2.2.2.1 u101.2.2.1 x1 _ h) v_X1_keep ml7_296 ⟨Nat.le_of_ble_eq_true rfl, Nat.le_of_ble_eq_true rfl⟩ ⟨Nat.le_of_ble_eq_true rfl, Nat.le_of_ble_eq_true rfl⟩ (Nat.le_of_ble_eq_true rfl) dX7_begin_14 ?_
  intro h102 sl103 h
  refine stT (tHB u101 h102 sl103) (fun u104 eu104 => ?_)
  have h := h u104 eu104
  exact z_vret C hr u104 rfl h dX7_begin_17
abbrev j_X7_key (p : Program) (l : Launch) (e : Env) (s : State) (m : MethodId) (args : Array Value) (below : List Frame) (meth : Method) (c : Code) (g : zG) (A : Nat → Prop) (ma ha : Nat → Nat) (bd : Nat → Nat → Nat) (Q : Int32 → TS → Prop) (u : TS) (k n : Nat) (pc : Nat) (lv : List (Nat × Value)) (st : List Value) : Prop := zJ p l e (zR 6 26 1308) s m args below meth c g A 4 (zQi below args s g A 26 1308 (wT g ma ha bd) Q) (wT g ma ha bd u) k n pc lv st
def wp_X7_key (u : TS) (x1 : Int32) (x2 : Int32) (x3 : Int32) (Q : Int32 → TS → Prop) : Prop :=
  wp_X7_isByte x3 (fun r101 => ((¬ r101 = 0 → wp_X7_begin u 0 (fun u103 => wp_X2_put (u103.2.2.1 1) x1 x2 x3 (fun v104 => ∀ u105 : TS, u105 = tN u103 (va_up u103.2.2.1 1 v104) → Q 0 u105))) ∧ (r101 = 0 → wp_X7_refuse u (-1) (fun r106 u107 => Q r106 u107))))
set_option maxRecDepth 20000 in
theorem c_X7_key (l : Launch) (g : zG) (ma ha : Nat → Nat) (bd : Nat → Nat → Nat) (u : TS) (x1 : Int32) (x2 : Int32) (x3 : Int32) (Q : Int32 → TS → Prop) (h : wp_X7_key u x1 x2 x3 Q) : zMi l yX7_key cX7_key 4 (some .int) 6 26 1308 g [.ref (ma 0), .int x1, .int x2, .int x3] (wT g ma ha bd u) (wT g ma ha bd) Q := by
  refine zMi_of RX7 (by decide) rfl [(0, .ref (ma 0)), (1, .int x1), (2, .int x2), (3, .int x3)] rfl (Nat.le_of_ble_eq_true rfl) (fun p e s m args below meth c A C hr hnm => ?_)
  unfold wp_X7_key at h
  refine z_iload_n C dX7_key_0 rfl 3 rfl ?_
  refine cSi (As := [.int x3]) C (c_X7_isByte l g x3 _ h) s_X7_isByte ml7_34 ⟨Nat.le_of_ble_eq_true rfl, Nat.le_of_ble_eq_true rfl⟩ ⟨Nat.le_of_ble_eq_true rfl, Nat.le_of_ble_eq_true rfl⟩ (Nat.le_of_ble_eq_true rfl) rfl dX7_key_1 ?_
  intro r101 h
  refine z_if_ne C dX7_key_4 (tgt := 13) (by decide) (fun hc102 => ?_) (fun hc102 => ?_)
  · have h := h.1 hc102
    refine z_aload_n C dX7_key_13 rfl 0 rfl ?_
    refine z_iconst (v := 0) C dX7_key_14 (by decide) ?_
    refine c7v (As := [.int 0]) C (c_X7_begin l g ma ha bd u 0 _ h) v_X7_begin ml7_42 rfl ⟨Nat.le_of_ble_eq_true rfl, Nat.le_of_ble_eq_true rfl⟩ ⟨Nat.le_of_ble_eq_true rfl, Nat.le_of_ble_eq_true rfl⟩ (Nat.le_of_ble_eq_true rfl) rfl dX7_key_15 ?_
    intro u103 h
    refine z_aload_n C dX7_key_18 rfl 0 rfl ?_
    refine g7_now C fl7_10 dX7_key_19 ?_
    refine Tg5_key C fl7_46 dX7_key_22 ?_
    refine z_iload_n C dX7_key_25 rfl 1 rfl ?_
    refine z_iload_n C dX7_key_26 rfl 2 rfl ?_
    refine z_iload_n C dX7_key_27 rfl 3 rfl ?_
    refine Tc2v (As := [.int x1, .int x2, .int x3]) C (c_X2_put l g (bd 1) (u103.2.2.1 1) x1 x2 x3 _ h) v_X2_put ml7_50 rfl ⟨Nat.le_of_ble_eq_true rfl, Nat.le_of_ble_eq_true rfl⟩ ⟨Nat.le_of_ble_eq_true rfl, Nat.le_of_ble_eq_true rfl⟩ (Nat.le_of_ble_eq_true rfl) rfl dX7_key_28 ?_
    intro v104 h
    refine stT (tN u103 (va_up u103.2.2.1 1 v104)) (fun u105 eu105 => ?_)
    have h := h u105 eu105
    refine z_iconst (v := 0) C dX7_key_31 (by decide) ?_
    exact z_iret C hr u105 rfl h dX7_key_32
  · have h := h.2 hc102
    refine z_aload_n C dX7_key_7 rfl 0 rfl ?_
    refine z_iconst (v := (-1)) C dX7_key_8 (by decide) ?_
    refine c7i (As := [.int (-1)]) C (c_X7_refuse l g ma ha bd u (-1) _ h) v_X7_refuse ml7_38 rfl ⟨Nat.le_of_ble_eq_true rfl, Nat.le_of_ble_eq_true rfl⟩ ⟨Nat.le_of_ble_eq_true rfl, Nat.le_of_ble_eq_true rfl⟩ (Nat.le_of_ble_eq_true rfl) rfl dX7_key_9 ?_
    intro r106 u107 h
    refine z_wide (k1 := 26) (n1 := 1308) (Nat.le_of_ble_eq_true rfl) (Nat.le_of_ble_eq_true rfl) ?_
    exact z_iret C hr u107 rfl h dX7_key_12
abbrev j_X7_mask (p : Program) (l : Launch) (e : Env) (s : State) (m : MethodId) (args : Array Value) (below : List Frame) (meth : Method) (c : Code) (g : zG) (A : Nat → Prop) (ma ha : Nat → Nat) (bd : Nat → Nat → Nat) (Q : Int32 → TS → Prop) (u : TS) (k n : Nat) (pc : Nat) (lv : List (Nat × Value)) (st : List Value) : Prop := zJ p l e (zR 6 26 1308) s m args below meth c g A 3 (zQi below args s g A 26 1308 (wT g ma ha bd) Q) (wT g ma ha bd u) k n pc lv st
def wp_X7_mask_10 (Q : Int32 → TS → Prop) (u : TS) : Prop :=
  wp_X7_refuse u (-1) (fun r102 u103 => Q r102 u103)
set_option maxRecDepth 20000 in
theorem b_X7_mask_10 (C : zC p s m args meth c g A cX7_mask RX7 3) (hr : meth.sig.returnType = (some .int)) (ma ha : Nat → Nat) (bd : Nat → Nat → Nat) (Q : Int32 → TS → Prop) (u : TS) (h : wp_X7_mask_10 Q u) : j_X7_mask p l e s m args below meth c g A ma ha bd Q u 0 0 10 [(0, .ref (ma 0))] [] := by
  unfold wp_X7_mask_10 at h
  refine z_aload_n C dX7_mask_10 rfl 0 rfl ?_
  refine z_iconst (v := (-1)) C dX7_mask_11 (by decide) ?_
  refine c7i (As := [.int (-1)]) C (c_X7_refuse l g ma ha bd u (-1) _ h) v_X7_refuse ml7_38 rfl ⟨Nat.le_of_ble_eq_true rfl, Nat.le_of_ble_eq_true rfl⟩ ⟨Nat.le_of_ble_eq_true rfl, Nat.le_of_ble_eq_true rfl⟩ (Nat.le_of_ble_eq_true rfl) rfl dX7_mask_12 ?_
  intro r102 u103 h
  refine z_wide (k1 := 26) (n1 := 1308) (Nat.le_of_ble_eq_true rfl) (Nat.le_of_ble_eq_true rfl) ?_
  exact z_iret C hr u103 rfl h dX7_mask_15
def wp_X7_mask (u : TS) (x1 : Int32) (Q : Int32 → TS → Prop) : Prop :=
  ((x1 < 0 → wp_X7_mask_10 Q u) ∧ (¬ x1 < 0 → ((x1 ≤ 31 → wp_X7_begin u 1 (fun u105 => ∀ x106 : Int32, x106 = (u105.2.2.1 1).1 0 0 → ∀ u107 : TS, u107 = tN u105 (va_up u105.2.2.1 1 (rN (u105.2.2.1 1) 0 x1)) → Q x106 u107)) ∧ (¬ x1 ≤ 31 → wp_X7_mask_10 Q u))))
set_option maxRecDepth 20000 in
theorem c_X7_mask (l : Launch) (g : zG) (ma ha : Nat → Nat) (bd : Nat → Nat → Nat) (u : TS) (x1 : Int32) (Q : Int32 → TS → Prop) (h : wp_X7_mask u x1 Q) : zMi l yX7_mask cX7_mask 3 (some .int) 6 26 1308 g [.ref (ma 0), .int x1] (wT g ma ha bd u) (wT g ma ha bd) Q := by
  refine zMi_of RX7 (by decide) rfl [(0, .ref (ma 0)), (1, .int x1)] rfl (Nat.le_of_ble_eq_true rfl) (fun p e s m args below meth c A C hr hnm => ?_)
  unfold wp_X7_mask at h
  refine z_iload_n C dX7_mask_0 rfl 1 rfl ?_
  refine z_if_lt C dX7_mask_1 (tgt := 10) (by decide) (fun hc101 => ?_) (fun hc101 => ?_)
  · have h := h.1 hc101
    refine z_lv (lv1 := [(0, .ref (ma 0))]) [0] rfl ?_
    exact b_X7_mask_10 C hr ma ha bd Q u h
  · have h := h.2 hc101
    refine z_iload_n C dX7_mask_4 rfl 1 rfl ?_
    refine z_bipush (v := 31) C dX7_mask_5 (by decide) ?_
    refine z_icmp_le C dX7_mask_7 (tgt := 16) (by decide) (fun hc104 => ?_) (fun hc104 => ?_)
    · have h := h.1 hc104
      refine z_aload_n C dX7_mask_16 rfl 0 rfl ?_
      refine z_iconst (v := 1) C dX7_mask_17 (by decide) ?_
      refine c7v (As := [.int 1]) C (c_X7_begin l g ma ha bd u 1 _ h) v_X7_begin ml7_42 rfl ⟨Nat.le_of_ble_eq_true rfl, Nat.le_of_ble_eq_true rfl⟩ ⟨Nat.le_of_ble_eq_true rfl, Nat.le_of_ble_eq_true rfl⟩ (Nat.le_of_ble_eq_true rfl) rfl dX7_mask_18 ?_
      intro u105 h
      refine z_aload_n C dX7_mask_21 rfl 0 rfl ?_
      refine g7_now C fl7_10 dX7_mask_22 ?_
      refine Tg5_key C fl7_46 dX7_mask_25 ?_
      refine Tg2_counting C fl7_56 dX7_mask_28 ?_
      refine z_topi (fun x106 ex106 => ?_)
      have h := h x106 ex106
      refine z_istore_n (lv1 := [(2, .int x106), (0, .ref (ma 0)), (1, .int x1)]) C dX7_mask_31 rfl (by decide) rfl ?_
      refine z_aload_n C dX7_mask_32 rfl 1 rfl ?_
      refine g7_now C fl7_10 dX7_mask_33 ?_
      refine Tg5_key C fl7_46 dX7_mask_36 ?_
      refine z_iload_n C dX7_mask_39 rfl 2 rfl ?_
      refine Tp2_counting C fl7_56 dX7_mask_40 ?_
      refine stT (tN u105 (va_up u105.2.2.1 1 (rN (u105.2.2.1 1) 0 x1))) (fun u107 eu107 => ?_)
      have h := h u107 eu107
      refine z_iload_n C dX7_mask_43 rfl 0 rfl ?_
      exact z_iret C hr u107 rfl h dX7_mask_44
    · have h := h.2 hc104
      refine z_lv (lv1 := [(0, .ref (ma 0))]) [0] rfl ?_
      exact b_X7_mask_10 C hr ma ha bd Q u h
end WC
