section WR
variable {p : Program} {l : Launch} {e : Env} {s : State} {m : MethodId} {args : Array Value} {below : List Frame} {meth : Method} {c : Code} {g : zG} {A : Nat → Prop}
abbrev j_X8_layHash (p : Program) (l : Launch) (e : Env) (s : State) (m : MethodId) (args : Array Value) (below : List Frame) (meth : Method) (c : Code) (g : zG) (A : Nat → Prop) (ad : Nat → Nat) (Q : RS → Prop) (u : RS) (pc : Nat) (lv : List (Nat × Value)) (st : List Value) : Prop := zJ p l e (zR 3 0 0) s m args below meth c g A 2 (zQv below args s g A 0 0 (wR g ad) Q) (wR g ad u) 0 0 pc lv st
def wp_X8_layHash (u : RS) (x1 : Int32) (Q : RS → Prop) : Prop :=
  wp_X8_takeFlow u x1 (fun u101 => wp_X8_flowAt x1 (fun r102 => wp_X8_hashNow u101 (fun r103 u104 => vp_in (r102 + 14) 1065 ∧ ∀ u106 : RS, u106 = rI u104 3 (upd (u104.1 3) (zn (r102 + 14)) r103) → Q u106)))
set_option maxRecDepth 20000 in
theorem c_X8_layHash (l : Launch) (g : zG) (ad : Nat → Nat) (u : RS) (x1 : Int32) (Q : RS → Prop) (h : wp_X8_layHash u x1 Q) : zMv l yX8_layHash cX8_layHash 2 none 3 0 0 g [.ref (ad 0), .int x1] (wR g ad u) (wR g ad) Q := by
  refine zMv_of RX8 (by decide) rfl [(0, .ref (ad 0)), (1, .int x1)] rfl (Nat.le_of_ble_eq_true rfl) (fun p e s m args below meth c A C hr hnm => ?_)
  unfold wp_X8_layHash at h
  refine z_aload_n C dX8_layHash_0 rfl 0 rfl ?_
  refine z_iload_n C dX8_layHash_1 rfl 1 rfl ?_
  refine cRv (As := [.int x1]) C (c_X8_takeFlow l g ad u x1 _ h) v_X8_takeFlow ml8_105 rfl ⟨Nat.le_of_ble_eq_true rfl, Nat.le_of_ble_eq_true rfl⟩ ⟨Nat.zero_le _, Nat.zero_le _⟩ (Nat.le_of_ble_eq_true rfl) rfl dX8_layHash_2 ?_
  intro u101 h
  refine z_aload_n C dX8_layHash_5 rfl 0 rfl ?_
  refine gR_row C dX8_layHash_6 ?_
  refine z_iload_n C dX8_layHash_9 rfl 1 rfl ?_
  refine cSi (As := [.int x1]) C (c_X8_flowAt l g x1 _ h) s_X8_flowAt ml8_102 ⟨Nat.le_of_ble_eq_true rfl, Nat.le_of_ble_eq_true rfl⟩ ⟨Nat.zero_le _, Nat.zero_le _⟩ (Nat.le_of_ble_eq_true rfl) rfl dX8_layHash_10 ?_
  intro r102 h
  refine z_bipush (v := 14) C dX8_layHash_13 (by decide) ?_
  refine z_iadd C dX8_layHash_15 ?_
  refine z_aload_n C dX8_layHash_16 rfl 0 rfl ?_
  refine cRi (As := []) C (c_X8_hashNow l g ad u101 _ h) v_X8_hashNow ml8_109 rfl ⟨Nat.le_of_ble_eq_true rfl, Nat.le_of_ble_eq_true rfl⟩ ⟨Nat.zero_le _, Nat.zero_le _⟩ (Nat.le_of_ble_eq_true rfl) rfl dX8_layHash_17 ?_
  intro r103 u104 h
  obtain ⟨hi105, h⟩ := h
  refine sR_row C hi105 dX8_layHash_20 ?_
  refine z_stR (fun u106 eu106 => ?_)
  have h := h u106 eu106
  exact z_vret C hr u106 rfl h dX8_layHash_21
abbrev j_X8_table (p : Program) (l : Launch) (e : Env) (s : State) (m : MethodId) (args : Array Value) (below : List Frame) (meth : Method) (c : Code) (g : zG) (A : Nat → Prop) (ad : Nat → Nat) (Q : Int32 → RS → Prop) (u : RS) (pc : Nat) (lv : List (Nat × Value)) (st : List Value) : Prop := zJ p l e (zR 3 0 0) s m args below meth c g A 3 (zQi below args s g A 0 0 (wR g ad) Q) (wR g ad u) 0 0 pc lv st
def wp_X8_table_42 (Q : Int32 → RS → Prop) (u : RS) (t0 : Int32) : Prop :=
  Q t0 u
set_option maxRecDepth 20000 in
theorem b_X8_table_42 (C : zC p s m args meth c g A cX8_table RX8 3) (hr : meth.sig.returnType = (some .int)) (ad : Nat → Nat) (Q : Int32 → RS → Prop) (u : RS) (t0 : Int32) (h : wp_X8_table_42 Q u t0) : j_X8_table p l e s m args below meth c g A ad Q u 42 [(0, .ref (ad 0))] [.int t0] := by
  unfold wp_X8_table_42 at h
  exact z_iret C hr u rfl h dX8_table_42
def wp_X8_table_37 (Q : Int32 → RS → Prop) (u : RS) : Prop :=
  wp_X8_refuse u (-1) (fun r104 u105 => wp_X8_table_42 Q u105 r104)
set_option maxRecDepth 20000 in
theorem b_X8_table_37 (C : zC p s m args meth c g A cX8_table RX8 3) (hr : meth.sig.returnType = (some .int)) (ad : Nat → Nat) (Q : Int32 → RS → Prop) (u : RS) (h : wp_X8_table_37 Q u) : j_X8_table p l e s m args below meth c g A ad Q u 37 [(0, .ref (ad 0))] [] := by
  unfold wp_X8_table_37 at h
  refine z_aload_n C dX8_table_37 rfl 0 rfl ?_
  refine z_iconst (v := (-1)) C dX8_table_38 (by decide) ?_
  refine cRi (As := [.int (-1)]) C (c_X8_refuse l g ad u (-1) _ h) v_X8_refuse ml8_75 rfl ⟨Nat.le_of_ble_eq_true rfl, Nat.le_of_ble_eq_true rfl⟩ ⟨Nat.zero_le _, Nat.zero_le _⟩ (Nat.le_of_ble_eq_true rfl) rfl dX8_table_39 ?_
  intro r104 u105 h
  exact b_X8_table_42 C hr ad Q u105 r104 h
def wp_X8_table (u : RS) (x1 : Int32) (x2 : Int32) (Q : Int32 → RS → Prop) : Prop :=
  ∀ u101 : RS, u101 = rN u 0 0 → wp_X8_in ((x1).toInt64) 0 15 (fun r102 => ((r102 = 0 → wp_X8_table_37 Q u101) ∧ (¬ r102 = 0 → wp_X8_isQueue x2 (fun r106 => ((r106 = 0 → wp_X8_table_37 Q u101) ∧ (¬ r106 = 0 → wp_X8_becomes u101 (23 + x1) x2 3 (fun r108 u109 => wp_X8_table_42 Q u109 r108)))))))
set_option maxRecDepth 20000 in
theorem c_X8_table (l : Launch) (g : zG) (ad : Nat → Nat) (u : RS) (x1 : Int32) (x2 : Int32) (Q : Int32 → RS → Prop) (h : wp_X8_table u x1 x2 Q) : zMi l yX8_table cX8_table 3 (some .int) 3 0 0 g [.ref (ad 0), .int x1, .int x2] (wR g ad u) (wR g ad) Q := by
  refine zMi_of RX8 (by decide) rfl [(0, .ref (ad 0)), (1, .int x1), (2, .int x2)] rfl (Nat.le_of_ble_eq_true rfl) (fun p e s m args below meth c A C hr hnm => ?_)
  unfold wp_X8_table at h
  refine z_aload_n C dX8_table_0 rfl 0 rfl ?_
  refine z_iconst (v := 0) C dX8_table_1 (by decide) ?_
  refine pR_thrown C dX8_table_2 ?_
  refine z_stR (fun u101 eu101 => ?_)
  have h := h u101 eu101
  refine z_iload_n C dX8_table_5 rfl 1 rfl ?_
  refine z_i2l C dX8_table_6 ?_
  refine z_lconst (v := 0) C dX8_table_7 (by decide) ?_
  refine z_ldc2 (v := 15) C dX8_table_8 k8_148 ?_
  refine cSi (As := [.long ((x1).toInt64), .long 0, .long 15]) C (c_X8_in l g ((x1).toInt64) 0 15 _ h) s_X8_in ml8_84 ⟨Nat.le_of_ble_eq_true rfl, Nat.le_of_ble_eq_true rfl⟩ ⟨Nat.zero_le _, Nat.zero_le _⟩ (Nat.le_of_ble_eq_true rfl) rfl dX8_table_11 ?_
  intro r102 h
  refine z_if_eq C dX8_table_14 (tgt := 37) (by decide) (fun hc103 => ?_) (fun hc103 => ?_)
  · have h := h.1 hc103
    refine z_lv (lv1 := [(0, .ref (ad 0))]) [0] rfl ?_
    exact b_X8_table_37 C hr ad Q u101 h
  · have h := h.2 hc103
    refine z_iload_n C dX8_table_17 rfl 2 rfl ?_
    refine cSi (As := [.int x2]) C (c_X8_isQueue l g x2 _ h) s_X8_isQueue ml8_150 ⟨Nat.le_of_ble_eq_true rfl, Nat.le_of_ble_eq_true rfl⟩ ⟨Nat.zero_le _, Nat.zero_le _⟩ (Nat.le_of_ble_eq_true rfl) rfl dX8_table_18 ?_
    intro r106 h
    refine z_if_eq C dX8_table_21 (tgt := 37) (by decide) (fun hc107 => ?_) (fun hc107 => ?_)
    · have h := h.1 hc107
      refine z_lv (lv1 := [(0, .ref (ad 0))]) [0] rfl ?_
      exact b_X8_table_37 C hr ad Q u101 h
    · have h := h.2 hc107
      refine z_aload_n C dX8_table_24 rfl 0 rfl ?_
      refine z_bipush (v := 23) C dX8_table_25 (by decide) ?_
      refine z_iload_n C dX8_table_27 rfl 1 rfl ?_
      refine z_iadd C dX8_table_28 ?_
      refine z_iload_n C dX8_table_29 rfl 2 rfl ?_
      refine z_iconst (v := 3) C dX8_table_30 (by decide) ?_
      refine cRi (As := [.int (23 + x1), .int x2, .int 3]) C (c_X8_becomes l g ad u101 (23 + x1) x2 3 _ h) v_X8_becomes ml8_137 rfl ⟨Nat.le_of_ble_eq_true rfl, Nat.le_of_ble_eq_true rfl⟩ ⟨Nat.zero_le _, Nat.zero_le _⟩ (Nat.le_of_ble_eq_true rfl) rfl dX8_table_31 ?_
      intro r108 u109 h
      refine z_goto C dX8_table_34 (tgt := 42) (by decide) ?_
      refine z_lv (lv1 := [(0, .ref (ad 0))]) [0] rfl ?_
      exact b_X8_table_42 C hr ad Q u109 r108 h
abbrev j_X8_reads (p : Program) (l : Launch) (e : Env) (s : State) (m : MethodId) (args : Array Value) (below : List Frame) (meth : Method) (c : Code) (g : zG) (A : Nat → Prop) (ad : Nat → Nat) (Q : Int32 → RS → Prop) (u : RS) (pc : Nat) (lv : List (Nat × Value)) (st : List Value) : Prop := zJ p l e (zR 3 0 0) s m args below meth c g A 3 (zQi below args s g A 0 0 (wR g ad) Q) (wR g ad u) 0 0 pc lv st
def wp_X8_reads_56 (Q : Int32 → RS → Prop) (u : RS) (t0 : Int32) : Prop :=
  Q t0 u
set_option maxRecDepth 20000 in
theorem b_X8_reads_56 (C : zC p s m args meth c g A cX8_reads RX8 3) (hr : meth.sig.returnType = (some .int)) (ad : Nat → Nat) (Q : Int32 → RS → Prop) (u : RS) (t0 : Int32) (h : wp_X8_reads_56 Q u t0) : j_X8_reads p l e s m args below meth c g A ad Q u 56 [(0, .ref (ad 0))] [.int t0] := by
  unfold wp_X8_reads_56 at h
  exact z_iret C hr u rfl h dX8_reads_56
def wp_X8_reads (u : RS) (x1 : Int32) (x2 : Int32) (Q : Int32 → RS → Prop) : Prop :=
  ∀ u101 : RS, u101 = rN u 0 0 → wp_X8_in ((x2).toInt64) (-1) 3 (fun r102 => ((¬ r102 = 0 → wp_X8_isFlow u101 x1 (fun r104 u105 => ((r104 = 0 → wp_X8_refuse u105 (-2) (fun r107 u108 => wp_X8_reads_56 Q u108 r107)) ∧ (¬ r104 = 0 → wp_X8_flowAt x1 (fun r109 => wp_X8_becomes u105 (r109 + 11) x2 13 (fun r110 u111 => wp_X8_reads_56 Q u111 r110)))))) ∧ (r102 = 0 → wp_X8_refuse u101 (-1) (fun r112 u113 => Q r112 u113))))
set_option maxRecDepth 20000 in
theorem c_X8_reads (l : Launch) (g : zG) (ad : Nat → Nat) (u : RS) (x1 : Int32) (x2 : Int32) (Q : Int32 → RS → Prop) (h : wp_X8_reads u x1 x2 Q) : zMi l yX8_reads cX8_reads 3 (some .int) 3 0 0 g [.ref (ad 0), .int x1, .int x2] (wR g ad u) (wR g ad) Q := by
  refine zMi_of RX8 (by decide) rfl [(0, .ref (ad 0)), (1, .int x1), (2, .int x2)] rfl (Nat.le_of_ble_eq_true rfl) (fun p e s m args below meth c A C hr hnm => ?_)
  unfold wp_X8_reads at h
  refine z_aload_n C dX8_reads_0 rfl 0 rfl ?_
  refine z_iconst (v := 0) C dX8_reads_1 (by decide) ?_
  refine pR_thrown C dX8_reads_2 ?_
  refine z_stR (fun u101 eu101 => ?_)
  have h := h u101 eu101
  refine z_iload_n C dX8_reads_5 rfl 2 rfl ?_
  refine z_i2l C dX8_reads_6 ?_
  refine z_ldc2 (v := (-1)) C dX8_reads_7 k8_162 ?_
  refine z_ldc2 (v := 3) C dX8_reads_10 k8_88 ?_
  refine cSi (As := [.long ((x2).toInt64), .long (-1), .long 3]) C (c_X8_in l g ((x2).toInt64) (-1) 3 _ h) s_X8_in ml8_84 ⟨Nat.le_of_ble_eq_true rfl, Nat.le_of_ble_eq_true rfl⟩ ⟨Nat.zero_le _, Nat.zero_le _⟩ (Nat.le_of_ble_eq_true rfl) rfl dX8_reads_13 ?_
  intro r102 h
  refine z_if_ne C dX8_reads_16 (tgt := 25) (by decide) (fun hc103 => ?_) (fun hc103 => ?_)
  · have h := h.1 hc103
    refine z_aload_n C dX8_reads_25 rfl 0 rfl ?_
    refine z_iload_n C dX8_reads_26 rfl 1 rfl ?_
    refine cRi (As := [.int x1]) C (c_X8_isFlow l g ad u101 x1 _ h) v_X8_isFlow ml8_164 rfl ⟨Nat.le_of_ble_eq_true rfl, Nat.le_of_ble_eq_true rfl⟩ ⟨Nat.zero_le _, Nat.zero_le _⟩ (Nat.le_of_ble_eq_true rfl) rfl dX8_reads_27 ?_
    intro r104 u105 h
    refine z_if_eq C dX8_reads_30 (tgt := 50) (by decide) (fun hc106 => ?_) (fun hc106 => ?_)
    · have h := h.1 hc106
      refine z_aload_n C dX8_reads_50 rfl 0 rfl ?_
      refine z_bipush (v := (-2)) C dX8_reads_51 (by decide) ?_
      refine cRi (As := [.int (-2)]) C (c_X8_refuse l g ad u105 (-2) _ h) v_X8_refuse ml8_75 rfl ⟨Nat.le_of_ble_eq_true rfl, Nat.le_of_ble_eq_true rfl⟩ ⟨Nat.zero_le _, Nat.zero_le _⟩ (Nat.le_of_ble_eq_true rfl) rfl dX8_reads_53 ?_
      intro r107 u108 h
      refine z_lv (lv1 := [(0, .ref (ad 0))]) [0] rfl ?_
      exact b_X8_reads_56 C hr ad Q u108 r107 h
    · have h := h.2 hc106
      refine z_aload_n C dX8_reads_33 rfl 0 rfl ?_
      refine z_iload_n C dX8_reads_34 rfl 1 rfl ?_
      refine cSi (As := [.int x1]) C (c_X8_flowAt l g x1 _ h) s_X8_flowAt ml8_102 ⟨Nat.le_of_ble_eq_true rfl, Nat.le_of_ble_eq_true rfl⟩ ⟨Nat.zero_le _, Nat.zero_le _⟩ (Nat.le_of_ble_eq_true rfl) rfl dX8_reads_35 ?_
      intro r109 h
      refine z_bipush (v := 11) C dX8_reads_38 (by decide) ?_
      refine z_iadd C dX8_reads_40 ?_
      refine z_iload_n C dX8_reads_41 rfl 2 rfl ?_
      refine z_bipush (v := 13) C dX8_reads_42 (by decide) ?_
      refine cRi (As := [.int (r109 + 11), .int x2, .int 13]) C (c_X8_becomes l g ad u105 (r109 + 11) x2 13 _ h) v_X8_becomes ml8_137 rfl ⟨Nat.le_of_ble_eq_true rfl, Nat.le_of_ble_eq_true rfl⟩ ⟨Nat.zero_le _, Nat.zero_le _⟩ (Nat.le_of_ble_eq_true rfl) rfl dX8_reads_44 ?_
      intro r110 u111 h
      refine z_goto C dX8_reads_47 (tgt := 56) (by decide) ?_
      refine z_lv (lv1 := [(0, .ref (ad 0))]) [0] rfl ?_
      exact b_X8_reads_56 C hr ad Q u111 r110 h
  · have h := h.2 hc103
    refine z_aload_n C dX8_reads_19 rfl 0 rfl ?_
    refine z_iconst (v := (-1)) C dX8_reads_20 (by decide) ?_
    refine cRi (As := [.int (-1)]) C (c_X8_refuse l g ad u101 (-1) _ h) v_X8_refuse ml8_75 rfl ⟨Nat.le_of_ble_eq_true rfl, Nat.le_of_ble_eq_true rfl⟩ ⟨Nat.zero_le _, Nat.zero_le _⟩ (Nat.le_of_ble_eq_true rfl) rfl dX8_reads_21 ?_
    intro r112 u113 h
    exact z_iret C hr u113 rfl h dX8_reads_24
abbrev j_X8_steer (p : Program) (l : Launch) (e : Env) (s : State) (m : MethodId) (args : Array Value) (below : List Frame) (meth : Method) (c : Code) (g : zG) (A : Nat → Prop) (ad : Nat → Nat) (Q : Int32 → RS → Prop) (u : RS) (pc : Nat) (lv : List (Nat × Value)) (st : List Value) : Prop := zJ p l e (zR 3 0 0) s m args below meth c g A 3 (zQi below args s g A 0 0 (wR g ad) Q) (wR g ad u) 0 0 pc lv st
def wp_X8_steer (u : RS) (x1 : Int32) (x2 : Int32) (Q : Int32 → RS → Prop) : Prop :=
  ∀ u101 : RS, u101 = rN u 0 0 → wp_X8_isQueue x2 (fun r102 => ((¬ r102 = 0 → wp_X8_isFlow u101 x1 (fun r104 u105 => ((¬ r104 = 0 → wp_X8_remember u105 5 (fun u107 => wp_X8_steers u107 x1 x2 (fun r108 u109 => wp_X8_tell u109 r108 (fun r110 u111 => Q r110 u111)))) ∧ (r104 = 0 → wp_X8_refuse u105 (-2) (fun r112 u113 => Q r112 u113))))) ∧ (r102 = 0 → wp_X8_refuse u101 (-1) (fun r114 u115 => Q r114 u115))))
set_option maxRecDepth 20000 in
theorem c_X8_steer (l : Launch) (g : zG) (ad : Nat → Nat) (u : RS) (x1 : Int32) (x2 : Int32) (Q : Int32 → RS → Prop) (h : wp_X8_steer u x1 x2 Q) : zMi l yX8_steer cX8_steer 3 (some .int) 3 0 0 g [.ref (ad 0), .int x1, .int x2] (wR g ad u) (wR g ad) Q := by
  refine zMi_of RX8 (by decide) rfl [(0, .ref (ad 0)), (1, .int x1), (2, .int x2)] rfl (Nat.le_of_ble_eq_true rfl) (fun p e s m args below meth c A C hr hnm => ?_)
  unfold wp_X8_steer at h
  refine z_aload_n C dX8_steer_0 rfl 0 rfl ?_
  refine z_iconst (v := 0) C dX8_steer_1 (by decide) ?_
  refine pR_thrown C dX8_steer_2 ?_
  refine z_stR (fun u101 eu101 => ?_)
  have h := h u101 eu101
  refine z_iload_n C dX8_steer_5 rfl 2 rfl ?_
  refine cSi (As := [.int x2]) C (c_X8_isQueue l g x2 _ h) s_X8_isQueue ml8_150 ⟨Nat.le_of_ble_eq_true rfl, Nat.le_of_ble_eq_true rfl⟩ ⟨Nat.zero_le _, Nat.zero_le _⟩ (Nat.le_of_ble_eq_true rfl) rfl dX8_steer_6 ?_
  intro r102 h
  refine z_if_ne C dX8_steer_9 (tgt := 18) (by decide) (fun hc103 => ?_) (fun hc103 => ?_)
  · have h := h.1 hc103
    refine z_aload_n C dX8_steer_18 rfl 0 rfl ?_
    refine z_iload_n C dX8_steer_19 rfl 1 rfl ?_
    refine cRi (As := [.int x1]) C (c_X8_isFlow l g ad u101 x1 _ h) v_X8_isFlow ml8_164 rfl ⟨Nat.le_of_ble_eq_true rfl, Nat.le_of_ble_eq_true rfl⟩ ⟨Nat.zero_le _, Nat.zero_le _⟩ (Nat.le_of_ble_eq_true rfl) rfl dX8_steer_20 ?_
    intro r104 u105 h
    refine z_if_ne C dX8_steer_23 (tgt := 33) (by decide) (fun hc106 => ?_) (fun hc106 => ?_)
    · have h := h.1 hc106
      refine z_aload_n C dX8_steer_33 rfl 0 rfl ?_
      refine z_iconst (v := 5) C dX8_steer_34 (by decide) ?_
      refine cRv (As := [.int 5]) C (c_X8_remember l g ad u105 5 _ h) v_X8_remember ml8_129 rfl ⟨Nat.le_of_ble_eq_true rfl, Nat.le_of_ble_eq_true rfl⟩ ⟨Nat.zero_le _, Nat.zero_le _⟩ (Nat.le_of_ble_eq_true rfl) rfl dX8_steer_35 ?_
      intro u107 h
      refine z_aload_n C dX8_steer_38 rfl 0 rfl ?_
      refine z_aload_n C dX8_steer_39 rfl 0 rfl ?_
      refine z_iload_n C dX8_steer_40 rfl 1 rfl ?_
      refine z_iload_n C dX8_steer_41 rfl 2 rfl ?_
      refine cRi (As := [.int x1, .int x2]) C (c_X8_steers l g ad u107 x1 x2 _ h) v_X8_steers ml8_170 rfl ⟨Nat.le_of_ble_eq_true rfl, Nat.le_of_ble_eq_true rfl⟩ ⟨Nat.zero_le _, Nat.zero_le _⟩ (Nat.le_of_ble_eq_true rfl) rfl dX8_steer_42 ?_
      intro r108 u109 h
      refine cRi (As := [.int r108]) C (c_X8_tell l g ad u109 r108 _ h) v_X8_tell ml8_81 rfl ⟨Nat.le_of_ble_eq_true rfl, Nat.le_of_ble_eq_true rfl⟩ ⟨Nat.zero_le _, Nat.zero_le _⟩ (Nat.le_of_ble_eq_true rfl) rfl dX8_steer_45 ?_
      intro r110 u111 h
      exact z_iret C hr u111 rfl h dX8_steer_48
    · have h := h.2 hc106
      refine z_aload_n C dX8_steer_26 rfl 0 rfl ?_
      refine z_bipush (v := (-2)) C dX8_steer_27 (by decide) ?_
      refine cRi (As := [.int (-2)]) C (c_X8_refuse l g ad u105 (-2) _ h) v_X8_refuse ml8_75 rfl ⟨Nat.le_of_ble_eq_true rfl, Nat.le_of_ble_eq_true rfl⟩ ⟨Nat.zero_le _, Nat.zero_le _⟩ (Nat.le_of_ble_eq_true rfl) rfl dX8_steer_29 ?_
      intro r112 u113 h
      exact z_iret C hr u113 rfl h dX8_steer_32
  · have h := h.2 hc103
    refine z_aload_n C dX8_steer_12 rfl 0 rfl ?_
    refine z_iconst (v := (-1)) C dX8_steer_13 (by decide) ?_
    refine cRi (As := [.int (-1)]) C (c_X8_refuse l g ad u101 (-1) _ h) v_X8_refuse ml8_75 rfl ⟨Nat.le_of_ble_eq_true rfl, Nat.le_of_ble_eq_true rfl⟩ ⟨Nat.zero_le _, Nat.zero_le _⟩ (Nat.le_of_ble_eq_true rfl) rfl dX8_steer_14 ?_
    intro r114 u115 h
    exact z_iret C hr u115 rfl h dX8_steer_17
abbrev j_X8_terms (p : Program) (l : Launch) (e : Env) (s : State) (m : MethodId) (args : Array Value) (below : List Frame) (meth : Method) (c : Code) (g : zG) (A : Nat → Prop) (ad : Nat → Nat) (Q : Int32 → RS → Prop) (u : RS) (pc : Nat) (lv : List (Nat × Value)) (st : List Value) : Prop := zJ p l e (zR 3 0 0) s m args below meth c g A 3 (zQi below args s g A 0 0 (wR g ad) Q) (wR g ad u) 0 0 pc lv st
def wp_X8_terms_32 (Q : Int32 → RS → Prop) (u : RS) (t0 : Int32) : Prop :=
  Q t0 u
set_option maxRecDepth 20000 in
theorem b_X8_terms_32 (C : zC p s m args meth c g A cX8_terms RX8 3) (hr : meth.sig.returnType = (some .int)) (ad : Nat → Nat) (Q : Int32 → RS → Prop) (u : RS) (t0 : Int32) (h : wp_X8_terms_32 Q u t0) : j_X8_terms p l e s m args below meth c g A ad Q u 32 [(0, .ref (ad 0))] [.int t0] := by
  unfold wp_X8_terms_32 at h
  exact z_iret C hr u rfl h dX8_terms_32
def wp_X8_terms (u : RS) (x1 : Int32) (x2 : Int32) (Q : Int32 → RS → Prop) : Prop :=
  ∀ u101 : RS, u101 = rN u 0 0 → wp_X8_isTerm x1 x2 (fun r102 => ((r102 = 0 → wp_X8_refuse u101 (-1) (fun r104 u105 => wp_X8_terms_32 Q u105 r104)) ∧ (¬ r102 = 0 → wp_X8_becomes u101 (14 + x1) x2 7 (fun r106 u107 => wp_X8_terms_32 Q u107 r106))))
set_option maxRecDepth 20000 in
theorem c_X8_terms (l : Launch) (g : zG) (ad : Nat → Nat) (u : RS) (x1 : Int32) (x2 : Int32) (Q : Int32 → RS → Prop) (h : wp_X8_terms u x1 x2 Q) : zMi l yX8_terms cX8_terms 3 (some .int) 3 0 0 g [.ref (ad 0), .int x1, .int x2] (wR g ad u) (wR g ad) Q := by
  refine zMi_of RX8 (by decide) rfl [(0, .ref (ad 0)), (1, .int x1), (2, .int x2)] rfl (Nat.le_of_ble_eq_true rfl) (fun p e s m args below meth c A C hr hnm => ?_)
  unfold wp_X8_terms at h
  refine z_aload_n C dX8_terms_0 rfl 0 rfl ?_
  refine z_iconst (v := 0) C dX8_terms_1 (by decide) ?_
  refine pR_thrown C dX8_terms_2 ?_
  refine z_stR (fun u101 eu101 => ?_)
  have h := h u101 eu101
  refine z_iload_n C dX8_terms_5 rfl 1 rfl ?_
  refine z_iload_n C dX8_terms_6 rfl 2 rfl ?_
  refine cSi (As := [.int x1, .int x2]) C (c_X8_isTerm l g x1 x2 _ h) s_X8_isTerm ml8_185 ⟨Nat.le_of_ble_eq_true rfl, Nat.le_of_ble_eq_true rfl⟩ ⟨Nat.zero_le _, Nat.zero_le _⟩ (Nat.le_of_ble_eq_true rfl) rfl dX8_terms_7 ?_
  intro r102 h
  refine z_if_eq C dX8_terms_10 (tgt := 27) (by decide) (fun hc103 => ?_) (fun hc103 => ?_)
  · have h := h.1 hc103
    refine z_aload_n C dX8_terms_27 rfl 0 rfl ?_
    refine z_iconst (v := (-1)) C dX8_terms_28 (by decide) ?_
    refine cRi (As := [.int (-1)]) C (c_X8_refuse l g ad u101 (-1) _ h) v_X8_refuse ml8_75 rfl ⟨Nat.le_of_ble_eq_true rfl, Nat.le_of_ble_eq_true rfl⟩ ⟨Nat.zero_le _, Nat.zero_le _⟩ (Nat.le_of_ble_eq_true rfl) rfl dX8_terms_29 ?_
    intro r104 u105 h
    refine z_lv (lv1 := [(0, .ref (ad 0))]) [0] rfl ?_
    exact b_X8_terms_32 C hr ad Q u105 r104 h
  · have h := h.2 hc103
    refine z_aload_n C dX8_terms_13 rfl 0 rfl ?_
    refine z_bipush (v := 14) C dX8_terms_14 (by decide) ?_
    refine z_iload_n C dX8_terms_16 rfl 1 rfl ?_
    refine z_iadd C dX8_terms_17 ?_
    refine z_iload_n C dX8_terms_18 rfl 2 rfl ?_
    refine z_bipush (v := 7) C dX8_terms_19 (by decide) ?_
    refine cRi (As := [.int (14 + x1), .int x2, .int 7]) C (c_X8_becomes l g ad u101 (14 + x1) x2 7 _ h) v_X8_becomes ml8_137 rfl ⟨Nat.le_of_ble_eq_true rfl, Nat.le_of_ble_eq_true rfl⟩ ⟨Nat.zero_le _, Nat.zero_le _⟩ (Nat.le_of_ble_eq_true rfl) rfl dX8_terms_21 ?_
    intro r106 u107 h
    refine z_goto C dX8_terms_24 (tgt := 32) (by decide) ?_
    refine z_lv (lv1 := [(0, .ref (ad 0))]) [0] rfl ?_
    exact b_X8_terms_32 C hr ad Q u107 r106 h
abbrev j_X8_comes (p : Program) (l : Launch) (e : Env) (s : State) (m : MethodId) (args : Array Value) (below : List Frame) (meth : Method) (c : Code) (g : zG) (A : Nat → Prop) (ad : Nat → Nat) (Q : Int32 → RS → Prop) (u : RS) (pc : Nat) (lv : List (Nat × Value)) (st : List Value) : Prop := zJ p l e (zR 3 0 0) s m args below meth c g A 12 (zQi below args s g A 0 0 (wR g ad) Q) (wR g ad u) 0 0 pc lv st
def wp_X8_comes_375 (Q : Int32 → RS → Prop) (u : RS) (x7 : Int32) : Prop :=
  Q x7 u
set_option maxRecDepth 20000 in
theorem b_X8_comes_375 (C : zC p s m args meth c g A cX8_comes RX8 12) (hr : meth.sig.returnType = (some .int)) (ad : Nat → Nat) (Q : Int32 → RS → Prop) (u : RS) (x7 : Int32) (h : wp_X8_comes_375 Q u x7) : j_X8_comes p l e s m args below meth c g A ad Q u 375 [(0, .ref (ad 0)), (7, .int x7)] [] := by
  unfold wp_X8_comes_375 at h
  refine z_iload C dX8_comes_375 1 rfl ?_
  exact z_iret C hr u rfl h dX8_comes_377
def wp_X8_comes_308 (Q : Int32 → RS → Prop) (u : RS) (x4 : Int32) (x7 : Int32) (x10 : Int32) : Prop :=
  vp_in x10 1065 ∧ vp_in x10 1065 ∧ ∀ u142 : RS, u142 = rI u 3 (upd (u.1 3) (zn x10) ((u.1 3 (zn x10)) + 1)) → vp_in (x10 + 7) 1065 ∧ vp_in (x10 + 7) 1065 ∧ ∀ u145 : RS, u145 = rI u142 3 (upd (u142.1 3) (zn (x10 + 7)) ((u142.1 3 (zn (x10 + 7))) + 1)) → vp_in x10 1065 ∧ ((u145.1 3 (zn x10) < u145.1 3 22 → wp_X8_comes_375 Q u145 x7) ∧ (¬ u145.1 3 (zn x10) < u145.1 3 22 → vp_in (x4 + 12) 1065 ∧ vp_in (x4 + 12) 1065 ∧ ∀ u150 : RS, u150 = rI u145 3 (upd (u145.1 3) (zn (x4 + 12)) ((u145.1 3 (zn (x4 + 12))) + 1)) → ∀ u151 : RS, u151 = rI u150 3 (upd (u150.1 3) 12 ((u150.1 3 12) + 1)) → wp_X8_comes_375 Q u151 x7))
set_option maxRecDepth 20000 in
theorem b_X8_comes_308 (C : zC p s m args meth c g A cX8_comes RX8 12) (hr : meth.sig.returnType = (some .int)) (ad : Nat → Nat) (Q : Int32 → RS → Prop) (u : RS) (x4 : Int32) (x7 : Int32) (x10 : Int32) (h : wp_X8_comes_308 Q u x4 x7 x10) : j_X8_comes p l e s m args below meth c g A ad Q u 308 [(0, .ref (ad 0)), (4, .int x4), (7, .int x7), (10, .int x10)] [] := by
  unfold wp_X8_comes_308 at h
  refine z_aload_n C dX8_comes_308 rfl 0 rfl ?_
  refine gR_row C dX8_comes_309 ?_
  refine z_iload C dX8_comes_312 3 rfl ?_
  refine z_dup2 C dX8_comes_314 rfl rfl ?_
  obtain ⟨hi140, h⟩ := h
  refine lR_row C hi140 dX8_comes_315 ?_
  refine z_iconst (v := 1) C dX8_comes_316 (by decide) ?_
  refine z_iadd C dX8_comes_317 ?_
  obtain ⟨hi141, h⟩ := h
  refine sR_row C hi141 dX8_comes_318 ?_
  refine z_stR (fun u142 eu142 => ?_)
  have h := h u142 eu142
  refine z_aload_n C dX8_comes_319 rfl 0 rfl ?_
  refine gR_row C dX8_comes_320 ?_
  refine z_iload C dX8_comes_323 3 rfl ?_
  refine z_bipush (v := 7) C dX8_comes_325 (by decide) ?_
  refine z_iadd C dX8_comes_327 ?_
  refine z_dup2 C dX8_comes_328 rfl rfl ?_
  obtain ⟨hi143, h⟩ := h
  refine lR_row C hi143 dX8_comes_329 ?_
  refine z_iconst (v := 1) C dX8_comes_330 (by decide) ?_
  refine z_iadd C dX8_comes_331 ?_
  obtain ⟨hi144, h⟩ := h
  refine sR_row C hi144 dX8_comes_332 ?_
  refine z_stR (fun u145 eu145 => ?_)
  have h := h u145 eu145
  refine z_aload_n C dX8_comes_333 rfl 0 rfl ?_
  refine gR_row C dX8_comes_334 ?_
  refine z_iload C dX8_comes_337 3 rfl ?_
  obtain ⟨hi146, h⟩ := h
  refine lR_row C hi146 dX8_comes_339 ?_
  refine z_aload_n C dX8_comes_340 rfl 0 rfl ?_
  refine gR_row C dX8_comes_341 ?_
  refine z_bipush (v := 22) C dX8_comes_344 (by decide) ?_
  refine lRn_row C 22 (by decide +kernel) (vp_in_iff.mpr (by decide +kernel)) dX8_comes_346 ?_
  refine z_icmp_lt C dX8_comes_347 (tgt := 375) (by decide) (fun hc147 => ?_) (fun hc147 => ?_)
  · have h := h.1 hc147
    refine z_lv (lv1 := [(0, .ref (ad 0)), (7, .int x7)]) [0, 2] rfl ?_
    exact b_X8_comes_375 C hr ad Q u145 x7 h
  · have h := h.2 hc147
    refine z_aload_n C dX8_comes_350 rfl 0 rfl ?_
    refine gR_row C dX8_comes_351 ?_
    refine z_iload C dX8_comes_354 1 rfl ?_
    refine z_bipush (v := 12) C dX8_comes_356 (by decide) ?_
    refine z_iadd C dX8_comes_358 ?_
    refine z_dup2 C dX8_comes_359 rfl rfl ?_
    obtain ⟨hi148, h⟩ := h
    refine lR_row C hi148 dX8_comes_360 ?_
    refine z_iconst (v := 1) C dX8_comes_361 (by decide) ?_
    refine z_iadd C dX8_comes_362 ?_
    obtain ⟨hi149, h⟩ := h
    refine sR_row C hi149 dX8_comes_363 ?_
    refine z_stR (fun u150 eu150 => ?_)
    have h := h u150 eu150
    refine z_aload_n C dX8_comes_364 rfl 0 rfl ?_
    refine gR_row C dX8_comes_365 ?_
    refine z_bipush (v := 12) C dX8_comes_368 (by decide) ?_
    refine z_dup2 C dX8_comes_370 rfl rfl ?_
    refine lRn_row C 12 (by decide +kernel) (vp_in_iff.mpr (by decide +kernel)) dX8_comes_371 ?_
    refine z_iconst (v := 1) C dX8_comes_372 (by decide) ?_
    refine z_iadd C dX8_comes_373 ?_
    refine sRn_row C 12 (by decide +kernel) (vp_in_iff.mpr (by decide +kernel)) dX8_comes_374 ?_
    refine z_stR (fun u151 eu151 => ?_)
    have h := h u151 eu151
    refine z_lv (lv1 := [(0, .ref (ad 0)), (7, .int x7)]) [0, 2] rfl ?_
    exact b_X8_comes_375 C hr ad Q u151 x7 h
def wp_X8_comes_165 (Q : Int32 → RS → Prop) (u : RS) (x1 : Int32) (x2 : Int32) (x3 : Int32) (x4 : Int32) (x7 : Int32) (x8 : Int32) : Prop :=
  wp_X8_queueAt x7 (fun r125 => vp_in r125 1065 ∧ ((u.1 3 (zn r125) < u.1 3 14 → vp_in r125 1065 ∧ wp_X8_packetAt x7 (u.1 3 (zn r125)) (fun r129 => vp_in r129 1065 ∧ ∀ u131 : RS, u131 = rI u 3 (upd (u.1 3) (zn r129) x1) → vp_in (r129 + 1) 1065 ∧ ∀ u133 : RS, u133 = rI u131 3 (upd (u131.1 3) (zn (r129 + 1)) x8) → vp_in (r129 + 2) 1065 ∧ ∀ u135 : RS, u135 = rI u133 3 (upd (u133.1 3) (zn (r129 + 2)) x2) → vp_in (r129 + 3) 1065 ∧ ∀ u137 : RS, u137 = rI u135 3 (upd (u135.1 3) (zn (r129 + 3)) x3) → vp_in r125 1065 ∧ ((¬ u137.1 3 (zn r125) = 0 → wp_X8_comes_308 Q u137 x4 x7 r125) ∧ (u137.1 3 (zn r125) = 0 → vp_in (r125 + 2) 1065 ∧ ∀ u153 : RS, u153 = rI u137 3 (upd (u137.1 3) (zn (r125 + 2)) (u137.1 3 6)) → wp_X8_comes_308 Q u153 x4 x7 r125)))) ∧ (¬ u.1 3 (zn r125) < u.1 3 14 → vp_in (x4 + 7) 1065 ∧ vp_in (x4 + 7) 1065 ∧ ∀ u156 : RS, u156 = rI u 3 (upd (u.1 3) (zn (x4 + 7)) ((u.1 3 (zn (x4 + 7))) + 1)) → ∀ u157 : RS, u157 = rI u156 3 (upd (u156.1 3) 8 ((u156.1 3 8) + 1)) → vp_in (r125 + 5) 1065 ∧ vp_in (r125 + 5) 1065 ∧ ∀ u160 : RS, u160 = rI u157 3 (upd (u157.1 3) (zn (r125 + 5)) ((u157.1 3 (zn (r125 + 5))) + 1)) → Q 4 u160)))
set_option maxRecDepth 20000 in
theorem b_X8_comes_165 (C : zC p s m args meth c g A cX8_comes RX8 12) (hr : meth.sig.returnType = (some .int)) (ad : Nat → Nat) (Q : Int32 → RS → Prop) (u : RS) (x1 : Int32) (x2 : Int32) (x3 : Int32) (x4 : Int32) (x7 : Int32) (x8 : Int32) (h : wp_X8_comes_165 Q u x1 x2 x3 x4 x7 x8) : j_X8_comes p l e s m args below meth c g A ad Q u 165 [(0, .ref (ad 0)), (1, .int x1), (2, .int x2), (3, .int x3), (4, .int x4), (7, .int x7), (8, .int x8)] [] := by
  unfold wp_X8_comes_165 at h
  refine z_iload C dX8_comes_165 5 rfl ?_
  refine cSi (As := [.int x7]) C (c_X8_queueAt l g x7 _ h) s_X8_queueAt ml8_57 ⟨Nat.le_of_ble_eq_true rfl, Nat.le_of_ble_eq_true rfl⟩ ⟨Nat.zero_le _, Nat.zero_le _⟩ (Nat.le_of_ble_eq_true rfl) rfl dX8_comes_167 ?_
  intro r125 h
  refine z_istore (lv1 := [(10, .int r125), (0, .ref (ad 0)), (1, .int x1), (2, .int x2), (3, .int x3), (4, .int x4), (7, .int x7), (8, .int x8)]) C dX8_comes_170 (by decide) rfl ?_
  refine z_aload_n C dX8_comes_172 rfl 1 rfl ?_
  refine gR_row C dX8_comes_173 ?_
  refine z_iload C dX8_comes_176 0 rfl ?_
  obtain ⟨hi126, h⟩ := h
  refine lR_row C hi126 dX8_comes_178 ?_
  refine z_aload_n C dX8_comes_179 rfl 1 rfl ?_
  refine gR_row C dX8_comes_180 ?_
  refine z_bipush (v := 14) C dX8_comes_183 (by decide) ?_
  refine lRn_row C 14 (by decide +kernel) (vp_in_iff.mpr (by decide +kernel)) dX8_comes_185 ?_
  refine z_icmp_lt C dX8_comes_186 (tgt := 229) (by decide) (fun hc127 => ?_) (fun hc127 => ?_)
  · have h := h.1 hc127
    refine z_iload C dX8_comes_229 6 rfl ?_
    refine z_aload_n C dX8_comes_231 rfl 1 rfl ?_
    refine gR_row C dX8_comes_232 ?_
    refine z_iload C dX8_comes_235 0 rfl ?_
    obtain ⟨hi128, h⟩ := h
    refine lR_row C hi128 dX8_comes_237 ?_
    refine cSi (As := [.int x7, .int (u.1 3 (zn r125))]) C (c_X8_packetAt l g x7 (u.1 3 (zn r125)) _ h) s_X8_packetAt ml8_125 ⟨Nat.le_of_ble_eq_true rfl, Nat.le_of_ble_eq_true rfl⟩ ⟨Nat.zero_le _, Nat.zero_le _⟩ (Nat.le_of_ble_eq_true rfl) rfl dX8_comes_238 ?_
    intro r129 h
    refine z_istore (lv1 := [(11, .int r129), (10, .int r125), (0, .ref (ad 0)), (1, .int x1), (2, .int x2), (3, .int x3), (4, .int x4), (7, .int x7), (8, .int x8)]) C dX8_comes_241 (by decide) rfl ?_
    refine z_aload_n C dX8_comes_243 rfl 2 rfl ?_
    refine gR_row C dX8_comes_244 ?_
    refine z_iload C dX8_comes_247 0 rfl ?_
    refine z_iload_n C dX8_comes_249 rfl 3 rfl ?_
    obtain ⟨hi130, h⟩ := h
    refine sR_row C hi130 dX8_comes_250 ?_
    refine z_stR (fun u131 eu131 => ?_)
    have h := h u131 eu131
    refine z_aload_n C dX8_comes_251 rfl 2 rfl ?_
    refine gR_row C dX8_comes_252 ?_
    refine z_iload C dX8_comes_255 0 rfl ?_
    refine z_iconst (v := 1) C dX8_comes_257 (by decide) ?_
    refine z_iadd C dX8_comes_258 ?_
    refine z_iload C dX8_comes_259 8 rfl ?_
    obtain ⟨hi132, h⟩ := h
    refine sR_row C hi132 dX8_comes_261 ?_
    refine z_stR (fun u133 eu133 => ?_)
    have h := h u133 eu133
    refine z_aload_n C dX8_comes_262 rfl 2 rfl ?_
    refine gR_row C dX8_comes_263 ?_
    refine z_iload C dX8_comes_266 0 rfl ?_
    refine z_iconst (v := 2) C dX8_comes_268 (by decide) ?_
    refine z_iadd C dX8_comes_269 ?_
    refine z_iload_n C dX8_comes_270 rfl 4 rfl ?_
    obtain ⟨hi134, h⟩ := h
    refine sR_row C hi134 dX8_comes_271 ?_
    refine z_stR (fun u135 eu135 => ?_)
    have h := h u135 eu135
    refine z_aload_n C dX8_comes_272 rfl 2 rfl ?_
    refine gR_row C dX8_comes_273 ?_
    refine z_iload C dX8_comes_276 0 rfl ?_
    refine z_iconst (v := 3) C dX8_comes_278 (by decide) ?_
    refine z_iadd C dX8_comes_279 ?_
    refine z_iload_n C dX8_comes_280 rfl 5 rfl ?_
    obtain ⟨hi136, h⟩ := h
    refine sR_row C hi136 dX8_comes_281 ?_
    refine z_stR (fun u137 eu137 => ?_)
    have h := h u137 eu137
    refine z_aload_n C dX8_comes_282 rfl 2 rfl ?_
    refine gR_row C dX8_comes_283 ?_
    refine z_iload C dX8_comes_286 1 rfl ?_
    obtain ⟨hi138, h⟩ := h
    refine lR_row C hi138 dX8_comes_288 ?_
    refine z_if_ne C dX8_comes_289 (tgt := 308) (by decide) (fun hc139 => ?_) (fun hc139 => ?_)
    · have h := h.1 hc139
      refine z_lv (lv1 := [(0, .ref (ad 0)), (4, .int x4), (7, .int x7), (10, .int r125)]) [2, 6, 7, 1] rfl ?_
      exact b_X8_comes_308 C hr ad Q u137 x4 x7 r125 h
    · have h := h.2 hc139
      refine z_aload_n C dX8_comes_292 rfl 2 rfl ?_
      refine gR_row C dX8_comes_293 ?_
      refine z_iload C dX8_comes_296 1 rfl ?_
      refine z_iconst (v := 2) C dX8_comes_298 (by decide) ?_
      refine z_iadd C dX8_comes_299 ?_
      refine z_aload_n C dX8_comes_300 rfl 2 rfl ?_
      refine gR_row C dX8_comes_301 ?_
      refine z_bipush (v := 6) C dX8_comes_304 (by decide) ?_
      refine lRn_row C 6 (by decide +kernel) (vp_in_iff.mpr (by decide +kernel)) dX8_comes_306 ?_
      obtain ⟨hi152, h⟩ := h
      refine sR_row C hi152 dX8_comes_307 ?_
      refine z_stR (fun u153 eu153 => ?_)
      have h := h u153 eu153
      refine z_lv (lv1 := [(0, .ref (ad 0)), (4, .int x4), (7, .int x7), (10, .int r125)]) [2, 6, 7, 1] rfl ?_
      exact b_X8_comes_308 C hr ad Q u153 x4 x7 r125 h
  · have h := h.2 hc127
    refine z_aload_n C dX8_comes_189 rfl 1 rfl ?_
    refine gR_row C dX8_comes_190 ?_
    refine z_iload C dX8_comes_193 5 rfl ?_
    refine z_bipush (v := 7) C dX8_comes_195 (by decide) ?_
    refine z_iadd C dX8_comes_197 ?_
    refine z_dup2 C dX8_comes_198 rfl rfl ?_
    obtain ⟨hi154, h⟩ := h
    refine lR_row C hi154 dX8_comes_199 ?_
    refine z_iconst (v := 1) C dX8_comes_200 (by decide) ?_
    refine z_iadd C dX8_comes_201 ?_
    obtain ⟨hi155, h⟩ := h
    refine sR_row C hi155 dX8_comes_202 ?_
    refine z_stR (fun u156 eu156 => ?_)
    have h := h u156 eu156
    refine z_aload_n C dX8_comes_203 rfl 1 rfl ?_
    refine gR_row C dX8_comes_204 ?_
    refine z_bipush (v := 8) C dX8_comes_207 (by decide) ?_
    refine z_dup2 C dX8_comes_209 rfl rfl ?_
    refine lRn_row C 8 (by decide +kernel) (vp_in_iff.mpr (by decide +kernel)) dX8_comes_210 ?_
    refine z_iconst (v := 1) C dX8_comes_211 (by decide) ?_
    refine z_iadd C dX8_comes_212 ?_
    refine sRn_row C 8 (by decide +kernel) (vp_in_iff.mpr (by decide +kernel)) dX8_comes_213 ?_
    refine z_stR (fun u157 eu157 => ?_)
    have h := h u157 eu157
    refine z_aload_n C dX8_comes_214 rfl 1 rfl ?_
    refine gR_row C dX8_comes_215 ?_
    refine z_iload C dX8_comes_218 0 rfl ?_
    refine z_iconst (v := 5) C dX8_comes_220 (by decide) ?_
    refine z_iadd C dX8_comes_221 ?_
    refine z_dup2 C dX8_comes_222 rfl rfl ?_
    obtain ⟨hi158, h⟩ := h
    refine lR_row C hi158 dX8_comes_223 ?_
    refine z_iconst (v := 1) C dX8_comes_224 (by decide) ?_
    refine z_iadd C dX8_comes_225 ?_
    obtain ⟨hi159, h⟩ := h
    refine sR_row C hi159 dX8_comes_226 ?_
    refine z_stR (fun u160 eu160 => ?_)
    have h := h u160 eu160
    refine z_iconst (v := 4) C dX8_comes_227 (by decide) ?_
    exact z_iret C hr u160 rfl h dX8_comes_228
def wp_X8_comes_133 (Q : Int32 → RS → Prop) (u : RS) (x1 : Int32) (x2 : Int32) (x3 : Int32) (x4 : Int32) (x5 : Int32) (x7 : Int32) (x8 : Int32) : Prop :=
  ((x7 = x5 → wp_X8_comes_165 Q u x1 x2 x3 x4 x7 x8) ∧ (¬ x7 = x5 → vp_in (x4 + 8) 1065 ∧ vp_in (x4 + 8) 1065 ∧ ∀ u163 : RS, u163 = rI u 3 (upd (u.1 3) (zn (x4 + 8)) ((u.1 3 (zn (x4 + 8))) + 1)) → ∀ u164 : RS, u164 = rI u163 3 (upd (u163.1 3) 9 ((u163.1 3 9) + 1)) → wp_X8_comes_165 Q u164 x1 x2 x3 x4 x7 x8))
set_option maxRecDepth 20000 in
theorem b_X8_comes_133 (C : zC p s m args meth c g A cX8_comes RX8 12) (hr : meth.sig.returnType = (some .int)) (ad : Nat → Nat) (Q : Int32 → RS → Prop) (u : RS) (x1 : Int32) (x2 : Int32) (x3 : Int32) (x4 : Int32) (x5 : Int32) (x7 : Int32) (x8 : Int32) (h : wp_X8_comes_133 Q u x1 x2 x3 x4 x5 x7 x8) : j_X8_comes p l e s m args below meth c g A ad Q u 133 [(0, .ref (ad 0)), (1, .int x1), (2, .int x2), (3, .int x3), (4, .int x4), (5, .int x5), (7, .int x7), (8, .int x8)] [] := by
  unfold wp_X8_comes_133 at h
  refine z_iload C dX8_comes_133 6 rfl ?_
  refine z_iload C dX8_comes_135 5 rfl ?_
  refine z_icmp_eq C dX8_comes_137 (tgt := 165) (by decide) (fun hc124 => ?_) (fun hc124 => ?_)
  · have h := h.1 hc124
    refine z_lv (lv1 := [(0, .ref (ad 0)), (1, .int x1), (2, .int x2), (3, .int x3), (4, .int x4), (7, .int x7), (8, .int x8)]) [0, 1, 2, 3, 4, 6, 7] rfl ?_
    exact b_X8_comes_165 C hr ad Q u x1 x2 x3 x4 x7 x8 h
  · have h := h.2 hc124
    refine z_aload_n C dX8_comes_140 rfl 0 rfl ?_
    refine gR_row C dX8_comes_141 ?_
    refine z_iload C dX8_comes_144 4 rfl ?_
    refine z_bipush (v := 8) C dX8_comes_146 (by decide) ?_
    refine z_iadd C dX8_comes_148 ?_
    refine z_dup2 C dX8_comes_149 rfl rfl ?_
    obtain ⟨hi161, h⟩ := h
    refine lR_row C hi161 dX8_comes_150 ?_
    refine z_iconst (v := 1) C dX8_comes_151 (by decide) ?_
    refine z_iadd C dX8_comes_152 ?_
    obtain ⟨hi162, h⟩ := h
    refine sR_row C hi162 dX8_comes_153 ?_
    refine z_stR (fun u163 eu163 => ?_)
    have h := h u163 eu163
    refine z_aload_n C dX8_comes_154 rfl 0 rfl ?_
    refine gR_row C dX8_comes_155 ?_
    refine z_bipush (v := 9) C dX8_comes_158 (by decide) ?_
    refine z_dup2 C dX8_comes_160 rfl rfl ?_
    refine lRn_row C 9 (by decide +kernel) (vp_in_iff.mpr (by decide +kernel)) dX8_comes_161 ?_
    refine z_iconst (v := 1) C dX8_comes_162 (by decide) ?_
    refine z_iadd C dX8_comes_163 ?_
    refine sRn_row C 9 (by decide +kernel) (vp_in_iff.mpr (by decide +kernel)) dX8_comes_164 ?_
    refine z_stR (fun u164 eu164 => ?_)
    have h := h u164 eu164
    refine z_lv (lv1 := [(0, .ref (ad 0)), (1, .int x1), (2, .int x2), (3, .int x3), (4, .int x4), (7, .int x7), (8, .int x8)]) [0, 1, 2, 3, 4, 6, 7] rfl ?_
    exact b_X8_comes_165 C hr ad Q u164 x1 x2 x3 x4 x7 x8 h
def wp_X8_comes_33 (Q : Int32 → RS → Prop) (u : RS) (x1 : Int32) (x2 : Int32) (x3 : Int32) (x4 : Int32) (x5 : Int32) (t0 : Int32) : Prop :=
  vp_in (x4 + 5) 1065 ∧ ∀ x108 : Int32, x108 = u.1 3 (zn (x4 + 5)) → vp_in (x4 + 5) 1065 ∧ vp_in (x4 + 5) 1065 ∧ ∀ u111 : RS, u111 = rI u 3 (upd (u.1 3) (zn (x4 + 5)) ((u.1 3 (zn (x4 + 5))) + x2)) → vp_in (x4 + 6) 1065 ∧ vp_in (x4 + 6) 1065 ∧ ∀ u114 : RS, u114 = rI u111 3 (upd (u111.1 3) (zn (x4 + 6)) ((u111.1 3 (zn (x4 + 6))) + 1)) → ∀ u115 : RS, u115 = rI u114 3 (upd (u114.1 3) 7 ((u114.1 3 7) + 1)) → wp_X8_entryOf u115 x1 (fun r116 u117 => vp_in (39 + r116) 1065 ∧ vp_in (39 + r116) 1065 ∧ ∀ u120 : RS, u120 = rI u117 3 (upd (u117.1 3) (zn (39 + r116)) ((u117.1 3 (zn (39 + r116))) + 1)) → wp_X8_ruleOf u120 x1 (fun r121 u122 => ((r121 = (-1) → wp_X8_comes_133 Q u122 x1 x2 x3 x4 x5 t0 x108) ∧ (¬ r121 = (-1) → wp_X8_ruleAt r121 (fun r165 => vp_in (r165 + 2) 1065 ∧ ∀ u167 : RS, u167 = rI u122 3 (upd (u122.1 3) (zn (r165 + 2)) (u122.1 3 6)) → wp_X8_comes_133 Q u167 x1 x2 x3 x4 x5 t0 x108)))))
set_option maxRecDepth 20000 in
theorem b_X8_comes_33 (C : zC p s m args meth c g A cX8_comes RX8 12) (hr : meth.sig.returnType = (some .int)) (ad : Nat → Nat) (Q : Int32 → RS → Prop) (u : RS) (x1 : Int32) (x2 : Int32) (x3 : Int32) (x4 : Int32) (x5 : Int32) (t0 : Int32) (h : wp_X8_comes_33 Q u x1 x2 x3 x4 x5 t0) : j_X8_comes p l e s m args below meth c g A ad Q u 33 [(0, .ref (ad 0)), (1, .int x1), (2, .int x2), (3, .int x3), (4, .int x4), (5, .int x5)] [.int t0] := by
  unfold wp_X8_comes_33 at h
  refine z_istore (lv1 := [(7, .int t0), (0, .ref (ad 0)), (1, .int x1), (2, .int x2), (3, .int x3), (4, .int x4), (5, .int x5)]) C dX8_comes_33 (by decide) rfl ?_
  refine z_aload_n C dX8_comes_35 rfl 1 rfl ?_
  refine gR_row C dX8_comes_36 ?_
  refine z_iload C dX8_comes_39 5 rfl ?_
  refine z_iconst (v := 5) C dX8_comes_41 (by decide) ?_
  refine z_iadd C dX8_comes_42 ?_
  obtain ⟨hi107, h⟩ := h
  refine lR_row C hi107 dX8_comes_43 ?_
  refine z_topi (fun x108 ex108 => ?_)
  have h := h x108 ex108
  refine z_istore (lv1 := [(8, .int x108), (7, .int t0), (0, .ref (ad 0)), (1, .int x1), (2, .int x2), (3, .int x3), (4, .int x4), (5, .int x5)]) C dX8_comes_44 (by decide) rfl ?_
  refine z_aload_n C dX8_comes_46 rfl 2 rfl ?_
  refine gR_row C dX8_comes_47 ?_
  refine z_iload C dX8_comes_50 6 rfl ?_
  refine z_iconst (v := 5) C dX8_comes_52 (by decide) ?_
  refine z_iadd C dX8_comes_53 ?_
  refine z_dup2 C dX8_comes_54 rfl rfl ?_
  obtain ⟨hi109, h⟩ := h
  refine lR_row C hi109 dX8_comes_55 ?_
  refine z_iload_n C dX8_comes_56 rfl 4 rfl ?_
  refine z_iadd C dX8_comes_57 ?_
  obtain ⟨hi110, h⟩ := h
  refine sR_row C hi110 dX8_comes_58 ?_
  refine z_stR (fun u111 eu111 => ?_)
  have h := h u111 eu111
  refine z_aload_n C dX8_comes_59 rfl 2 rfl ?_
  refine gR_row C dX8_comes_60 ?_
  refine z_iload C dX8_comes_63 6 rfl ?_
  refine z_bipush (v := 6) C dX8_comes_65 (by decide) ?_
  refine z_iadd C dX8_comes_67 ?_
  refine z_dup2 C dX8_comes_68 rfl rfl ?_
  obtain ⟨hi112, h⟩ := h
  refine lR_row C hi112 dX8_comes_69 ?_
  refine z_iconst (v := 1) C dX8_comes_70 (by decide) ?_
  refine z_iadd C dX8_comes_71 ?_
  obtain ⟨hi113, h⟩ := h
  refine sR_row C hi113 dX8_comes_72 ?_
  refine z_stR (fun u114 eu114 => ?_)
  have h := h u114 eu114
  refine z_aload_n C dX8_comes_73 rfl 2 rfl ?_
  refine gR_row C dX8_comes_74 ?_
  refine z_bipush (v := 7) C dX8_comes_77 (by decide) ?_
  refine z_dup2 C dX8_comes_79 rfl rfl ?_
  refine lRn_row C 7 (by decide +kernel) (vp_in_iff.mpr (by decide +kernel)) dX8_comes_80 ?_
  refine z_iconst (v := 1) C dX8_comes_81 (by decide) ?_
  refine z_iadd C dX8_comes_82 ?_
  refine sRn_row C 7 (by decide +kernel) (vp_in_iff.mpr (by decide +kernel)) dX8_comes_83 ?_
  refine z_stR (fun u115 eu115 => ?_)
  have h := h u115 eu115
  refine z_aload_n C dX8_comes_84 rfl 2 rfl ?_
  refine gR_row C dX8_comes_85 ?_
  refine z_bipush (v := 39) C dX8_comes_88 (by decide) ?_
  refine z_aload_n C dX8_comes_90 rfl 2 rfl ?_
  refine z_iload_n C dX8_comes_91 rfl 3 rfl ?_
  refine cRi (As := [.int x1]) C (c_X8_entryOf l g ad u115 x1 _ h) v_X8_entryOf ml8_122 rfl ⟨Nat.le_of_ble_eq_true rfl, Nat.le_of_ble_eq_true rfl⟩ ⟨Nat.zero_le _, Nat.zero_le _⟩ (Nat.le_of_ble_eq_true rfl) rfl dX8_comes_92 ?_
  intro r116 u117 h
  refine z_iadd C dX8_comes_95 ?_
  refine z_dup2 C dX8_comes_96 rfl rfl ?_
  obtain ⟨hi118, h⟩ := h
  refine lR_row C hi118 dX8_comes_97 ?_
  refine z_iconst (v := 1) C dX8_comes_98 (by decide) ?_
  refine z_iadd C dX8_comes_99 ?_
  obtain ⟨hi119, h⟩ := h
  refine sR_row C hi119 dX8_comes_100 ?_
  refine z_stR (fun u120 eu120 => ?_)
  have h := h u120 eu120
  refine z_aload_n C dX8_comes_101 rfl 2 rfl ?_
  refine z_iload_n C dX8_comes_102 rfl 3 rfl ?_
  refine cRi (As := [.int x1]) C (c_X8_ruleOf l g ad u120 x1 _ h) v_X8_ruleOf ml8_119 rfl ⟨Nat.le_of_ble_eq_true rfl, Nat.le_of_ble_eq_true rfl⟩ ⟨Nat.zero_le _, Nat.zero_le _⟩ (Nat.le_of_ble_eq_true rfl) rfl dX8_comes_103 ?_
  intro r121 u122 h
  refine z_istore (lv1 := [(9, .int r121), (8, .int x108), (7, .int t0), (0, .ref (ad 0)), (1, .int x1), (2, .int x2), (3, .int x3), (4, .int x4), (5, .int x5)]) C dX8_comes_106 (by decide) rfl ?_
  refine z_iload C dX8_comes_108 0 rfl ?_
  refine z_iconst (v := (-1)) C dX8_comes_110 (by decide) ?_
  refine z_icmp_eq C dX8_comes_111 (tgt := 133) (by decide) (fun hc123 => ?_) (fun hc123 => ?_)
  · have h := h.1 hc123
    refine z_lv (lv1 := [(0, .ref (ad 0)), (1, .int x1), (2, .int x2), (3, .int x3), (4, .int x4), (5, .int x5), (7, .int t0), (8, .int x108)]) [3, 4, 5, 6, 7, 8, 2, 1] rfl ?_
    exact b_X8_comes_133 C hr ad Q u122 x1 x2 x3 x4 x5 t0 x108 h
  · have h := h.2 hc123
    refine z_aload_n C dX8_comes_114 rfl 3 rfl ?_
    refine gR_row C dX8_comes_115 ?_
    refine z_iload C dX8_comes_118 0 rfl ?_
    refine cSi (As := [.int r121]) C (c_X8_ruleAt l g r121 _ h) s_X8_ruleAt ml8_116 ⟨Nat.le_of_ble_eq_true rfl, Nat.le_of_ble_eq_true rfl⟩ ⟨Nat.zero_le _, Nat.zero_le _⟩ (Nat.le_of_ble_eq_true rfl) rfl dX8_comes_120 ?_
    intro r165 h
    refine z_iconst (v := 2) C dX8_comes_123 (by decide) ?_
    refine z_iadd C dX8_comes_124 ?_
    refine z_aload_n C dX8_comes_125 rfl 3 rfl ?_
    refine gR_row C dX8_comes_126 ?_
    refine z_bipush (v := 6) C dX8_comes_129 (by decide) ?_
    refine lRn_row C 6 (by decide +kernel) (vp_in_iff.mpr (by decide +kernel)) dX8_comes_131 ?_
    obtain ⟨hi166, h⟩ := h
    refine sR_row C hi166 dX8_comes_132 ?_
    refine z_stR (fun u167 eu167 => ?_)
    have h := h u167 eu167
    refine z_lv (lv1 := [(0, .ref (ad 0)), (1, .int x1), (2, .int x2), (3, .int x3), (4, .int x4), (5, .int x5), (7, .int t0), (8, .int x108)]) [3, 4, 5, 6, 7, 8, 2, 1] rfl ?_
    exact b_X8_comes_133 C hr ad Q u167 x1 x2 x3 x4 x5 t0 x108 h
def wp_X8_comes (u : RS) (x1 : Int32) (x2 : Int32) (x3 : Int32) (Q : Int32 → RS → Prop) : Prop :=
  wp_X8_flowAt x1 (fun r101 => wp_X8_wishOf u x1 (fun r102 u103 => wp_X8_queueOf u103 x1 (fun r104 u105 => ((¬ r104 = (-1) → wp_X8_comes_33 Q u105 x1 x2 x3 r101 r102 r104) ∧ (r104 = (-1) → wp_X8_comes_33 Q u105 x1 x2 x3 r101 r102 r102)))))
set_option maxRecDepth 20000 in
theorem c_X8_comes (l : Launch) (g : zG) (ad : Nat → Nat) (u : RS) (x1 : Int32) (x2 : Int32) (x3 : Int32) (Q : Int32 → RS → Prop) (h : wp_X8_comes u x1 x2 x3 Q) : zMi l yX8_comes cX8_comes 12 (some .int) 3 0 0 g [.ref (ad 0), .int x1, .int x2, .int x3] (wR g ad u) (wR g ad) Q := by
  refine zMi_of RX8 (by decide) rfl [(0, .ref (ad 0)), (1, .int x1), (2, .int x2), (3, .int x3)] rfl (Nat.le_of_ble_eq_true rfl) (fun p e s m args below meth c A C hr hnm => ?_)
  unfold wp_X8_comes at h
  refine z_iload_n C dX8_comes_0 rfl 1 rfl ?_
  refine cSi (As := [.int x1]) C (c_X8_flowAt l g x1 _ h) s_X8_flowAt ml8_102 ⟨Nat.le_of_ble_eq_true rfl, Nat.le_of_ble_eq_true rfl⟩ ⟨Nat.zero_le _, Nat.zero_le _⟩ (Nat.le_of_ble_eq_true rfl) rfl dX8_comes_1 ?_
  intro r101 h
  refine z_istore (lv1 := [(4, .int r101), (0, .ref (ad 0)), (1, .int x1), (2, .int x2), (3, .int x3)]) C dX8_comes_4 (by decide) rfl ?_
  refine z_aload_n C dX8_comes_6 rfl 1 rfl ?_
  refine z_iload_n C dX8_comes_7 rfl 2 rfl ?_
  refine cRi (As := [.int x1]) C (c_X8_wishOf l g ad u x1 _ h) v_X8_wishOf ml8_189 rfl ⟨Nat.le_of_ble_eq_true rfl, Nat.le_of_ble_eq_true rfl⟩ ⟨Nat.zero_le _, Nat.zero_le _⟩ (Nat.le_of_ble_eq_true rfl) rfl dX8_comes_8 ?_
  intro r102 u103 h
  refine z_istore (lv1 := [(5, .int r102), (4, .int r101), (0, .ref (ad 0)), (1, .int x1), (2, .int x2), (3, .int x3)]) C dX8_comes_11 (by decide) rfl ?_
  refine z_aload_n C dX8_comes_13 rfl 2 rfl ?_
  refine z_iload_n C dX8_comes_14 rfl 3 rfl ?_
  refine cRi (As := [.int x1]) C (c_X8_queueOf l g ad u103 x1 _ h) v_X8_queueOf ml8_192 rfl ⟨Nat.le_of_ble_eq_true rfl, Nat.le_of_ble_eq_true rfl⟩ ⟨Nat.zero_le _, Nat.zero_le _⟩ (Nat.le_of_ble_eq_true rfl) rfl dX8_comes_15 ?_
  intro r104 u105 h
  refine z_istore (lv1 := [(6, .int r104), (5, .int r102), (4, .int r101), (0, .ref (ad 0)), (1, .int x1), (2, .int x2), (3, .int x3)]) C dX8_comes_18 (by decide) rfl ?_
  refine z_iload C dX8_comes_20 0 rfl ?_
  refine z_iconst (v := (-1)) C dX8_comes_22 (by decide) ?_
  refine z_icmp_ne C dX8_comes_23 (tgt := 31) (by decide) (fun hc106 => ?_) (fun hc106 => ?_)
  · have h := h.1 hc106
    refine z_iload C dX8_comes_31 0 rfl ?_
    refine z_lv (lv1 := [(0, .ref (ad 0)), (1, .int x1), (2, .int x2), (3, .int x3), (4, .int r101), (5, .int r102)]) [3, 4, 5, 6, 2, 1] rfl ?_
    exact b_X8_comes_33 C hr ad Q u105 x1 x2 x3 r101 r102 r104 h
  · have h := h.2 hc106
    refine z_iload C dX8_comes_26 1 rfl ?_
    refine z_goto C dX8_comes_28 (tgt := 33) (by decide) ?_
    refine z_lv (lv1 := [(0, .ref (ad 0)), (1, .int x1), (2, .int x2), (3, .int x3), (4, .int r101), (5, .int r102)]) [3, 4, 5, 6, 2, 1] rfl ?_
    exact b_X8_comes_33 C hr ad Q u105 x1 x2 x3 r101 r102 r102 h
abbrev j_X8_follows (p : Program) (l : Launch) (e : Env) (s : State) (m : MethodId) (args : Array Value) (below : List Frame) (meth : Method) (c : Code) (g : zG) (A : Nat → Prop) (ad : Nat → Nat) (Q : RS → Prop) (u : RS) (pc : Nat) (lv : List (Nat × Value)) (st : List Value) : Prop := zJ p l e (zR 3 0 0) s m args below meth c g A 6 (zQv below args s g A 0 0 (wR g ad) Q) (wR g ad u) 0 0 pc lv st
def wp_X8_follows_93 (Q : RS → Prop) (u : RS) : Prop :=
  Q u
set_option maxRecDepth 20000 in
theorem b_X8_follows_93 (C : zC p s m args meth c g A cX8_follows RX8 6) (hr : meth.sig.returnType = none) (ad : Nat → Nat) (Q : RS → Prop) (u : RS) (h : wp_X8_follows_93 Q u) : j_X8_follows p l e s m args below meth c g A ad Q u 93 [(0, .ref (ad 0))] [] := by
  unfold wp_X8_follows_93 at h
  exact z_vret C hr u rfl h dX8_follows_93
def wp_X8_follows_47 (Q : RS → Prop) (u : RS) (x1 : Int32) (x2 : Int32) (x3 : Int32) (t0 : Int32) : Prop :=
  ((¬ u.1 3 20 = 1 → wp_X8_follows_93 Q u) ∧ (u.1 3 20 = 1 → ((x3 = (-1) → wp_X8_follows_93 Q u) ∧ (¬ x3 = (-1) → ((x3 = x2 → wp_X8_follows_93 Q u) ∧ (¬ x3 = x2 → ((¬ t0 = 0 → wp_X8_follows_93 Q u) ∧ (t0 = 0 → wp_X8_steers u x1 x3 (fun r111 u112 => ∀ u113 : RS, u113 = rI u112 3 (upd (u112.1 3) 11 ((u112.1 3 11) + 1)) → wp_X8_follows_93 Q u113)))))))))
set_option maxRecDepth 20000 in
theorem b_X8_follows_47 (C : zC p s m args meth c g A cX8_follows RX8 6) (hr : meth.sig.returnType = none) (ad : Nat → Nat) (Q : RS → Prop) (u : RS) (x1 : Int32) (x2 : Int32) (x3 : Int32) (t0 : Int32) (h : wp_X8_follows_47 Q u x1 x2 x3 t0) : j_X8_follows p l e s m args below meth c g A ad Q u 47 [(0, .ref (ad 0)), (1, .int x1), (2, .int x2), (3, .int x3)] [.int t0] := by
  unfold wp_X8_follows_47 at h
  refine z_istore (lv1 := [(5, .int t0), (0, .ref (ad 0)), (1, .int x1), (2, .int x2), (3, .int x3)]) C dX8_follows_47 (by decide) rfl ?_
  refine z_aload_n C dX8_follows_49 rfl 1 rfl ?_
  refine gR_row C dX8_follows_50 ?_
  refine z_bipush (v := 20) C dX8_follows_53 (by decide) ?_
  refine lRn_row C 20 (by decide +kernel) (vp_in_iff.mpr (by decide +kernel)) dX8_follows_55 ?_
  refine z_iconst (v := 1) C dX8_follows_56 (by decide) ?_
  refine z_icmp_ne C dX8_follows_57 (tgt := 93) (by decide) (fun hc107 => ?_) (fun hc107 => ?_)
  · have h := h.1 hc107
    refine z_lv (lv1 := [(0, .ref (ad 0))]) [1] rfl ?_
    exact b_X8_follows_93 C hr ad Q u h
  · have h := h.2 hc107
    refine z_iload_n C dX8_follows_60 rfl 4 rfl ?_
    refine z_iconst (v := (-1)) C dX8_follows_61 (by decide) ?_
    refine z_icmp_eq C dX8_follows_62 (tgt := 93) (by decide) (fun hc108 => ?_) (fun hc108 => ?_)
    · have h := h.1 hc108
      refine z_lv (lv1 := [(0, .ref (ad 0))]) [1] rfl ?_
      exact b_X8_follows_93 C hr ad Q u h
    · have h := h.2 hc108
      refine z_iload_n C dX8_follows_65 rfl 4 rfl ?_
      refine z_iload_n C dX8_follows_66 rfl 3 rfl ?_
      refine z_icmp_eq C dX8_follows_67 (tgt := 93) (by decide) (fun hc109 => ?_) (fun hc109 => ?_)
      · have h := h.1 hc109
        refine z_lv (lv1 := [(0, .ref (ad 0))]) [1] rfl ?_
        exact b_X8_follows_93 C hr ad Q u h
      · have h := h.2 hc109
        refine z_iload C dX8_follows_70 0 rfl ?_
        refine z_if_ne C dX8_follows_72 (tgt := 93) (by decide) (fun hc110 => ?_) (fun hc110 => ?_)
        · have h := h.1 hc110
          refine z_lv (lv1 := [(0, .ref (ad 0))]) [1] rfl ?_
          exact b_X8_follows_93 C hr ad Q u h
        · have h := h.2 hc110
          refine z_aload_n C dX8_follows_75 rfl 1 rfl ?_
          refine z_iload_n C dX8_follows_76 rfl 2 rfl ?_
          refine z_iload_n C dX8_follows_77 rfl 4 rfl ?_
          refine cRi (As := [.int x1, .int x3]) C (c_X8_steers l g ad u x1 x3 _ h) v_X8_steers ml8_170 rfl ⟨Nat.le_of_ble_eq_true rfl, Nat.le_of_ble_eq_true rfl⟩ ⟨Nat.zero_le _, Nat.zero_le _⟩ (Nat.le_of_ble_eq_true rfl) rfl dX8_follows_78 ?_
          intro r111 u112 h
          refine z_pop C dX8_follows_81 rfl ?_
          refine z_aload_n C dX8_follows_82 rfl 1 rfl ?_
          refine gR_row C dX8_follows_83 ?_
          refine z_bipush (v := 11) C dX8_follows_86 (by decide) ?_
          refine z_dup2 C dX8_follows_88 rfl rfl ?_
          refine lRn_row C 11 (by decide +kernel) (vp_in_iff.mpr (by decide +kernel)) dX8_follows_89 ?_
          refine z_iconst (v := 1) C dX8_follows_90 (by decide) ?_
          refine z_iadd C dX8_follows_91 ?_
          refine sRn_row C 11 (by decide +kernel) (vp_in_iff.mpr (by decide +kernel)) dX8_follows_92 ?_
          refine z_stR (fun u113 eu113 => ?_)
          have h := h u113 eu113
          refine z_lv (lv1 := [(0, .ref (ad 0))]) [1] rfl ?_
          exact b_X8_follows_93 C hr ad Q u113 h
def wp_X8_follows_46 (Q : RS → Prop) (u : RS) (x1 : Int32) (x2 : Int32) (x3 : Int32) : Prop :=
  wp_X8_follows_47 Q u x1 x2 x3 0
set_option maxRecDepth 20000 in
theorem b_X8_follows_46 (C : zC p s m args meth c g A cX8_follows RX8 6) (hr : meth.sig.returnType = none) (ad : Nat → Nat) (Q : RS → Prop) (u : RS) (x1 : Int32) (x2 : Int32) (x3 : Int32) (h : wp_X8_follows_46 Q u x1 x2 x3) : j_X8_follows p l e s m args below meth c g A ad Q u 46 [(0, .ref (ad 0)), (1, .int x1), (2, .int x2), (3, .int x3)] [] := by
  unfold wp_X8_follows_46 at h
  refine z_iconst (v := 0) C dX8_follows_46 (by decide) ?_
  exact b_X8_follows_47 C hr ad Q u x1 x2 x3 0 h
def wp_X8_follows (u : RS) (x1 : Int32) (x2 : Int32) (Q : RS → Prop) : Prop :=
  wp_X8_flowAt x1 (fun r101 => vp_in (r101 + 11) 1065 ∧ ∀ x103 : Int32, x103 = u.1 3 (zn (r101 + 11)) → wp_X8_ruleOf u x1 (fun r104 u105 => ((r104 = (-1) → wp_X8_follows_46 Q u105 x1 x2 x103) ∧ (¬ r104 = (-1) → wp_X8_ruleAt r104 (fun r114 => vp_in (r114 + 1) 1065 ∧ ((¬ u105.1 3 (zn (r114 + 1)) = x103 → wp_X8_follows_46 Q u105 x1 x2 x103) ∧ (u105.1 3 (zn (r114 + 1)) = x103 → wp_X8_follows_47 Q u105 x1 x2 x103 1)))))))
set_option maxRecDepth 20000 in
theorem c_X8_follows (l : Launch) (g : zG) (ad : Nat → Nat) (u : RS) (x1 : Int32) (x2 : Int32) (Q : RS → Prop) (h : wp_X8_follows u x1 x2 Q) : zMv l yX8_follows cX8_follows 6 none 3 0 0 g [.ref (ad 0), .int x1, .int x2] (wR g ad u) (wR g ad) Q := by
  refine zMv_of RX8 (by decide) rfl [(0, .ref (ad 0)), (1, .int x1), (2, .int x2)] rfl (Nat.le_of_ble_eq_true rfl) (fun p e s m args below meth c A C hr hnm => ?_)
  unfold wp_X8_follows at h
  refine z_aload_n C dX8_follows_0 rfl 0 rfl ?_
  refine gR_row C dX8_follows_1 ?_
  refine z_iload_n C dX8_follows_4 rfl 1 rfl ?_
  refine cSi (As := [.int x1]) C (c_X8_flowAt l g x1 _ h) s_X8_flowAt ml8_102 ⟨Nat.le_of_ble_eq_true rfl, Nat.le_of_ble_eq_true rfl⟩ ⟨Nat.zero_le _, Nat.zero_le _⟩ (Nat.le_of_ble_eq_true rfl) rfl dX8_follows_5 ?_
  intro r101 h
  refine z_bipush (v := 11) C dX8_follows_8 (by decide) ?_
  refine z_iadd C dX8_follows_10 ?_
  obtain ⟨hi102, h⟩ := h
  refine lR_row C hi102 dX8_follows_11 ?_
  refine z_topi (fun x103 ex103 => ?_)
  have h := h x103 ex103
  refine z_istore_n (lv1 := [(3, .int x103), (0, .ref (ad 0)), (1, .int x1), (2, .int x2)]) C dX8_follows_12 rfl (by decide) rfl ?_
  refine z_aload_n C dX8_follows_13 rfl 1 rfl ?_
  refine z_iload_n C dX8_follows_14 rfl 2 rfl ?_
  refine cRi (As := [.int x1]) C (c_X8_ruleOf l g ad u x1 _ h) v_X8_ruleOf ml8_119 rfl ⟨Nat.le_of_ble_eq_true rfl, Nat.le_of_ble_eq_true rfl⟩ ⟨Nat.zero_le _, Nat.zero_le _⟩ (Nat.le_of_ble_eq_true rfl) rfl dX8_follows_15 ?_
  intro r104 u105 h
  refine z_istore (lv1 := [(4, .int r104), (3, .int x103), (0, .ref (ad 0)), (1, .int x1), (2, .int x2)]) C dX8_follows_18 (by decide) rfl ?_
  refine z_iload C dX8_follows_20 0 rfl ?_
  refine z_iconst (v := (-1)) C dX8_follows_22 (by decide) ?_
  refine z_icmp_eq C dX8_follows_23 (tgt := 46) (by decide) (fun hc106 => ?_) (fun hc106 => ?_)
  · have h := h.1 hc106
    refine z_lv (lv1 := [(0, .ref (ad 0)), (1, .int x1), (2, .int x2), (3, .int x103)]) [2, 3, 4, 1] rfl ?_
    exact b_X8_follows_46 C hr ad Q u105 x1 x2 x103 h
  · have h := h.2 hc106
    refine z_aload_n C dX8_follows_26 rfl 2 rfl ?_
    refine gR_row C dX8_follows_27 ?_
    refine z_iload C dX8_follows_30 0 rfl ?_
    refine cSi (As := [.int r104]) C (c_X8_ruleAt l g r104 _ h) s_X8_ruleAt ml8_116 ⟨Nat.le_of_ble_eq_true rfl, Nat.le_of_ble_eq_true rfl⟩ ⟨Nat.zero_le _, Nat.zero_le _⟩ (Nat.le_of_ble_eq_true rfl) rfl dX8_follows_32 ?_
    intro r114 h
    refine z_iconst (v := 1) C dX8_follows_35 (by decide) ?_
    refine z_iadd C dX8_follows_36 ?_
    obtain ⟨hi115, h⟩ := h
    refine lR_row C hi115 dX8_follows_37 ?_
    refine z_iload_n C dX8_follows_38 rfl 1 rfl ?_
    refine z_icmp_ne C dX8_follows_39 (tgt := 46) (by decide) (fun hc116 => ?_) (fun hc116 => ?_)
    · have h := h.1 hc116
      refine z_lv (lv1 := [(0, .ref (ad 0)), (1, .int x1), (2, .int x2), (3, .int x103)]) [2, 3, 4, 1] rfl ?_
      exact b_X8_follows_46 C hr ad Q u105 x1 x2 x103 h
    · have h := h.2 hc116
      refine z_iconst (v := 1) C dX8_follows_42 (by decide) ?_
      refine z_goto C dX8_follows_43 (tgt := 47) (by decide) ?_
      refine z_lv (lv1 := [(0, .ref (ad 0)), (1, .int x1), (2, .int x2), (3, .int x103)]) [2, 3, 4, 1] rfl ?_
      exact b_X8_follows_47 C hr ad Q u105 x1 x2 x103 1 h
abbrev j_X8_hash (p : Program) (l : Launch) (e : Env) (s : State) (m : MethodId) (args : Array Value) (below : List Frame) (meth : Method) (c : Code) (g : zG) (A : Nat → Prop) (ad : Nat → Nat) (Q : Int32 → RS → Prop) (u : RS) (pc : Nat) (lv : List (Nat × Value)) (st : List Value) : Prop := zJ p l e (zR 3 0 0) s m args below meth c g A 6 (zQi below args s g A 0 0 (wR g ad) Q) (wR g ad u) 0 0 pc lv st
def wp_X8_hash_27 (Q : Int32 → RS → Prop) (u : RS) (t0 : Int32) : Prop :=
  Q t0 u
set_option maxRecDepth 20000 in
theorem b_X8_hash_27 (C : zC p s m args meth c g A cX8_hash RX8 6) (hr : meth.sig.returnType = (some .int)) (ad : Nat → Nat) (Q : Int32 → RS → Prop) (u : RS) (t0 : Int32) (h : wp_X8_hash_27 Q u t0) : j_X8_hash p l e s m args below meth c g A ad Q u 27 [(0, .ref (ad 0))] [.int t0] := by
  unfold wp_X8_hash_27 at h
  exact z_iret C hr u rfl h dX8_hash_27
def wp_X8_hash (u : RS) (x1 : Int32) (x2 : Int32) (x3 : Int32) (x4 : Int32) (x5 : Int32) (Q : Int32 → RS → Prop) : Prop :=
  ∀ u101 : RS, u101 = rN u 0 0 → wp_X8_takeFields u101 x1 x2 x3 x4 x5 (fun r102 u103 => ((r102 = 0 → wp_X8_hash_27 Q u103 0) ∧ (¬ r102 = 0 → wp_X8_hashNow u103 (fun r105 u106 => wp_X8_hash_27 Q u106 r105))))
set_option maxRecDepth 20000 in
theorem c_X8_hash (l : Launch) (g : zG) (ad : Nat → Nat) (u : RS) (x1 : Int32) (x2 : Int32) (x3 : Int32) (x4 : Int32) (x5 : Int32) (Q : Int32 → RS → Prop) (h : wp_X8_hash u x1 x2 x3 x4 x5 Q) : zMi l yX8_hash cX8_hash 6 (some .int) 3 0 0 g [.ref (ad 0), .int x1, .int x2, .int x3, .int x4, .int x5] (wR g ad u) (wR g ad) Q := by
  refine zMi_of RX8 (by decide) rfl [(0, .ref (ad 0)), (1, .int x1), (2, .int x2), (3, .int x3), (4, .int x4), (5, .int x5)] rfl (Nat.le_of_ble_eq_true rfl) (fun p e s m args below meth c A C hr hnm => ?_)
  unfold wp_X8_hash at h
  refine z_aload_n C dX8_hash_0 rfl 0 rfl ?_
  refine z_iconst (v := 0) C dX8_hash_1 (by decide) ?_
  refine pR_thrown C dX8_hash_2 ?_
  refine z_stR (fun u101 eu101 => ?_)
  have h := h u101 eu101
  refine z_aload_n C dX8_hash_5 rfl 0 rfl ?_
  refine z_iload_n C dX8_hash_6 rfl 1 rfl ?_
  refine z_iload_n C dX8_hash_7 rfl 2 rfl ?_
  refine z_iload_n C dX8_hash_8 rfl 3 rfl ?_
  refine z_iload C dX8_hash_9 4 rfl ?_
  refine z_iload C dX8_hash_11 5 rfl ?_
  refine cRi (As := [.int x1, .int x2, .int x3, .int x4, .int x5]) C (c_X8_takeFields l g ad u101 x1 x2 x3 x4 x5 _ h) v_X8_takeFields ml8_141 rfl ⟨Nat.le_of_ble_eq_true rfl, Nat.le_of_ble_eq_true rfl⟩ ⟨Nat.zero_le _, Nat.zero_le _⟩ (Nat.le_of_ble_eq_true rfl) rfl dX8_hash_13 ?_
  intro r102 u103 h
  refine z_if_eq C dX8_hash_16 (tgt := 26) (by decide) (fun hc104 => ?_) (fun hc104 => ?_)
  · have h := h.1 hc104
    refine z_iconst (v := 0) C dX8_hash_26 (by decide) ?_
    refine z_lv (lv1 := [(0, .ref (ad 0))]) [0] rfl ?_
    exact b_X8_hash_27 C hr ad Q u103 0 h
  · have h := h.2 hc104
    refine z_aload_n C dX8_hash_19 rfl 0 rfl ?_
    refine cRi (As := []) C (c_X8_hashNow l g ad u103 _ h) v_X8_hashNow ml8_109 rfl ⟨Nat.le_of_ble_eq_true rfl, Nat.le_of_ble_eq_true rfl⟩ ⟨Nat.zero_le _, Nat.zero_le _⟩ (Nat.le_of_ble_eq_true rfl) rfl dX8_hash_20 ?_
    intro r105 u106 h
    refine z_goto C dX8_hash_23 (tgt := 27) (by decide) ?_
    refine z_lv (lv1 := [(0, .ref (ad 0))]) [0] rfl ?_
    exact b_X8_hash_27 C hr ad Q u106 r105 h
abbrev j_X8_of (p : Program) (l : Launch) (e : Env) (s : State) (m : MethodId) (args : Array Value) (below : List Frame) (meth : Method) (c : Code) (g : zG) (A : Nat → Prop) (ad : Nat → Nat) (Q : Int32 → RS → Prop) (u : RS) (pc : Nat) (lv : List (Nat × Value)) (st : List Value) : Prop := zJ p l e (zR 3 0 0) s m args below meth c g A 5 (zQi below args s g A 0 0 (wR g ad) Q) (wR g ad u) 0 0 pc lv st
def wp_X8_of_189 (Q : Int32 → RS → Prop) (u : RS) (t0 : Int32) : Prop :=
  Q t0 u
set_option maxRecDepth 20000 in
theorem b_X8_of_189 (C : zC p s m args meth c g A cX8_of RX8 5) (hr : meth.sig.returnType = (some .int)) (ad : Nat → Nat) (Q : Int32 → RS → Prop) (u : RS) (t0 : Int32) (h : wp_X8_of_189 Q u t0) : j_X8_of p l e s m args below meth c g A ad Q u 189 [(0, .ref (ad 0))] [.int t0] := by
  unfold wp_X8_of_189 at h
  exact z_iret C hr u rfl h dX8_of_189
def wp_X8_of_212 (Q : Int32 → RS → Prop) (u : RS) (t0 : Int32) : Prop :=
  Q t0 u
set_option maxRecDepth 20000 in
theorem b_X8_of_212 (C : zC p s m args meth c g A cX8_of RX8 5) (hr : meth.sig.returnType = (some .int)) (ad : Nat → Nat) (Q : Int32 → RS → Prop) (u : RS) (t0 : Int32) (h : wp_X8_of_212 Q u t0) : j_X8_of p l e s m args below meth c g A ad Q u 212 [(0, .ref (ad 0))] [.int t0] := by
  unfold wp_X8_of_212 at h
  exact z_iret C hr u rfl h dX8_of_212
def wp_X8_of_287 (Q : Int32 → RS → Prop) (u : RS) (t0 : Int32) : Prop :=
  Q t0 u
set_option maxRecDepth 20000 in
theorem b_X8_of_287 (C : zC p s m args meth c g A cX8_of RX8 5) (hr : meth.sig.returnType = (some .int)) (ad : Nat → Nat) (Q : Int32 → RS → Prop) (u : RS) (t0 : Int32) (h : wp_X8_of_287 Q u t0) : j_X8_of p l e s m args below meth c g A ad Q u 287 [(0, .ref (ad 0))] [.int t0] := by
  unfold wp_X8_of_287 at h
  exact z_iret C hr u rfl h dX8_of_287
def wp_X8_of (u : RS) (x1 : Int32) (x2 : Int32) (Q : Int32 → RS → Prop) : Prop :=
  ∀ u101 : RS, u101 = rN u 0 0 → wp_X8_isFlow u101 x1 (fun r102 u103 => ((¬ r102 = 0 → wp_X8_flowAt x1 (fun r105 => wp_X8_ruleOf u103 x1 (fun r106 u107 => ((x2 = 5 → wp_X8_entryOf u107 x1 (fun r109 u110 => Q r109 u110)) ∧ (x2 = 6 → wp_X8_wishOf u107 x1 (fun r112 u113 => Q r112 u113)) ∧ (x2 = 7 → wp_X8_queueOf u107 x1 (fun r115 u116 => Q r115 u116)) ∧ (x2 = 8 → wp_X8_packetsOf u107 x1 (fun r118 u119 => Q r118 u119)) ∧ (x2 = 9 → vp_in (r105 + 5) 1065 ∧ Q (u107.1 3 (zn (r105 + 5))) u107) ∧ (x2 = 10 → vp_in (r105 + 6) 1065 ∧ Q (u107.1 3 (zn (r105 + 6))) u107) ∧ (x2 = 11 → vp_in (r105 + 7) 1065 ∧ Q (u107.1 3 (zn (r105 + 7))) u107) ∧ (x2 = 12 → vp_in (r105 + 8) 1065 ∧ Q (u107.1 3 (zn (r105 + 8))) u107) ∧ (x2 = 13 → ((¬ r106 = (-1) → wp_X8_ruleAt r106 (fun r130 => vp_in (r130 + 1) 1065 ∧ wp_X8_of_189 Q u107 (u107.1 3 (zn (r130 + 1))))) ∧ (r106 = (-1) → wp_X8_of_189 Q u107 (-1)))) ∧ (x2 = 14 → ((¬ r106 = (-1) → wp_X8_ruleAt r106 (fun r134 => vp_in (r134 + 2) 1065 ∧ wp_X8_of_212 Q u107 (u107.1 3 (zn (r134 + 2))))) ∧ (r106 = (-1) → wp_X8_of_212 Q u107 (-1)))) ∧ (x2 = 15 → vp_in (r105 + 9) 1065 ∧ Q (u107.1 3 (zn (r105 + 9))) u107) ∧ (x2 = 16 → vp_in (r105 + 10) 1065 ∧ Q (u107.1 3 (zn (r105 + 10))) u107) ∧ (x2 = 17 → vp_in (r105 + 11) 1065 ∧ Q (u107.1 3 (zn (r105 + 11))) u107) ∧ (x2 = 18 → vp_in (r105 + 12) 1065 ∧ Q (u107.1 3 (zn (r105 + 12))) u107) ∧ (x2 = 19 → vp_in (r105 + 13) 1065 ∧ Q (u107.1 3 (zn (r105 + 13))) u107) ∧ (¬ x2 = 5 → ¬ x2 = 6 → ¬ x2 = 7 → ¬ x2 = 8 → ¬ x2 = 9 → ¬ x2 = 10 → ¬ x2 = 11 → ¬ x2 = 12 → ¬ x2 = 13 → ¬ x2 = 14 → ¬ x2 = 15 → ¬ x2 = 16 → ¬ x2 = 17 → ¬ x2 = 18 → ¬ x2 = 19 → wp_X8_in ((x2).toInt64) 0 4 (fun r146 => ((r146 = 0 → wp_X8_of_287 Q u107 (-1)) ∧ (¬ r146 = 0 → vp_in (r105 + x2) 1065 ∧ wp_X8_of_287 Q u107 (u107.1 3 (zn (r105 + x2))))))))))) ∧ (r102 = 0 → Q (-1) u103)))
set_option maxRecDepth 20000 in
theorem c_X8_of (l : Launch) (g : zG) (ad : Nat → Nat) (u : RS) (x1 : Int32) (x2 : Int32) (Q : Int32 → RS → Prop) (h : wp_X8_of u x1 x2 Q) : zMi l yX8_of cX8_of 5 (some .int) 3 0 0 g [.ref (ad 0), .int x1, .int x2] (wR g ad u) (wR g ad) Q := by
  refine zMi_of RX8 (by decide) rfl [(0, .ref (ad 0)), (1, .int x1), (2, .int x2)] rfl (Nat.le_of_ble_eq_true rfl) (fun p e s m args below meth c A C hr hnm => ?_)
  unfold wp_X8_of at h
  refine z_aload_n C dX8_of_0 rfl 0 rfl ?_
  refine z_iconst (v := 0) C dX8_of_1 (by decide) ?_
  refine pR_thrown C dX8_of_2 ?_
  refine z_stR (fun u101 eu101 => ?_)
  have h := h u101 eu101
  refine z_aload_n C dX8_of_5 rfl 0 rfl ?_
  refine z_iload_n C dX8_of_6 rfl 1 rfl ?_
  refine cRi (As := [.int x1]) C (c_X8_isFlow l g ad u101 x1 _ h) v_X8_isFlow ml8_164 rfl ⟨Nat.le_of_ble_eq_true rfl, Nat.le_of_ble_eq_true rfl⟩ ⟨Nat.zero_le _, Nat.zero_le _⟩ (Nat.le_of_ble_eq_true rfl) rfl dX8_of_7 ?_
  intro r102 u103 h
  refine z_if_ne C dX8_of_10 (tgt := 15) (by decide) (fun hc104 => ?_) (fun hc104 => ?_)
  · have h := h.1 hc104
    refine z_iload_n C dX8_of_15 rfl 1 rfl ?_
    refine cSi (As := [.int x1]) C (c_X8_flowAt l g x1 _ h) s_X8_flowAt ml8_102 ⟨Nat.le_of_ble_eq_true rfl, Nat.le_of_ble_eq_true rfl⟩ ⟨Nat.zero_le _, Nat.zero_le _⟩ (Nat.le_of_ble_eq_true rfl) rfl dX8_of_16 ?_
    intro r105 h
    refine z_istore_n (lv1 := [(3, .int r105), (0, .ref (ad 0)), (1, .int x1), (2, .int x2)]) C dX8_of_19 rfl (by decide) rfl ?_
    refine z_aload_n C dX8_of_20 rfl 1 rfl ?_
    refine z_iload_n C dX8_of_21 rfl 2 rfl ?_
    refine cRi (As := [.int x1]) C (c_X8_ruleOf l g ad u103 x1 _ h) v_X8_ruleOf ml8_119 rfl ⟨Nat.le_of_ble_eq_true rfl, Nat.le_of_ble_eq_true rfl⟩ ⟨Nat.zero_le _, Nat.zero_le _⟩ (Nat.le_of_ble_eq_true rfl) rfl dX8_of_22 ?_
    intro r106 u107 h
    refine z_istore (lv1 := [(4, .int r106), (3, .int r105), (0, .ref (ad 0)), (1, .int x1), (2, .int x2)]) C dX8_of_25 (by decide) rfl ?_
    refine z_iload_n C dX8_of_27 rfl 4 rfl ?_
    by_cases hx108 : x2 = 5
    · have h := h.1 hx108
      refine z_tIn C dX8_of_28 (5) (by rw [hx108]; decide) (by decide) (by decide) rfl (tgt := 104) (by decide) ?_
      refine z_aload_n C dX8_of_104 rfl 2 rfl ?_
      refine z_iload_n C dX8_of_105 rfl 3 rfl ?_
      refine cRi (As := [.int x1]) C (c_X8_entryOf l g ad u107 x1 _ h) v_X8_entryOf ml8_122 rfl ⟨Nat.le_of_ble_eq_true rfl, Nat.le_of_ble_eq_true rfl⟩ ⟨Nat.zero_le _, Nat.zero_le _⟩ (Nat.le_of_ble_eq_true rfl) rfl dX8_of_106 ?_
      intro r109 u110 h
      exact z_iret C hr u110 rfl h dX8_of_109
    have h := h.2
    by_cases hx111 : x2 = 6
    · have h := h.1 hx111
      refine z_tIn C dX8_of_28 (6) (by rw [hx111]; decide) (by decide) (by decide) rfl (tgt := 110) (by decide) ?_
      refine z_aload_n C dX8_of_110 rfl 2 rfl ?_
      refine z_iload_n C dX8_of_111 rfl 3 rfl ?_
      refine cRi (As := [.int x1]) C (c_X8_wishOf l g ad u107 x1 _ h) v_X8_wishOf ml8_189 rfl ⟨Nat.le_of_ble_eq_true rfl, Nat.le_of_ble_eq_true rfl⟩ ⟨Nat.zero_le _, Nat.zero_le _⟩ (Nat.le_of_ble_eq_true rfl) rfl dX8_of_112 ?_
      intro r112 u113 h
      exact z_iret C hr u113 rfl h dX8_of_115
    have h := h.2
    by_cases hx114 : x2 = 7
    · have h := h.1 hx114
      refine z_tIn C dX8_of_28 (7) (by rw [hx114]; decide) (by decide) (by decide) rfl (tgt := 116) (by decide) ?_
      refine z_aload_n C dX8_of_116 rfl 2 rfl ?_
      refine z_iload_n C dX8_of_117 rfl 3 rfl ?_
      refine cRi (As := [.int x1]) C (c_X8_queueOf l g ad u107 x1 _ h) v_X8_queueOf ml8_192 rfl ⟨Nat.le_of_ble_eq_true rfl, Nat.le_of_ble_eq_true rfl⟩ ⟨Nat.zero_le _, Nat.zero_le _⟩ (Nat.le_of_ble_eq_true rfl) rfl dX8_of_118 ?_
      intro r115 u116 h
      exact z_iret C hr u116 rfl h dX8_of_121
    have h := h.2
    by_cases hx117 : x2 = 8
    · have h := h.1 hx117
      refine z_tIn C dX8_of_28 (8) (by rw [hx117]; decide) (by decide) (by decide) rfl (tgt := 122) (by decide) ?_
      refine z_aload_n C dX8_of_122 rfl 2 rfl ?_
      refine z_iload_n C dX8_of_123 rfl 3 rfl ?_
      refine cRi (As := [.int x1]) C (c_X8_packetsOf l g ad u107 x1 _ h) v_X8_packetsOf ml8_240 rfl ⟨Nat.le_of_ble_eq_true rfl, Nat.le_of_ble_eq_true rfl⟩ ⟨Nat.zero_le _, Nat.zero_le _⟩ (Nat.le_of_ble_eq_true rfl) rfl dX8_of_124 ?_
      intro r118 u119 h
      exact z_iret C hr u119 rfl h dX8_of_127
    have h := h.2
    by_cases hx120 : x2 = 9
    · have h := h.1 hx120
      refine z_tIn C dX8_of_28 (9) (by rw [hx120]; decide) (by decide) (by decide) rfl (tgt := 128) (by decide) ?_
      refine z_aload_n C dX8_of_128 rfl 2 rfl ?_
      refine gR_row C dX8_of_129 ?_
      refine z_iload_n C dX8_of_132 rfl 1 rfl ?_
      refine z_iconst (v := 5) C dX8_of_133 (by decide) ?_
      refine z_iadd C dX8_of_134 ?_
      obtain ⟨hi121, h⟩ := h
      refine lR_row C hi121 dX8_of_135 ?_
      exact z_iret C hr u107 rfl h dX8_of_136
    have h := h.2
    by_cases hx122 : x2 = 10
    · have h := h.1 hx122
      refine z_tIn C dX8_of_28 (10) (by rw [hx122]; decide) (by decide) (by decide) rfl (tgt := 137) (by decide) ?_
      refine z_aload_n C dX8_of_137 rfl 2 rfl ?_
      refine gR_row C dX8_of_138 ?_
      refine z_iload_n C dX8_of_141 rfl 1 rfl ?_
      refine z_bipush (v := 6) C dX8_of_142 (by decide) ?_
      refine z_iadd C dX8_of_144 ?_
      obtain ⟨hi123, h⟩ := h
      refine lR_row C hi123 dX8_of_145 ?_
      exact z_iret C hr u107 rfl h dX8_of_146
    have h := h.2
    by_cases hx124 : x2 = 11
    · have h := h.1 hx124
      refine z_tIn C dX8_of_28 (11) (by rw [hx124]; decide) (by decide) (by decide) rfl (tgt := 147) (by decide) ?_
      refine z_aload_n C dX8_of_147 rfl 2 rfl ?_
      refine gR_row C dX8_of_148 ?_
      refine z_iload_n C dX8_of_151 rfl 1 rfl ?_
      refine z_bipush (v := 7) C dX8_of_152 (by decide) ?_
      refine z_iadd C dX8_of_154 ?_
      obtain ⟨hi125, h⟩ := h
      refine lR_row C hi125 dX8_of_155 ?_
      exact z_iret C hr u107 rfl h dX8_of_156
    have h := h.2
    by_cases hx126 : x2 = 12
    · have h := h.1 hx126
      refine z_tIn C dX8_of_28 (12) (by rw [hx126]; decide) (by decide) (by decide) rfl (tgt := 157) (by decide) ?_
      refine z_aload_n C dX8_of_157 rfl 2 rfl ?_
      refine gR_row C dX8_of_158 ?_
      refine z_iload_n C dX8_of_161 rfl 1 rfl ?_
      refine z_bipush (v := 8) C dX8_of_162 (by decide) ?_
      refine z_iadd C dX8_of_164 ?_
      obtain ⟨hi127, h⟩ := h
      refine lR_row C hi127 dX8_of_165 ?_
      exact z_iret C hr u107 rfl h dX8_of_166
    have h := h.2
    by_cases hx128 : x2 = 13
    · have h := h.1 hx128
      refine z_tIn C dX8_of_28 (13) (by rw [hx128]; decide) (by decide) (by decide) rfl (tgt := 167) (by decide) ?_
      refine z_iload C dX8_of_167 0 rfl ?_
      refine z_iconst (v := (-1)) C dX8_of_169 (by decide) ?_
      refine z_icmp_ne C dX8_of_170 (tgt := 177) (by decide) (fun hc129 => ?_) (fun hc129 => ?_)
      · have h := h.1 hc129
        refine z_aload_n C dX8_of_177 rfl 2 rfl ?_
        refine gR_row C dX8_of_178 ?_
        refine z_iload C dX8_of_181 0 rfl ?_
        refine cSi (As := [.int r106]) C (c_X8_ruleAt l g r106 _ h) s_X8_ruleAt ml8_116 ⟨Nat.le_of_ble_eq_true rfl, Nat.le_of_ble_eq_true rfl⟩ ⟨Nat.zero_le _, Nat.zero_le _⟩ (Nat.le_of_ble_eq_true rfl) rfl dX8_of_183 ?_
        intro r130 h
        refine z_iconst (v := 1) C dX8_of_186 (by decide) ?_
        refine z_iadd C dX8_of_187 ?_
        obtain ⟨hi131, h⟩ := h
        refine lR_row C hi131 dX8_of_188 ?_
        refine z_lv (lv1 := [(0, .ref (ad 0))]) [2] rfl ?_
        exact b_X8_of_189 C hr ad Q u107 (u107.1 3 (zn (r130 + 1))) h
      · have h := h.2 hc129
        refine z_iconst (v := (-1)) C dX8_of_173 (by decide) ?_
        refine z_goto C dX8_of_174 (tgt := 189) (by decide) ?_
        refine z_lv (lv1 := [(0, .ref (ad 0))]) [2] rfl ?_
        exact b_X8_of_189 C hr ad Q u107 (-1) h
    have h := h.2
    by_cases hx132 : x2 = 14
    · have h := h.1 hx132
      refine z_tIn C dX8_of_28 (14) (by rw [hx132]; decide) (by decide) (by decide) rfl (tgt := 190) (by decide) ?_
      refine z_iload C dX8_of_190 0 rfl ?_
      refine z_iconst (v := (-1)) C dX8_of_192 (by decide) ?_
      refine z_icmp_ne C dX8_of_193 (tgt := 200) (by decide) (fun hc133 => ?_) (fun hc133 => ?_)
      · have h := h.1 hc133
        refine z_aload_n C dX8_of_200 rfl 2 rfl ?_
        refine gR_row C dX8_of_201 ?_
        refine z_iload C dX8_of_204 0 rfl ?_
        refine cSi (As := [.int r106]) C (c_X8_ruleAt l g r106 _ h) s_X8_ruleAt ml8_116 ⟨Nat.le_of_ble_eq_true rfl, Nat.le_of_ble_eq_true rfl⟩ ⟨Nat.zero_le _, Nat.zero_le _⟩ (Nat.le_of_ble_eq_true rfl) rfl dX8_of_206 ?_
        intro r134 h
        refine z_iconst (v := 2) C dX8_of_209 (by decide) ?_
        refine z_iadd C dX8_of_210 ?_
        obtain ⟨hi135, h⟩ := h
        refine lR_row C hi135 dX8_of_211 ?_
        refine z_lv (lv1 := [(0, .ref (ad 0))]) [2] rfl ?_
        exact b_X8_of_212 C hr ad Q u107 (u107.1 3 (zn (r134 + 2))) h
      · have h := h.2 hc133
        refine z_iconst (v := (-1)) C dX8_of_196 (by decide) ?_
        refine z_goto C dX8_of_197 (tgt := 212) (by decide) ?_
        refine z_lv (lv1 := [(0, .ref (ad 0))]) [2] rfl ?_
        exact b_X8_of_212 C hr ad Q u107 (-1) h
    have h := h.2
    by_cases hx136 : x2 = 15
    · have h := h.1 hx136
      refine z_tIn C dX8_of_28 (15) (by rw [hx136]; decide) (by decide) (by decide) rfl (tgt := 213) (by decide) ?_
      refine z_aload_n C dX8_of_213 rfl 2 rfl ?_
      refine gR_row C dX8_of_214 ?_
      refine z_iload_n C dX8_of_217 rfl 1 rfl ?_
      refine z_bipush (v := 9) C dX8_of_218 (by decide) ?_
      refine z_iadd C dX8_of_220 ?_
      obtain ⟨hi137, h⟩ := h
      refine lR_row C hi137 dX8_of_221 ?_
      exact z_iret C hr u107 rfl h dX8_of_222
    have h := h.2
    by_cases hx138 : x2 = 16
    · have h := h.1 hx138
      refine z_tIn C dX8_of_28 (16) (by rw [hx138]; decide) (by decide) (by decide) rfl (tgt := 223) (by decide) ?_
      refine z_aload_n C dX8_of_223 rfl 2 rfl ?_
      refine gR_row C dX8_of_224 ?_
      refine z_iload_n C dX8_of_227 rfl 1 rfl ?_
      refine z_bipush (v := 10) C dX8_of_228 (by decide) ?_
      refine z_iadd C dX8_of_230 ?_
      obtain ⟨hi139, h⟩ := h
      refine lR_row C hi139 dX8_of_231 ?_
      exact z_iret C hr u107 rfl h dX8_of_232
    have h := h.2
    by_cases hx140 : x2 = 17
    · have h := h.1 hx140
      refine z_tIn C dX8_of_28 (17) (by rw [hx140]; decide) (by decide) (by decide) rfl (tgt := 233) (by decide) ?_
      refine z_aload_n C dX8_of_233 rfl 2 rfl ?_
      refine gR_row C dX8_of_234 ?_
      refine z_iload_n C dX8_of_237 rfl 1 rfl ?_
      refine z_bipush (v := 11) C dX8_of_238 (by decide) ?_
      refine z_iadd C dX8_of_240 ?_
      obtain ⟨hi141, h⟩ := h
      refine lR_row C hi141 dX8_of_241 ?_
      exact z_iret C hr u107 rfl h dX8_of_242
    have h := h.2
    by_cases hx142 : x2 = 18
    · have h := h.1 hx142
      refine z_tIn C dX8_of_28 (18) (by rw [hx142]; decide) (by decide) (by decide) rfl (tgt := 243) (by decide) ?_
      refine z_aload_n C dX8_of_243 rfl 2 rfl ?_
      refine gR_row C dX8_of_244 ?_
      refine z_iload_n C dX8_of_247 rfl 1 rfl ?_
      refine z_bipush (v := 12) C dX8_of_248 (by decide) ?_
      refine z_iadd C dX8_of_250 ?_
      obtain ⟨hi143, h⟩ := h
      refine lR_row C hi143 dX8_of_251 ?_
      exact z_iret C hr u107 rfl h dX8_of_252
    have h := h.2
    by_cases hx144 : x2 = 19
    · have h := h.1 hx144
      refine z_tIn C dX8_of_28 (19) (by rw [hx144]; decide) (by decide) (by decide) rfl (tgt := 253) (by decide) ?_
      refine z_aload_n C dX8_of_253 rfl 2 rfl ?_
      refine gR_row C dX8_of_254 ?_
      refine z_iload_n C dX8_of_257 rfl 1 rfl ?_
      refine z_bipush (v := 13) C dX8_of_258 (by decide) ?_
      refine z_iadd C dX8_of_260 ?_
      obtain ⟨hi145, h⟩ := h
      refine lR_row C hi145 dX8_of_261 ?_
      exact z_iret C hr u107 rfl h dX8_of_262
    have h := h.2
    have h := h hx108 hx111 hx114 hx117 hx120 hx122 hx124 hx126 hx128 hx132 hx136 hx138 hx140 hx142 hx144
    have thx108 := lv_neT (a := 5) hx108 (by decide)
    have thx111 := lv_neT (a := 6) hx111 (by decide)
    have thx114 := lv_neT (a := 7) hx114 (by decide)
    have thx117 := lv_neT (a := 8) hx117 (by decide)
    have thx120 := lv_neT (a := 9) hx120 (by decide)
    have thx122 := lv_neT (a := 10) hx122 (by decide)
    have thx124 := lv_neT (a := 11) hx124 (by decide)
    have thx126 := lv_neT (a := 12) hx126 (by decide)
    have thx128 := lv_neT (a := 13) hx128 (by decide)
    have thx132 := lv_neT (a := 14) hx132 (by decide)
    have thx136 := lv_neT (a := 15) hx136 (by decide)
    have thx138 := lv_neT (a := 16) hx138 (by decide)
    have thx140 := lv_neT (a := 17) hx140 (by decide)
    have thx142 := lv_neT (a := 18) hx142 (by decide)
    have thx144 := lv_neT (a := 19) hx144 (by decide)
    refine z_tOut C dX8_of_28 (by omega) (tgt := 263) (by decide) ?_
    refine z_iload_n C dX8_of_263 rfl 4 rfl ?_
    refine z_i2l C dX8_of_264 ?_
    refine z_lconst (v := 0) C dX8_of_265 (by decide) ?_
    refine z_ldc2 (v := 4) C dX8_of_266 k8_243 ?_
    refine cSi (As := [.long ((x2).toInt64), .long 0, .long 4]) C (c_X8_in l g ((x2).toInt64) 0 4 _ h) s_X8_in ml8_84 ⟨Nat.le_of_ble_eq_true rfl, Nat.le_of_ble_eq_true rfl⟩ ⟨Nat.zero_le _, Nat.zero_le _⟩ (Nat.le_of_ble_eq_true rfl) rfl dX8_of_269 ?_
    intro r146 h
    refine z_if_eq C dX8_of_272 (tgt := 286) (by decide) (fun hc147 => ?_) (fun hc147 => ?_)
    · have h := h.1 hc147
      refine z_iconst (v := (-1)) C dX8_of_286 (by decide) ?_
      refine z_lv (lv1 := [(0, .ref (ad 0))]) [2] rfl ?_
      exact b_X8_of_287 C hr ad Q u107 (-1) h
    · have h := h.2 hc147
      refine z_aload_n C dX8_of_275 rfl 2 rfl ?_
      refine gR_row C dX8_of_276 ?_
      refine z_iload_n C dX8_of_279 rfl 1 rfl ?_
      refine z_iload_n C dX8_of_280 rfl 4 rfl ?_
      refine z_iadd C dX8_of_281 ?_
      obtain ⟨hi148, h⟩ := h
      refine lR_row C hi148 dX8_of_282 ?_
      refine z_goto C dX8_of_283 (tgt := 287) (by decide) ?_
      refine z_lv (lv1 := [(0, .ref (ad 0))]) [2] rfl ?_
      exact b_X8_of_287 C hr ad Q u107 (u107.1 3 (zn (r105 + x2))) h
  · have h := h.2 hc104
    refine z_iconst (v := (-1)) C dX8_of_13 (by decide) ?_
    exact z_iret C hr u103 rfl h dX8_of_14
abbrev j_X8_find (p : Program) (l : Launch) (e : Env) (s : State) (m : MethodId) (args : Array Value) (below : List Frame) (meth : Method) (c : Code) (g : zG) (A : Nat → Prop) (ad : Nat → Nat) (Q : Int32 → RS → Prop) (u : RS) (pc : Nat) (lv : List (Nat × Value)) (st : List Value) : Prop := zJ p l e (zR 3 0 0) s m args below meth c g A 6 (zQi below args s g A 0 0 (wR g ad) Q) (wR g ad u) 0 0 pc lv st
def wp_X8_find_27 (Q : Int32 → RS → Prop) (u : RS) (t0 : Int32) : Prop :=
  Q t0 u
set_option maxRecDepth 20000 in
theorem b_X8_find_27 (C : zC p s m args meth c g A cX8_find RX8 6) (hr : meth.sig.returnType = (some .int)) (ad : Nat → Nat) (Q : Int32 → RS → Prop) (u : RS) (t0 : Int32) (h : wp_X8_find_27 Q u t0) : j_X8_find p l e s m args below meth c g A ad Q u 27 [(0, .ref (ad 0))] [.int t0] := by
  unfold wp_X8_find_27 at h
  exact z_iret C hr u rfl h dX8_find_27
def wp_X8_find (u : RS) (x1 : Int32) (x2 : Int32) (x3 : Int32) (x4 : Int32) (x5 : Int32) (Q : Int32 → RS → Prop) : Prop :=
  ∀ u101 : RS, u101 = rN u 0 0 → wp_X8_takeFields u101 x1 x2 x3 x4 x5 (fun r102 u103 => ((r102 = 0 → wp_X8_find_27 Q u103 (-1)) ∧ (¬ r102 = 0 → wp_X8_found u103 (fun r105 u106 => wp_X8_find_27 Q u106 r105))))
set_option maxRecDepth 20000 in
theorem c_X8_find (l : Launch) (g : zG) (ad : Nat → Nat) (u : RS) (x1 : Int32) (x2 : Int32) (x3 : Int32) (x4 : Int32) (x5 : Int32) (Q : Int32 → RS → Prop) (h : wp_X8_find u x1 x2 x3 x4 x5 Q) : zMi l yX8_find cX8_find 6 (some .int) 3 0 0 g [.ref (ad 0), .int x1, .int x2, .int x3, .int x4, .int x5] (wR g ad u) (wR g ad) Q := by
  refine zMi_of RX8 (by decide) rfl [(0, .ref (ad 0)), (1, .int x1), (2, .int x2), (3, .int x3), (4, .int x4), (5, .int x5)] rfl (Nat.le_of_ble_eq_true rfl) (fun p e s m args below meth c A C hr hnm => ?_)
  unfold wp_X8_find at h
  refine z_aload_n C dX8_find_0 rfl 0 rfl ?_
  refine z_iconst (v := 0) C dX8_find_1 (by decide) ?_
  refine pR_thrown C dX8_find_2 ?_
  refine z_stR (fun u101 eu101 => ?_)
  have h := h u101 eu101
  refine z_aload_n C dX8_find_5 rfl 0 rfl ?_
  refine z_iload_n C dX8_find_6 rfl 1 rfl ?_
  refine z_iload_n C dX8_find_7 rfl 2 rfl ?_
  refine z_iload_n C dX8_find_8 rfl 3 rfl ?_
  refine z_iload C dX8_find_9 4 rfl ?_
  refine z_iload C dX8_find_11 5 rfl ?_
  refine cRi (As := [.int x1, .int x2, .int x3, .int x4, .int x5]) C (c_X8_takeFields l g ad u101 x1 x2 x3 x4 x5 _ h) v_X8_takeFields ml8_141 rfl ⟨Nat.le_of_ble_eq_true rfl, Nat.le_of_ble_eq_true rfl⟩ ⟨Nat.zero_le _, Nat.zero_le _⟩ (Nat.le_of_ble_eq_true rfl) rfl dX8_find_13 ?_
  intro r102 u103 h
  refine z_if_eq C dX8_find_16 (tgt := 26) (by decide) (fun hc104 => ?_) (fun hc104 => ?_)
  · have h := h.1 hc104
    refine z_iconst (v := (-1)) C dX8_find_26 (by decide) ?_
    refine z_lv (lv1 := [(0, .ref (ad 0))]) [0] rfl ?_
    exact b_X8_find_27 C hr ad Q u103 (-1) h
  · have h := h.2 hc104
    refine z_aload_n C dX8_find_19 rfl 0 rfl ?_
    refine cRi (As := []) C (c_X8_found l g ad u103 _ h) v_X8_found ml8_145 rfl ⟨Nat.le_of_ble_eq_true rfl, Nat.le_of_ble_eq_true rfl⟩ ⟨Nat.zero_le _, Nat.zero_le _⟩ (Nat.le_of_ble_eq_true rfl) rfl dX8_find_20 ?_
    intro r105 u106 h
    refine z_goto C dX8_find_23 (tgt := 27) (by decide) ?_
    refine z_lv (lv1 := [(0, .ref (ad 0))]) [0] rfl ?_
    exact b_X8_find_27 C hr ad Q u106 r105 h
abbrev j_X8_wishers (p : Program) (l : Launch) (e : Env) (s : State) (m : MethodId) (args : Array Value) (below : List Frame) (meth : Method) (c : Code) (g : zG) (A : Nat → Prop) (ad : Nat → Nat) (Q : Int32 → RS → Prop) (u : RS) (pc : Nat) (lv : List (Nat × Value)) (st : List Value) : Prop := zJ p l e (zR 3 0 0) s m args below meth c g A 4 (zQi below args s g A 0 0 (wR g ad) Q) (wR g ad u) 0 0 pc lv st
def wp_X8_wishers_31 (Q : Int32 → RS → Prop) (B4 : RS → Int32 → Int32 → Int32 → Prop) (u : RS) (x1 : Int32) (x3 : Int32) (t0 : Int32) (t1 : Int32) : Prop :=
  ∀ x105 : Int32, x105 = t1 ||| t0 → ∀ x106 : Int32, x106 = x3 + 1 → B4 u x1 x105 x106
set_option maxRecDepth 20000 in
theorem b_X8_wishers_31 (C : zC p s m args meth c g A cX8_wishers RX8 4) (hr : meth.sig.returnType = (some .int)) (ad : Nat → Nat) (Q : Int32 → RS → Prop) (B4 : RS → Int32 → Int32 → Int32 → Prop) (hB4 : ∀ (u : RS) (x1 : Int32) (x2 : Int32) (x3 : Int32), B4 u x1 x2 x3 → j_X8_wishers p l e s m args below meth c g A ad Q u 4 [(0, .ref (ad 0)), (1, .int x1), (2, .int x2), (3, .int x3)] []) (u : RS) (x1 : Int32) (x3 : Int32) (t0 : Int32) (t1 : Int32) (h : wp_X8_wishers_31 Q B4 u x1 x3 t0 t1) : j_X8_wishers p l e s m args below meth c g A ad Q u 31 [(0, .ref (ad 0)), (1, .int x1), (3, .int x3)] [.int t0, .int t1] := by
  unfold wp_X8_wishers_31 at h
  refine z_ior C dX8_wishers_31 ?_
  refine z_topi (fun x105 ex105 => ?_)
  have h := h x105 ex105
  refine z_istore_n (lv1 := [(2, .int x105), (0, .ref (ad 0)), (1, .int x1), (3, .int x3)]) C dX8_wishers_32 rfl (by decide) rfl ?_
  obtain ⟨x106, ex106⟩ : ∃ y : Int32, y = x3 + 1 := ⟨_, rfl⟩
  have h := h x106 ex106
  refine z_iinc (v := x106) (lv1 := [(3, .int x106), (2, .int x105), (0, .ref (ad 0)), (1, .int x1)]) C dX8_wishers_33 3 rfl (by rw [ex106]; rfl) (by decide) rfl ?_
  refine z_goto C dX8_wishers_36 (tgt := 4) (by decide) ?_
  refine z_lv (lv1 := [(0, .ref (ad 0)), (1, .int x1), (2, .int x105), (3, .int x106)]) [2, 3, 1, 0] rfl ?_
  exact hB4 u x1 x105 x106 h
def wp_X8_wishers_4 (Q : Int32 → RS → Prop) (B4 : RS → Int32 → Int32 → Int32 → Prop) (u : RS) (x1 : Int32) (x2 : Int32) (x3 : Int32) : Prop :=
  ((u.1 3 4 ≤ x3 → Q x2 u) ∧ (¬ u.1 3 4 ≤ x3 → wp_X8_wishOf u x3 (fun r102 u103 => ((¬ r102 = x1 → wp_X8_wishers_31 Q B4 u103 x1 x3 0 x2) ∧ (r102 = x1 → wp_X8_wishers_31 Q B4 u103 x1 x3 (1 <<< (x3 &&& 31)) x2)))))
set_option maxRecDepth 20000 in
theorem b_X8_wishers_4 (C : zC p s m args meth c g A cX8_wishers RX8 4) (hr : meth.sig.returnType = (some .int)) (ad : Nat → Nat) (Q : Int32 → RS → Prop) (B4 : RS → Int32 → Int32 → Int32 → Prop) (hB4 : ∀ (u : RS) (x1 : Int32) (x2 : Int32) (x3 : Int32), B4 u x1 x2 x3 → j_X8_wishers p l e s m args below meth c g A ad Q u 4 [(0, .ref (ad 0)), (1, .int x1), (2, .int x2), (3, .int x3)] []) (u : RS) (x1 : Int32) (x2 : Int32) (x3 : Int32) (h : wp_X8_wishers_4 Q B4 u x1 x2 x3) : j_X8_wishers p l e s m args below meth c g A ad Q u 4 [(0, .ref (ad 0)), (1, .int x1), (2, .int x2), (3, .int x3)] [] := by
  unfold wp_X8_wishers_4 at h
  refine z_iload_n C dX8_wishers_4 rfl 3 rfl ?_
  refine z_aload_n C dX8_wishers_5 rfl 0 rfl ?_
  refine gR_row C dX8_wishers_6 ?_
  refine z_iconst (v := 4) C dX8_wishers_9 (by decide) ?_
  refine lRn_row C 4 (by decide +kernel) (vp_in_iff.mpr (by decide +kernel)) dX8_wishers_10 ?_
  refine z_icmp_ge C dX8_wishers_11 (tgt := 39) (by decide) (fun hc101 => ?_) (fun hc101 => ?_)
  · have h := h.1 hc101
    refine z_iload_n C dX8_wishers_39 rfl 2 rfl ?_
    exact z_iret C hr u rfl h dX8_wishers_40
  · have h := h.2 hc101
    refine z_iload_n C dX8_wishers_14 rfl 2 rfl ?_
    refine z_aload_n C dX8_wishers_15 rfl 0 rfl ?_
    refine z_iload_n C dX8_wishers_16 rfl 3 rfl ?_
    refine cRi (As := [.int x3]) C (c_X8_wishOf l g ad u x3 _ h) v_X8_wishOf ml8_189 rfl ⟨Nat.le_of_ble_eq_true rfl, Nat.le_of_ble_eq_true rfl⟩ ⟨Nat.zero_le _, Nat.zero_le _⟩ (Nat.le_of_ble_eq_true rfl) rfl dX8_wishers_17 ?_
    intro r102 u103 h
    refine z_iload_n C dX8_wishers_20 rfl 1 rfl ?_
    refine z_icmp_ne C dX8_wishers_21 (tgt := 30) (by decide) (fun hc104 => ?_) (fun hc104 => ?_)
    · have h := h.1 hc104
      refine z_iconst (v := 0) C dX8_wishers_30 (by decide) ?_
      refine z_lv (lv1 := [(0, .ref (ad 0)), (1, .int x1), (3, .int x3)]) [0, 1, 3] rfl ?_
      exact b_X8_wishers_31 C hr ad Q B4 hB4 u103 x1 x3 0 x2 h
    · have h := h.2 hc104
      refine z_iconst (v := 1) C dX8_wishers_24 (by decide) ?_
      refine z_iload_n C dX8_wishers_25 rfl 3 rfl ?_
      refine z_ishl C dX8_wishers_26 ?_
      refine z_goto C dX8_wishers_27 (tgt := 31) (by decide) ?_
      refine z_lv (lv1 := [(0, .ref (ad 0)), (1, .int x1), (3, .int x3)]) [0, 1, 3] rfl ?_
      exact b_X8_wishers_31 C hr ad Q B4 hB4 u103 x1 x3 (1 <<< (x3 &&& 31)) x2 h
theorem l_X8_wishers_4 (C : zC p s m args meth c g A cX8_wishers RX8 4) (hr : meth.sig.returnType = (some .int)) (ad : Nat → Nat) (Q : Int32 → RS → Prop) : ∀ (n : Nat) (u : RS) (x1 : Int32) (x2 : Int32) (x3 : Int32), zit4 (wp_X8_wishers_4 Q) n u x1 x2 x3 → j_X8_wishers p l e s m args below meth c g A ad Q u 4 [(0, .ref (ad 0)), (1, .int x1), (2, .int x2), (3, .int x3)] [] := by
  intro n
  induction n with
  | zero => exact fun u x1 x2 x3 h => h.elim
  | succ n ih => exact fun u x1 x2 x3 h => b_X8_wishers_4 C hr ad Q (zit4 (wp_X8_wishers_4 Q) n) ih u x1 x2 x3 h
def wp_X8_wishers (u : RS) (x1 : Int32) (Q : Int32 → RS → Prop) : Prop :=
  (∃ n, zit4 (wp_X8_wishers_4 Q) n u x1 0 0)
set_option maxRecDepth 20000 in
theorem c_X8_wishers (l : Launch) (g : zG) (ad : Nat → Nat) (u : RS) (x1 : Int32) (Q : Int32 → RS → Prop) (h : wp_X8_wishers u x1 Q) : zMi l yX8_wishers cX8_wishers 4 (some .int) 3 0 0 g [.ref (ad 0), .int x1] (wR g ad u) (wR g ad) Q := by
  refine zMi_of RX8 (by decide) rfl [(0, .ref (ad 0)), (1, .int x1)] rfl (Nat.le_of_ble_eq_true rfl) (fun p e s m args below meth c A C hr hnm => ?_)
  unfold wp_X8_wishers at h
  refine z_iconst (v := 0) C dX8_wishers_0 (by decide) ?_
  refine z_istore_n (lv1 := [(2, .int 0), (0, .ref (ad 0)), (1, .int x1)]) C dX8_wishers_1 rfl (by decide) rfl ?_
  refine z_iconst (v := 0) C dX8_wishers_2 (by decide) ?_
  refine z_istore_n (lv1 := [(3, .int 0), (2, .int 0), (0, .ref (ad 0)), (1, .int x1)]) C dX8_wishers_3 rfl (by decide) rfl ?_
  refine z_lv (lv1 := [(0, .ref (ad 0)), (1, .int x1), (2, .int 0), (3, .int 0)]) [2, 3, 1, 0] rfl ?_
  obtain ⟨n9, h⟩ := h
  exact l_X8_wishers_4 C hr ad Q n9 u x1 0 0 h
abbrev j_X8_isBothWays (p : Program) (l : Launch) (e : Env) (s : State) (m : MethodId) (args : Array Value) (below : List Frame) (meth : Method) (c : Code) (g : zG) (A : Nat → Prop) (ad : Nat → Nat) (Q : Int32 → RS → Prop) (u : RS) (pc : Nat) (lv : List (Nat × Value)) (st : List Value) : Prop := zJ p l e (zR 3 0 0) s m args below meth c g A 3 (zQi below args s g A 0 0 (wR g ad) Q) (wR g ad u) 0 0 pc lv st
def wp_X8_isBothWays_59 (Q : Int32 → RS → Prop) (B9 : RS → Int32 → Int32 → Prop) (u : RS) (x2 : Int32) (t0 : Int32) : Prop :=
  ∀ x104 : Int32, x104 = x2 + 1 → B9 u t0 x104
set_option maxRecDepth 20000 in
theorem b_X8_isBothWays_59 (C : zC p s m args meth c g A cX8_isBothWays RX8 3) (hr : meth.sig.returnType = (some .boolean)) (ad : Nat → Nat) (Q : Int32 → RS → Prop) (B9 : RS → Int32 → Int32 → Prop) (hB9 : ∀ (u : RS) (x1 : Int32) (x2 : Int32), B9 u x1 x2 → j_X8_isBothWays p l e s m args below meth c g A ad Q u 9 [(0, .ref (ad 0)), (1, .int x1), (2, .int x2)] []) (u : RS) (x2 : Int32) (t0 : Int32) (h : wp_X8_isBothWays_59 Q B9 u x2 t0) : j_X8_isBothWays p l e s m args below meth c g A ad Q u 59 [(0, .ref (ad 0)), (2, .int x2)] [.int t0] := by
  unfold wp_X8_isBothWays_59 at h
  refine z_istore_n (lv1 := [(1, .int t0), (0, .ref (ad 0)), (2, .int x2)]) C dX8_isBothWays_59 rfl (by decide) rfl ?_
  obtain ⟨x104, ex104⟩ : ∃ y : Int32, y = x2 + 1 := ⟨_, rfl⟩
  have h := h x104 ex104
  refine z_iinc (v := x104) (lv1 := [(2, .int x104), (1, .int t0), (0, .ref (ad 0))]) C dX8_isBothWays_60 2 rfl (by rw [ex104]; rfl) (by decide) rfl ?_
  refine z_goto C dX8_isBothWays_63 (tgt := 9) (by decide) ?_
  refine z_lv (lv1 := [(0, .ref (ad 0)), (1, .int t0), (2, .int x104)]) [2, 1, 0] rfl ?_
  exact hB9 u t0 x104 h
def wp_X8_isBothWays_58 (Q : Int32 → RS → Prop) (B9 : RS → Int32 → Int32 → Prop) (u : RS) (x2 : Int32) : Prop :=
  wp_X8_isBothWays_59 Q B9 u x2 0
set_option maxRecDepth 20000 in
theorem b_X8_isBothWays_58 (C : zC p s m args meth c g A cX8_isBothWays RX8 3) (hr : meth.sig.returnType = (some .boolean)) (ad : Nat → Nat) (Q : Int32 → RS → Prop) (B9 : RS → Int32 → Int32 → Prop) (hB9 : ∀ (u : RS) (x1 : Int32) (x2 : Int32), B9 u x1 x2 → j_X8_isBothWays p l e s m args below meth c g A ad Q u 9 [(0, .ref (ad 0)), (1, .int x1), (2, .int x2)] []) (u : RS) (x2 : Int32) (h : wp_X8_isBothWays_58 Q B9 u x2) : j_X8_isBothWays p l e s m args below meth c g A ad Q u 58 [(0, .ref (ad 0)), (2, .int x2)] [] := by
  unfold wp_X8_isBothWays_58 at h
  refine z_iconst (v := 0) C dX8_isBothWays_58 (by decide) ?_
  exact b_X8_isBothWays_59 C hr ad Q B9 hB9 u x2 0 h
def wp_X8_isBothWays_9 (Q : Int32 → RS → Prop) (B9 : RS → Int32 → Int32 → Prop) (u : RS) (x1 : Int32) (x2 : Int32) : Prop :=
  ((8 ≤ x2 → (zBool x1 ∧ Q x1 u)) ∧ (¬ 8 ≤ x2 → ((x1 = 0 → wp_X8_isBothWays_58 Q B9 u x2) ∧ (¬ x1 = 0 → wp_X8_part u x2 (fun r105 u106 => wp_X8_part u106 (8 + x2) (fun r107 u108 => ((¬ r105 = r107 → wp_X8_isBothWays_58 Q B9 u108 x2) ∧ (r105 = r107 → wp_X8_part u108 (16 + x2) (fun r110 u111 => wp_X8_part u111 (24 + x2) (fun r112 u113 => ((¬ r110 = r112 → wp_X8_isBothWays_58 Q B9 u113 x2) ∧ (r110 = r112 → wp_X8_isBothWays_59 Q B9 u113 x2 1))))))))))))
set_option maxRecDepth 20000 in
theorem b_X8_isBothWays_9 (C : zC p s m args meth c g A cX8_isBothWays RX8 3) (hr : meth.sig.returnType = (some .boolean)) (ad : Nat → Nat) (Q : Int32 → RS → Prop) (B9 : RS → Int32 → Int32 → Prop) (hB9 : ∀ (u : RS) (x1 : Int32) (x2 : Int32), B9 u x1 x2 → j_X8_isBothWays p l e s m args below meth c g A ad Q u 9 [(0, .ref (ad 0)), (1, .int x1), (2, .int x2)] []) (u : RS) (x1 : Int32) (x2 : Int32) (h : wp_X8_isBothWays_9 Q B9 u x1 x2) : j_X8_isBothWays p l e s m args below meth c g A ad Q u 9 [(0, .ref (ad 0)), (1, .int x1), (2, .int x2)] [] := by
  unfold wp_X8_isBothWays_9 at h
  refine z_iload_n C dX8_isBothWays_9 rfl 2 rfl ?_
  refine z_bipush (v := 8) C dX8_isBothWays_10 (by decide) ?_
  refine z_icmp_ge C dX8_isBothWays_12 (tgt := 66) (by decide) (fun hc102 => ?_) (fun hc102 => ?_)
  · have h := h.1 hc102
    refine z_iload_n C dX8_isBothWays_66 rfl 1 rfl ?_
    exact z_zret C hr u rfl h.1 h.2 dX8_isBothWays_67
  · have h := h.2 hc102
    refine z_iload_n C dX8_isBothWays_15 rfl 1 rfl ?_
    refine z_if_eq C dX8_isBothWays_16 (tgt := 58) (by decide) (fun hc103 => ?_) (fun hc103 => ?_)
    · have h := h.1 hc103
      refine z_lv (lv1 := [(0, .ref (ad 0)), (2, .int x2)]) [0, 2] rfl ?_
      exact b_X8_isBothWays_58 C hr ad Q B9 hB9 u x2 h
    · have h := h.2 hc103
      refine z_aload_n C dX8_isBothWays_19 rfl 0 rfl ?_
      refine z_iload_n C dX8_isBothWays_20 rfl 2 rfl ?_
      refine cRi (As := [.int x2]) C (c_X8_part l g ad u x2 _ h) v_X8_part ml8_259 rfl ⟨Nat.le_of_ble_eq_true rfl, Nat.le_of_ble_eq_true rfl⟩ ⟨Nat.zero_le _, Nat.zero_le _⟩ (Nat.le_of_ble_eq_true rfl) rfl dX8_isBothWays_21 ?_
      intro r105 u106 h
      refine z_aload_n C dX8_isBothWays_24 rfl 0 rfl ?_
      refine z_bipush (v := 8) C dX8_isBothWays_25 (by decide) ?_
      refine z_iload_n C dX8_isBothWays_27 rfl 2 rfl ?_
      refine z_iadd C dX8_isBothWays_28 ?_
      refine cRi (As := [.int (8 + x2)]) C (c_X8_part l g ad u106 (8 + x2) _ h) v_X8_part ml8_259 rfl ⟨Nat.le_of_ble_eq_true rfl, Nat.le_of_ble_eq_true rfl⟩ ⟨Nat.zero_le _, Nat.zero_le _⟩ (Nat.le_of_ble_eq_true rfl) rfl dX8_isBothWays_29 ?_
      intro r107 u108 h
      refine z_icmp_ne C dX8_isBothWays_32 (tgt := 58) (by decide) (fun hc109 => ?_) (fun hc109 => ?_)
      · have h := h.1 hc109
        refine z_lv (lv1 := [(0, .ref (ad 0)), (2, .int x2)]) [0, 2] rfl ?_
        exact b_X8_isBothWays_58 C hr ad Q B9 hB9 u108 x2 h
      · have h := h.2 hc109
        refine z_aload_n C dX8_isBothWays_35 rfl 0 rfl ?_
        refine z_bipush (v := 16) C dX8_isBothWays_36 (by decide) ?_
        refine z_iload_n C dX8_isBothWays_38 rfl 2 rfl ?_
        refine z_iadd C dX8_isBothWays_39 ?_
        refine cRi (As := [.int (16 + x2)]) C (c_X8_part l g ad u108 (16 + x2) _ h) v_X8_part ml8_259 rfl ⟨Nat.le_of_ble_eq_true rfl, Nat.le_of_ble_eq_true rfl⟩ ⟨Nat.zero_le _, Nat.zero_le _⟩ (Nat.le_of_ble_eq_true rfl) rfl dX8_isBothWays_40 ?_
        intro r110 u111 h
        refine z_aload_n C dX8_isBothWays_43 rfl 0 rfl ?_
        refine z_bipush (v := 24) C dX8_isBothWays_44 (by decide) ?_
        refine z_iload_n C dX8_isBothWays_46 rfl 2 rfl ?_
        refine z_iadd C dX8_isBothWays_47 ?_
        refine cRi (As := [.int (24 + x2)]) C (c_X8_part l g ad u111 (24 + x2) _ h) v_X8_part ml8_259 rfl ⟨Nat.le_of_ble_eq_true rfl, Nat.le_of_ble_eq_true rfl⟩ ⟨Nat.zero_le _, Nat.zero_le _⟩ (Nat.le_of_ble_eq_true rfl) rfl dX8_isBothWays_48 ?_
        intro r112 u113 h
        refine z_icmp_ne C dX8_isBothWays_51 (tgt := 58) (by decide) (fun hc114 => ?_) (fun hc114 => ?_)
        · have h := h.1 hc114
          refine z_lv (lv1 := [(0, .ref (ad 0)), (2, .int x2)]) [0, 2] rfl ?_
          exact b_X8_isBothWays_58 C hr ad Q B9 hB9 u113 x2 h
        · have h := h.2 hc114
          refine z_iconst (v := 1) C dX8_isBothWays_54 (by decide) ?_
          refine z_goto C dX8_isBothWays_55 (tgt := 59) (by decide) ?_
          refine z_lv (lv1 := [(0, .ref (ad 0)), (2, .int x2)]) [0, 2] rfl ?_
          exact b_X8_isBothWays_59 C hr ad Q B9 hB9 u113 x2 1 h
theorem l_X8_isBothWays_9 (C : zC p s m args meth c g A cX8_isBothWays RX8 3) (hr : meth.sig.returnType = (some .boolean)) (ad : Nat → Nat) (Q : Int32 → RS → Prop) : ∀ (n : Nat) (u : RS) (x1 : Int32) (x2 : Int32), zit3 (wp_X8_isBothWays_9 Q) n u x1 x2 → j_X8_isBothWays p l e s m args below meth c g A ad Q u 9 [(0, .ref (ad 0)), (1, .int x1), (2, .int x2)] [] := by
  intro n
  induction n with
  | zero => exact fun u x1 x2 h => h.elim
  | succ n ih => exact fun u x1 x2 h => b_X8_isBothWays_9 C hr ad Q (zit3 (wp_X8_isBothWays_9 Q) n) ih u x1 x2 h
def wp_X8_isBothWays (u : RS) (Q : Int32 → RS → Prop) : Prop :=
  ∀ u101 : RS, u101 = rN u 0 0 → (∃ n, zit3 (wp_X8_isBothWays_9 Q) n u101 1 0)
set_option maxRecDepth 20000 in
theorem c_X8_isBothWays (l : Launch) (g : zG) (ad : Nat → Nat) (u : RS) (Q : Int32 → RS → Prop) (h : wp_X8_isBothWays u Q) : zMi l yX8_isBothWays cX8_isBothWays 3 (some .boolean) 3 0 0 g [.ref (ad 0)] (wR g ad u) (wR g ad) Q := by
  refine zMi_of RX8 (by decide) rfl [(0, .ref (ad 0))] rfl (Nat.le_of_ble_eq_true rfl) (fun p e s m args below meth c A C hr hnm => ?_)
  unfold wp_X8_isBothWays at h
  refine z_aload_n C dX8_isBothWays_0 rfl 0 rfl ?_
  refine z_iconst (v := 0) C dX8_isBothWays_1 (by decide) ?_
  refine pR_thrown C dX8_isBothWays_2 ?_
  refine z_stR (fun u101 eu101 => ?_)
  have h := h u101 eu101
  refine z_iconst (v := 1) C dX8_isBothWays_5 (by decide) ?_
  refine z_istore_n (lv1 := [(1, .int 1), (0, .ref (ad 0))]) C dX8_isBothWays_6 rfl (by decide) rfl ?_
  refine z_iconst (v := 0) C dX8_isBothWays_7 (by decide) ?_
  refine z_istore_n (lv1 := [(2, .int 0), (1, .int 1), (0, .ref (ad 0))]) C dX8_isBothWays_8 rfl (by decide) rfl ?_
  refine z_lv (lv1 := [(0, .ref (ad 0)), (1, .int 1), (2, .int 0)]) [2, 1, 0] rfl ?_
  obtain ⟨n9, h⟩ := h
  exact l_X8_isBothWays_9 C hr ad Q n9 u101 1 0 h
abbrev j_X8_reach (p : Program) (l : Launch) (e : Env) (s : State) (m : MethodId) (args : Array Value) (below : List Frame) (meth : Method) (c : Code) (g : zG) (A : Nat → Prop) (ad : Nat → Nat) (Q : Int32 → RS → Prop) (u : RS) (pc : Nat) (lv : List (Nat × Value)) (st : List Value) : Prop := zJ p l e (zR 3 0 0) s m args below meth c g A 6 (zQi below args s g A 0 0 (wR g ad) Q) (wR g ad u) 0 0 pc lv st
def wp_X8_reach_99 (Q : Int32 → RS → Prop) (B99 : RS → Int32 → Int32 → Int32 → Prop) (u : RS) (x1 : Int32) (x2 : Int32) (x3 : Int32) : Prop :=
  ((16 ≤ x3 → Q x2 u) ∧ (¬ 16 ≤ x3 → ∀ x104 : Int32, x104 = x2 + ((x1 >>> (x3 &&& 31)) &&& 1) → ∀ x105 : Int32, x105 = x3 + 1 → B99 u x1 x104 x105))
set_option maxRecDepth 20000 in
theorem b_X8_reach_99 (C : zC p s m args meth c g A cX8_reach RX8 6) (hr : meth.sig.returnType = (some .int)) (ad : Nat → Nat) (Q : Int32 → RS → Prop) (B99 : RS → Int32 → Int32 → Int32 → Prop) (hB99 : ∀ (u : RS) (x1 : Int32) (x2 : Int32) (x3 : Int32), B99 u x1 x2 x3 → j_X8_reach p l e s m args below meth c g A ad Q u 99 [(0, .ref (ad 0)), (1, .int x1), (2, .int x2), (3, .int x3)] []) (u : RS) (x1 : Int32) (x2 : Int32) (x3 : Int32) (h : wp_X8_reach_99 Q B99 u x1 x2 x3) : j_X8_reach p l e s m args below meth c g A ad Q u 99 [(0, .ref (ad 0)), (1, .int x1), (2, .int x2), (3, .int x3)] [] := by
  unfold wp_X8_reach_99 at h
  refine z_iload_n C dX8_reach_99 rfl 3 rfl ?_
  refine z_bipush (v := 16) C dX8_reach_100 (by decide) ?_
  refine z_icmp_ge C dX8_reach_102 (tgt := 119) (by decide) (fun hc103 => ?_) (fun hc103 => ?_)
  · have h := h.1 hc103
    refine z_iload_n C dX8_reach_119 rfl 2 rfl ?_
    exact z_iret C hr u rfl h dX8_reach_120
  · have h := h.2 hc103
    refine z_iload_n C dX8_reach_105 rfl 2 rfl ?_
    refine z_iload_n C dX8_reach_106 rfl 1 rfl ?_
    refine z_iload_n C dX8_reach_107 rfl 3 rfl ?_
    refine z_ishr C dX8_reach_108 ?_
    refine z_iconst (v := 1) C dX8_reach_109 (by decide) ?_
    refine z_iand C dX8_reach_110 ?_
    refine z_iadd C dX8_reach_111 ?_
    refine z_topi (fun x104 ex104 => ?_)
    have h := h x104 ex104
    refine z_istore_n (lv1 := [(2, .int x104), (0, .ref (ad 0)), (1, .int x1), (3, .int x3)]) C dX8_reach_112 rfl (by decide) rfl ?_
    obtain ⟨x105, ex105⟩ : ∃ y : Int32, y = x3 + 1 := ⟨_, rfl⟩
    have h := h x105 ex105
    refine z_iinc (v := x105) (lv1 := [(3, .int x105), (2, .int x104), (0, .ref (ad 0)), (1, .int x1)]) C dX8_reach_113 3 rfl (by rw [ex105]; rfl) (by decide) rfl ?_
    refine z_goto C dX8_reach_116 (tgt := 99) (by decide) ?_
    refine z_lv (lv1 := [(0, .ref (ad 0)), (1, .int x1), (2, .int x104), (3, .int x105)]) [2, 3, 1, 0] rfl ?_
    exact hB99 u x1 x104 x105 h
theorem l_X8_reach_99 (C : zC p s m args meth c g A cX8_reach RX8 6) (hr : meth.sig.returnType = (some .int)) (ad : Nat → Nat) (Q : Int32 → RS → Prop) : ∀ (n : Nat) (u : RS) (x1 : Int32) (x2 : Int32) (x3 : Int32), zit4 (wp_X8_reach_99 Q) n u x1 x2 x3 → j_X8_reach p l e s m args below meth c g A ad Q u 99 [(0, .ref (ad 0)), (1, .int x1), (2, .int x2), (3, .int x3)] [] := by
  intro n
  induction n with
  | zero => exact fun u x1 x2 x3 h => h.elim
  | succ n ih => exact fun u x1 x2 x3 h => b_X8_reach_99 C hr ad Q (zit4 (wp_X8_reach_99 Q) n) ih u x1 x2 x3 h
def wp_X8_reach_87 (Q : Int32 → RS → Prop) (B9 : RS → Int32 → Int32 → Prop) (u : RS) (x2 : Int32) (t0 : Int32) (t1 : Int32) : Prop :=
  ∀ x111 : Int32, x111 = t1 ||| t0 → ∀ x112 : Int32, x112 = x2 + 1 → B9 u x111 x112
set_option maxRecDepth 20000 in
theorem b_X8_reach_87 (C : zC p s m args meth c g A cX8_reach RX8 6) (hr : meth.sig.returnType = (some .int)) (ad : Nat → Nat) (Q : Int32 → RS → Prop) (B9 : RS → Int32 → Int32 → Prop) (hB9 : ∀ (u : RS) (x1 : Int32) (x2 : Int32), B9 u x1 x2 → j_X8_reach p l e s m args below meth c g A ad Q u 9 [(0, .ref (ad 0)), (1, .int x1), (2, .int x2)] []) (u : RS) (x2 : Int32) (t0 : Int32) (t1 : Int32) (h : wp_X8_reach_87 Q B9 u x2 t0 t1) : j_X8_reach p l e s m args below meth c g A ad Q u 87 [(0, .ref (ad 0)), (2, .int x2)] [.int t0, .int t1] := by
  unfold wp_X8_reach_87 at h
  refine z_ior C dX8_reach_87 ?_
  refine z_topi (fun x111 ex111 => ?_)
  have h := h x111 ex111
  refine z_istore_n (lv1 := [(1, .int x111), (0, .ref (ad 0)), (2, .int x2)]) C dX8_reach_88 rfl (by decide) rfl ?_
  obtain ⟨x112, ex112⟩ : ∃ y : Int32, y = x2 + 1 := ⟨_, rfl⟩
  have h := h x112 ex112
  refine z_iinc (v := x112) (lv1 := [(2, .int x112), (1, .int x111), (0, .ref (ad 0))]) C dX8_reach_89 2 rfl (by rw [ex112]; rfl) (by decide) rfl ?_
  refine z_goto C dX8_reach_92 (tgt := 9) (by decide) ?_
  refine z_lv (lv1 := [(0, .ref (ad 0)), (1, .int x111), (2, .int x112)]) [2, 1, 0] rfl ?_
  exact hB9 u x111 x112 h
def wp_X8_reach_81 (Q : Int32 → RS → Prop) (B9 : RS → Int32 → Int32 → Prop) (u : RS) (x2 : Int32) (x4 : Int32) (t0 : Int32) : Prop :=
  wp_X8_reach_87 Q B9 u x2 x4 t0
set_option maxRecDepth 20000 in
theorem b_X8_reach_81 (C : zC p s m args meth c g A cX8_reach RX8 6) (hr : meth.sig.returnType = (some .int)) (ad : Nat → Nat) (Q : Int32 → RS → Prop) (B9 : RS → Int32 → Int32 → Prop) (hB9 : ∀ (u : RS) (x1 : Int32) (x2 : Int32), B9 u x1 x2 → j_X8_reach p l e s m args below meth c g A ad Q u 9 [(0, .ref (ad 0)), (1, .int x1), (2, .int x2)] []) (u : RS) (x2 : Int32) (x4 : Int32) (t0 : Int32) (h : wp_X8_reach_81 Q B9 u x2 x4 t0) : j_X8_reach p l e s m args below meth c g A ad Q u 81 [(0, .ref (ad 0)), (2, .int x2), (4, .int x4)] [.int t0] := by
  unfold wp_X8_reach_81 at h
  refine z_iload C dX8_reach_81 2 rfl ?_
  refine z_goto C dX8_reach_83 (tgt := 87) (by decide) ?_
  refine z_lv (lv1 := [(0, .ref (ad 0)), (2, .int x2)]) [0, 1] rfl ?_
  exact b_X8_reach_87 C hr ad Q B9 hB9 u x2 x4 t0 h
def wp_X8_reach_59 (Q : Int32 → RS → Prop) (B9 : RS → Int32 → Int32 → Prop) (B30 : RS → Int32 → Int32 → Int32 → Int32 → Int32 → Prop) (u : RS) (x1 : Int32) (x2 : Int32) (x3 : Int32) (x5 : Int32) (t0 : Int32) (t1 : Int32) : Prop :=
  ∀ x115 : Int32, x115 = t1 ||| t0 → ∀ x116 : Int32, x116 = x5 + 1 → B30 u x1 x2 x3 x115 x116
set_option maxRecDepth 20000 in
theorem b_X8_reach_59 (C : zC p s m args meth c g A cX8_reach RX8 6) (hr : meth.sig.returnType = (some .int)) (ad : Nat → Nat) (Q : Int32 → RS → Prop) (B9 : RS → Int32 → Int32 → Prop) (hB9 : ∀ (u : RS) (x1 : Int32) (x2 : Int32), B9 u x1 x2 → j_X8_reach p l e s m args below meth c g A ad Q u 9 [(0, .ref (ad 0)), (1, .int x1), (2, .int x2)] []) (B30 : RS → Int32 → Int32 → Int32 → Int32 → Int32 → Prop) (hB30 : ∀ (u : RS) (x1 : Int32) (x2 : Int32) (x3 : Int32) (x4 : Int32) (x5 : Int32), B30 u x1 x2 x3 x4 x5 → j_X8_reach p l e s m args below meth c g A ad Q u 30 [(0, .ref (ad 0)), (1, .int x1), (2, .int x2), (3, .int x3), (4, .int x4), (5, .int x5)] []) (u : RS) (x1 : Int32) (x2 : Int32) (x3 : Int32) (x5 : Int32) (t0 : Int32) (t1 : Int32) (h : wp_X8_reach_59 Q B9 B30 u x1 x2 x3 x5 t0 t1) : j_X8_reach p l e s m args below meth c g A ad Q u 59 [(0, .ref (ad 0)), (1, .int x1), (2, .int x2), (3, .int x3), (5, .int x5)] [.int t0, .int t1] := by
  unfold wp_X8_reach_59 at h
  refine z_ior C dX8_reach_59 ?_
  refine z_topi (fun x115 ex115 => ?_)
  have h := h x115 ex115
  refine z_istore (lv1 := [(4, .int x115), (0, .ref (ad 0)), (1, .int x1), (2, .int x2), (3, .int x3), (5, .int x5)]) C dX8_reach_60 (by decide) rfl ?_
  obtain ⟨x116, ex116⟩ : ∃ y : Int32, y = x5 + 1 := ⟨_, rfl⟩
  have h := h x116 ex116
  refine z_iinc (v := x116) (lv1 := [(5, .int x116), (4, .int x115), (0, .ref (ad 0)), (1, .int x1), (2, .int x2), (3, .int x3)]) C dX8_reach_62 5 rfl (by rw [ex116]; rfl) (by decide) rfl ?_
  refine z_goto C dX8_reach_65 (tgt := 30) (by decide) ?_
  refine z_lv (lv1 := [(0, .ref (ad 0)), (1, .int x1), (2, .int x2), (3, .int x3), (4, .int x115), (5, .int x116)]) [2, 3, 4, 5, 1, 0] rfl ?_
  exact hB30 u x1 x2 x3 x115 x116 h
def wp_X8_reach_30 (Q : Int32 → RS → Prop) (B9 : RS → Int32 → Int32 → Prop) (B30 : RS → Int32 → Int32 → Int32 → Int32 → Int32 → Prop) (u : RS) (x1 : Int32) (x2 : Int32) (x3 : Int32) (x4 : Int32) (x5 : Int32) : Prop :=
  ((16 ≤ x5 → ((x2 < 32 → wp_X8_reach_81 Q B9 u x2 x4 x1) ∧ (¬ x2 < 32 → ((¬ x2 = 39 → wp_X8_reach_87 Q B9 u x2 0 x1) ∧ (x2 = 39 → wp_X8_reach_81 Q B9 u x2 x4 x1))))) ∧ (¬ 16 ≤ x5 → ((¬ (x1 >>> (x5 &&& 31)) &&& 1 = 1 → wp_X8_reach_59 Q B9 B30 u x1 x2 x3 x5 0 x4) ∧ ((x1 >>> (x5 &&& 31)) &&& 1 = 1 → wp_X8_reach_59 Q B9 B30 u x1 x2 x3 x5 (1 <<< ((x5 ^^^ x3) &&& 31)) x4))))
set_option maxRecDepth 20000 in
theorem b_X8_reach_30 (C : zC p s m args meth c g A cX8_reach RX8 6) (hr : meth.sig.returnType = (some .int)) (ad : Nat → Nat) (Q : Int32 → RS → Prop) (B9 : RS → Int32 → Int32 → Prop) (hB9 : ∀ (u : RS) (x1 : Int32) (x2 : Int32), B9 u x1 x2 → j_X8_reach p l e s m args below meth c g A ad Q u 9 [(0, .ref (ad 0)), (1, .int x1), (2, .int x2)] []) (B30 : RS → Int32 → Int32 → Int32 → Int32 → Int32 → Prop) (hB30 : ∀ (u : RS) (x1 : Int32) (x2 : Int32) (x3 : Int32) (x4 : Int32) (x5 : Int32), B30 u x1 x2 x3 x4 x5 → j_X8_reach p l e s m args below meth c g A ad Q u 30 [(0, .ref (ad 0)), (1, .int x1), (2, .int x2), (3, .int x3), (4, .int x4), (5, .int x5)] []) (u : RS) (x1 : Int32) (x2 : Int32) (x3 : Int32) (x4 : Int32) (x5 : Int32) (h : wp_X8_reach_30 Q B9 B30 u x1 x2 x3 x4 x5) : j_X8_reach p l e s m args below meth c g A ad Q u 30 [(0, .ref (ad 0)), (1, .int x1), (2, .int x2), (3, .int x3), (4, .int x4), (5, .int x5)] [] := by
  unfold wp_X8_reach_30 at h
  refine z_iload C dX8_reach_30 5 rfl ?_
  refine z_bipush (v := 16) C dX8_reach_32 (by decide) ?_
  refine z_icmp_ge C dX8_reach_34 (tgt := 68) (by decide) (fun hc109 => ?_) (fun hc109 => ?_)
  · have h := h.1 hc109
    refine z_iload_n C dX8_reach_68 rfl 1 rfl ?_
    refine z_iload_n C dX8_reach_69 rfl 2 rfl ?_
    refine z_bipush (v := 32) C dX8_reach_70 (by decide) ?_
    refine z_icmp_lt C dX8_reach_72 (tgt := 81) (by decide) (fun hc110 => ?_) (fun hc110 => ?_)
    · have h := h.1 hc110
      refine z_lv (lv1 := [(0, .ref (ad 0)), (2, .int x2), (4, .int x4)]) [0, 2, 4] rfl ?_
      exact b_X8_reach_81 C hr ad Q B9 hB9 u x2 x4 x1 h
    · have h := h.2 hc110
      refine z_iload_n C dX8_reach_75 rfl 2 rfl ?_
      refine z_bipush (v := 39) C dX8_reach_76 (by decide) ?_
      refine z_icmp_ne C dX8_reach_78 (tgt := 86) (by decide) (fun hc113 => ?_) (fun hc113 => ?_)
      · have h := h.1 hc113
        refine z_iconst (v := 0) C dX8_reach_86 (by decide) ?_
        refine z_lv (lv1 := [(0, .ref (ad 0)), (2, .int x2)]) [0, 2] rfl ?_
        exact b_X8_reach_87 C hr ad Q B9 hB9 u x2 0 x1 h
      · have h := h.2 hc113
        refine z_lv (lv1 := [(0, .ref (ad 0)), (2, .int x2), (4, .int x4)]) [0, 2, 4] rfl ?_
        exact b_X8_reach_81 C hr ad Q B9 hB9 u x2 x4 x1 h
  · have h := h.2 hc109
    refine z_iload C dX8_reach_37 4 rfl ?_
    refine z_iload_n C dX8_reach_39 rfl 1 rfl ?_
    refine z_iload C dX8_reach_40 5 rfl ?_
    refine z_ishr C dX8_reach_42 ?_
    refine z_iconst (v := 1) C dX8_reach_43 (by decide) ?_
    refine z_iand C dX8_reach_44 ?_
    refine z_iconst (v := 1) C dX8_reach_45 (by decide) ?_
    refine z_icmp_ne C dX8_reach_46 (tgt := 58) (by decide) (fun hc114 => ?_) (fun hc114 => ?_)
    · have h := h.1 hc114
      refine z_iconst (v := 0) C dX8_reach_58 (by decide) ?_
      refine z_lv (lv1 := [(0, .ref (ad 0)), (1, .int x1), (2, .int x2), (3, .int x3), (5, .int x5)]) [0, 1, 2, 3, 5] rfl ?_
      exact b_X8_reach_59 C hr ad Q B9 hB9 B30 hB30 u x1 x2 x3 x5 0 x4 h
    · have h := h.2 hc114
      refine z_iconst (v := 1) C dX8_reach_49 (by decide) ?_
      refine z_iload C dX8_reach_50 5 rfl ?_
      refine z_iload_n C dX8_reach_52 rfl 3 rfl ?_
      refine z_ixor C dX8_reach_53 ?_
      refine z_ishl C dX8_reach_54 ?_
      refine z_goto C dX8_reach_55 (tgt := 59) (by decide) ?_
      refine z_lv (lv1 := [(0, .ref (ad 0)), (1, .int x1), (2, .int x2), (3, .int x3), (5, .int x5)]) [0, 1, 2, 3, 5] rfl ?_
      exact b_X8_reach_59 C hr ad Q B9 hB9 B30 hB30 u x1 x2 x3 x5 (1 <<< ((x5 ^^^ x3) &&& 31)) x4 h
theorem l_X8_reach_30 (C : zC p s m args meth c g A cX8_reach RX8 6) (hr : meth.sig.returnType = (some .int)) (ad : Nat → Nat) (Q : Int32 → RS → Prop) (B9 : RS → Int32 → Int32 → Prop) (hB9 : ∀ (u : RS) (x1 : Int32) (x2 : Int32), B9 u x1 x2 → j_X8_reach p l e s m args below meth c g A ad Q u 9 [(0, .ref (ad 0)), (1, .int x1), (2, .int x2)] []) : ∀ (n : Nat) (u : RS) (x1 : Int32) (x2 : Int32) (x3 : Int32) (x4 : Int32) (x5 : Int32), zit6 (wp_X8_reach_30 Q B9) n u x1 x2 x3 x4 x5 → j_X8_reach p l e s m args below meth c g A ad Q u 30 [(0, .ref (ad 0)), (1, .int x1), (2, .int x2), (3, .int x3), (4, .int x4), (5, .int x5)] [] := by
  intro n
  induction n with
  | zero => exact fun u x1 x2 x3 x4 x5 h => h.elim
  | succ n ih => exact fun u x1 x2 x3 x4 x5 h => b_X8_reach_30 C hr ad Q B9 hB9 (zit6 (wp_X8_reach_30 Q B9) n) ih u x1 x2 x3 x4 x5 h
def wp_X8_reach_9 (Q : Int32 → RS → Prop) (B9 : RS → Int32 → Int32 → Prop) (u : RS) (x1 : Int32) (x2 : Int32) : Prop :=
  ((40 ≤ x2 → (∃ n, zit4 (wp_X8_reach_99 Q) n u x1 0 0)) ∧ (¬ 40 ≤ x2 → wp_X8_part u x2 (fun r106 u107 => ∀ x108 : Int32, x108 = r106 &&& 15 → (∃ n, zit6 (wp_X8_reach_30 Q B9) n u107 x1 x2 x108 0 0))))
set_option maxRecDepth 20000 in
theorem b_X8_reach_9 (C : zC p s m args meth c g A cX8_reach RX8 6) (hr : meth.sig.returnType = (some .int)) (ad : Nat → Nat) (Q : Int32 → RS → Prop) (B9 : RS → Int32 → Int32 → Prop) (hB9 : ∀ (u : RS) (x1 : Int32) (x2 : Int32), B9 u x1 x2 → j_X8_reach p l e s m args below meth c g A ad Q u 9 [(0, .ref (ad 0)), (1, .int x1), (2, .int x2)] []) (u : RS) (x1 : Int32) (x2 : Int32) (h : wp_X8_reach_9 Q B9 u x1 x2) : j_X8_reach p l e s m args below meth c g A ad Q u 9 [(0, .ref (ad 0)), (1, .int x1), (2, .int x2)] [] := by
  unfold wp_X8_reach_9 at h
  refine z_iload_n C dX8_reach_9 rfl 2 rfl ?_
  refine z_bipush (v := 40) C dX8_reach_10 (by decide) ?_
  refine z_icmp_ge C dX8_reach_12 (tgt := 95) (by decide) (fun hc102 => ?_) (fun hc102 => ?_)
  · have h := h.1 hc102
    refine z_iconst (v := 0) C dX8_reach_95 (by decide) ?_
    refine z_istore_n (lv1 := [(2, .int 0), (0, .ref (ad 0)), (1, .int x1)]) C dX8_reach_96 rfl (by decide) rfl ?_
    refine z_iconst (v := 0) C dX8_reach_97 (by decide) ?_
    refine z_istore_n (lv1 := [(3, .int 0), (2, .int 0), (0, .ref (ad 0)), (1, .int x1)]) C dX8_reach_98 rfl (by decide) rfl ?_
    refine z_lv (lv1 := [(0, .ref (ad 0)), (1, .int x1), (2, .int 0), (3, .int 0)]) [2, 3, 1, 0] rfl ?_
    obtain ⟨n9, h⟩ := h
    exact l_X8_reach_99 C hr ad Q n9 u x1 0 0 h
  · have h := h.2 hc102
    refine z_aload_n C dX8_reach_15 rfl 0 rfl ?_
    refine z_iload_n C dX8_reach_16 rfl 2 rfl ?_
    refine cRi (As := [.int x2]) C (c_X8_part l g ad u x2 _ h) v_X8_part ml8_259 rfl ⟨Nat.le_of_ble_eq_true rfl, Nat.le_of_ble_eq_true rfl⟩ ⟨Nat.zero_le _, Nat.zero_le _⟩ (Nat.le_of_ble_eq_true rfl) rfl dX8_reach_17 ?_
    intro r106 u107 h
    refine z_bipush (v := 15) C dX8_reach_20 (by decide) ?_
    refine z_iand C dX8_reach_22 ?_
    refine z_topi (fun x108 ex108 => ?_)
    have h := h x108 ex108
    refine z_istore_n (lv1 := [(3, .int x108), (0, .ref (ad 0)), (1, .int x1), (2, .int x2)]) C dX8_reach_23 rfl (by decide) rfl ?_
    refine z_iconst (v := 0) C dX8_reach_24 (by decide) ?_
    refine z_istore (lv1 := [(4, .int 0), (3, .int x108), (0, .ref (ad 0)), (1, .int x1), (2, .int x2)]) C dX8_reach_25 (by decide) rfl ?_
    refine z_iconst (v := 0) C dX8_reach_27 (by decide) ?_
    refine z_istore (lv1 := [(5, .int 0), (4, .int 0), (3, .int x108), (0, .ref (ad 0)), (1, .int x1), (2, .int x2)]) C dX8_reach_28 (by decide) rfl ?_
    refine z_lv (lv1 := [(0, .ref (ad 0)), (1, .int x1), (2, .int x2), (3, .int x108), (4, .int 0), (5, .int 0)]) [3, 4, 5, 2, 1, 0] rfl ?_
    obtain ⟨n9, h⟩ := h
    exact l_X8_reach_30 C hr ad Q B9 hB9 n9 u107 x1 x2 x108 0 0 h
theorem l_X8_reach_9 (C : zC p s m args meth c g A cX8_reach RX8 6) (hr : meth.sig.returnType = (some .int)) (ad : Nat → Nat) (Q : Int32 → RS → Prop) : ∀ (n : Nat) (u : RS) (x1 : Int32) (x2 : Int32), zit3 (wp_X8_reach_9 Q) n u x1 x2 → j_X8_reach p l e s m args below meth c g A ad Q u 9 [(0, .ref (ad 0)), (1, .int x1), (2, .int x2)] [] := by
  intro n
  induction n with
  | zero => exact fun u x1 x2 h => h.elim
  | succ n ih => exact fun u x1 x2 h => b_X8_reach_9 C hr ad Q (zit3 (wp_X8_reach_9 Q) n) ih u x1 x2 h
def wp_X8_reach (u : RS) (Q : Int32 → RS → Prop) : Prop :=
  ∀ u101 : RS, u101 = rN u 0 0 → (∃ n, zit3 (wp_X8_reach_9 Q) n u101 1 0)
set_option maxRecDepth 20000 in
theorem c_X8_reach (l : Launch) (g : zG) (ad : Nat → Nat) (u : RS) (Q : Int32 → RS → Prop) (h : wp_X8_reach u Q) : zMi l yX8_reach cX8_reach 6 (some .int) 3 0 0 g [.ref (ad 0)] (wR g ad u) (wR g ad) Q := by
  refine zMi_of RX8 (by decide) rfl [(0, .ref (ad 0))] rfl (Nat.le_of_ble_eq_true rfl) (fun p e s m args below meth c A C hr hnm => ?_)
  unfold wp_X8_reach at h
  refine z_aload_n C dX8_reach_0 rfl 0 rfl ?_
  refine z_iconst (v := 0) C dX8_reach_1 (by decide) ?_
  refine pR_thrown C dX8_reach_2 ?_
  refine z_stR (fun u101 eu101 => ?_)
  have h := h u101 eu101
  refine z_iconst (v := 1) C dX8_reach_5 (by decide) ?_
  refine z_istore_n (lv1 := [(1, .int 1), (0, .ref (ad 0))]) C dX8_reach_6 rfl (by decide) rfl ?_
  refine z_iconst (v := 0) C dX8_reach_7 (by decide) ?_
  refine z_istore_n (lv1 := [(2, .int 0), (1, .int 1), (0, .ref (ad 0))]) C dX8_reach_8 rfl (by decide) rfl ?_
  refine z_lv (lv1 := [(0, .ref (ad 0)), (1, .int 1), (2, .int 0)]) [2, 1, 0] rfl ?_
  obtain ⟨n9, h⟩ := h
  exact l_X8_reach_9 C hr ad Q n9 u101 1 0 h
abbrev j_X8_aim (p : Program) (l : Launch) (e : Env) (s : State) (m : MethodId) (args : Array Value) (below : List Frame) (meth : Method) (c : Code) (g : zG) (A : Nat → Prop) (ad : Nat → Nat) (Q : Int32 → RS → Prop) (u : RS) (pc : Nat) (lv : List (Nat × Value)) (st : List Value) : Prop := zJ p l e (zR 3 0 0) s m args below meth c g A 5 (zQi below args s g A 0 0 (wR g ad) Q) (wR g ad u) 0 0 pc lv st
def wp_X8_aim_25 (Q : Int32 → RS → Prop) (u : RS) : Prop :=
  Q (-1) u
set_option maxRecDepth 20000 in
theorem b_X8_aim_25 (C : zC p s m args meth c g A cX8_aim RX8 5) (hr : meth.sig.returnType = (some .int)) (ad : Nat → Nat) (Q : Int32 → RS → Prop) (u : RS) (h : wp_X8_aim_25 Q u) : j_X8_aim p l e s m args below meth c g A ad Q u 25 [(0, .ref (ad 0))] [] := by
  unfold wp_X8_aim_25 at h
  refine z_iconst (v := (-1)) C dX8_aim_25 (by decide) ?_
  exact z_iret C hr u rfl h dX8_aim_26
def wp_X8_aim_69 (Q : Int32 → RS → Prop) (B39 : RS → Int32 → Int32 → Int32 → Prop) (u : RS) (x2 : Int32) (x4 : Int32) (t0 : Int32) : Prop :=
  ∀ x113 : Int32, x113 = x4 + (-1) → B39 u x2 t0 x113
set_option maxRecDepth 20000 in
theorem b_X8_aim_69 (C : zC p s m args meth c g A cX8_aim RX8 5) (hr : meth.sig.returnType = (some .int)) (ad : Nat → Nat) (Q : Int32 → RS → Prop) (B39 : RS → Int32 → Int32 → Int32 → Prop) (hB39 : ∀ (u : RS) (x2 : Int32) (x3 : Int32) (x4 : Int32), B39 u x2 x3 x4 → j_X8_aim p l e s m args below meth c g A ad Q u 39 [(0, .ref (ad 0)), (2, .int x2), (3, .int x3), (4, .int x4)] []) (u : RS) (x2 : Int32) (x4 : Int32) (t0 : Int32) (h : wp_X8_aim_69 Q B39 u x2 x4 t0) : j_X8_aim p l e s m args below meth c g A ad Q u 69 [(0, .ref (ad 0)), (2, .int x2), (4, .int x4)] [.int t0] := by
  unfold wp_X8_aim_69 at h
  refine z_istore_n (lv1 := [(3, .int t0), (0, .ref (ad 0)), (2, .int x2), (4, .int x4)]) C dX8_aim_69 rfl (by decide) rfl ?_
  obtain ⟨x113, ex113⟩ : ∃ y : Int32, y = x4 + (-1) := ⟨_, rfl⟩
  have h := h x113 ex113
  refine z_iinc (v := x113) (lv1 := [(4, .int x113), (3, .int t0), (0, .ref (ad 0)), (2, .int x2)]) C dX8_aim_70 3 rfl (by rw [ex113]; rfl) (by decide) rfl ?_
  refine z_goto C dX8_aim_73 (tgt := 39) (by decide) ?_
  refine z_lv (lv1 := [(0, .ref (ad 0)), (2, .int x2), (3, .int t0), (4, .int x113)]) [2, 3, 1, 0] rfl ?_
  exact hB39 u x2 t0 x113 h
def wp_X8_aim_39 (Q : Int32 → RS → Prop) (B39 : RS → Int32 → Int32 → Int32 → Prop) (u : RS) (x2 : Int32) (x3 : Int32) (x4 : Int32) : Prop :=
  ((x4 < 0 → Q x3 u) ∧ (¬ x4 < 0 → ∀ u109 : RS, u109 = rI u 14 (upd (u.1 14) 2 x4) → wp_X8_hashNow u109 (fun r110 u111 => ((¬ r110 &&& 15 = x2 → wp_X8_aim_69 Q B39 u111 x2 x4 x3) ∧ (r110 &&& 15 = x2 → wp_X8_aim_69 Q B39 u111 x2 x4 x4)))))
set_option maxRecDepth 20000 in
theorem b_X8_aim_39 (C : zC p s m args meth c g A cX8_aim RX8 5) (hr : meth.sig.returnType = (some .int)) (ad : Nat → Nat) (Q : Int32 → RS → Prop) (B39 : RS → Int32 → Int32 → Int32 → Prop) (hB39 : ∀ (u : RS) (x2 : Int32) (x3 : Int32) (x4 : Int32), B39 u x2 x3 x4 → j_X8_aim p l e s m args below meth c g A ad Q u 39 [(0, .ref (ad 0)), (2, .int x2), (3, .int x3), (4, .int x4)] []) (u : RS) (x2 : Int32) (x3 : Int32) (x4 : Int32) (h : wp_X8_aim_39 Q B39 u x2 x3 x4) : j_X8_aim p l e s m args below meth c g A ad Q u 39 [(0, .ref (ad 0)), (2, .int x2), (3, .int x3), (4, .int x4)] [] := by
  unfold wp_X8_aim_39 at h
  refine z_iload C dX8_aim_39 3 rfl ?_
  refine z_if_lt C dX8_aim_41 (tgt := 76) (by decide) (fun hc108 => ?_) (fun hc108 => ?_)
  · have h := h.1 hc108
    refine z_iload_n C dX8_aim_76 rfl 2 rfl ?_
    exact z_iret C hr u rfl h dX8_aim_77
  · have h := h.2 hc108
    refine z_aload_n C dX8_aim_44 rfl 0 rfl ?_
    refine gR_fields C dX8_aim_45 ?_
    refine z_iconst (v := 2) C dX8_aim_48 (by decide) ?_
    refine z_iload C dX8_aim_49 3 rfl ?_
    refine sRn_fields C 2 (by decide +kernel) (vp_in_iff.mpr (by decide +kernel)) dX8_aim_51 ?_
    refine z_stR (fun u109 eu109 => ?_)
    have h := h u109 eu109
    refine z_aload_n C dX8_aim_52 rfl 0 rfl ?_
    refine cRi (As := []) C (c_X8_hashNow l g ad u109 _ h) v_X8_hashNow ml8_109 rfl ⟨Nat.le_of_ble_eq_true rfl, Nat.le_of_ble_eq_true rfl⟩ ⟨Nat.zero_le _, Nat.zero_le _⟩ (Nat.le_of_ble_eq_true rfl) rfl dX8_aim_53 ?_
    intro r110 u111 h
    refine z_bipush (v := 15) C dX8_aim_56 (by decide) ?_
    refine z_iand C dX8_aim_58 ?_
    refine z_iload_n C dX8_aim_59 rfl 1 rfl ?_
    refine z_icmp_ne C dX8_aim_60 (tgt := 68) (by decide) (fun hc112 => ?_) (fun hc112 => ?_)
    · have h := h.1 hc112
      refine z_iload_n C dX8_aim_68 rfl 2 rfl ?_
      refine z_lv (lv1 := [(0, .ref (ad 0)), (2, .int x2), (4, .int x4)]) [0, 1, 3] rfl ?_
      exact b_X8_aim_69 C hr ad Q B39 hB39 u111 x2 x4 x3 h
    · have h := h.2 hc112
      refine z_iload C dX8_aim_63 3 rfl ?_
      refine z_goto C dX8_aim_65 (tgt := 69) (by decide) ?_
      refine z_lv (lv1 := [(0, .ref (ad 0)), (2, .int x2), (4, .int x4)]) [0, 1, 3] rfl ?_
      exact b_X8_aim_69 C hr ad Q B39 hB39 u111 x2 x4 x4 h
theorem l_X8_aim_39 (C : zC p s m args meth c g A cX8_aim RX8 5) (hr : meth.sig.returnType = (some .int)) (ad : Nat → Nat) (Q : Int32 → RS → Prop) : ∀ (n : Nat) (u : RS) (x2 : Int32) (x3 : Int32) (x4 : Int32), zit4 (wp_X8_aim_39 Q) n u x2 x3 x4 → j_X8_aim p l e s m args below meth c g A ad Q u 39 [(0, .ref (ad 0)), (2, .int x2), (3, .int x3), (4, .int x4)] [] := by
  intro n
  induction n with
  | zero => exact fun u x2 x3 x4 h => h.elim
  | succ n ih => exact fun u x2 x3 x4 h => b_X8_aim_39 C hr ad Q (zit4 (wp_X8_aim_39 Q) n) ih u x2 x3 x4 h
def wp_X8_aim (u : RS) (x1 : Int32) (x2 : Int32) (Q : Int32 → RS → Prop) : Prop :=
  ∀ u101 : RS, u101 = rN u 0 0 → wp_X8_isFlow u101 x1 (fun r102 u103 => ((r102 = 0 → wp_X8_aim_25 Q u103) ∧ (¬ r102 = 0 → wp_X8_in ((x2).toInt64) 0 15 (fun r105 => ((¬ r105 = 0 → wp_X8_takeFlow u103 x1 (fun u107 => (∃ n, zit4 (wp_X8_aim_39 Q) n u107 x2 (-1) 255))) ∧ (r105 = 0 → wp_X8_aim_25 Q u103))))))
set_option maxRecDepth 20000 in
theorem c_X8_aim (l : Launch) (g : zG) (ad : Nat → Nat) (u : RS) (x1 : Int32) (x2 : Int32) (Q : Int32 → RS → Prop) (h : wp_X8_aim u x1 x2 Q) : zMi l yX8_aim cX8_aim 5 (some .int) 3 0 0 g [.ref (ad 0), .int x1, .int x2] (wR g ad u) (wR g ad) Q := by
  refine zMi_of RX8 (by decide) rfl [(0, .ref (ad 0)), (1, .int x1), (2, .int x2)] rfl (Nat.le_of_ble_eq_true rfl) (fun p e s m args below meth c A C hr hnm => ?_)
  unfold wp_X8_aim at h
  refine z_aload_n C dX8_aim_0 rfl 0 rfl ?_
  refine z_iconst (v := 0) C dX8_aim_1 (by decide) ?_
  refine pR_thrown C dX8_aim_2 ?_
  refine z_stR (fun u101 eu101 => ?_)
  have h := h u101 eu101
  refine z_aload_n C dX8_aim_5 rfl 0 rfl ?_
  refine z_iload_n C dX8_aim_6 rfl 1 rfl ?_
  refine cRi (As := [.int x1]) C (c_X8_isFlow l g ad u101 x1 _ h) v_X8_isFlow ml8_164 rfl ⟨Nat.le_of_ble_eq_true rfl, Nat.le_of_ble_eq_true rfl⟩ ⟨Nat.zero_le _, Nat.zero_le _⟩ (Nat.le_of_ble_eq_true rfl) rfl dX8_aim_7 ?_
  intro r102 u103 h
  refine z_if_eq C dX8_aim_10 (tgt := 25) (by decide) (fun hc104 => ?_) (fun hc104 => ?_)
  · have h := h.1 hc104
    refine z_lv (lv1 := [(0, .ref (ad 0))]) [0] rfl ?_
    exact b_X8_aim_25 C hr ad Q u103 h
  · have h := h.2 hc104
    refine z_iload_n C dX8_aim_13 rfl 2 rfl ?_
    refine z_i2l C dX8_aim_14 ?_
    refine z_lconst (v := 0) C dX8_aim_15 (by decide) ?_
    refine z_ldc2 (v := 15) C dX8_aim_16 k8_148 ?_
    refine cSi (As := [.long ((x2).toInt64), .long 0, .long 15]) C (c_X8_in l g ((x2).toInt64) 0 15 _ h) s_X8_in ml8_84 ⟨Nat.le_of_ble_eq_true rfl, Nat.le_of_ble_eq_true rfl⟩ ⟨Nat.zero_le _, Nat.zero_le _⟩ (Nat.le_of_ble_eq_true rfl) rfl dX8_aim_19 ?_
    intro r105 h
    refine z_if_ne C dX8_aim_22 (tgt := 27) (by decide) (fun hc106 => ?_) (fun hc106 => ?_)
    · have h := h.1 hc106
      refine z_aload_n C dX8_aim_27 rfl 0 rfl ?_
      refine z_iload_n C dX8_aim_28 rfl 1 rfl ?_
      refine cRv (As := [.int x1]) C (c_X8_takeFlow l g ad u103 x1 _ h) v_X8_takeFlow ml8_105 rfl ⟨Nat.le_of_ble_eq_true rfl, Nat.le_of_ble_eq_true rfl⟩ ⟨Nat.zero_le _, Nat.zero_le _⟩ (Nat.le_of_ble_eq_true rfl) rfl dX8_aim_29 ?_
      intro u107 h
      refine z_iconst (v := (-1)) C dX8_aim_32 (by decide) ?_
      refine z_istore_n (lv1 := [(3, .int (-1)), (0, .ref (ad 0)), (1, .int x1), (2, .int x2)]) C dX8_aim_33 rfl (by decide) rfl ?_
      refine z_sipush (v := 255) C dX8_aim_34 (by decide) ?_
      refine z_istore (lv1 := [(4, .int 255), (3, .int (-1)), (0, .ref (ad 0)), (1, .int x1), (2, .int x2)]) C dX8_aim_37 (by decide) rfl ?_
      refine z_lv (lv1 := [(0, .ref (ad 0)), (2, .int x2), (3, .int (-1)), (4, .int 255)]) [2, 4, 1, 0] rfl ?_
      obtain ⟨n9, h⟩ := h
      exact l_X8_aim_39 C hr ad Q n9 u107 x2 (-1) 255 h
    · have h := h.2 hc106
      refine z_lv (lv1 := [(0, .ref (ad 0))]) [0] rfl ?_
      exact b_X8_aim_25 C hr ad Q u103 h
abbrev j_X8_unlikeEntries (p : Program) (l : Launch) (e : Env) (s : State) (m : MethodId) (args : Array Value) (below : List Frame) (meth : Method) (c : Code) (g : zG) (A : Nat → Prop) (ad : Nat → Nat) (Q : Int32 → RS → Prop) (u : RS) (pc : Nat) (lv : List (Nat × Value)) (st : List Value) : Prop := zJ p l e (zR 3 0 0) s m args below meth c g A 4 (zQi below args s g A 0 0 (wR g ad) Q) (wR g ad u) 0 0 pc lv st
def wp_X8_unlikeEntries_41 (Q : Int32 → RS → Prop) (B41 : RS → Int32 → Int32 → Int32 → Prop) (u : RS) (x1 : Int32) (x2 : Int32) (x3 : Int32) : Prop :=
  ((16 ≤ x3 → Q x2 u) ∧ (¬ 16 ≤ x3 → ∀ x103 : Int32, x103 = x2 + ((x1 >>> (x3 &&& 31)) &&& 1) → ∀ x104 : Int32, x104 = x3 + 1 → B41 u x1 x103 x104))
set_option maxRecDepth 20000 in
theorem b_X8_unlikeEntries_41 (C : zC p s m args meth c g A cX8_unlikeEntries RX8 4) (hr : meth.sig.returnType = (some .int)) (ad : Nat → Nat) (Q : Int32 → RS → Prop) (B41 : RS → Int32 → Int32 → Int32 → Prop) (hB41 : ∀ (u : RS) (x1 : Int32) (x2 : Int32) (x3 : Int32), B41 u x1 x2 x3 → j_X8_unlikeEntries p l e s m args below meth c g A ad Q u 41 [(0, .ref (ad 0)), (1, .int x1), (2, .int x2), (3, .int x3)] []) (u : RS) (x1 : Int32) (x2 : Int32) (x3 : Int32) (h : wp_X8_unlikeEntries_41 Q B41 u x1 x2 x3) : j_X8_unlikeEntries p l e s m args below meth c g A ad Q u 41 [(0, .ref (ad 0)), (1, .int x1), (2, .int x2), (3, .int x3)] [] := by
  unfold wp_X8_unlikeEntries_41 at h
  refine z_iload_n C dX8_unlikeEntries_41 rfl 3 rfl ?_
  refine z_bipush (v := 16) C dX8_unlikeEntries_42 (by decide) ?_
  refine z_icmp_ge C dX8_unlikeEntries_44 (tgt := 61) (by decide) (fun hc102 => ?_) (fun hc102 => ?_)
  · have h := h.1 hc102
    refine z_iload_n C dX8_unlikeEntries_61 rfl 2 rfl ?_
    exact z_iret C hr u rfl h dX8_unlikeEntries_62
  · have h := h.2 hc102
    refine z_iload_n C dX8_unlikeEntries_47 rfl 2 rfl ?_
    refine z_iload_n C dX8_unlikeEntries_48 rfl 1 rfl ?_
    refine z_iload_n C dX8_unlikeEntries_49 rfl 3 rfl ?_
    refine z_ishr C dX8_unlikeEntries_50 ?_
    refine z_iconst (v := 1) C dX8_unlikeEntries_51 (by decide) ?_
    refine z_iand C dX8_unlikeEntries_52 ?_
    refine z_iadd C dX8_unlikeEntries_53 ?_
    refine z_topi (fun x103 ex103 => ?_)
    have h := h x103 ex103
    refine z_istore_n (lv1 := [(2, .int x103), (0, .ref (ad 0)), (1, .int x1), (3, .int x3)]) C dX8_unlikeEntries_54 rfl (by decide) rfl ?_
    obtain ⟨x104, ex104⟩ : ∃ y : Int32, y = x3 + 1 := ⟨_, rfl⟩
    have h := h x104 ex104
    refine z_iinc (v := x104) (lv1 := [(3, .int x104), (2, .int x103), (0, .ref (ad 0)), (1, .int x1)]) C dX8_unlikeEntries_55 3 rfl (by rw [ex104]; rfl) (by decide) rfl ?_
    refine z_goto C dX8_unlikeEntries_58 (tgt := 41) (by decide) ?_
    refine z_lv (lv1 := [(0, .ref (ad 0)), (1, .int x1), (2, .int x103), (3, .int x104)]) [2, 3, 1, 0] rfl ?_
    exact hB41 u x1 x103 x104 h
theorem l_X8_unlikeEntries_41 (C : zC p s m args meth c g A cX8_unlikeEntries RX8 4) (hr : meth.sig.returnType = (some .int)) (ad : Nat → Nat) (Q : Int32 → RS → Prop) : ∀ (n : Nat) (u : RS) (x1 : Int32) (x2 : Int32) (x3 : Int32), zit4 (wp_X8_unlikeEntries_41 Q) n u x1 x2 x3 → j_X8_unlikeEntries p l e s m args below meth c g A ad Q u 41 [(0, .ref (ad 0)), (1, .int x1), (2, .int x2), (3, .int x3)] [] := by
  intro n
  induction n with
  | zero => exact fun u x1 x2 x3 h => h.elim
  | succ n ih => exact fun u x1 x2 x3 h => b_X8_unlikeEntries_41 C hr ad Q (zit4 (wp_X8_unlikeEntries_41 Q) n) ih u x1 x2 x3 h
def wp_X8_unlikeEntries_4 (Q : Int32 → RS → Prop) (B4 : RS → Int32 → Int32 → Prop) (u : RS) (x1 : Int32) (x2 : Int32) : Prop :=
  ((u.1 3 4 ≤ x2 → (∃ n, zit4 (wp_X8_unlikeEntries_41 Q) n u x1 0 0)) ∧ (¬ u.1 3 4 ≤ x2 → wp_X8_takeFlow u x2 (fun u105 => wp_X8_hashNow u105 (fun r106 u107 => ∀ x108 : Int32, x108 = x1 ||| (1 <<< ((r106 &&& 15) &&& 31)) → ∀ x109 : Int32, x109 = x2 + 1 → B4 u107 x108 x109))))
set_option maxRecDepth 20000 in
theorem b_X8_unlikeEntries_4 (C : zC p s m args meth c g A cX8_unlikeEntries RX8 4) (hr : meth.sig.returnType = (some .int)) (ad : Nat → Nat) (Q : Int32 → RS → Prop) (B4 : RS → Int32 → Int32 → Prop) (hB4 : ∀ (u : RS) (x1 : Int32) (x2 : Int32), B4 u x1 x2 → j_X8_unlikeEntries p l e s m args below meth c g A ad Q u 4 [(0, .ref (ad 0)), (1, .int x1), (2, .int x2)] []) (u : RS) (x1 : Int32) (x2 : Int32) (h : wp_X8_unlikeEntries_4 Q B4 u x1 x2) : j_X8_unlikeEntries p l e s m args below meth c g A ad Q u 4 [(0, .ref (ad 0)), (1, .int x1), (2, .int x2)] [] := by
  unfold wp_X8_unlikeEntries_4 at h
  refine z_iload_n C dX8_unlikeEntries_4 rfl 2 rfl ?_
  refine z_aload_n C dX8_unlikeEntries_5 rfl 0 rfl ?_
  refine gR_row C dX8_unlikeEntries_6 ?_
  refine z_iconst (v := 4) C dX8_unlikeEntries_9 (by decide) ?_
  refine lRn_row C 4 (by decide +kernel) (vp_in_iff.mpr (by decide +kernel)) dX8_unlikeEntries_10 ?_
  refine z_icmp_ge C dX8_unlikeEntries_11 (tgt := 37) (by decide) (fun hc101 => ?_) (fun hc101 => ?_)
  · have h := h.1 hc101
    refine z_iconst (v := 0) C dX8_unlikeEntries_37 (by decide) ?_
    refine z_istore_n (lv1 := [(2, .int 0), (0, .ref (ad 0)), (1, .int x1)]) C dX8_unlikeEntries_38 rfl (by decide) rfl ?_
    refine z_iconst (v := 0) C dX8_unlikeEntries_39 (by decide) ?_
    refine z_istore_n (lv1 := [(3, .int 0), (2, .int 0), (0, .ref (ad 0)), (1, .int x1)]) C dX8_unlikeEntries_40 rfl (by decide) rfl ?_
    refine z_lv (lv1 := [(0, .ref (ad 0)), (1, .int x1), (2, .int 0), (3, .int 0)]) [2, 3, 1, 0] rfl ?_
    obtain ⟨n9, h⟩ := h
    exact l_X8_unlikeEntries_41 C hr ad Q n9 u x1 0 0 h
  · have h := h.2 hc101
    refine z_aload_n C dX8_unlikeEntries_14 rfl 0 rfl ?_
    refine z_iload_n C dX8_unlikeEntries_15 rfl 2 rfl ?_
    refine cRv (As := [.int x2]) C (c_X8_takeFlow l g ad u x2 _ h) v_X8_takeFlow ml8_105 rfl ⟨Nat.le_of_ble_eq_true rfl, Nat.le_of_ble_eq_true rfl⟩ ⟨Nat.zero_le _, Nat.zero_le _⟩ (Nat.le_of_ble_eq_true rfl) rfl dX8_unlikeEntries_16 ?_
    intro u105 h
    refine z_iload_n C dX8_unlikeEntries_19 rfl 1 rfl ?_
    refine z_iconst (v := 1) C dX8_unlikeEntries_20 (by decide) ?_
    refine z_aload_n C dX8_unlikeEntries_21 rfl 0 rfl ?_
    refine cRi (As := []) C (c_X8_hashNow l g ad u105 _ h) v_X8_hashNow ml8_109 rfl ⟨Nat.le_of_ble_eq_true rfl, Nat.le_of_ble_eq_true rfl⟩ ⟨Nat.zero_le _, Nat.zero_le _⟩ (Nat.le_of_ble_eq_true rfl) rfl dX8_unlikeEntries_22 ?_
    intro r106 u107 h
    refine z_bipush (v := 15) C dX8_unlikeEntries_25 (by decide) ?_
    refine z_iand C dX8_unlikeEntries_27 ?_
    refine z_ishl C dX8_unlikeEntries_28 ?_
    refine z_ior C dX8_unlikeEntries_29 ?_
    refine z_topi (fun x108 ex108 => ?_)
    have h := h x108 ex108
    refine z_istore_n (lv1 := [(1, .int x108), (0, .ref (ad 0)), (2, .int x2)]) C dX8_unlikeEntries_30 rfl (by decide) rfl ?_
    obtain ⟨x109, ex109⟩ : ∃ y : Int32, y = x2 + 1 := ⟨_, rfl⟩
    have h := h x109 ex109
    refine z_iinc (v := x109) (lv1 := [(2, .int x109), (1, .int x108), (0, .ref (ad 0))]) C dX8_unlikeEntries_31 2 rfl (by rw [ex109]; rfl) (by decide) rfl ?_
    refine z_goto C dX8_unlikeEntries_34 (tgt := 4) (by decide) ?_
    refine z_lv (lv1 := [(0, .ref (ad 0)), (1, .int x108), (2, .int x109)]) [2, 1, 0] rfl ?_
    exact hB4 u107 x108 x109 h
theorem l_X8_unlikeEntries_4 (C : zC p s m args meth c g A cX8_unlikeEntries RX8 4) (hr : meth.sig.returnType = (some .int)) (ad : Nat → Nat) (Q : Int32 → RS → Prop) : ∀ (n : Nat) (u : RS) (x1 : Int32) (x2 : Int32), zit3 (wp_X8_unlikeEntries_4 Q) n u x1 x2 → j_X8_unlikeEntries p l e s m args below meth c g A ad Q u 4 [(0, .ref (ad 0)), (1, .int x1), (2, .int x2)] [] := by
  intro n
  induction n with
  | zero => exact fun u x1 x2 h => h.elim
  | succ n ih => exact fun u x1 x2 h => b_X8_unlikeEntries_4 C hr ad Q (zit3 (wp_X8_unlikeEntries_4 Q) n) ih u x1 x2 h
def wp_X8_unlikeEntries (u : RS) (Q : Int32 → RS → Prop) : Prop :=
  (∃ n, zit3 (wp_X8_unlikeEntries_4 Q) n u 0 0)
set_option maxRecDepth 20000 in
theorem c_X8_unlikeEntries (l : Launch) (g : zG) (ad : Nat → Nat) (u : RS) (Q : Int32 → RS → Prop) (h : wp_X8_unlikeEntries u Q) : zMi l yX8_unlikeEntries cX8_unlikeEntries 4 (some .int) 3 0 0 g [.ref (ad 0)] (wR g ad u) (wR g ad) Q := by
  refine zMi_of RX8 (by decide) rfl [(0, .ref (ad 0))] rfl (Nat.le_of_ble_eq_true rfl) (fun p e s m args below meth c A C hr hnm => ?_)
  unfold wp_X8_unlikeEntries at h
  refine z_iconst (v := 0) C dX8_unlikeEntries_0 (by decide) ?_
  refine z_istore_n (lv1 := [(1, .int 0), (0, .ref (ad 0))]) C dX8_unlikeEntries_1 rfl (by decide) rfl ?_
  refine z_iconst (v := 0) C dX8_unlikeEntries_2 (by decide) ?_
  refine z_istore_n (lv1 := [(2, .int 0), (1, .int 0), (0, .ref (ad 0))]) C dX8_unlikeEntries_3 rfl (by decide) rfl ?_
  refine z_lv (lv1 := [(0, .ref (ad 0)), (1, .int 0), (2, .int 0)]) [2, 1, 0] rfl ?_
  obtain ⟨n9, h⟩ := h
  exact l_X8_unlikeEntries_4 C hr ad Q n9 u 0 0 h
end WR
