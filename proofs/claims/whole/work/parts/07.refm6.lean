section WR
variable {p : Program} {l : Launch} {e : Env} {s : State} {m : MethodId} {args : Array Value} {below : List Frame} {meth : Method} {c : Code} {g : zG} {A : Nat → Prop}
abbrev j_X8_calls (p : Program) (l : Launch) (e : Env) (s : State) (m : MethodId) (args : Array Value) (below : List Frame) (meth : Method) (c : Code) (g : zG) (A : Nat → Prop) (ad : Nat → Nat) (Q : RS → Prop) (u : RS) (pc : Nat) (lv : List (Nat × Value)) (st : List Value) : Prop := zJ p l e (zR 7 0 0) s m args below meth c g A 4 (zQv below args s g A 0 0 (wR g ad) Q) (wR g ad u) 0 0 pc lv st
def wp_X8_calls_79 (Q : RS → Prop) (u : RS) : Prop :=
  Q u
set_option maxRecDepth 20000 in
theorem b_X8_calls_79 (C : zC p s m args meth c g A cX8_calls RX8 4) (hr : meth.sig.returnType = none) (ad : Nat → Nat) (Q : RS → Prop) (u : RS) (h : wp_X8_calls_79 Q u) : j_X8_calls p l e s m args below meth c g A ad Q u 79 [(0, .ref (ad 0))] [] := by
  unfold wp_X8_calls_79 at h
  exact z_vret C hr u rfl h dX8_calls_79
def wp_X8_calls_78 (Q : RS → Prop) (u : RS) (t0 : Int32) (t1 : Int32) : Prop :=
  vp_in t1 1065 ∧ ∀ u110 : RS, u110 = rI u 3 (upd (u.1 3) (zn t1) t0) → wp_X8_calls_79 Q u110
set_option maxRecDepth 20000 in
theorem b_X8_calls_78 (C : zC p s m args meth c g A cX8_calls RX8 4) (hr : meth.sig.returnType = none) (ad : Nat → Nat) (Q : RS → Prop) (u : RS) (t0 : Int32) (t1 : Int32) (h : wp_X8_calls_78 Q u t0 t1) : j_X8_calls p l e s m args below meth c g A ad Q u 78 [(0, .ref (ad 0))] [.int t0, .int t1, .ref (ad 2)] := by
  unfold wp_X8_calls_78 at h
  obtain ⟨hi109, h⟩ := h
  refine sR_row C hi109 dX8_calls_78 ?_
  refine z_stR (fun u110 eu110 => ?_)
  have h := h u110 eu110
  exact b_X8_calls_79 C hr ad Q u110 h
def wp_X8_calls (u : RS) (x1 : Int32) (Q : RS → Prop) : Prop :=
  wp_X8_takes u x1 (fun r101 u102 => wp_X8_queueAt x1 (fun r103 => ∀ x104 : Int32, x104 = r103 + 1 → ((r101 < u102.1 3 15 → ((2 < r101 → wp_X8_calls_79 Q u102) ∧ (¬ 2 < r101 → vp_in x104 1065 ∧ ((u102.1 3 (zn x104) ≤ 1 → wp_X8_calls_78 Q u102 1 x104) ∧ (¬ u102.1 3 (zn x104) ≤ 1 → vp_in x104 1065 ∧ wp_X8_calls_78 Q u102 ((u102.1 3 (zn x104)) / 2) x104))))) ∧ (¬ r101 < u102.1 3 15 → vp_in x104 1065 ∧ wp_X8_lesser 16 (2 * (u102.1 3 (zn x104))) (fun r113 => vp_in x104 1065 ∧ ∀ u115 : RS, u115 = rI u102 3 (upd (u102.1 3) (zn x104) r113) → wp_X8_calls_79 Q u115)))))
set_option maxRecDepth 20000 in
theorem c_X8_calls (l : Launch) (g : zG) (ad : Nat → Nat) (u : RS) (x1 : Int32) (Q : RS → Prop) (h : wp_X8_calls u x1 Q) : zMv l yX8_calls cX8_calls 4 none 7 0 0 g [.ref (ad 0), .int x1] (wR g ad u) (wR g ad) Q := by
  refine zMv_of RX8 (by decide) rfl [(0, .ref (ad 0)), (1, .int x1)] rfl (Nat.le_of_ble_eq_true rfl) (fun p e s m args below meth c A C hr hnm => ?_)
  unfold wp_X8_calls at h
  refine z_aload_n C dX8_calls_0 rfl 0 rfl ?_
  refine z_iload_n C dX8_calls_1 rfl 1 rfl ?_
  refine cRi (As := [.int x1]) C (c_X8_takes l g ad u x1 _ h) v_X8_takes ml8_225 rfl ⟨Nat.le_of_ble_eq_true rfl, Nat.le_of_ble_eq_true rfl⟩ ⟨Nat.zero_le _, Nat.zero_le _⟩ (Nat.le_of_ble_eq_true rfl) rfl dX8_calls_2 ?_
  intro r101 u102 h
  refine z_istore_n (lv1 := [(2, .int r101), (0, .ref (ad 0)), (1, .int x1)]) C dX8_calls_5 rfl (by decide) rfl ?_
  refine z_iload_n C dX8_calls_6 rfl 2 rfl ?_
  refine cSi (As := [.int x1]) C (c_X8_queueAt l g x1 _ h) s_X8_queueAt ml8_57 ⟨Nat.le_of_ble_eq_true rfl, Nat.le_of_ble_eq_true rfl⟩ ⟨Nat.zero_le _, Nat.zero_le _⟩ (Nat.le_of_ble_eq_true rfl) rfl dX8_calls_7 ?_
  intro r103 h
  refine z_iconst (v := 1) C dX8_calls_10 (by decide) ?_
  refine z_iadd C dX8_calls_11 ?_
  refine z_topi (fun x104 ex104 => ?_)
  have h := h x104 ex104
  refine z_istore_n (lv1 := [(3, .int x104), (2, .int r101), (0, .ref (ad 0)), (1, .int x1)]) C dX8_calls_12 rfl (by decide) rfl ?_
  refine z_iload_n C dX8_calls_13 rfl 1 rfl ?_
  refine z_aload_n C dX8_calls_14 rfl 2 rfl ?_
  refine gR_row C dX8_calls_15 ?_
  refine z_bipush (v := 15) C dX8_calls_18 (by decide) ?_
  refine lRn_row C 15 (by decide +kernel) (vp_in_iff.mpr (by decide +kernel)) dX8_calls_20 ?_
  refine z_icmp_lt C dX8_calls_21 (tgt := 46) (by decide) (fun hc105 => ?_) (fun hc105 => ?_)
  · have h := h.1 hc105
    refine z_iload_n C dX8_calls_46 rfl 1 rfl ?_
    refine z_iconst (v := 2) C dX8_calls_47 (by decide) ?_
    refine z_icmp_gt C dX8_calls_48 (tgt := 79) (by decide) (fun hc106 => ?_) (fun hc106 => ?_)
    · have h := h.1 hc106
      refine z_lv (lv1 := [(0, .ref (ad 0))]) [2] rfl ?_
      exact b_X8_calls_79 C hr ad Q u102 h
    · have h := h.2 hc106
      refine z_aload_n C dX8_calls_51 rfl 2 rfl ?_
      refine gR_row C dX8_calls_52 ?_
      refine z_iload_n C dX8_calls_55 rfl 0 rfl ?_
      refine z_aload_n C dX8_calls_56 rfl 2 rfl ?_
      refine gR_row C dX8_calls_57 ?_
      refine z_iload_n C dX8_calls_60 rfl 0 rfl ?_
      obtain ⟨hi107, h⟩ := h
      refine lR_row C hi107 dX8_calls_61 ?_
      refine z_iconst (v := 1) C dX8_calls_62 (by decide) ?_
      refine z_icmp_le C dX8_calls_63 (tgt := 77) (by decide) (fun hc108 => ?_) (fun hc108 => ?_)
      · have h := h.1 hc108
        refine z_iconst (v := 1) C dX8_calls_77 (by decide) ?_
        refine z_lv (lv1 := [(0, .ref (ad 0))]) [2] rfl ?_
        exact b_X8_calls_78 C hr ad Q u102 1 x104 h
      · have h := h.2 hc108
        refine z_aload_n C dX8_calls_66 rfl 2 rfl ?_
        refine gR_row C dX8_calls_67 ?_
        refine z_iload_n C dX8_calls_70 rfl 0 rfl ?_
        obtain ⟨hi111, h⟩ := h
        refine lR_row C hi111 dX8_calls_71 ?_
        refine z_iconst (v := 2) C dX8_calls_72 (by decide) ?_
        refine z_idiv C dX8_calls_73 (by decide) ?_
        refine z_goto C dX8_calls_74 (tgt := 78) (by decide) ?_
        refine z_lv (lv1 := [(0, .ref (ad 0))]) [2] rfl ?_
        exact b_X8_calls_78 C hr ad Q u102 ((u102.1 3 (zn x104)) / 2) x104 h
  · have h := h.2 hc105
    refine z_aload_n C dX8_calls_24 rfl 2 rfl ?_
    refine gR_row C dX8_calls_25 ?_
    refine z_iload_n C dX8_calls_28 rfl 0 rfl ?_
    refine z_bipush (v := 16) C dX8_calls_29 (by decide) ?_
    refine z_iconst (v := 2) C dX8_calls_31 (by decide) ?_
    refine z_aload_n C dX8_calls_32 rfl 2 rfl ?_
    refine gR_row C dX8_calls_33 ?_
    refine z_iload_n C dX8_calls_36 rfl 0 rfl ?_
    obtain ⟨hi112, h⟩ := h
    refine lR_row C hi112 dX8_calls_37 ?_
    refine z_imul C dX8_calls_38 ?_
    refine cSi (As := [.int 16, .int (2 * (u102.1 3 (zn x104)))]) C (c_X8_lesser l g 16 (2 * (u102.1 3 (zn x104))) _ h) s_X8_lesser ml8_206 ⟨Nat.le_of_ble_eq_true rfl, Nat.le_of_ble_eq_true rfl⟩ ⟨Nat.zero_le _, Nat.zero_le _⟩ (Nat.le_of_ble_eq_true rfl) rfl dX8_calls_39 ?_
    intro r113 h
    obtain ⟨hi114, h⟩ := h
    refine sR_row C hi114 dX8_calls_42 ?_
    refine z_stR (fun u115 eu115 => ?_)
    have h := h u115 eu115
    refine z_goto C dX8_calls_43 (tgt := 79) (by decide) ?_
    refine z_lv (lv1 := [(0, .ref (ad 0))]) [2] rfl ?_
    exact b_X8_calls_79 C hr ad Q u115 h
abbrev j_X8_poll (p : Program) (l : Launch) (e : Env) (s : State) (m : MethodId) (args : Array Value) (below : List Frame) (meth : Method) (c : Code) (g : zG) (A : Nat → Prop) (ad : Nat → Nat) (Q : Int32 → RS → Prop) (u : RS) (pc : Nat) (lv : List (Nat × Value)) (st : List Value) : Prop := zJ p l e (zR 7 0 0) s m args below meth c g A 2 (zQi below args s g A 0 0 (wR g ad) Q) (wR g ad u) 0 0 pc lv st
def wp_X8_poll (u : RS) (x1 : Int32) (Q : Int32 → RS → Prop) : Prop :=
  ∀ u101 : RS, u101 = rN u 0 0 → wp_X8_isQueue x1 (fun r102 => ((¬ r102 = 0 → wp_X8_queueAt x1 (fun r104 => vp_in r104 1065 ∧ ((¬ u101.1 3 (zn r104) = 0 → wp_X8_remember u101 12 (fun u107 => wp_X8_takes u107 x1 (fun r108 u109 => wp_X8_tell u109 r108 (fun r110 u111 => Q r110 u111)))) ∧ (u101.1 3 (zn r104) = 0 → wp_X8_refuse u101 (-4) (fun r112 u113 => Q r112 u113))))) ∧ (r102 = 0 → wp_X8_refuse u101 (-1) (fun r114 u115 => Q r114 u115))))
set_option maxRecDepth 20000 in
theorem c_X8_poll (l : Launch) (g : zG) (ad : Nat → Nat) (u : RS) (x1 : Int32) (Q : Int32 → RS → Prop) (h : wp_X8_poll u x1 Q) : zMi l yX8_poll cX8_poll 2 (some .int) 7 0 0 g [.ref (ad 0), .int x1] (wR g ad u) (wR g ad) Q := by
  refine zMi_of RX8 (by decide) rfl [(0, .ref (ad 0)), (1, .int x1)] rfl (Nat.le_of_ble_eq_true rfl) (fun p e s m args below meth c A C hr hnm => ?_)
  unfold wp_X8_poll at h
  refine z_aload_n C dX8_poll_0 rfl 0 rfl ?_
  refine z_iconst (v := 0) C dX8_poll_1 (by decide) ?_
  refine pR_thrown C dX8_poll_2 ?_
  refine z_stR (fun u101 eu101 => ?_)
  have h := h u101 eu101
  refine z_iload_n C dX8_poll_5 rfl 1 rfl ?_
  refine cSi (As := [.int x1]) C (c_X8_isQueue l g x1 _ h) s_X8_isQueue ml8_150 ⟨Nat.le_of_ble_eq_true rfl, Nat.le_of_ble_eq_true rfl⟩ ⟨Nat.zero_le _, Nat.zero_le _⟩ (Nat.le_of_ble_eq_true rfl) rfl dX8_poll_6 ?_
  intro r102 h
  refine z_if_ne C dX8_poll_9 (tgt := 18) (by decide) (fun hc103 => ?_) (fun hc103 => ?_)
  · have h := h.1 hc103
    refine z_aload_n C dX8_poll_18 rfl 0 rfl ?_
    refine gR_row C dX8_poll_19 ?_
    refine z_iload_n C dX8_poll_22 rfl 1 rfl ?_
    refine cSi (As := [.int x1]) C (c_X8_queueAt l g x1 _ h) s_X8_queueAt ml8_57 ⟨Nat.le_of_ble_eq_true rfl, Nat.le_of_ble_eq_true rfl⟩ ⟨Nat.zero_le _, Nat.zero_le _⟩ (Nat.le_of_ble_eq_true rfl) rfl dX8_poll_23 ?_
    intro r104 h
    obtain ⟨hi105, h⟩ := h
    refine lR_row C hi105 dX8_poll_26 ?_
    refine z_if_ne C dX8_poll_27 (tgt := 37) (by decide) (fun hc106 => ?_) (fun hc106 => ?_)
    · have h := h.1 hc106
      refine z_aload_n C dX8_poll_37 rfl 0 rfl ?_
      refine z_bipush (v := 12) C dX8_poll_38 (by decide) ?_
      refine cRv (As := [.int 12]) C (c_X8_remember l g ad u101 12 _ h) v_X8_remember ml8_129 rfl ⟨Nat.le_of_ble_eq_true rfl, Nat.le_of_ble_eq_true rfl⟩ ⟨Nat.zero_le _, Nat.zero_le _⟩ (Nat.le_of_ble_eq_true rfl) rfl dX8_poll_40 ?_
      intro u107 h
      refine z_aload_n C dX8_poll_43 rfl 0 rfl ?_
      refine z_aload_n C dX8_poll_44 rfl 0 rfl ?_
      refine z_iload_n C dX8_poll_45 rfl 1 rfl ?_
      refine cRi (As := [.int x1]) C (c_X8_takes l g ad u107 x1 _ h) v_X8_takes ml8_225 rfl ⟨Nat.le_of_ble_eq_true rfl, Nat.le_of_ble_eq_true rfl⟩ ⟨Nat.zero_le _, Nat.zero_le _⟩ (Nat.le_of_ble_eq_true rfl) rfl dX8_poll_46 ?_
      intro r108 u109 h
      refine cRi (As := [.int r108]) C (c_X8_tell l g ad u109 r108 _ h) v_X8_tell ml8_81 rfl ⟨Nat.le_of_ble_eq_true rfl, Nat.le_of_ble_eq_true rfl⟩ ⟨Nat.zero_le _, Nat.zero_le _⟩ (Nat.le_of_ble_eq_true rfl) rfl dX8_poll_49 ?_
      intro r110 u111 h
      exact z_iret C hr u111 rfl h dX8_poll_52
    · have h := h.2 hc106
      refine z_aload_n C dX8_poll_30 rfl 0 rfl ?_
      refine z_bipush (v := (-4)) C dX8_poll_31 (by decide) ?_
      refine cRi (As := [.int (-4)]) C (c_X8_refuse l g ad u101 (-4) _ h) v_X8_refuse ml8_75 rfl ⟨Nat.le_of_ble_eq_true rfl, Nat.le_of_ble_eq_true rfl⟩ ⟨Nat.zero_le _, Nat.zero_le _⟩ (Nat.le_of_ble_eq_true rfl) rfl dX8_poll_33 ?_
      intro r112 u113 h
      exact z_iret C hr u113 rfl h dX8_poll_36
  · have h := h.2 hc103
    refine z_aload_n C dX8_poll_12 rfl 0 rfl ?_
    refine z_iconst (v := (-1)) C dX8_poll_13 (by decide) ?_
    refine cRi (As := [.int (-1)]) C (c_X8_refuse l g ad u101 (-1) _ h) v_X8_refuse ml8_75 rfl ⟨Nat.le_of_ble_eq_true rfl, Nat.le_of_ble_eq_true rfl⟩ ⟨Nat.zero_le _, Nat.zero_le _⟩ (Nat.le_of_ble_eq_true rfl) rfl dX8_poll_14 ?_
    intro r114 u115 h
    exact z_iret C hr u115 rfl h dX8_poll_17
abbrev j_X8_joined (p : Program) (l : Launch) (e : Env) (s : State) (m : MethodId) (args : Array Value) (below : List Frame) (meth : Method) (c : Code) (g : zG) (A : Nat → Prop) (ad : Nat → Nat) (Q : Int32 → RS → Prop) (u : RS) (pc : Nat) (lv : List (Nat × Value)) (st : List Value) : Prop := zJ p l e (zR 7 0 0) s m args below meth c g A 3 (zQi below args s g A 0 0 (wR g ad) Q) (wR g ad u) 0 0 pc lv st
def wp_X8_joined_24 (Q : Int32 → RS → Prop) (u : RS) : Prop :=
  Q (-1) u
set_option maxRecDepth 20000 in
theorem b_X8_joined_24 (C : zC p s m args meth c g A cX8_joined RX8 3) (hr : meth.sig.returnType = (some .int)) (ad : Nat → Nat) (Q : Int32 → RS → Prop) (u : RS) (h : wp_X8_joined_24 Q u) : j_X8_joined p l e s m args below meth c g A ad Q u 24 [(0, .ref (ad 0))] [] := by
  unfold wp_X8_joined_24 at h
  refine z_iconst (v := (-1)) C dX8_joined_24 (by decide) ?_
  exact z_iret C hr u rfl h dX8_joined_25
def wp_X8_joined_77 (Q : Int32 → RS → Prop) (B77 : RS → Int32 → Prop) (u : RS) (x1 : Int32) : Prop :=
  wp_X8_queueAt x1 (fun r112 => vp_in r112 1065 ∧ ((u.1 3 (zn r112) ≤ 0 → wp_X8_bring_ahead u 0 (fun u115 => Q (u115.1 18 0) u115)) ∧ (¬ u.1 3 (zn r112) ≤ 0 → wp_X8_takes u x1 (fun r116 u117 => B77 u117 x1))))
set_option maxRecDepth 20000 in
theorem b_X8_joined_77 (C : zC p s m args meth c g A cX8_joined RX8 3) (hr : meth.sig.returnType = (some .int)) (ad : Nat → Nat) (Q : Int32 → RS → Prop) (B77 : RS → Int32 → Prop) (hB77 : ∀ (u : RS) (x1 : Int32), B77 u x1 → j_X8_joined p l e s m args below meth c g A ad Q u 77 [(0, .ref (ad 0)), (1, .int x1)] []) (u : RS) (x1 : Int32) (h : wp_X8_joined_77 Q B77 u x1) : j_X8_joined p l e s m args below meth c g A ad Q u 77 [(0, .ref (ad 0)), (1, .int x1)] [] := by
  unfold wp_X8_joined_77 at h
  refine z_aload_n C dX8_joined_77 rfl 0 rfl ?_
  refine gR_row C dX8_joined_78 ?_
  refine z_iload_n C dX8_joined_81 rfl 1 rfl ?_
  refine cSi (As := [.int x1]) C (c_X8_queueAt l g x1 _ h) s_X8_queueAt ml8_57 ⟨Nat.le_of_ble_eq_true rfl, Nat.le_of_ble_eq_true rfl⟩ ⟨Nat.zero_le _, Nat.zero_le _⟩ (Nat.le_of_ble_eq_true rfl) rfl dX8_joined_82 ?_
  intro r112 h
  obtain ⟨hi113, h⟩ := h
  refine lR_row C hi113 dX8_joined_85 ?_
  refine z_if_le C dX8_joined_86 (tgt := 98) (by decide) (fun hc114 => ?_) (fun hc114 => ?_)
  · have h := h.1 hc114
    refine z_aload_n C dX8_joined_98 rfl 0 rfl ?_
    refine z_aload_n C dX8_joined_99 rfl 0 rfl ?_
    refine gR_ahead C dX8_joined_100 ?_
    refine z_aload_n C dX8_joined_103 rfl 0 rfl ?_
    refine gR_aheadSums C dX8_joined_104 ?_
    refine z_iconst (v := 0) C dX8_joined_107 (by decide) ?_
    refine cRv (As := [.ref (ad 10), .ref (ad 11), .int 0]) C (c_X8_bring_ahead l g ad u 0 _ h) v_X8_bring ml8_78 rfl ⟨Nat.le_of_ble_eq_true rfl, Nat.le_of_ble_eq_true rfl⟩ ⟨Nat.zero_le _, Nat.zero_le _⟩ (Nat.le_of_ble_eq_true rfl) rfl dX8_joined_108 ?_
    intro u115 h
    refine z_aload_n C dX8_joined_111 rfl 0 rfl ?_
    refine gR_givenMany C dX8_joined_112 ?_
    exact z_iret C hr u115 rfl h dX8_joined_115
  · have h := h.2 hc114
    refine z_aload_n C dX8_joined_89 rfl 0 rfl ?_
    refine z_iload_n C dX8_joined_90 rfl 1 rfl ?_
    refine cRi (As := [.int x1]) C (c_X8_takes l g ad u x1 _ h) v_X8_takes ml8_225 rfl ⟨Nat.le_of_ble_eq_true rfl, Nat.le_of_ble_eq_true rfl⟩ ⟨Nat.zero_le _, Nat.zero_le _⟩ (Nat.le_of_ble_eq_true rfl) rfl dX8_joined_91 ?_
    intro r116 u117 h
    refine z_pop C dX8_joined_94 rfl ?_
    refine z_goto C dX8_joined_95 (tgt := 77) (by decide) ?_
    exact hB77 u117 x1 h
theorem l_X8_joined_77 (C : zC p s m args meth c g A cX8_joined RX8 3) (hr : meth.sig.returnType = (some .int)) (ad : Nat → Nat) (Q : Int32 → RS → Prop) : ∀ (n : Nat) (u : RS) (x1 : Int32), zit2 (wp_X8_joined_77 Q) n u x1 → j_X8_joined p l e s m args below meth c g A ad Q u 77 [(0, .ref (ad 0)), (1, .int x1)] [] := by
  intro n
  induction n with
  | zero => exact fun u x1 h => h.elim
  | succ n ih => exact fun u x1 h => b_X8_joined_77 C hr ad Q (zit2 (wp_X8_joined_77 Q) n) ih u x1 h
def wp_X8_joined_71 (Q : Int32 → RS → Prop) (u : RS) (x1 : Int32) (t0 : Int32) (t1 : Int32) : Prop :=
  vp_in t1 1065 ∧ ∀ u110 : RS, u110 = rI u 3 (upd (u.1 3) (zn t1) t0) → ∀ u111 : RS, u111 = rN u110 18 0 → (∃ n, zit2 (wp_X8_joined_77 Q) n u111 x1)
set_option maxRecDepth 20000 in
theorem b_X8_joined_71 (C : zC p s m args meth c g A cX8_joined RX8 3) (hr : meth.sig.returnType = (some .int)) (ad : Nat → Nat) (Q : Int32 → RS → Prop) (u : RS) (x1 : Int32) (t0 : Int32) (t1 : Int32) (h : wp_X8_joined_71 Q u x1 t0 t1) : j_X8_joined p l e s m args below meth c g A ad Q u 71 [(0, .ref (ad 0)), (1, .int x1)] [.int t0, .int t1, .ref (ad 2)] := by
  unfold wp_X8_joined_71 at h
  obtain ⟨hi109, h⟩ := h
  refine sR_row C hi109 dX8_joined_71 ?_
  refine z_stR (fun u110 eu110 => ?_)
  have h := h u110 eu110
  refine z_aload_n C dX8_joined_72 rfl 0 rfl ?_
  refine z_iconst (v := 0) C dX8_joined_73 (by decide) ?_
  refine pR_givenMany C dX8_joined_74 ?_
  refine z_stR (fun u111 eu111 => ?_)
  have h := h u111 eu111
  obtain ⟨n9, h⟩ := h
  exact l_X8_joined_77 C hr ad Q n9 u111 x1 h
def wp_X8_joined (u : RS) (x1 : Int32) (x2 : Int32) (Q : Int32 → RS → Prop) : Prop :=
  ∀ u101 : RS, u101 = rN u 0 0 → wp_X8_isQueue x1 (fun r102 => ((r102 = 0 → wp_X8_joined_24 Q u101) ∧ (¬ r102 = 0 → wp_X8_in ((x2).toInt64) 0 2 (fun r104 => ((¬ r104 = 0 → wp_X8_lay_ahead u101 0 (fun u106 => ((¬ x2 = 0 → ((¬ x2 = 1 → wp_X8_joined_71 Q u106 x1 1 17) ∧ (x2 = 1 → wp_X8_joined_71 Q u106 x1 9999 17))) ∧ (x2 = 0 → wp_X8_joined_71 Q u106 x1 (u106.1 3 17) 17)))) ∧ (r104 = 0 → wp_X8_joined_24 Q u101))))))
set_option maxRecDepth 20000 in
theorem c_X8_joined (l : Launch) (g : zG) (ad : Nat → Nat) (u : RS) (x1 : Int32) (x2 : Int32) (Q : Int32 → RS → Prop) (h : wp_X8_joined u x1 x2 Q) : zMi l yX8_joined cX8_joined 3 (some .int) 7 0 0 g [.ref (ad 0), .int x1, .int x2] (wR g ad u) (wR g ad) Q := by
  refine zMi_of RX8 (by decide) rfl [(0, .ref (ad 0)), (1, .int x1), (2, .int x2)] rfl (Nat.le_of_ble_eq_true rfl) (fun p e s m args below meth c A C hr hnm => ?_)
  unfold wp_X8_joined at h
  refine z_aload_n C dX8_joined_0 rfl 0 rfl ?_
  refine z_iconst (v := 0) C dX8_joined_1 (by decide) ?_
  refine pR_thrown C dX8_joined_2 ?_
  refine z_stR (fun u101 eu101 => ?_)
  have h := h u101 eu101
  refine z_iload_n C dX8_joined_5 rfl 1 rfl ?_
  refine cSi (As := [.int x1]) C (c_X8_isQueue l g x1 _ h) s_X8_isQueue ml8_150 ⟨Nat.le_of_ble_eq_true rfl, Nat.le_of_ble_eq_true rfl⟩ ⟨Nat.zero_le _, Nat.zero_le _⟩ (Nat.le_of_ble_eq_true rfl) rfl dX8_joined_6 ?_
  intro r102 h
  refine z_if_eq C dX8_joined_9 (tgt := 24) (by decide) (fun hc103 => ?_) (fun hc103 => ?_)
  · have h := h.1 hc103
    refine z_lv (lv1 := [(0, .ref (ad 0))]) [0] rfl ?_
    exact b_X8_joined_24 C hr ad Q u101 h
  · have h := h.2 hc103
    refine z_iload_n C dX8_joined_12 rfl 2 rfl ?_
    refine z_i2l C dX8_joined_13 ?_
    refine z_lconst (v := 0) C dX8_joined_14 (by decide) ?_
    refine z_ldc2 (v := 2) C dX8_joined_15 k8_245 ?_
    refine cSi (As := [.long ((x2).toInt64), .long 0, .long 2]) C (c_X8_in l g ((x2).toInt64) 0 2 _ h) s_X8_in ml8_84 ⟨Nat.le_of_ble_eq_true rfl, Nat.le_of_ble_eq_true rfl⟩ ⟨Nat.zero_le _, Nat.zero_le _⟩ (Nat.le_of_ble_eq_true rfl) rfl dX8_joined_18 ?_
    intro r104 h
    refine z_if_ne C dX8_joined_21 (tgt := 26) (by decide) (fun hc105 => ?_) (fun hc105 => ?_)
    · have h := h.1 hc105
      refine z_aload_n C dX8_joined_26 rfl 0 rfl ?_
      refine z_aload_n C dX8_joined_27 rfl 0 rfl ?_
      refine gR_ahead C dX8_joined_28 ?_
      refine z_aload_n C dX8_joined_31 rfl 0 rfl ?_
      refine gR_aheadSums C dX8_joined_32 ?_
      refine z_iconst (v := 0) C dX8_joined_35 (by decide) ?_
      refine cRv (As := [.ref (ad 10), .ref (ad 11), .int 0]) C (c_X8_lay_ahead l g ad u101 0 _ h) v_X8_lay ml8_71 rfl ⟨Nat.le_of_ble_eq_true rfl, Nat.le_of_ble_eq_true rfl⟩ ⟨Nat.zero_le _, Nat.zero_le _⟩ (Nat.le_of_ble_eq_true rfl) rfl dX8_joined_36 ?_
      intro u106 h
      refine z_aload_n C dX8_joined_39 rfl 0 rfl ?_
      refine gR_row C dX8_joined_40 ?_
      refine z_bipush (v := 17) C dX8_joined_43 (by decide) ?_
      refine z_iload_n C dX8_joined_45 rfl 2 rfl ?_
      refine z_if_ne C dX8_joined_46 (tgt := 59) (by decide) (fun hc107 => ?_) (fun hc107 => ?_)
      · have h := h.1 hc107
        refine z_iload_n C dX8_joined_59 rfl 2 rfl ?_
        refine z_iconst (v := 1) C dX8_joined_60 (by decide) ?_
        refine z_icmp_ne C dX8_joined_61 (tgt := 70) (by decide) (fun hc108 => ?_) (fun hc108 => ?_)
        · have h := h.1 hc108
          refine z_iconst (v := 1) C dX8_joined_70 (by decide) ?_
          refine z_lv (lv1 := [(0, .ref (ad 0)), (1, .int x1)]) [0, 1] rfl ?_
          exact b_X8_joined_71 C hr ad Q u106 x1 1 17 h
        · have h := h.2 hc108
          refine z_sipush (v := 9999) C dX8_joined_64 (by decide) ?_
          refine z_goto C dX8_joined_67 (tgt := 71) (by decide) ?_
          refine z_lv (lv1 := [(0, .ref (ad 0)), (1, .int x1)]) [0, 1] rfl ?_
          exact b_X8_joined_71 C hr ad Q u106 x1 9999 17 h
      · have h := h.2 hc107
        refine z_aload_n C dX8_joined_49 rfl 0 rfl ?_
        refine gR_row C dX8_joined_50 ?_
        refine z_bipush (v := 17) C dX8_joined_53 (by decide) ?_
        refine lRn_row C 17 (by decide +kernel) (vp_in_iff.mpr (by decide +kernel)) dX8_joined_55 ?_
        refine z_goto C dX8_joined_56 (tgt := 71) (by decide) ?_
        refine z_lv (lv1 := [(0, .ref (ad 0)), (1, .int x1)]) [0, 1] rfl ?_
        exact b_X8_joined_71 C hr ad Q u106 x1 (u106.1 3 17) 17 h
    · have h := h.2 hc105
      refine z_lv (lv1 := [(0, .ref (ad 0))]) [0] rfl ?_
      exact b_X8_joined_24 C hr ad Q u101 h
abbrev j_X8_ticks (p : Program) (l : Launch) (e : Env) (s : State) (m : MethodId) (args : Array Value) (below : List Frame) (meth : Method) (c : Code) (g : zG) (A : Nat → Prop) (ad : Nat → Nat) (Q : RS → Prop) (u : RS) (pc : Nat) (lv : List (Nat × Value)) (st : List Value) : Prop := zJ p l e (zR 8 0 0) s m args below meth c g A 3 (zQv below args s g A 0 0 (wR g ad) Q) (wR g ad u) 0 0 pc lv st
def wp_X8_ticks_199 (Q : RS → Prop) (B66 : RS → Int32 → Prop) (u : RS) (x1 : Int32) : Prop :=
  ∀ x115 : Int32, x115 = x1 + 1 → B66 u x115
set_option maxRecDepth 20000 in
theorem b_X8_ticks_199 (C : zC p s m args meth c g A cX8_ticks RX8 3) (hr : meth.sig.returnType = none) (ad : Nat → Nat) (Q : RS → Prop) (B66 : RS → Int32 → Prop) (hB66 : ∀ (u : RS) (x1 : Int32), B66 u x1 → j_X8_ticks p l e s m args below meth c g A ad Q u 66 [(0, .ref (ad 0)), (1, .int x1)] []) (u : RS) (x1 : Int32) (h : wp_X8_ticks_199 Q B66 u x1) : j_X8_ticks p l e s m args below meth c g A ad Q u 199 [(0, .ref (ad 0)), (1, .int x1)] [] := by
  unfold wp_X8_ticks_199 at h
  obtain ⟨x115, ex115⟩ : ∃ y : Int32, y = x1 + 1 := ⟨_, rfl⟩
  have h := h x115 ex115
  refine z_iinc (v := x115) (lv1 := [(1, .int x115), (0, .ref (ad 0))]) C dX8_ticks_199 1 rfl (by rw [ex115]; rfl) (by decide) rfl ?_
  refine z_goto C dX8_ticks_202 (tgt := 66) (by decide) ?_
  refine z_lv (lv1 := [(0, .ref (ad 0)), (1, .int x115)]) [1, 0] rfl ?_
  exact hB66 u x115 h
def wp_X8_ticks_194 (Q : RS → Prop) (B66 : RS → Int32 → Prop) (u : RS) (x1 : Int32) : Prop :=
  wp_X8_calls u x1 (fun u118 => wp_X8_ticks_199 Q B66 u118 x1)
set_option maxRecDepth 20000 in
theorem b_X8_ticks_194 (C : zC p s m args meth c g A cX8_ticks RX8 3) (hr : meth.sig.returnType = none) (ad : Nat → Nat) (Q : RS → Prop) (B66 : RS → Int32 → Prop) (hB66 : ∀ (u : RS) (x1 : Int32), B66 u x1 → j_X8_ticks p l e s m args below meth c g A ad Q u 66 [(0, .ref (ad 0)), (1, .int x1)] []) (u : RS) (x1 : Int32) (h : wp_X8_ticks_194 Q B66 u x1) : j_X8_ticks p l e s m args below meth c g A ad Q u 194 [(0, .ref (ad 0)), (1, .int x1)] [] := by
  unfold wp_X8_ticks_194 at h
  refine z_aload_n C dX8_ticks_194 rfl 0 rfl ?_
  refine z_iload_n C dX8_ticks_195 rfl 1 rfl ?_
  refine cRv (As := [.int x1]) C (c_X8_calls l g ad u x1 _ h) v_X8_calls ml8_228 rfl ⟨Nat.le_of_ble_eq_true rfl, Nat.le_of_ble_eq_true rfl⟩ ⟨Nat.zero_le _, Nat.zero_le _⟩ (Nat.le_of_ble_eq_true rfl) rfl dX8_ticks_196 ?_
  intro u118 h
  exact b_X8_ticks_199 C hr ad Q B66 hB66 u118 x1 h
def wp_X8_ticks_66 (Q : RS → Prop) (B66 : RS → Int32 → Prop) (u : RS) (x1 : Int32) : Prop :=
  ((4 ≤ x1 → Q u) ∧ (¬ 4 ≤ x1 → wp_X8_queueAt x1 (fun r105 => vp_in (r105 + 6) 1065 ∧ vp_in (r105 + 7) 1065 ∧ vp_in (r105 + 6) 1065 ∧ vp_in (r105 + 6) 1065 ∧ ∀ u110 : RS, u110 = rI u 3 (upd (u.1 3) (zn (r105 + 6)) ((u.1 3 (zn (r105 + 6))) + (((16 * (u.1 3 (zn (r105 + 7)))) - (u.1 3 (zn (r105 + 6)))) / 8))) → vp_in (r105 + 7) 1065 ∧ ∀ u112 : RS, u112 = rI u110 3 (upd (u110.1 3) (zn (r105 + 7)) 0) → vp_in r105 1065 ∧ ((u112.1 3 (zn r105) ≤ 0 → wp_X8_ticks_199 Q B66 u112 x1) ∧ (¬ u112.1 3 (zn r105) ≤ 0 → vp_in r105 1065 ∧ ((u112.1 3 15 ≤ u112.1 3 (zn r105) → wp_X8_ticks_194 Q B66 u112 x1) ∧ (¬ u112.1 3 15 ≤ u112.1 3 (zn r105) → vp_in (r105 + 6) 1065 ∧ ((u112.1 3 (zn (r105 + 6)) < u112.1 3 21 → wp_X8_ticks_194 Q B66 u112 x1) ∧ (¬ u112.1 3 (zn (r105 + 6)) < u112.1 3 21 → vp_in (r105 + 2) 1065 ∧ vp_in (r105 + 1) 1065 ∧ (((u112.1 3 6) - (u112.1 3 (zn (r105 + 2))) < u112.1 3 (zn (r105 + 1)) → wp_X8_ticks_199 Q B66 u112 x1) ∧ (¬ (u112.1 3 6) - (u112.1 3 (zn (r105 + 2))) < u112.1 3 (zn (r105 + 1)) → wp_X8_ticks_194 Q B66 u112 x1)))))))))))
set_option maxRecDepth 20000 in
theorem b_X8_ticks_66 (C : zC p s m args meth c g A cX8_ticks RX8 3) (hr : meth.sig.returnType = none) (ad : Nat → Nat) (Q : RS → Prop) (B66 : RS → Int32 → Prop) (hB66 : ∀ (u : RS) (x1 : Int32), B66 u x1 → j_X8_ticks p l e s m args below meth c g A ad Q u 66 [(0, .ref (ad 0)), (1, .int x1)] []) (u : RS) (x1 : Int32) (h : wp_X8_ticks_66 Q B66 u x1) : j_X8_ticks p l e s m args below meth c g A ad Q u 66 [(0, .ref (ad 0)), (1, .int x1)] [] := by
  unfold wp_X8_ticks_66 at h
  refine z_iload_n C dX8_ticks_66 rfl 1 rfl ?_
  refine z_iconst (v := 4) C dX8_ticks_67 (by decide) ?_
  refine z_icmp_ge C dX8_ticks_68 (tgt := 205) (by decide) (fun hc104 => ?_) (fun hc104 => ?_)
  · have h := h.1 hc104
    exact z_vret C hr u rfl h dX8_ticks_205
  · have h := h.2 hc104
    refine z_iload_n C dX8_ticks_71 rfl 1 rfl ?_
    refine cSi (As := [.int x1]) C (c_X8_queueAt l g x1 _ h) s_X8_queueAt ml8_57 ⟨Nat.le_of_ble_eq_true rfl, Nat.le_of_ble_eq_true rfl⟩ ⟨Nat.zero_le _, Nat.zero_le _⟩ (Nat.le_of_ble_eq_true rfl) rfl dX8_ticks_72 ?_
    intro r105 h
    refine z_istore_n (lv1 := [(2, .int r105), (0, .ref (ad 0)), (1, .int x1)]) C dX8_ticks_75 rfl (by decide) rfl ?_
    refine z_aload_n C dX8_ticks_76 rfl 1 rfl ?_
    refine gR_row C dX8_ticks_77 ?_
    refine z_iload_n C dX8_ticks_80 rfl 0 rfl ?_
    refine z_bipush (v := 6) C dX8_ticks_81 (by decide) ?_
    refine z_iadd C dX8_ticks_83 ?_
    refine z_dup2 C dX8_ticks_84 rfl rfl ?_
    obtain ⟨hi106, h⟩ := h
    refine lR_row C hi106 dX8_ticks_85 ?_
    refine z_bipush (v := 16) C dX8_ticks_86 (by decide) ?_
    refine z_aload_n C dX8_ticks_88 rfl 1 rfl ?_
    refine gR_row C dX8_ticks_89 ?_
    refine z_iload_n C dX8_ticks_92 rfl 0 rfl ?_
    refine z_bipush (v := 7) C dX8_ticks_93 (by decide) ?_
    refine z_iadd C dX8_ticks_95 ?_
    obtain ⟨hi107, h⟩ := h
    refine lR_row C hi107 dX8_ticks_96 ?_
    refine z_imul C dX8_ticks_97 ?_
    refine z_aload_n C dX8_ticks_98 rfl 1 rfl ?_
    refine gR_row C dX8_ticks_99 ?_
    refine z_iload_n C dX8_ticks_102 rfl 0 rfl ?_
    refine z_bipush (v := 6) C dX8_ticks_103 (by decide) ?_
    refine z_iadd C dX8_ticks_105 ?_
    obtain ⟨hi108, h⟩ := h
    refine lR_row C hi108 dX8_ticks_106 ?_
    refine z_isub C dX8_ticks_107 ?_
    refine z_bipush (v := 8) C dX8_ticks_108 (by decide) ?_
    refine z_idiv C dX8_ticks_110 (by decide) ?_
    refine z_iadd C dX8_ticks_111 ?_
    obtain ⟨hi109, h⟩ := h
    refine sR_row C hi109 dX8_ticks_112 ?_
    refine z_stR (fun u110 eu110 => ?_)
    have h := h u110 eu110
    refine z_aload_n C dX8_ticks_113 rfl 1 rfl ?_
    refine gR_row C dX8_ticks_114 ?_
    refine z_iload_n C dX8_ticks_117 rfl 0 rfl ?_
    refine z_bipush (v := 7) C dX8_ticks_118 (by decide) ?_
    refine z_iadd C dX8_ticks_120 ?_
    refine z_iconst (v := 0) C dX8_ticks_121 (by decide) ?_
    obtain ⟨hi111, h⟩ := h
    refine sR_row C hi111 dX8_ticks_122 ?_
    refine z_stR (fun u112 eu112 => ?_)
    have h := h u112 eu112
    refine z_aload_n C dX8_ticks_123 rfl 1 rfl ?_
    refine gR_row C dX8_ticks_124 ?_
    refine z_iload_n C dX8_ticks_127 rfl 0 rfl ?_
    obtain ⟨hi113, h⟩ := h
    refine lR_row C hi113 dX8_ticks_128 ?_
    refine z_if_le C dX8_ticks_129 (tgt := 199) (by decide) (fun hc114 => ?_) (fun hc114 => ?_)
    · have h := h.1 hc114
      refine z_lv (lv1 := [(0, .ref (ad 0)), (1, .int x1)]) [1, 2] rfl ?_
      exact b_X8_ticks_199 C hr ad Q B66 hB66 u112 x1 h
    · have h := h.2 hc114
      refine z_aload_n C dX8_ticks_132 rfl 1 rfl ?_
      refine gR_row C dX8_ticks_133 ?_
      refine z_iload_n C dX8_ticks_136 rfl 0 rfl ?_
      obtain ⟨hi116, h⟩ := h
      refine lR_row C hi116 dX8_ticks_137 ?_
      refine z_aload_n C dX8_ticks_138 rfl 1 rfl ?_
      refine gR_row C dX8_ticks_139 ?_
      refine z_bipush (v := 15) C dX8_ticks_142 (by decide) ?_
      refine lRn_row C 15 (by decide +kernel) (vp_in_iff.mpr (by decide +kernel)) dX8_ticks_144 ?_
      refine z_icmp_ge C dX8_ticks_145 (tgt := 194) (by decide) (fun hc117 => ?_) (fun hc117 => ?_)
      · have h := h.1 hc117
        refine z_lv (lv1 := [(0, .ref (ad 0)), (1, .int x1)]) [1, 2] rfl ?_
        exact b_X8_ticks_194 C hr ad Q B66 hB66 u112 x1 h
      · have h := h.2 hc117
        refine z_aload_n C dX8_ticks_148 rfl 1 rfl ?_
        refine gR_row C dX8_ticks_149 ?_
        refine z_iload_n C dX8_ticks_152 rfl 0 rfl ?_
        refine z_bipush (v := 6) C dX8_ticks_153 (by decide) ?_
        refine z_iadd C dX8_ticks_155 ?_
        obtain ⟨hi119, h⟩ := h
        refine lR_row C hi119 dX8_ticks_156 ?_
        refine z_aload_n C dX8_ticks_157 rfl 1 rfl ?_
        refine gR_row C dX8_ticks_158 ?_
        refine z_bipush (v := 21) C dX8_ticks_161 (by decide) ?_
        refine lRn_row C 21 (by decide +kernel) (vp_in_iff.mpr (by decide +kernel)) dX8_ticks_163 ?_
        refine z_icmp_lt C dX8_ticks_164 (tgt := 194) (by decide) (fun hc120 => ?_) (fun hc120 => ?_)
        · have h := h.1 hc120
          refine z_lv (lv1 := [(0, .ref (ad 0)), (1, .int x1)]) [1, 2] rfl ?_
          exact b_X8_ticks_194 C hr ad Q B66 hB66 u112 x1 h
        · have h := h.2 hc120
          refine z_aload_n C dX8_ticks_167 rfl 1 rfl ?_
          refine gR_row C dX8_ticks_168 ?_
          refine z_bipush (v := 6) C dX8_ticks_171 (by decide) ?_
          refine lRn_row C 6 (by decide +kernel) (vp_in_iff.mpr (by decide +kernel)) dX8_ticks_173 ?_
          refine z_aload_n C dX8_ticks_174 rfl 1 rfl ?_
          refine gR_row C dX8_ticks_175 ?_
          refine z_iload_n C dX8_ticks_178 rfl 0 rfl ?_
          refine z_iconst (v := 2) C dX8_ticks_179 (by decide) ?_
          refine z_iadd C dX8_ticks_180 ?_
          obtain ⟨hi121, h⟩ := h
          refine lR_row C hi121 dX8_ticks_181 ?_
          refine z_isub C dX8_ticks_182 ?_
          refine z_aload_n C dX8_ticks_183 rfl 1 rfl ?_
          refine gR_row C dX8_ticks_184 ?_
          refine z_iload_n C dX8_ticks_187 rfl 0 rfl ?_
          refine z_iconst (v := 1) C dX8_ticks_188 (by decide) ?_
          refine z_iadd C dX8_ticks_189 ?_
          obtain ⟨hi122, h⟩ := h
          refine lR_row C hi122 dX8_ticks_190 ?_
          refine z_icmp_lt C dX8_ticks_191 (tgt := 199) (by decide) (fun hc123 => ?_) (fun hc123 => ?_)
          · have h := h.1 hc123
            refine z_lv (lv1 := [(0, .ref (ad 0)), (1, .int x1)]) [1, 2] rfl ?_
            exact b_X8_ticks_199 C hr ad Q B66 hB66 u112 x1 h
          · have h := h.2 hc123
            refine z_lv (lv1 := [(0, .ref (ad 0)), (1, .int x1)]) [1, 2] rfl ?_
            exact b_X8_ticks_194 C hr ad Q B66 hB66 u112 x1 h
theorem l_X8_ticks_66 (C : zC p s m args meth c g A cX8_ticks RX8 3) (hr : meth.sig.returnType = none) (ad : Nat → Nat) (Q : RS → Prop) : ∀ (n : Nat) (u : RS) (x1 : Int32), zit2 (wp_X8_ticks_66 Q) n u x1 → j_X8_ticks p l e s m args below meth c g A ad Q u 66 [(0, .ref (ad 0)), (1, .int x1)] [] := by
  intro n
  induction n with
  | zero => exact fun u x1 h => h.elim
  | succ n ih => exact fun u x1 h => b_X8_ticks_66 C hr ad Q (zit2 (wp_X8_ticks_66 Q) n) ih u x1 h
def wp_X8_ticks_58 (Q : RS → Prop) (B20 : RS → Int32 → Prop) (u : RS) (x1 : Int32) : Prop :=
  ∀ x127 : Int32, x127 = x1 + (-1) → B20 u x127
set_option maxRecDepth 20000 in
theorem b_X8_ticks_58 (C : zC p s m args meth c g A cX8_ticks RX8 3) (hr : meth.sig.returnType = none) (ad : Nat → Nat) (Q : RS → Prop) (B20 : RS → Int32 → Prop) (hB20 : ∀ (u : RS) (x1 : Int32), B20 u x1 → j_X8_ticks p l e s m args below meth c g A ad Q u 20 [(0, .ref (ad 0)), (1, .int x1)] []) (u : RS) (x1 : Int32) (h : wp_X8_ticks_58 Q B20 u x1) : j_X8_ticks p l e s m args below meth c g A ad Q u 58 [(0, .ref (ad 0)), (1, .int x1)] [] := by
  unfold wp_X8_ticks_58 at h
  obtain ⟨x127, ex127⟩ : ∃ y : Int32, y = x1 + (-1) := ⟨_, rfl⟩
  have h := h x127 ex127
  refine z_iinc (v := x127) (lv1 := [(1, .int x127), (0, .ref (ad 0))]) C dX8_ticks_58 1 rfl (by rw [ex127]; rfl) (by decide) rfl ?_
  refine z_goto C dX8_ticks_61 (tgt := 20) (by decide) ?_
  refine z_lv (lv1 := [(0, .ref (ad 0)), (1, .int x127)]) [1, 0] rfl ?_
  exact hB20 u x127 h
def wp_X8_ticks_20 (Q : RS → Prop) (B20 : RS → Int32 → Prop) (u : RS) (x1 : Int32) : Prop :=
  ((x1 < 0 → (∃ n, zit2 (wp_X8_ticks_66 Q) n u 0)) ∧ (¬ x1 < 0 → wp_X8_ruleAt x1 (fun r124 => vp_in (r124 + 2) 1065 ∧ ((u.1 3 6 ≤ (u.1 3 (zn (r124 + 2))) + (u.1 3 16) → wp_X8_ticks_58 Q B20 u x1) ∧ (¬ u.1 3 6 ≤ (u.1 3 (zn (r124 + 2))) + (u.1 3 16) → wp_X8_dropRule u x1 (fun u128 => wp_X8_ticks_58 Q B20 u128 x1))))))
set_option maxRecDepth 20000 in
theorem b_X8_ticks_20 (C : zC p s m args meth c g A cX8_ticks RX8 3) (hr : meth.sig.returnType = none) (ad : Nat → Nat) (Q : RS → Prop) (B20 : RS → Int32 → Prop) (hB20 : ∀ (u : RS) (x1 : Int32), B20 u x1 → j_X8_ticks p l e s m args below meth c g A ad Q u 20 [(0, .ref (ad 0)), (1, .int x1)] []) (u : RS) (x1 : Int32) (h : wp_X8_ticks_20 Q B20 u x1) : j_X8_ticks p l e s m args below meth c g A ad Q u 20 [(0, .ref (ad 0)), (1, .int x1)] [] := by
  unfold wp_X8_ticks_20 at h
  refine z_iload_n C dX8_ticks_20 rfl 1 rfl ?_
  refine z_if_lt C dX8_ticks_21 (tgt := 64) (by decide) (fun hc103 => ?_) (fun hc103 => ?_)
  · have h := h.1 hc103
    refine z_iconst (v := 0) C dX8_ticks_64 (by decide) ?_
    refine z_istore_n (lv1 := [(1, .int 0), (0, .ref (ad 0))]) C dX8_ticks_65 rfl (by decide) rfl ?_
    refine z_lv (lv1 := [(0, .ref (ad 0)), (1, .int 0)]) [1, 0] rfl ?_
    obtain ⟨n9, h⟩ := h
    exact l_X8_ticks_66 C hr ad Q n9 u 0 h
  · have h := h.2 hc103
    refine z_aload_n C dX8_ticks_24 rfl 0 rfl ?_
    refine gR_row C dX8_ticks_25 ?_
    refine z_iload_n C dX8_ticks_28 rfl 1 rfl ?_
    refine cSi (As := [.int x1]) C (c_X8_ruleAt l g x1 _ h) s_X8_ruleAt ml8_116 ⟨Nat.le_of_ble_eq_true rfl, Nat.le_of_ble_eq_true rfl⟩ ⟨Nat.zero_le _, Nat.zero_le _⟩ (Nat.le_of_ble_eq_true rfl) rfl dX8_ticks_29 ?_
    intro r124 h
    refine z_iconst (v := 2) C dX8_ticks_32 (by decide) ?_
    refine z_iadd C dX8_ticks_33 ?_
    obtain ⟨hi125, h⟩ := h
    refine lR_row C hi125 dX8_ticks_34 ?_
    refine z_aload_n C dX8_ticks_35 rfl 0 rfl ?_
    refine gR_row C dX8_ticks_36 ?_
    refine z_bipush (v := 16) C dX8_ticks_39 (by decide) ?_
    refine lRn_row C 16 (by decide +kernel) (vp_in_iff.mpr (by decide +kernel)) dX8_ticks_41 ?_
    refine z_iadd C dX8_ticks_42 ?_
    refine z_aload_n C dX8_ticks_43 rfl 0 rfl ?_
    refine gR_row C dX8_ticks_44 ?_
    refine z_bipush (v := 6) C dX8_ticks_47 (by decide) ?_
    refine lRn_row C 6 (by decide +kernel) (vp_in_iff.mpr (by decide +kernel)) dX8_ticks_49 ?_
    refine z_icmp_ge C dX8_ticks_50 (tgt := 58) (by decide) (fun hc126 => ?_) (fun hc126 => ?_)
    · have h := h.1 hc126
      exact b_X8_ticks_58 C hr ad Q B20 hB20 u x1 h
    · have h := h.2 hc126
      refine z_aload_n C dX8_ticks_53 rfl 0 rfl ?_
      refine z_iload_n C dX8_ticks_54 rfl 1 rfl ?_
      refine cRv (As := [.int x1]) C (c_X8_dropRule l g ad u x1 _ h) v_X8_dropRule ml8_167 rfl ⟨Nat.le_of_ble_eq_true rfl, Nat.le_of_ble_eq_true rfl⟩ ⟨Nat.zero_le _, Nat.zero_le _⟩ (Nat.le_of_ble_eq_true rfl) rfl dX8_ticks_55 ?_
      intro u128 h
      exact b_X8_ticks_58 C hr ad Q B20 hB20 u128 x1 h
theorem l_X8_ticks_20 (C : zC p s m args meth c g A cX8_ticks RX8 3) (hr : meth.sig.returnType = none) (ad : Nat → Nat) (Q : RS → Prop) : ∀ (n : Nat) (u : RS) (x1 : Int32), zit2 (wp_X8_ticks_20 Q) n u x1 → j_X8_ticks p l e s m args below meth c g A ad Q u 20 [(0, .ref (ad 0)), (1, .int x1)] [] := by
  intro n
  induction n with
  | zero => exact fun u x1 h => h.elim
  | succ n ih => exact fun u x1 h => b_X8_ticks_20 C hr ad Q (zit2 (wp_X8_ticks_20 Q) n) ih u x1 h
def wp_X8_ticks (u : RS) (Q : RS → Prop) : Prop :=
  ∀ u101 : RS, u101 = rI u 3 (upd (u.1 3) 6 ((u.1 3 6) + 1)) → ∀ x102 : Int32, x102 = (u101.1 3 5) - 1 → (∃ n, zit2 (wp_X8_ticks_20 Q) n u101 x102)
set_option maxRecDepth 20000 in
theorem c_X8_ticks (l : Launch) (g : zG) (ad : Nat → Nat) (u : RS) (Q : RS → Prop) (h : wp_X8_ticks u Q) : zMv l yX8_ticks cX8_ticks 3 none 8 0 0 g [.ref (ad 0)] (wR g ad u) (wR g ad) Q := by
  refine zMv_of RX8 (by decide) rfl [(0, .ref (ad 0))] rfl (Nat.le_of_ble_eq_true rfl) (fun p e s m args below meth c A C hr hnm => ?_)
  unfold wp_X8_ticks at h
  refine z_aload_n C dX8_ticks_0 rfl 0 rfl ?_
  refine gR_row C dX8_ticks_1 ?_
  refine z_bipush (v := 6) C dX8_ticks_4 (by decide) ?_
  refine z_dup2 C dX8_ticks_6 rfl rfl ?_
  refine lRn_row C 6 (by decide +kernel) (vp_in_iff.mpr (by decide +kernel)) dX8_ticks_7 ?_
  refine z_iconst (v := 1) C dX8_ticks_8 (by decide) ?_
  refine z_iadd C dX8_ticks_9 ?_
  refine sRn_row C 6 (by decide +kernel) (vp_in_iff.mpr (by decide +kernel)) dX8_ticks_10 ?_
  refine z_stR (fun u101 eu101 => ?_)
  have h := h u101 eu101
  refine z_aload_n C dX8_ticks_11 rfl 0 rfl ?_
  refine gR_row C dX8_ticks_12 ?_
  refine z_iconst (v := 5) C dX8_ticks_15 (by decide) ?_
  refine lRn_row C 5 (by decide +kernel) (vp_in_iff.mpr (by decide +kernel)) dX8_ticks_16 ?_
  refine z_iconst (v := 1) C dX8_ticks_17 (by decide) ?_
  refine z_isub C dX8_ticks_18 ?_
  refine z_topi (fun x102 ex102 => ?_)
  have h := h x102 ex102
  refine z_istore_n (lv1 := [(1, .int x102), (0, .ref (ad 0))]) C dX8_ticks_19 rfl (by decide) rfl ?_
  refine z_lv (lv1 := [(0, .ref (ad 0)), (1, .int x102)]) [1, 0] rfl ?_
  obtain ⟨n9, h⟩ := h
  exact l_X8_ticks_20 C hr ad Q n9 u101 x102 h
abbrev j_X8_ticksBy (p : Program) (l : Launch) (e : Env) (s : State) (m : MethodId) (args : Array Value) (below : List Frame) (meth : Method) (c : Code) (g : zG) (A : Nat → Prop) (ad : Nat → Nat) (Q : RS → Prop) (u : RS) (pc : Nat) (lv : List (Nat × Value)) (st : List Value) : Prop := zJ p l e (zR 9 0 0) s m args below meth c g A 3 (zQv below args s g A 0 0 (wR g ad) Q) (wR g ad u) 0 0 pc lv st
def wp_X8_ticksBy_12 (Q : RS → Prop) (B12 : RS → Int32 → Int32 → Prop) (u : RS) (x1 : Int32) (x2 : Int32) : Prop :=
  ((x1 ≤ x2 → Q u) ∧ (¬ x1 ≤ x2 → wp_X8_ticks u (fun u104 => ∀ x105 : Int32, x105 = x2 + 1 → B12 u104 x1 x105)))
set_option maxRecDepth 20000 in
theorem b_X8_ticksBy_12 (C : zC p s m args meth c g A cX8_ticksBy RX8 3) (hr : meth.sig.returnType = none) (ad : Nat → Nat) (Q : RS → Prop) (B12 : RS → Int32 → Int32 → Prop) (hB12 : ∀ (u : RS) (x1 : Int32) (x2 : Int32), B12 u x1 x2 → j_X8_ticksBy p l e s m args below meth c g A ad Q u 12 [(0, .ref (ad 0)), (1, .int x1), (2, .int x2)] []) (u : RS) (x1 : Int32) (x2 : Int32) (h : wp_X8_ticksBy_12 Q B12 u x1 x2) : j_X8_ticksBy p l e s m args below meth c g A ad Q u 12 [(0, .ref (ad 0)), (1, .int x1), (2, .int x2)] [] := by
  unfold wp_X8_ticksBy_12 at h
  refine z_iload_n C dX8_ticksBy_12 rfl 2 rfl ?_
  refine z_iload_n C dX8_ticksBy_13 rfl 1 rfl ?_
  refine z_icmp_ge C dX8_ticksBy_14 (tgt := 27) (by decide) (fun hc103 => ?_) (fun hc103 => ?_)
  · have h := h.1 hc103
    exact z_vret C hr u rfl h dX8_ticksBy_27
  · have h := h.2 hc103
    refine z_aload_n C dX8_ticksBy_17 rfl 0 rfl ?_
    refine cRv (As := []) C (c_X8_ticks l g ad u _ h) v_X8_ticks ml8_231 rfl ⟨Nat.le_of_ble_eq_true rfl, Nat.le_of_ble_eq_true rfl⟩ ⟨Nat.zero_le _, Nat.zero_le _⟩ (Nat.le_of_ble_eq_true rfl) rfl dX8_ticksBy_18 ?_
    intro u104 h
    obtain ⟨x105, ex105⟩ : ∃ y : Int32, y = x2 + 1 := ⟨_, rfl⟩
    have h := h x105 ex105
    refine z_iinc (v := x105) (lv1 := [(2, .int x105), (0, .ref (ad 0)), (1, .int x1)]) C dX8_ticksBy_21 2 rfl (by rw [ex105]; rfl) (by decide) rfl ?_
    refine z_goto C dX8_ticksBy_24 (tgt := 12) (by decide) ?_
    refine z_lv (lv1 := [(0, .ref (ad 0)), (1, .int x1), (2, .int x105)]) [1, 2, 0] rfl ?_
    exact hB12 u104 x1 x105 h
theorem l_X8_ticksBy_12 (C : zC p s m args meth c g A cX8_ticksBy RX8 3) (hr : meth.sig.returnType = none) (ad : Nat → Nat) (Q : RS → Prop) : ∀ (n : Nat) (u : RS) (x1 : Int32) (x2 : Int32), zit3 (wp_X8_ticksBy_12 Q) n u x1 x2 → j_X8_ticksBy p l e s m args below meth c g A ad Q u 12 [(0, .ref (ad 0)), (1, .int x1), (2, .int x2)] [] := by
  intro n
  induction n with
  | zero => exact fun u x1 x2 h => h.elim
  | succ n ih => exact fun u x1 x2 h => b_X8_ticksBy_12 C hr ad Q (zit3 (wp_X8_ticksBy_12 Q) n) ih u x1 x2 h
def wp_X8_ticksBy (u : RS) (x1 : Int32) (Q : RS → Prop) : Prop :=
  ∀ u101 : RS, u101 = rN u 18 0 → ∀ u102 : RS, u102 = rN u101 19 0 → (∃ n, zit3 (wp_X8_ticksBy_12 Q) n u102 x1 0)
set_option maxRecDepth 20000 in
theorem c_X8_ticksBy (l : Launch) (g : zG) (ad : Nat → Nat) (u : RS) (x1 : Int32) (Q : RS → Prop) (h : wp_X8_ticksBy u x1 Q) : zMv l yX8_ticksBy cX8_ticksBy 3 none 9 0 0 g [.ref (ad 0), .int x1] (wR g ad u) (wR g ad) Q := by
  refine zMv_of RX8 (by decide) rfl [(0, .ref (ad 0)), (1, .int x1)] rfl (Nat.le_of_ble_eq_true rfl) (fun p e s m args below meth c A C hr hnm => ?_)
  unfold wp_X8_ticksBy at h
  refine z_aload_n C dX8_ticksBy_0 rfl 0 rfl ?_
  refine z_iconst (v := 0) C dX8_ticksBy_1 (by decide) ?_
  refine pR_givenMany C dX8_ticksBy_2 ?_
  refine z_stR (fun u101 eu101 => ?_)
  have h := h u101 eu101
  refine z_aload_n C dX8_ticksBy_5 rfl 0 rfl ?_
  refine z_iconst (v := 0) C dX8_ticksBy_6 (by decide) ?_
  refine pR_callMany C dX8_ticksBy_7 ?_
  refine z_stR (fun u102 eu102 => ?_)
  have h := h u102 eu102
  refine z_iconst (v := 0) C dX8_ticksBy_10 (by decide) ?_
  refine z_istore_n (lv1 := [(2, .int 0), (0, .ref (ad 0)), (1, .int x1)]) C dX8_ticksBy_11 rfl (by decide) rfl ?_
  refine z_lv (lv1 := [(0, .ref (ad 0)), (1, .int x1), (2, .int 0)]) [1, 2, 0] rfl ?_
  obtain ⟨n9, h⟩ := h
  exact l_X8_ticksBy_12 C hr ad Q n9 u102 x1 0 h
abbrev j_X8_drain (p : Program) (l : Launch) (e : Env) (s : State) (m : MethodId) (args : Array Value) (below : List Frame) (meth : Method) (c : Code) (g : zG) (A : Nat → Prop) (ad : Nat → Nat) (Q : Int32 → RS → Prop) (u : RS) (pc : Nat) (lv : List (Nat × Value)) (st : List Value) : Prop := zJ p l e (zR 9 0 0) s m args below meth c g A 3 (zQi below args s g A 0 0 (wR g ad) Q) (wR g ad u) 0 0 pc lv st
def wp_X8_drain_68 (Q : Int32 → RS → Prop) (u : RS) (t0 : Int32) : Prop :=
  wp_X8_bring_ahead u 0 (fun u109 => Q t0 u109)
set_option maxRecDepth 20000 in
theorem b_X8_drain_68 (C : zC p s m args meth c g A cX8_drain RX8 3) (hr : meth.sig.returnType = (some .int)) (ad : Nat → Nat) (Q : Int32 → RS → Prop) (u : RS) (t0 : Int32) (h : wp_X8_drain_68 Q u t0) : j_X8_drain p l e s m args below meth c g A ad Q u 68 [(0, .ref (ad 0))] [.int t0] := by
  unfold wp_X8_drain_68 at h
  refine z_istore_n (lv1 := [(2, .int t0), (0, .ref (ad 0))]) C dX8_drain_68 rfl (by decide) rfl ?_
  refine z_aload_n C dX8_drain_69 rfl 1 rfl ?_
  refine z_aload_n C dX8_drain_70 rfl 1 rfl ?_
  refine gR_ahead C dX8_drain_71 ?_
  refine z_aload_n C dX8_drain_74 rfl 1 rfl ?_
  refine gR_aheadSums C dX8_drain_75 ?_
  refine z_iconst (v := 0) C dX8_drain_78 (by decide) ?_
  refine cRv (As := [.ref (ad 10), .ref (ad 11), .int 0]) C (c_X8_bring_ahead l g ad u 0 _ h) v_X8_bring ml8_78 rfl ⟨Nat.le_of_ble_eq_true rfl, Nat.le_of_ble_eq_true rfl⟩ ⟨Nat.zero_le _, Nat.zero_le _⟩ (Nat.le_of_ble_eq_true rfl) rfl dX8_drain_79 ?_
  intro u109 h
  refine z_iload_n C dX8_drain_82 rfl 0 rfl ?_
  exact z_iret C hr u109 rfl h dX8_drain_83
def wp_X8_drain_56 (Q : Int32 → RS → Prop) (u : RS) (x1 : Int32) : Prop :=
  wp_X8_packets u (fun r106 u107 => ((r106 ≤ 0 → wp_X8_drain_68 Q u107 x1) ∧ (¬ r106 ≤ 0 → wp_X8_drain_68 Q u107 (-1))))
set_option maxRecDepth 20000 in
theorem b_X8_drain_56 (C : zC p s m args meth c g A cX8_drain RX8 3) (hr : meth.sig.returnType = (some .int)) (ad : Nat → Nat) (Q : Int32 → RS → Prop) (u : RS) (x1 : Int32) (h : wp_X8_drain_56 Q u x1) : j_X8_drain p l e s m args below meth c g A ad Q u 56 [(0, .ref (ad 0)), (1, .int x1)] [] := by
  unfold wp_X8_drain_56 at h
  refine z_aload_n C dX8_drain_56 rfl 0 rfl ?_
  refine cRi (As := []) C (c_X8_packets l g ad u _ h) v_X8_packets ml8_275 rfl ⟨Nat.le_of_ble_eq_true rfl, Nat.le_of_ble_eq_true rfl⟩ ⟨Nat.zero_le _, Nat.zero_le _⟩ (Nat.le_of_ble_eq_true rfl) rfl dX8_drain_57 ?_
  intro r106 u107 h
  refine z_if_le C dX8_drain_60 (tgt := 67) (by decide) (fun hc108 => ?_) (fun hc108 => ?_)
  · have h := h.1 hc108
    refine z_iload_n C dX8_drain_67 rfl 1 rfl ?_
    refine z_lv (lv1 := [(0, .ref (ad 0))]) [0] rfl ?_
    exact b_X8_drain_68 C hr ad Q u107 x1 h
  · have h := h.2 hc108
    refine z_iconst (v := (-1)) C dX8_drain_63 (by decide) ?_
    refine z_goto C dX8_drain_64 (tgt := 68) (by decide) ?_
    refine z_lv (lv1 := [(0, .ref (ad 0))]) [0] rfl ?_
    exact b_X8_drain_68 C hr ad Q u107 (-1) h
def wp_X8_drain_20 (Q : Int32 → RS → Prop) (B20 : RS → Int32 → Prop) (u : RS) (x1 : Int32) : Prop :=
  wp_X8_packets u (fun r103 u104 => ((r103 ≤ 0 → wp_X8_drain_56 Q u104 x1) ∧ (¬ r103 ≤ 0 → ((200 ≤ x1 → wp_X8_drain_56 Q u104 x1) ∧ (¬ 200 ≤ x1 → ((99999 ≤ u104.1 3 6 → wp_X8_drain_56 Q u104 x1) ∧ (¬ 99999 ≤ u104.1 3 6 → wp_X8_ticks u104 (fun u112 => ∀ x113 : Int32, x113 = x1 + 1 → B20 u112 x113))))))))
set_option maxRecDepth 20000 in
theorem b_X8_drain_20 (C : zC p s m args meth c g A cX8_drain RX8 3) (hr : meth.sig.returnType = (some .int)) (ad : Nat → Nat) (Q : Int32 → RS → Prop) (B20 : RS → Int32 → Prop) (hB20 : ∀ (u : RS) (x1 : Int32), B20 u x1 → j_X8_drain p l e s m args below meth c g A ad Q u 20 [(0, .ref (ad 0)), (1, .int x1)] []) (u : RS) (x1 : Int32) (h : wp_X8_drain_20 Q B20 u x1) : j_X8_drain p l e s m args below meth c g A ad Q u 20 [(0, .ref (ad 0)), (1, .int x1)] [] := by
  unfold wp_X8_drain_20 at h
  refine z_aload_n C dX8_drain_20 rfl 0 rfl ?_
  refine cRi (As := []) C (c_X8_packets l g ad u _ h) v_X8_packets ml8_275 rfl ⟨Nat.le_of_ble_eq_true rfl, Nat.le_of_ble_eq_true rfl⟩ ⟨Nat.zero_le _, Nat.zero_le _⟩ (Nat.le_of_ble_eq_true rfl) rfl dX8_drain_21 ?_
  intro r103 u104 h
  refine z_if_le C dX8_drain_24 (tgt := 56) (by decide) (fun hc105 => ?_) (fun hc105 => ?_)
  · have h := h.1 hc105
    exact b_X8_drain_56 C hr ad Q u104 x1 h
  · have h := h.2 hc105
    refine z_iload_n C dX8_drain_27 rfl 1 rfl ?_
    refine z_sipush (v := 200) C dX8_drain_28 (by decide) ?_
    refine z_icmp_ge C dX8_drain_31 (tgt := 56) (by decide) (fun hc110 => ?_) (fun hc110 => ?_)
    · have h := h.1 hc110
      exact b_X8_drain_56 C hr ad Q u104 x1 h
    · have h := h.2 hc110
      refine z_aload_n C dX8_drain_34 rfl 0 rfl ?_
      refine gR_row C dX8_drain_35 ?_
      refine z_bipush (v := 6) C dX8_drain_38 (by decide) ?_
      refine lRn_row C 6 (by decide +kernel) (vp_in_iff.mpr (by decide +kernel)) dX8_drain_40 ?_
      refine z_ldc (v := 99999) C dX8_drain_41 k8_236 ?_
      refine z_icmp_ge C dX8_drain_43 (tgt := 56) (by decide) (fun hc111 => ?_) (fun hc111 => ?_)
      · have h := h.1 hc111
        exact b_X8_drain_56 C hr ad Q u104 x1 h
      · have h := h.2 hc111
        refine z_aload_n C dX8_drain_46 rfl 0 rfl ?_
        refine cRv (As := []) C (c_X8_ticks l g ad u104 _ h) v_X8_ticks ml8_231 rfl ⟨Nat.le_of_ble_eq_true rfl, Nat.le_of_ble_eq_true rfl⟩ ⟨Nat.zero_le _, Nat.zero_le _⟩ (Nat.le_of_ble_eq_true rfl) rfl dX8_drain_47 ?_
        intro u112 h
        obtain ⟨x113, ex113⟩ : ∃ y : Int32, y = x1 + 1 := ⟨_, rfl⟩
        have h := h x113 ex113
        refine z_iinc (v := x113) (lv1 := [(1, .int x113), (0, .ref (ad 0))]) C dX8_drain_50 1 rfl (by rw [ex113]; rfl) (by decide) rfl ?_
        refine z_goto C dX8_drain_53 (tgt := 20) (by decide) ?_
        refine z_lv (lv1 := [(0, .ref (ad 0)), (1, .int x113)]) [1, 0] rfl ?_
        exact hB20 u112 x113 h
theorem l_X8_drain_20 (C : zC p s m args meth c g A cX8_drain RX8 3) (hr : meth.sig.returnType = (some .int)) (ad : Nat → Nat) (Q : Int32 → RS → Prop) : ∀ (n : Nat) (u : RS) (x1 : Int32), zit2 (wp_X8_drain_20 Q) n u x1 → j_X8_drain p l e s m args below meth c g A ad Q u 20 [(0, .ref (ad 0)), (1, .int x1)] [] := by
  intro n
  induction n with
  | zero => exact fun u x1 h => h.elim
  | succ n ih => exact fun u x1 h => b_X8_drain_20 C hr ad Q (zit2 (wp_X8_drain_20 Q) n) ih u x1 h
def wp_X8_drain (u : RS) (Q : Int32 → RS → Prop) : Prop :=
  ∀ u101 : RS, u101 = rN u 0 0 → wp_X8_lay_ahead u101 0 (fun u102 => (∃ n, zit2 (wp_X8_drain_20 Q) n u102 0))
set_option maxRecDepth 20000 in
theorem c_X8_drain (l : Launch) (g : zG) (ad : Nat → Nat) (u : RS) (Q : Int32 → RS → Prop) (h : wp_X8_drain u Q) : zMi l yX8_drain cX8_drain 3 (some .int) 9 0 0 g [.ref (ad 0)] (wR g ad u) (wR g ad) Q := by
  refine zMi_of RX8 (by decide) rfl [(0, .ref (ad 0))] rfl (Nat.le_of_ble_eq_true rfl) (fun p e s m args below meth c A C hr hnm => ?_)
  unfold wp_X8_drain at h
  refine z_aload_n C dX8_drain_0 rfl 0 rfl ?_
  refine z_iconst (v := 0) C dX8_drain_1 (by decide) ?_
  refine pR_thrown C dX8_drain_2 ?_
  refine z_stR (fun u101 eu101 => ?_)
  have h := h u101 eu101
  refine z_aload_n C dX8_drain_5 rfl 0 rfl ?_
  refine z_aload_n C dX8_drain_6 rfl 0 rfl ?_
  refine gR_ahead C dX8_drain_7 ?_
  refine z_aload_n C dX8_drain_10 rfl 0 rfl ?_
  refine gR_aheadSums C dX8_drain_11 ?_
  refine z_iconst (v := 0) C dX8_drain_14 (by decide) ?_
  refine cRv (As := [.ref (ad 10), .ref (ad 11), .int 0]) C (c_X8_lay_ahead l g ad u101 0 _ h) v_X8_lay ml8_71 rfl ⟨Nat.le_of_ble_eq_true rfl, Nat.le_of_ble_eq_true rfl⟩ ⟨Nat.zero_le _, Nat.zero_le _⟩ (Nat.le_of_ble_eq_true rfl) rfl dX8_drain_15 ?_
  intro u102 h
  refine z_iconst (v := 0) C dX8_drain_18 (by decide) ?_
  refine z_istore_n (lv1 := [(1, .int 0), (0, .ref (ad 0))]) C dX8_drain_19 rfl (by decide) rfl ?_
  refine z_lv (lv1 := [(0, .ref (ad 0)), (1, .int 0)]) [1, 0] rfl ?_
  obtain ⟨n9, h⟩ := h
  exact l_X8_drain_20 C hr ad Q n9 u102 0 h
abbrev j_X8_nextCall (p : Program) (l : Launch) (e : Env) (s : State) (m : MethodId) (args : Array Value) (below : List Frame) (meth : Method) (c : Code) (g : zG) (A : Nat → Prop) (ad : Nat → Nat) (Q : Int32 → RS → Prop) (u : RS) (pc : Nat) (lv : List (Nat × Value)) (st : List Value) : Prop := zJ p l e (zR 9 0 0) s m args below meth c g A 5 (zQi below args s g A 0 0 (wR g ad) Q) (wR g ad u) 0 0 pc lv st
def wp_X8_nextCall_24 (Q : Int32 → RS → Prop) (u : RS) : Prop :=
  Q (-1) u
set_option maxRecDepth 20000 in
theorem b_X8_nextCall_24 (C : zC p s m args meth c g A cX8_nextCall RX8 5) (hr : meth.sig.returnType = (some .int)) (ad : Nat → Nat) (Q : Int32 → RS → Prop) (u : RS) (h : wp_X8_nextCall_24 Q u) : j_X8_nextCall p l e s m args below meth c g A ad Q u 24 [(0, .ref (ad 0))] [] := by
  unfold wp_X8_nextCall_24 at h
  refine z_iconst (v := (-1)) C dX8_nextCall_24 (by decide) ?_
  exact z_iret C hr u rfl h dX8_nextCall_25
def wp_X8_nextCall_110 (Q : Int32 → RS → Prop) (u : RS) (t0 : Int32) : Prop :=
  wp_X8_bring_ahead u 0 (fun u117 => Q t0 u117)
set_option maxRecDepth 20000 in
theorem b_X8_nextCall_110 (C : zC p s m args meth c g A cX8_nextCall RX8 5) (hr : meth.sig.returnType = (some .int)) (ad : Nat → Nat) (Q : Int32 → RS → Prop) (u : RS) (t0 : Int32) (h : wp_X8_nextCall_110 Q u t0) : j_X8_nextCall p l e s m args below meth c g A ad Q u 110 [(0, .ref (ad 0))] [.int t0] := by
  unfold wp_X8_nextCall_110 at h
  refine z_istore (lv1 := [(4, .int t0), (0, .ref (ad 0))]) C dX8_nextCall_110 (by decide) rfl ?_
  refine z_aload_n C dX8_nextCall_112 rfl 1 rfl ?_
  refine z_aload_n C dX8_nextCall_113 rfl 1 rfl ?_
  refine gR_ahead C dX8_nextCall_114 ?_
  refine z_aload_n C dX8_nextCall_117 rfl 1 rfl ?_
  refine gR_aheadSums C dX8_nextCall_118 ?_
  refine z_iconst (v := 0) C dX8_nextCall_121 (by decide) ?_
  refine cRv (As := [.ref (ad 10), .ref (ad 11), .int 0]) C (c_X8_bring_ahead l g ad u 0 _ h) v_X8_bring ml8_78 rfl ⟨Nat.le_of_ble_eq_true rfl, Nat.le_of_ble_eq_true rfl⟩ ⟨Nat.zero_le _, Nat.zero_le _⟩ (Nat.le_of_ble_eq_true rfl) rfl dX8_nextCall_122 ?_
  intro u117 h
  refine z_iload C dX8_nextCall_125 0 rfl ?_
  exact z_iret C hr u117 rfl h dX8_nextCall_127
def wp_X8_nextCall_90 (Q : Int32 → RS → Prop) (u : RS) (x1 : Int32) (x2 : Int32) (x3 : Int32) : Prop :=
  wp_X8_queueAt x1 (fun r114 => vp_in (r114 + 3) 1065 ∧ ((¬ u.1 3 (zn (r114 + 3)) = x2 → wp_X8_nextCall_110 Q u x3) ∧ (u.1 3 (zn (r114 + 3)) = x2 → wp_X8_nextCall_110 Q u (-1))))
set_option maxRecDepth 20000 in
theorem b_X8_nextCall_90 (C : zC p s m args meth c g A cX8_nextCall RX8 5) (hr : meth.sig.returnType = (some .int)) (ad : Nat → Nat) (Q : Int32 → RS → Prop) (u : RS) (x1 : Int32) (x2 : Int32) (x3 : Int32) (h : wp_X8_nextCall_90 Q u x1 x2 x3) : j_X8_nextCall p l e s m args below meth c g A ad Q u 90 [(0, .ref (ad 0)), (1, .int x1), (2, .int x2), (3, .int x3)] [] := by
  unfold wp_X8_nextCall_90 at h
  refine z_aload_n C dX8_nextCall_90 rfl 0 rfl ?_
  refine gR_row C dX8_nextCall_91 ?_
  refine z_iload_n C dX8_nextCall_94 rfl 1 rfl ?_
  refine cSi (As := [.int x1]) C (c_X8_queueAt l g x1 _ h) s_X8_queueAt ml8_57 ⟨Nat.le_of_ble_eq_true rfl, Nat.le_of_ble_eq_true rfl⟩ ⟨Nat.zero_le _, Nat.zero_le _⟩ (Nat.le_of_ble_eq_true rfl) rfl dX8_nextCall_95 ?_
  intro r114 h
  refine z_iconst (v := 3) C dX8_nextCall_98 (by decide) ?_
  refine z_iadd C dX8_nextCall_99 ?_
  obtain ⟨hi115, h⟩ := h
  refine lR_row C hi115 dX8_nextCall_100 ?_
  refine z_iload_n C dX8_nextCall_101 rfl 2 rfl ?_
  refine z_icmp_ne C dX8_nextCall_102 (tgt := 109) (by decide) (fun hc116 => ?_) (fun hc116 => ?_)
  · have h := h.1 hc116
    refine z_iload_n C dX8_nextCall_109 rfl 3 rfl ?_
    refine z_lv (lv1 := [(0, .ref (ad 0))]) [0] rfl ?_
    exact b_X8_nextCall_110 C hr ad Q u x3 h
  · have h := h.2 hc116
    refine z_iconst (v := (-1)) C dX8_nextCall_105 (by decide) ?_
    refine z_goto C dX8_nextCall_106 (tgt := 110) (by decide) ?_
    refine z_lv (lv1 := [(0, .ref (ad 0))]) [0] rfl ?_
    exact b_X8_nextCall_110 C hr ad Q u (-1) h
def wp_X8_nextCall_53 (Q : Int32 → RS → Prop) (B53 : RS → Int32 → Int32 → Int32 → Prop) (u : RS) (x1 : Int32) (x2 : Int32) (x3 : Int32) : Prop :=
  wp_X8_queueAt x1 (fun r111 => vp_in (r111 + 3) 1065 ∧ ((¬ u.1 3 (zn (r111 + 3)) = x2 → wp_X8_nextCall_90 Q u x1 x2 x3) ∧ (u.1 3 (zn (r111 + 3)) = x2 → ((99999 ≤ u.1 3 6 → wp_X8_nextCall_90 Q u x1 x2 x3) ∧ (¬ 99999 ≤ u.1 3 6 → wp_X8_ticks u (fun u119 => ∀ x120 : Int32, x120 = x3 + 1 → B53 u119 x1 x2 x120))))))
set_option maxRecDepth 20000 in
theorem b_X8_nextCall_53 (C : zC p s m args meth c g A cX8_nextCall RX8 5) (hr : meth.sig.returnType = (some .int)) (ad : Nat → Nat) (Q : Int32 → RS → Prop) (B53 : RS → Int32 → Int32 → Int32 → Prop) (hB53 : ∀ (u : RS) (x1 : Int32) (x2 : Int32) (x3 : Int32), B53 u x1 x2 x3 → j_X8_nextCall p l e s m args below meth c g A ad Q u 53 [(0, .ref (ad 0)), (1, .int x1), (2, .int x2), (3, .int x3)] []) (u : RS) (x1 : Int32) (x2 : Int32) (x3 : Int32) (h : wp_X8_nextCall_53 Q B53 u x1 x2 x3) : j_X8_nextCall p l e s m args below meth c g A ad Q u 53 [(0, .ref (ad 0)), (1, .int x1), (2, .int x2), (3, .int x3)] [] := by
  unfold wp_X8_nextCall_53 at h
  refine z_aload_n C dX8_nextCall_53 rfl 0 rfl ?_
  refine gR_row C dX8_nextCall_54 ?_
  refine z_iload_n C dX8_nextCall_57 rfl 1 rfl ?_
  refine cSi (As := [.int x1]) C (c_X8_queueAt l g x1 _ h) s_X8_queueAt ml8_57 ⟨Nat.le_of_ble_eq_true rfl, Nat.le_of_ble_eq_true rfl⟩ ⟨Nat.zero_le _, Nat.zero_le _⟩ (Nat.le_of_ble_eq_true rfl) rfl dX8_nextCall_58 ?_
  intro r111 h
  refine z_iconst (v := 3) C dX8_nextCall_61 (by decide) ?_
  refine z_iadd C dX8_nextCall_62 ?_
  obtain ⟨hi112, h⟩ := h
  refine lR_row C hi112 dX8_nextCall_63 ?_
  refine z_iload_n C dX8_nextCall_64 rfl 2 rfl ?_
  refine z_icmp_ne C dX8_nextCall_65 (tgt := 90) (by decide) (fun hc113 => ?_) (fun hc113 => ?_)
  · have h := h.1 hc113
    exact b_X8_nextCall_90 C hr ad Q u x1 x2 x3 h
  · have h := h.2 hc113
    refine z_aload_n C dX8_nextCall_68 rfl 0 rfl ?_
    refine gR_row C dX8_nextCall_69 ?_
    refine z_bipush (v := 6) C dX8_nextCall_72 (by decide) ?_
    refine lRn_row C 6 (by decide +kernel) (vp_in_iff.mpr (by decide +kernel)) dX8_nextCall_74 ?_
    refine z_ldc (v := 99999) C dX8_nextCall_75 k8_236 ?_
    refine z_icmp_ge C dX8_nextCall_77 (tgt := 90) (by decide) (fun hc118 => ?_) (fun hc118 => ?_)
    · have h := h.1 hc118
      exact b_X8_nextCall_90 C hr ad Q u x1 x2 x3 h
    · have h := h.2 hc118
      refine z_aload_n C dX8_nextCall_80 rfl 0 rfl ?_
      refine cRv (As := []) C (c_X8_ticks l g ad u _ h) v_X8_ticks ml8_231 rfl ⟨Nat.le_of_ble_eq_true rfl, Nat.le_of_ble_eq_true rfl⟩ ⟨Nat.zero_le _, Nat.zero_le _⟩ (Nat.le_of_ble_eq_true rfl) rfl dX8_nextCall_81 ?_
      intro u119 h
      obtain ⟨x120, ex120⟩ : ∃ y : Int32, y = x3 + 1 := ⟨_, rfl⟩
      have h := h x120 ex120
      refine z_iinc (v := x120) (lv1 := [(3, .int x120), (0, .ref (ad 0)), (1, .int x1), (2, .int x2)]) C dX8_nextCall_84 3 rfl (by rw [ex120]; rfl) (by decide) rfl ?_
      refine z_goto C dX8_nextCall_87 (tgt := 53) (by decide) ?_
      refine z_lv (lv1 := [(0, .ref (ad 0)), (1, .int x1), (2, .int x2), (3, .int x120)]) [1, 2, 3, 0] rfl ?_
      exact hB53 u119 x1 x2 x120 h
theorem l_X8_nextCall_53 (C : zC p s m args meth c g A cX8_nextCall RX8 5) (hr : meth.sig.returnType = (some .int)) (ad : Nat → Nat) (Q : Int32 → RS → Prop) : ∀ (n : Nat) (u : RS) (x1 : Int32) (x2 : Int32) (x3 : Int32), zit4 (wp_X8_nextCall_53 Q) n u x1 x2 x3 → j_X8_nextCall p l e s m args below meth c g A ad Q u 53 [(0, .ref (ad 0)), (1, .int x1), (2, .int x2), (3, .int x3)] [] := by
  intro n
  induction n with
  | zero => exact fun u x1 x2 x3 h => h.elim
  | succ n ih => exact fun u x1 x2 x3 h => b_X8_nextCall_53 C hr ad Q (zit4 (wp_X8_nextCall_53 Q) n) ih u x1 x2 x3 h
def wp_X8_nextCall (u : RS) (x1 : Int32) (Q : Int32 → RS → Prop) : Prop :=
  ∀ u101 : RS, u101 = rN u 0 0 → wp_X8_isQueue x1 (fun r102 => ((r102 = 0 → wp_X8_nextCall_24 Q u101) ∧ (¬ r102 = 0 → wp_X8_queueAt x1 (fun r104 => vp_in r104 1065 ∧ ((¬ u101.1 3 (zn r104) = 0 → wp_X8_lay_ahead u101 0 (fun u107 => wp_X8_queueAt x1 (fun r108 => vp_in (r108 + 3) 1065 ∧ ∀ x110 : Int32, x110 = u107.1 3 (zn (r108 + 3)) → (∃ n, zit4 (wp_X8_nextCall_53 Q) n u107 x1 x110 0)))) ∧ (u101.1 3 (zn r104) = 0 → wp_X8_nextCall_24 Q u101))))))
set_option maxRecDepth 20000 in
theorem c_X8_nextCall (l : Launch) (g : zG) (ad : Nat → Nat) (u : RS) (x1 : Int32) (Q : Int32 → RS → Prop) (h : wp_X8_nextCall u x1 Q) : zMi l yX8_nextCall cX8_nextCall 5 (some .int) 9 0 0 g [.ref (ad 0), .int x1] (wR g ad u) (wR g ad) Q := by
  refine zMi_of RX8 (by decide) rfl [(0, .ref (ad 0)), (1, .int x1)] rfl (Nat.le_of_ble_eq_true rfl) (fun p e s m args below meth c A C hr hnm => ?_)
  unfold wp_X8_nextCall at h
  refine z_aload_n C dX8_nextCall_0 rfl 0 rfl ?_
  refine z_iconst (v := 0) C dX8_nextCall_1 (by decide) ?_
  refine pR_thrown C dX8_nextCall_2 ?_
  refine z_stR (fun u101 eu101 => ?_)
  have h := h u101 eu101
  refine z_iload_n C dX8_nextCall_5 rfl 1 rfl ?_
  refine cSi (As := [.int x1]) C (c_X8_isQueue l g x1 _ h) s_X8_isQueue ml8_150 ⟨Nat.le_of_ble_eq_true rfl, Nat.le_of_ble_eq_true rfl⟩ ⟨Nat.zero_le _, Nat.zero_le _⟩ (Nat.le_of_ble_eq_true rfl) rfl dX8_nextCall_6 ?_
  intro r102 h
  refine z_if_eq C dX8_nextCall_9 (tgt := 24) (by decide) (fun hc103 => ?_) (fun hc103 => ?_)
  · have h := h.1 hc103
    refine z_lv (lv1 := [(0, .ref (ad 0))]) [0] rfl ?_
    exact b_X8_nextCall_24 C hr ad Q u101 h
  · have h := h.2 hc103
    refine z_aload_n C dX8_nextCall_12 rfl 0 rfl ?_
    refine gR_row C dX8_nextCall_13 ?_
    refine z_iload_n C dX8_nextCall_16 rfl 1 rfl ?_
    refine cSi (As := [.int x1]) C (c_X8_queueAt l g x1 _ h) s_X8_queueAt ml8_57 ⟨Nat.le_of_ble_eq_true rfl, Nat.le_of_ble_eq_true rfl⟩ ⟨Nat.zero_le _, Nat.zero_le _⟩ (Nat.le_of_ble_eq_true rfl) rfl dX8_nextCall_17 ?_
    intro r104 h
    obtain ⟨hi105, h⟩ := h
    refine lR_row C hi105 dX8_nextCall_20 ?_
    refine z_if_ne C dX8_nextCall_21 (tgt := 26) (by decide) (fun hc106 => ?_) (fun hc106 => ?_)
    · have h := h.1 hc106
      refine z_aload_n C dX8_nextCall_26 rfl 0 rfl ?_
      refine z_aload_n C dX8_nextCall_27 rfl 0 rfl ?_
      refine gR_ahead C dX8_nextCall_28 ?_
      refine z_aload_n C dX8_nextCall_31 rfl 0 rfl ?_
      refine gR_aheadSums C dX8_nextCall_32 ?_
      refine z_iconst (v := 0) C dX8_nextCall_35 (by decide) ?_
      refine cRv (As := [.ref (ad 10), .ref (ad 11), .int 0]) C (c_X8_lay_ahead l g ad u101 0 _ h) v_X8_lay ml8_71 rfl ⟨Nat.le_of_ble_eq_true rfl, Nat.le_of_ble_eq_true rfl⟩ ⟨Nat.zero_le _, Nat.zero_le _⟩ (Nat.le_of_ble_eq_true rfl) rfl dX8_nextCall_36 ?_
      intro u107 h
      refine z_aload_n C dX8_nextCall_39 rfl 0 rfl ?_
      refine gR_row C dX8_nextCall_40 ?_
      refine z_iload_n C dX8_nextCall_43 rfl 1 rfl ?_
      refine cSi (As := [.int x1]) C (c_X8_queueAt l g x1 _ h) s_X8_queueAt ml8_57 ⟨Nat.le_of_ble_eq_true rfl, Nat.le_of_ble_eq_true rfl⟩ ⟨Nat.zero_le _, Nat.zero_le _⟩ (Nat.le_of_ble_eq_true rfl) rfl dX8_nextCall_44 ?_
      intro r108 h
      refine z_iconst (v := 3) C dX8_nextCall_47 (by decide) ?_
      refine z_iadd C dX8_nextCall_48 ?_
      obtain ⟨hi109, h⟩ := h
      refine lR_row C hi109 dX8_nextCall_49 ?_
      refine z_topi (fun x110 ex110 => ?_)
      have h := h x110 ex110
      refine z_istore_n (lv1 := [(2, .int x110), (0, .ref (ad 0)), (1, .int x1)]) C dX8_nextCall_50 rfl (by decide) rfl ?_
      refine z_iconst (v := 0) C dX8_nextCall_51 (by decide) ?_
      refine z_istore_n (lv1 := [(3, .int 0), (2, .int x110), (0, .ref (ad 0)), (1, .int x1)]) C dX8_nextCall_52 rfl (by decide) rfl ?_
      refine z_lv (lv1 := [(0, .ref (ad 0)), (1, .int x1), (2, .int x110), (3, .int 0)]) [2, 3, 1, 0] rfl ?_
      obtain ⟨n9, h⟩ := h
      exact l_X8_nextCall_53 C hr ad Q n9 u107 x1 x110 0 h
    · have h := h.2 hc106
      refine z_lv (lv1 := [(0, .ref (ad 0))]) [0] rfl ?_
      exact b_X8_nextCall_24 C hr ad Q u101 h
abbrev j_X8_tick (p : Program) (l : Launch) (e : Env) (s : State) (m : MethodId) (args : Array Value) (below : List Frame) (meth : Method) (c : Code) (g : zG) (A : Nat → Prop) (ad : Nat → Nat) (Q : Int32 → RS → Prop) (u : RS) (pc : Nat) (lv : List (Nat × Value)) (st : List Value) : Prop := zJ p l e (zR 10 0 0) s m args below meth c g A 2 (zQi below args s g A 0 0 (wR g ad) Q) (wR g ad u) 0 0 pc lv st
def wp_X8_tick (u : RS) (x1 : Int32) (Q : Int32 → RS → Prop) : Prop :=
  ∀ u101 : RS, u101 = rN u 0 0 → wp_X8_in ((x1).toInt64) 1 100 (fun r102 => ((¬ r102 = 0 → (((u101.1 3 6) + x1 ≤ 99999 → wp_X8_remember u101 11 (fun u105 => wp_X8_ticksBy u105 x1 (fun u106 => wp_X8_tell u106 (u106.1 18 0) (fun r107 u108 => Q r107 u108)))) ∧ (¬ (u101.1 3 6) + x1 ≤ 99999 → wp_X8_refuse u101 (-4) (fun r109 u110 => Q r109 u110)))) ∧ (r102 = 0 → wp_X8_refuse u101 (-1) (fun r111 u112 => Q r111 u112))))
set_option maxRecDepth 20000 in
theorem c_X8_tick (l : Launch) (g : zG) (ad : Nat → Nat) (u : RS) (x1 : Int32) (Q : Int32 → RS → Prop) (h : wp_X8_tick u x1 Q) : zMi l yX8_tick cX8_tick 2 (some .int) 10 0 0 g [.ref (ad 0), .int x1] (wR g ad u) (wR g ad) Q := by
  refine zMi_of RX8 (by decide) rfl [(0, .ref (ad 0)), (1, .int x1)] rfl (Nat.le_of_ble_eq_true rfl) (fun p e s m args below meth c A C hr hnm => ?_)
  unfold wp_X8_tick at h
  refine z_aload_n C dX8_tick_0 rfl 0 rfl ?_
  refine z_iconst (v := 0) C dX8_tick_1 (by decide) ?_
  refine pR_thrown C dX8_tick_2 ?_
  refine z_stR (fun u101 eu101 => ?_)
  have h := h u101 eu101
  refine z_iload_n C dX8_tick_5 rfl 1 rfl ?_
  refine z_i2l C dX8_tick_6 ?_
  refine z_lconst (v := 1) C dX8_tick_7 (by decide) ?_
  refine z_ldc2 (v := 100) C dX8_tick_8 k8_234 ?_
  refine cSi (As := [.long ((x1).toInt64), .long 1, .long 100]) C (c_X8_in l g ((x1).toInt64) 1 100 _ h) s_X8_in ml8_84 ⟨Nat.le_of_ble_eq_true rfl, Nat.le_of_ble_eq_true rfl⟩ ⟨Nat.zero_le _, Nat.zero_le _⟩ (Nat.le_of_ble_eq_true rfl) rfl dX8_tick_11 ?_
  intro r102 h
  refine z_if_ne C dX8_tick_14 (tgt := 23) (by decide) (fun hc103 => ?_) (fun hc103 => ?_)
  · have h := h.1 hc103
    refine z_aload_n C dX8_tick_23 rfl 0 rfl ?_
    refine gR_row C dX8_tick_24 ?_
    refine z_bipush (v := 6) C dX8_tick_27 (by decide) ?_
    refine lRn_row C 6 (by decide +kernel) (vp_in_iff.mpr (by decide +kernel)) dX8_tick_29 ?_
    refine z_iload_n C dX8_tick_30 rfl 1 rfl ?_
    refine z_iadd C dX8_tick_31 ?_
    refine z_ldc (v := 99999) C dX8_tick_32 k8_236 ?_
    refine z_icmp_le C dX8_tick_34 (tgt := 44) (by decide) (fun hc104 => ?_) (fun hc104 => ?_)
    · have h := h.1 hc104
      refine z_aload_n C dX8_tick_44 rfl 0 rfl ?_
      refine z_bipush (v := 11) C dX8_tick_45 (by decide) ?_
      refine cRv (As := [.int 11]) C (c_X8_remember l g ad u101 11 _ h) v_X8_remember ml8_129 rfl ⟨Nat.le_of_ble_eq_true rfl, Nat.le_of_ble_eq_true rfl⟩ ⟨Nat.zero_le _, Nat.zero_le _⟩ (Nat.le_of_ble_eq_true rfl) rfl dX8_tick_47 ?_
      intro u105 h
      refine z_aload_n C dX8_tick_50 rfl 0 rfl ?_
      refine z_iload_n C dX8_tick_51 rfl 1 rfl ?_
      refine cRv (As := [.int x1]) C (c_X8_ticksBy l g ad u105 x1 _ h) v_X8_ticksBy ml8_237 rfl ⟨Nat.le_of_ble_eq_true rfl, Nat.le_of_ble_eq_true rfl⟩ ⟨Nat.zero_le _, Nat.zero_le _⟩ (Nat.le_of_ble_eq_true rfl) rfl dX8_tick_52 ?_
      intro u106 h
      refine z_aload_n C dX8_tick_55 rfl 0 rfl ?_
      refine z_aload_n C dX8_tick_56 rfl 0 rfl ?_
      refine gR_givenMany C dX8_tick_57 ?_
      refine cRi (As := [.int (u106.1 18 0)]) C (c_X8_tell l g ad u106 (u106.1 18 0) _ h) v_X8_tell ml8_81 rfl ⟨Nat.le_of_ble_eq_true rfl, Nat.le_of_ble_eq_true rfl⟩ ⟨Nat.zero_le _, Nat.zero_le _⟩ (Nat.le_of_ble_eq_true rfl) rfl dX8_tick_60 ?_
      intro r107 u108 h
      exact z_iret C hr u108 rfl h dX8_tick_63
    · have h := h.2 hc104
      refine z_aload_n C dX8_tick_37 rfl 0 rfl ?_
      refine z_bipush (v := (-4)) C dX8_tick_38 (by decide) ?_
      refine cRi (As := [.int (-4)]) C (c_X8_refuse l g ad u101 (-4) _ h) v_X8_refuse ml8_75 rfl ⟨Nat.le_of_ble_eq_true rfl, Nat.le_of_ble_eq_true rfl⟩ ⟨Nat.zero_le _, Nat.zero_le _⟩ (Nat.le_of_ble_eq_true rfl) rfl dX8_tick_40 ?_
      intro r109 u110 h
      exact z_iret C hr u110 rfl h dX8_tick_43
  · have h := h.2 hc103
    refine z_aload_n C dX8_tick_17 rfl 0 rfl ?_
    refine z_iconst (v := (-1)) C dX8_tick_18 (by decide) ?_
    refine cRi (As := [.int (-1)]) C (c_X8_refuse l g ad u101 (-1) _ h) v_X8_refuse ml8_75 rfl ⟨Nat.le_of_ble_eq_true rfl, Nat.le_of_ble_eq_true rfl⟩ ⟨Nat.zero_le _, Nat.zero_le _⟩ (Nat.le_of_ble_eq_true rfl) rfl dX8_tick_19 ?_
    intro r111 u112 h
    exact z_iret C hr u112 rfl h dX8_tick_22
abbrev j_X8_would (p : Program) (l : Launch) (e : Env) (s : State) (m : MethodId) (args : Array Value) (below : List Frame) (meth : Method) (c : Code) (g : zG) (A : Nat → Prop) (ad : Nat → Nat) (Q : Int32 → RS → Prop) (u : RS) (pc : Nat) (lv : List (Nat × Value)) (st : List Value) : Prop := zJ p l e (zR 10 0 0) s m args below meth c g A 4 (zQi below args s g A 0 0 (wR g ad) Q) (wR g ad u) 0 0 pc lv st
def wp_X8_would_43 (Q : Int32 → RS → Prop) (u : RS) : Prop :=
  Q (-1) u
set_option maxRecDepth 20000 in
theorem b_X8_would_43 (C : zC p s m args meth c g A cX8_would RX8 4) (hr : meth.sig.returnType = (some .int)) (ad : Nat → Nat) (Q : Int32 → RS → Prop) (u : RS) (h : wp_X8_would_43 Q u) : j_X8_would p l e s m args below meth c g A ad Q u 43 [(0, .ref (ad 0))] [] := by
  unfold wp_X8_would_43 at h
  refine z_iconst (v := (-1)) C dX8_would_43 (by decide) ?_
  exact z_iret C hr u rfl h dX8_would_44
def wp_X8_would_104 (Q : Int32 → RS → Prop) (u : RS) (t0 : Int32) : Prop :=
  wp_X8_bring_ahead u 0 (fun u112 => Q t0 u112)
set_option maxRecDepth 20000 in
theorem b_X8_would_104 (C : zC p s m args meth c g A cX8_would RX8 4) (hr : meth.sig.returnType = (some .int)) (ad : Nat → Nat) (Q : Int32 → RS → Prop) (u : RS) (t0 : Int32) (h : wp_X8_would_104 Q u t0) : j_X8_would p l e s m args below meth c g A ad Q u 104 [(0, .ref (ad 0))] [.int t0] := by
  unfold wp_X8_would_104 at h
  refine z_istore_n (lv1 := [(3, .int t0), (0, .ref (ad 0))]) C dX8_would_104 rfl (by decide) rfl ?_
  refine z_aload_n C dX8_would_105 rfl 1 rfl ?_
  refine z_aload_n C dX8_would_106 rfl 1 rfl ?_
  refine gR_ahead C dX8_would_107 ?_
  refine z_aload_n C dX8_would_110 rfl 1 rfl ?_
  refine gR_aheadSums C dX8_would_111 ?_
  refine z_iconst (v := 0) C dX8_would_114 (by decide) ?_
  refine cRv (As := [.ref (ad 10), .ref (ad 11), .int 0]) C (c_X8_bring_ahead l g ad u 0 _ h) v_X8_bring ml8_78 rfl ⟨Nat.le_of_ble_eq_true rfl, Nat.le_of_ble_eq_true rfl⟩ ⟨Nat.zero_le _, Nat.zero_le _⟩ (Nat.le_of_ble_eq_true rfl) rfl dX8_would_115 ?_
  intro u112 h
  refine z_iload_n C dX8_would_118 rfl 0 rfl ?_
  exact z_iret C hr u112 rfl h dX8_would_119
def wp_X8_would (u : RS) (x1 : Int32) (x2 : Int32) (Q : Int32 → RS → Prop) : Prop :=
  ∀ u101 : RS, u101 = rN u 0 0 → wp_X8_in ((x1).toInt64) 1 100 (fun r102 => ((r102 = 0 → wp_X8_would_43 Q u101) ∧ (¬ r102 = 0 → ((99999 < (u101.1 3 6) + x1 → wp_X8_would_43 Q u101) ∧ (¬ 99999 < (u101.1 3 6) + x1 → wp_X8_in ((x2).toInt64) 0 3 (fun r105 => ((¬ r105 = 0 → wp_X8_lay_ahead u101 0 (fun u107 => wp_X8_ticksBy u107 x1 (fun u108 => ((¬ x2 = 0 → ((¬ x2 = 1 → ((¬ x2 = 2 → wp_X8_would_104 Q u108 (u108.1 3 5)) ∧ (x2 = 2 → wp_X8_would_104 Q u108 (u108.1 19 0)))) ∧ (x2 = 1 → wp_X8_would_104 Q u108 (u108.1 18 0)))) ∧ (x2 = 0 → wp_X8_packets u108 (fun r113 u114 => wp_X8_would_104 Q u114 r113)))))) ∧ (r105 = 0 → wp_X8_would_43 Q u101))))))))
set_option maxRecDepth 20000 in
theorem c_X8_would (l : Launch) (g : zG) (ad : Nat → Nat) (u : RS) (x1 : Int32) (x2 : Int32) (Q : Int32 → RS → Prop) (h : wp_X8_would u x1 x2 Q) : zMi l yX8_would cX8_would 4 (some .int) 10 0 0 g [.ref (ad 0), .int x1, .int x2] (wR g ad u) (wR g ad) Q := by
  refine zMi_of RX8 (by decide) rfl [(0, .ref (ad 0)), (1, .int x1), (2, .int x2)] rfl (Nat.le_of_ble_eq_true rfl) (fun p e s m args below meth c A C hr hnm => ?_)
  unfold wp_X8_would at h
  refine z_aload_n C dX8_would_0 rfl 0 rfl ?_
  refine z_iconst (v := 0) C dX8_would_1 (by decide) ?_
  refine pR_thrown C dX8_would_2 ?_
  refine z_stR (fun u101 eu101 => ?_)
  have h := h u101 eu101
  refine z_iload_n C dX8_would_5 rfl 1 rfl ?_
  refine z_i2l C dX8_would_6 ?_
  refine z_lconst (v := 1) C dX8_would_7 (by decide) ?_
  refine z_ldc2 (v := 100) C dX8_would_8 k8_234 ?_
  refine cSi (As := [.long ((x1).toInt64), .long 1, .long 100]) C (c_X8_in l g ((x1).toInt64) 1 100 _ h) s_X8_in ml8_84 ⟨Nat.le_of_ble_eq_true rfl, Nat.le_of_ble_eq_true rfl⟩ ⟨Nat.zero_le _, Nat.zero_le _⟩ (Nat.le_of_ble_eq_true rfl) rfl dX8_would_11 ?_
  intro r102 h
  refine z_if_eq C dX8_would_14 (tgt := 43) (by decide) (fun hc103 => ?_) (fun hc103 => ?_)
  · have h := h.1 hc103
    refine z_lv (lv1 := [(0, .ref (ad 0))]) [0] rfl ?_
    exact b_X8_would_43 C hr ad Q u101 h
  · have h := h.2 hc103
    refine z_aload_n C dX8_would_17 rfl 0 rfl ?_
    refine gR_row C dX8_would_18 ?_
    refine z_bipush (v := 6) C dX8_would_21 (by decide) ?_
    refine lRn_row C 6 (by decide +kernel) (vp_in_iff.mpr (by decide +kernel)) dX8_would_23 ?_
    refine z_iload_n C dX8_would_24 rfl 1 rfl ?_
    refine z_iadd C dX8_would_25 ?_
    refine z_ldc (v := 99999) C dX8_would_26 k8_236 ?_
    refine z_icmp_gt C dX8_would_28 (tgt := 43) (by decide) (fun hc104 => ?_) (fun hc104 => ?_)
    · have h := h.1 hc104
      refine z_lv (lv1 := [(0, .ref (ad 0))]) [0] rfl ?_
      exact b_X8_would_43 C hr ad Q u101 h
    · have h := h.2 hc104
      refine z_iload_n C dX8_would_31 rfl 2 rfl ?_
      refine z_i2l C dX8_would_32 ?_
      refine z_lconst (v := 0) C dX8_would_33 (by decide) ?_
      refine z_ldc2 (v := 3) C dX8_would_34 k8_88 ?_
      refine cSi (As := [.long ((x2).toInt64), .long 0, .long 3]) C (c_X8_in l g ((x2).toInt64) 0 3 _ h) s_X8_in ml8_84 ⟨Nat.le_of_ble_eq_true rfl, Nat.le_of_ble_eq_true rfl⟩ ⟨Nat.zero_le _, Nat.zero_le _⟩ (Nat.le_of_ble_eq_true rfl) rfl dX8_would_37 ?_
      intro r105 h
      refine z_if_ne C dX8_would_40 (tgt := 45) (by decide) (fun hc106 => ?_) (fun hc106 => ?_)
      · have h := h.1 hc106
        refine z_aload_n C dX8_would_45 rfl 0 rfl ?_
        refine z_aload_n C dX8_would_46 rfl 0 rfl ?_
        refine gR_ahead C dX8_would_47 ?_
        refine z_aload_n C dX8_would_50 rfl 0 rfl ?_
        refine gR_aheadSums C dX8_would_51 ?_
        refine z_iconst (v := 0) C dX8_would_54 (by decide) ?_
        refine cRv (As := [.ref (ad 10), .ref (ad 11), .int 0]) C (c_X8_lay_ahead l g ad u101 0 _ h) v_X8_lay ml8_71 rfl ⟨Nat.le_of_ble_eq_true rfl, Nat.le_of_ble_eq_true rfl⟩ ⟨Nat.zero_le _, Nat.zero_le _⟩ (Nat.le_of_ble_eq_true rfl) rfl dX8_would_55 ?_
        intro u107 h
        refine z_aload_n C dX8_would_58 rfl 0 rfl ?_
        refine z_iload_n C dX8_would_59 rfl 1 rfl ?_
        refine cRv (As := [.int x1]) C (c_X8_ticksBy l g ad u107 x1 _ h) v_X8_ticksBy ml8_237 rfl ⟨Nat.le_of_ble_eq_true rfl, Nat.le_of_ble_eq_true rfl⟩ ⟨Nat.zero_le _, Nat.zero_le _⟩ (Nat.le_of_ble_eq_true rfl) rfl dX8_would_60 ?_
        intro u108 h
        refine z_iload_n C dX8_would_63 rfl 2 rfl ?_
        refine z_if_ne C dX8_would_64 (tgt := 74) (by decide) (fun hc109 => ?_) (fun hc109 => ?_)
        · have h := h.1 hc109
          refine z_iload_n C dX8_would_74 rfl 2 rfl ?_
          refine z_iconst (v := 1) C dX8_would_75 (by decide) ?_
          refine z_icmp_ne C dX8_would_76 (tgt := 86) (by decide) (fun hc110 => ?_) (fun hc110 => ?_)
          · have h := h.1 hc110
            refine z_iload_n C dX8_would_86 rfl 2 rfl ?_
            refine z_iconst (v := 2) C dX8_would_87 (by decide) ?_
            refine z_icmp_ne C dX8_would_88 (tgt := 98) (by decide) (fun hc111 => ?_) (fun hc111 => ?_)
            · have h := h.1 hc111
              refine z_aload_n C dX8_would_98 rfl 0 rfl ?_
              refine gR_row C dX8_would_99 ?_
              refine z_iconst (v := 5) C dX8_would_102 (by decide) ?_
              refine lRn_row C 5 (by decide +kernel) (vp_in_iff.mpr (by decide +kernel)) dX8_would_103 ?_
              refine z_lv (lv1 := [(0, .ref (ad 0))]) [0] rfl ?_
              exact b_X8_would_104 C hr ad Q u108 (u108.1 3 5) h
            · have h := h.2 hc111
              refine z_aload_n C dX8_would_91 rfl 0 rfl ?_
              refine gR_callMany C dX8_would_92 ?_
              refine z_goto C dX8_would_95 (tgt := 104) (by decide) ?_
              refine z_lv (lv1 := [(0, .ref (ad 0))]) [0] rfl ?_
              exact b_X8_would_104 C hr ad Q u108 (u108.1 19 0) h
          · have h := h.2 hc110
            refine z_aload_n C dX8_would_79 rfl 0 rfl ?_
            refine gR_givenMany C dX8_would_80 ?_
            refine z_goto C dX8_would_83 (tgt := 104) (by decide) ?_
            refine z_lv (lv1 := [(0, .ref (ad 0))]) [0] rfl ?_
            exact b_X8_would_104 C hr ad Q u108 (u108.1 18 0) h
        · have h := h.2 hc109
          refine z_aload_n C dX8_would_67 rfl 0 rfl ?_
          refine cRi (As := []) C (c_X8_packets l g ad u108 _ h) v_X8_packets ml8_275 rfl ⟨Nat.le_of_ble_eq_true rfl, Nat.le_of_ble_eq_true rfl⟩ ⟨Nat.zero_le _, Nat.zero_le _⟩ (Nat.le_of_ble_eq_true rfl) rfl dX8_would_68 ?_
          intro r113 u114 h
          refine z_goto C dX8_would_71 (tgt := 104) (by decide) ?_
          refine z_lv (lv1 := [(0, .ref (ad 0))]) [0] rfl ?_
          exact b_X8_would_104 C hr ad Q u114 r113 h
      · have h := h.2 hc106
        refine z_lv (lv1 := [(0, .ref (ad 0))]) [0] rfl ?_
        exact b_X8_would_43 C hr ad Q u101 h
end WR
