section WR
variable {p : Program} {l : Launch} {e : Env} {s : State} {m : MethodId} {args : Array Value} {below : List Frame} {meth : Method} {c : Code} {g : zG} {A : Nat → Prop}
abbrev j_X8_layHashes (p : Program) (l : Launch) (e : Env) (s : State) (m : MethodId) (args : Array Value) (below : List Frame) (meth : Method) (c : Code) (g : zG) (A : Nat → Prop) (ad : Nat → Nat) (Q : RS → Prop) (u : RS) (pc : Nat) (lv : List (Nat × Value)) (st : List Value) : Prop := zJ p l e (zR 4 0 0) s m args below meth c g A 2 (zQv below args s g A 0 0 (wR g ad) Q) (wR g ad u) 0 0 pc lv st
def wp_X8_layHashes_2 (Q : RS → Prop) (B2 : RS → Int32 → Prop) (u : RS) (x1 : Int32) : Prop :=
  ((u.1 3 4 ≤ x1 → Q u) ∧ (¬ u.1 3 4 ≤ x1 → wp_X8_layHash u x1 (fun u102 => ∀ x103 : Int32, x103 = x1 + 1 → B2 u102 x103)))
set_option maxRecDepth 20000 in
theorem b_X8_layHashes_2 (C : zC p s m args meth c g A cX8_layHashes RX8 2) (hr : meth.sig.returnType = none) (ad : Nat → Nat) (Q : RS → Prop) (B2 : RS → Int32 → Prop) (hB2 : ∀ (u : RS) (x1 : Int32), B2 u x1 → j_X8_layHashes p l e s m args below meth c g A ad Q u 2 [(0, .ref (ad 0)), (1, .int x1)] []) (u : RS) (x1 : Int32) (h : wp_X8_layHashes_2 Q B2 u x1) : j_X8_layHashes p l e s m args below meth c g A ad Q u 2 [(0, .ref (ad 0)), (1, .int x1)] [] := by
  unfold wp_X8_layHashes_2 at h
  refine z_iload_n C dX8_layHashes_2 rfl 1 rfl ?_
  refine z_aload_n C dX8_layHashes_3 rfl 0 rfl ?_
  refine gR_row C dX8_layHashes_4 ?_
  refine z_iconst (v := 4) C dX8_layHashes_7 (by decide) ?_
  refine lRn_row C 4 (by decide +kernel) (vp_in_iff.mpr (by decide +kernel)) dX8_layHashes_8 ?_
  refine z_icmp_ge C dX8_layHashes_9 (tgt := 23) (by decide) (fun hc101 => ?_) (fun hc101 => ?_)
  · have h := h.1 hc101
    exact z_vret C hr u rfl h dX8_layHashes_23
  · have h := h.2 hc101
    refine z_aload_n C dX8_layHashes_12 rfl 0 rfl ?_
    refine z_iload_n C dX8_layHashes_13 rfl 1 rfl ?_
    refine cRv (As := [.int x1]) C (c_X8_layHash l g ad u x1 _ h) v_X8_layHash ml8_113 rfl ⟨Nat.le_of_ble_eq_true rfl, Nat.le_of_ble_eq_true rfl⟩ ⟨Nat.zero_le _, Nat.zero_le _⟩ (Nat.le_of_ble_eq_true rfl) rfl dX8_layHashes_14 ?_
    intro u102 h
    obtain ⟨x103, ex103⟩ : ∃ y : Int32, y = x1 + 1 := ⟨_, rfl⟩
    have h := h x103 ex103
    refine z_iinc (v := x103) (lv1 := [(1, .int x103), (0, .ref (ad 0))]) C dX8_layHashes_17 1 rfl (by rw [ex103]; rfl) (by decide) rfl ?_
    refine z_goto C dX8_layHashes_20 (tgt := 2) (by decide) ?_
    refine z_lv (lv1 := [(0, .ref (ad 0)), (1, .int x103)]) [1, 0] rfl ?_
    exact hB2 u102 x103 h
theorem l_X8_layHashes_2 (C : zC p s m args meth c g A cX8_layHashes RX8 2) (hr : meth.sig.returnType = none) (ad : Nat → Nat) (Q : RS → Prop) : ∀ (n : Nat) (u : RS) (x1 : Int32), zit2 (wp_X8_layHashes_2 Q) n u x1 → j_X8_layHashes p l e s m args below meth c g A ad Q u 2 [(0, .ref (ad 0)), (1, .int x1)] [] := by
  intro n
  induction n with
  | zero => exact fun u x1 h => h.elim
  | succ n ih => exact fun u x1 h => b_X8_layHashes_2 C hr ad Q (zit2 (wp_X8_layHashes_2 Q) n) ih u x1 h
def wp_X8_layHashes (u : RS) (Q : RS → Prop) : Prop :=
  (∃ n, zit2 (wp_X8_layHashes_2 Q) n u 0)
set_option maxRecDepth 20000 in
theorem c_X8_layHashes (l : Launch) (g : zG) (ad : Nat → Nat) (u : RS) (Q : RS → Prop) (h : wp_X8_layHashes u Q) : zMv l yX8_layHashes cX8_layHashes 2 none 4 0 0 g [.ref (ad 0)] (wR g ad u) (wR g ad) Q := by
  refine zMv_of RX8 (by decide) rfl [(0, .ref (ad 0))] rfl (Nat.le_of_ble_eq_true rfl) (fun p e s m args below meth c A C hr hnm => ?_)
  unfold wp_X8_layHashes at h
  refine z_iconst (v := 0) C dX8_layHashes_0 (by decide) ?_
  refine z_istore_n (lv1 := [(1, .int 0), (0, .ref (ad 0))]) C dX8_layHashes_1 rfl (by decide) rfl ?_
  refine z_lv (lv1 := [(0, .ref (ad 0)), (1, .int 0)]) [1, 0] rfl ?_
  obtain ⟨n9, h⟩ := h
  exact l_X8_layHashes_2 C hr ad Q n9 u 0 h
abbrev j_X8_flow (p : Program) (l : Launch) (e : Env) (s : State) (m : MethodId) (args : Array Value) (below : List Frame) (meth : Method) (c : Code) (g : zG) (A : Nat → Prop) (ad : Nat → Nat) (Q : Int32 → RS → Prop) (u : RS) (pc : Nat) (lv : List (Nat × Value)) (st : List Value) : Prop := zJ p l e (zR 4 0 0) s m args below meth c g A 9 (zQi below args s g A 0 0 (wR g ad) Q) (wR g ad u) 0 0 pc lv st
def wp_X8_flow_112 (Q : Int32 → RS → Prop) (B79 : RS → Int32 → Int32 → Int32 → Prop) (u : RS) (x6 : Int32) (x7 : Int32) (x8 : Int32) (t0 : Int32) (t1 : Int32) : Prop :=
  vp_in t1 1065 ∧ ∀ u121 : RS, u121 = rI u 3 (upd (u.1 3) (zn t1) t0) → ∀ x122 : Int32, x122 = x8 + 1 → B79 u121 x6 x7 x122
set_option maxRecDepth 20000 in
theorem b_X8_flow_112 (C : zC p s m args meth c g A cX8_flow RX8 9) (hr : meth.sig.returnType = (some .int)) (ad : Nat → Nat) (Q : Int32 → RS → Prop) (B79 : RS → Int32 → Int32 → Int32 → Prop) (hB79 : ∀ (u : RS) (x6 : Int32) (x7 : Int32) (x8 : Int32), B79 u x6 x7 x8 → j_X8_flow p l e s m args below meth c g A ad Q u 79 [(0, .ref (ad 0)), (6, .int x6), (7, .int x7), (8, .int x8)] []) (u : RS) (x6 : Int32) (x7 : Int32) (x8 : Int32) (t0 : Int32) (t1 : Int32) (h : wp_X8_flow_112 Q B79 u x6 x7 x8 t0 t1) : j_X8_flow p l e s m args below meth c g A ad Q u 112 [(0, .ref (ad 0)), (6, .int x6), (7, .int x7), (8, .int x8)] [.int t0, .int t1, .ref (ad 2)] := by
  unfold wp_X8_flow_112 at h
  obtain ⟨hi120, h⟩ := h
  refine sR_row C hi120 dX8_flow_112 ?_
  refine z_stR (fun u121 eu121 => ?_)
  have h := h u121 eu121
  obtain ⟨x122, ex122⟩ : ∃ y : Int32, y = x8 + 1 := ⟨_, rfl⟩
  have h := h x122 ex122
  refine z_iinc (v := x122) (lv1 := [(8, .int x122), (0, .ref (ad 0)), (6, .int x6), (7, .int x7)]) C dX8_flow_113 3 rfl (by rw [ex122]; rfl) (by decide) rfl ?_
  refine z_goto C dX8_flow_116 (tgt := 79) (by decide) ?_
  refine z_lv (lv1 := [(0, .ref (ad 0)), (6, .int x6), (7, .int x7), (8, .int x122)]) [1, 2, 3, 0] rfl ?_
  exact hB79 u121 x6 x7 x122 h
def wp_X8_flow_79 (Q : Int32 → RS → Prop) (B79 : RS → Int32 → Int32 → Int32 → Prop) (u : RS) (x6 : Int32) (x7 : Int32) (x8 : Int32) : Prop :=
  ((15 ≤ x8 → vp_in (x7 + 11) 1065 ∧ ∀ u114 : RS, u114 = rI u 3 (upd (u.1 3) (zn (x7 + 11)) (-1)) → ∀ u115 : RS, u115 = rI u114 3 (upd (u114.1 3) 4 ((u114.1 3 4) + 1)) → wp_X8_layHash u115 x6 (fun u116 => wp_X8_tell u116 x6 (fun r117 u118 => Q r117 u118))) ∧ (¬ 15 ≤ x8 → ((5 ≤ x8 → wp_X8_flow_112 Q B79 u x6 x7 x8 0 (x7 + x8)) ∧ (¬ 5 ≤ x8 → vp_in x8 5 ∧ wp_X8_flow_112 Q B79 u x6 x7 x8 (u.1 14 (zn x8)) (x7 + x8)))))
set_option maxRecDepth 20000 in
theorem b_X8_flow_79 (C : zC p s m args meth c g A cX8_flow RX8 9) (hr : meth.sig.returnType = (some .int)) (ad : Nat → Nat) (Q : Int32 → RS → Prop) (B79 : RS → Int32 → Int32 → Int32 → Prop) (hB79 : ∀ (u : RS) (x6 : Int32) (x7 : Int32) (x8 : Int32), B79 u x6 x7 x8 → j_X8_flow p l e s m args below meth c g A ad Q u 79 [(0, .ref (ad 0)), (6, .int x6), (7, .int x7), (8, .int x8)] []) (u : RS) (x6 : Int32) (x7 : Int32) (x8 : Int32) (h : wp_X8_flow_79 Q B79 u x6 x7 x8) : j_X8_flow p l e s m args below meth c g A ad Q u 79 [(0, .ref (ad 0)), (6, .int x6), (7, .int x7), (8, .int x8)] [] := by
  unfold wp_X8_flow_79 at h
  refine z_iload C dX8_flow_79 3 rfl ?_
  refine z_bipush (v := 15) C dX8_flow_81 (by decide) ?_
  refine z_icmp_ge C dX8_flow_83 (tgt := 119) (by decide) (fun hc112 => ?_) (fun hc112 => ?_)
  · have h := h.1 hc112
    refine z_aload_n C dX8_flow_119 rfl 0 rfl ?_
    refine gR_row C dX8_flow_120 ?_
    refine z_iload C dX8_flow_123 2 rfl ?_
    refine z_bipush (v := 11) C dX8_flow_125 (by decide) ?_
    refine z_iadd C dX8_flow_127 ?_
    refine z_iconst (v := (-1)) C dX8_flow_128 (by decide) ?_
    obtain ⟨hi113, h⟩ := h
    refine sR_row C hi113 dX8_flow_129 ?_
    refine z_stR (fun u114 eu114 => ?_)
    have h := h u114 eu114
    refine z_aload_n C dX8_flow_130 rfl 0 rfl ?_
    refine gR_row C dX8_flow_131 ?_
    refine z_iconst (v := 4) C dX8_flow_134 (by decide) ?_
    refine z_dup2 C dX8_flow_135 rfl rfl ?_
    refine lRn_row C 4 (by decide +kernel) (vp_in_iff.mpr (by decide +kernel)) dX8_flow_136 ?_
    refine z_iconst (v := 1) C dX8_flow_137 (by decide) ?_
    refine z_iadd C dX8_flow_138 ?_
    refine sRn_row C 4 (by decide +kernel) (vp_in_iff.mpr (by decide +kernel)) dX8_flow_139 ?_
    refine z_stR (fun u115 eu115 => ?_)
    have h := h u115 eu115
    refine z_aload_n C dX8_flow_140 rfl 0 rfl ?_
    refine z_iload C dX8_flow_141 1 rfl ?_
    refine cRv (As := [.int x6]) C (c_X8_layHash l g ad u115 x6 _ h) v_X8_layHash ml8_113 rfl ⟨Nat.le_of_ble_eq_true rfl, Nat.le_of_ble_eq_true rfl⟩ ⟨Nat.zero_le _, Nat.zero_le _⟩ (Nat.le_of_ble_eq_true rfl) rfl dX8_flow_143 ?_
    intro u116 h
    refine z_aload_n C dX8_flow_146 rfl 0 rfl ?_
    refine z_iload C dX8_flow_147 1 rfl ?_
    refine cRi (As := [.int x6]) C (c_X8_tell l g ad u116 x6 _ h) v_X8_tell ml8_81 rfl ⟨Nat.le_of_ble_eq_true rfl, Nat.le_of_ble_eq_true rfl⟩ ⟨Nat.zero_le _, Nat.zero_le _⟩ (Nat.le_of_ble_eq_true rfl) rfl dX8_flow_149 ?_
    intro r117 u118 h
    exact z_iret C hr u118 rfl h dX8_flow_152
  · have h := h.2 hc112
    refine z_aload_n C dX8_flow_86 rfl 0 rfl ?_
    refine gR_row C dX8_flow_87 ?_
    refine z_iload C dX8_flow_90 2 rfl ?_
    refine z_iload C dX8_flow_92 3 rfl ?_
    refine z_iadd C dX8_flow_94 ?_
    refine z_iload C dX8_flow_95 3 rfl ?_
    refine z_iconst (v := 5) C dX8_flow_97 (by decide) ?_
    refine z_icmp_ge C dX8_flow_98 (tgt := 111) (by decide) (fun hc119 => ?_) (fun hc119 => ?_)
    · have h := h.1 hc119
      refine z_iconst (v := 0) C dX8_flow_111 (by decide) ?_
      exact b_X8_flow_112 C hr ad Q B79 hB79 u x6 x7 x8 0 (x7 + x8) h
    · have h := h.2 hc119
      refine z_aload_n C dX8_flow_101 rfl 0 rfl ?_
      refine gR_fields C dX8_flow_102 ?_
      refine z_iload C dX8_flow_105 3 rfl ?_
      obtain ⟨hi123, h⟩ := h
      refine lR_fields C hi123 dX8_flow_107 ?_
      refine z_goto C dX8_flow_108 (tgt := 112) (by decide) ?_
      exact b_X8_flow_112 C hr ad Q B79 hB79 u x6 x7 x8 (u.1 14 (zn x8)) (x7 + x8) h
theorem l_X8_flow_79 (C : zC p s m args meth c g A cX8_flow RX8 9) (hr : meth.sig.returnType = (some .int)) (ad : Nat → Nat) (Q : Int32 → RS → Prop) : ∀ (n : Nat) (u : RS) (x6 : Int32) (x7 : Int32) (x8 : Int32), zit4 (wp_X8_flow_79 Q) n u x6 x7 x8 → j_X8_flow p l e s m args below meth c g A ad Q u 79 [(0, .ref (ad 0)), (6, .int x6), (7, .int x7), (8, .int x8)] [] := by
  intro n
  induction n with
  | zero => exact fun u x6 x7 x8 h => h.elim
  | succ n ih => exact fun u x6 x7 x8 h => b_X8_flow_79 C hr ad Q (zit4 (wp_X8_flow_79 Q) n) ih u x6 x7 x8 h
def wp_X8_flow (u : RS) (x1 : Int32) (x2 : Int32) (x3 : Int32) (x4 : Int32) (x5 : Int32) (Q : Int32 → RS → Prop) : Prop :=
  ∀ u101 : RS, u101 = rN u 0 0 → wp_X8_takeFields u101 x1 x2 x3 x4 x5 (fun r102 u103 => ((¬ r102 = 0 → wp_X8_found u103 (fun r105 u106 => ((r105 = (-1) → ∀ x108 : Int32, x108 = u106.1 3 4 → ((¬ x108 = 24 → wp_X8_remember u106 2 (fun u110 => wp_X8_flowAt x108 (fun r111 => (∃ n, zit4 (wp_X8_flow_79 Q) n u110 x108 r111 0)))) ∧ (x108 = 24 → wp_X8_refuse u106 (-5) (fun r124 u125 => Q r124 u125)))) ∧ (¬ r105 = (-1) → wp_X8_found u106 (fun r126 u127 => wp_X8_tell u127 r126 (fun r128 u129 => Q r128 u129)))))) ∧ (r102 = 0 → wp_X8_refuse u103 (-1) (fun r130 u131 => Q r130 u131))))
set_option maxRecDepth 20000 in
theorem c_X8_flow (l : Launch) (g : zG) (ad : Nat → Nat) (u : RS) (x1 : Int32) (x2 : Int32) (x3 : Int32) (x4 : Int32) (x5 : Int32) (Q : Int32 → RS → Prop) (h : wp_X8_flow u x1 x2 x3 x4 x5 Q) : zMi l yX8_flow cX8_flow 9 (some .int) 4 0 0 g [.ref (ad 0), .int x1, .int x2, .int x3, .int x4, .int x5] (wR g ad u) (wR g ad) Q := by
  refine zMi_of RX8 (by decide) rfl [(0, .ref (ad 0)), (1, .int x1), (2, .int x2), (3, .int x3), (4, .int x4), (5, .int x5)] rfl (Nat.le_of_ble_eq_true rfl) (fun p e s m args below meth c A C hr hnm => ?_)
  unfold wp_X8_flow at h
  refine z_aload_n C dX8_flow_0 rfl 0 rfl ?_
  refine z_iconst (v := 0) C dX8_flow_1 (by decide) ?_
  refine pR_thrown C dX8_flow_2 ?_
  refine z_stR (fun u101 eu101 => ?_)
  have h := h u101 eu101
  refine z_aload_n C dX8_flow_5 rfl 0 rfl ?_
  refine z_iload_n C dX8_flow_6 rfl 1 rfl ?_
  refine z_iload_n C dX8_flow_7 rfl 2 rfl ?_
  refine z_iload_n C dX8_flow_8 rfl 3 rfl ?_
  refine z_iload C dX8_flow_9 4 rfl ?_
  refine z_iload C dX8_flow_11 5 rfl ?_
  refine cRi (As := [.int x1, .int x2, .int x3, .int x4, .int x5]) C (c_X8_takeFields l g ad u101 x1 x2 x3 x4 x5 _ h) v_X8_takeFields ml8_141 rfl ⟨Nat.le_of_ble_eq_true rfl, Nat.le_of_ble_eq_true rfl⟩ ⟨Nat.zero_le _, Nat.zero_le _⟩ (Nat.le_of_ble_eq_true rfl) rfl dX8_flow_13 ?_
  intro r102 u103 h
  refine z_if_ne C dX8_flow_16 (tgt := 25) (by decide) (fun hc104 => ?_) (fun hc104 => ?_)
  · have h := h.1 hc104
    refine z_aload_n C dX8_flow_25 rfl 0 rfl ?_
    refine cRi (As := []) C (c_X8_found l g ad u103 _ h) v_X8_found ml8_145 rfl ⟨Nat.le_of_ble_eq_true rfl, Nat.le_of_ble_eq_true rfl⟩ ⟨Nat.zero_le _, Nat.zero_le _⟩ (Nat.le_of_ble_eq_true rfl) rfl dX8_flow_26 ?_
    intro r105 u106 h
    refine z_iconst (v := (-1)) C dX8_flow_29 (by decide) ?_
    refine z_icmp_eq C dX8_flow_30 (tgt := 42) (by decide) (fun hc107 => ?_) (fun hc107 => ?_)
    · have h := h.1 hc107
      refine z_aload_n C dX8_flow_42 rfl 0 rfl ?_
      refine gR_row C dX8_flow_43 ?_
      refine z_iconst (v := 4) C dX8_flow_46 (by decide) ?_
      refine lRn_row C 4 (by decide +kernel) (vp_in_iff.mpr (by decide +kernel)) dX8_flow_47 ?_
      refine z_topi (fun x108 ex108 => ?_)
      have h := h x108 ex108
      refine z_istore (lv1 := [(6, .int x108), (0, .ref (ad 0)), (1, .int x1), (2, .int x2), (3, .int x3), (4, .int x4), (5, .int x5)]) C dX8_flow_48 (by decide) rfl ?_
      refine z_iload C dX8_flow_50 0 rfl ?_
      refine z_bipush (v := 24) C dX8_flow_52 (by decide) ?_
      refine z_icmp_ne C dX8_flow_54 (tgt := 64) (by decide) (fun hc109 => ?_) (fun hc109 => ?_)
      · have h := h.1 hc109
        refine z_aload_n C dX8_flow_64 rfl 1 rfl ?_
        refine z_iconst (v := 2) C dX8_flow_65 (by decide) ?_
        refine cRv (As := [.int 2]) C (c_X8_remember l g ad u106 2 _ h) v_X8_remember ml8_129 rfl ⟨Nat.le_of_ble_eq_true rfl, Nat.le_of_ble_eq_true rfl⟩ ⟨Nat.zero_le _, Nat.zero_le _⟩ (Nat.le_of_ble_eq_true rfl) rfl dX8_flow_66 ?_
        intro u110 h
        refine z_iload C dX8_flow_69 0 rfl ?_
        refine cSi (As := [.int x108]) C (c_X8_flowAt l g x108 _ h) s_X8_flowAt ml8_102 ⟨Nat.le_of_ble_eq_true rfl, Nat.le_of_ble_eq_true rfl⟩ ⟨Nat.zero_le _, Nat.zero_le _⟩ (Nat.le_of_ble_eq_true rfl) rfl dX8_flow_71 ?_
        intro r111 h
        refine z_istore (lv1 := [(7, .int r111), (6, .int x108), (0, .ref (ad 0)), (1, .int x1), (2, .int x2), (3, .int x3), (4, .int x4), (5, .int x5)]) C dX8_flow_74 (by decide) rfl ?_
        refine z_iconst (v := 0) C dX8_flow_76 (by decide) ?_
        refine z_istore (lv1 := [(8, .int 0), (7, .int r111), (6, .int x108), (0, .ref (ad 0)), (1, .int x1), (2, .int x2), (3, .int x3), (4, .int x4), (5, .int x5)]) C dX8_flow_77 (by decide) rfl ?_
        refine z_lv (lv1 := [(0, .ref (ad 0)), (6, .int x108), (7, .int r111), (8, .int 0)]) [3, 2, 1, 0] rfl ?_
        obtain ⟨n9, h⟩ := h
        exact l_X8_flow_79 C hr ad Q n9 u110 x108 r111 0 h
      · have h := h.2 hc109
        refine z_aload_n C dX8_flow_57 rfl 1 rfl ?_
        refine z_bipush (v := (-5)) C dX8_flow_58 (by decide) ?_
        refine cRi (As := [.int (-5)]) C (c_X8_refuse l g ad u106 (-5) _ h) v_X8_refuse ml8_75 rfl ⟨Nat.le_of_ble_eq_true rfl, Nat.le_of_ble_eq_true rfl⟩ ⟨Nat.zero_le _, Nat.zero_le _⟩ (Nat.le_of_ble_eq_true rfl) rfl dX8_flow_60 ?_
        intro r124 u125 h
        exact z_iret C hr u125 rfl h dX8_flow_63
    · have h := h.2 hc107
      refine z_aload_n C dX8_flow_33 rfl 0 rfl ?_
      refine z_aload_n C dX8_flow_34 rfl 0 rfl ?_
      refine cRi (As := []) C (c_X8_found l g ad u106 _ h) v_X8_found ml8_145 rfl ⟨Nat.le_of_ble_eq_true rfl, Nat.le_of_ble_eq_true rfl⟩ ⟨Nat.zero_le _, Nat.zero_le _⟩ (Nat.le_of_ble_eq_true rfl) rfl dX8_flow_35 ?_
      intro r126 u127 h
      refine cRi (As := [.int r126]) C (c_X8_tell l g ad u127 r126 _ h) v_X8_tell ml8_81 rfl ⟨Nat.le_of_ble_eq_true rfl, Nat.le_of_ble_eq_true rfl⟩ ⟨Nat.zero_le _, Nat.zero_le _⟩ (Nat.le_of_ble_eq_true rfl) rfl dX8_flow_38 ?_
      intro r128 u129 h
      exact z_iret C hr u129 rfl h dX8_flow_41
  · have h := h.2 hc104
    refine z_aload_n C dX8_flow_19 rfl 0 rfl ?_
    refine z_iconst (v := (-1)) C dX8_flow_20 (by decide) ?_
    refine cRi (As := [.int (-1)]) C (c_X8_refuse l g ad u103 (-1) _ h) v_X8_refuse ml8_75 rfl ⟨Nat.le_of_ble_eq_true rfl, Nat.le_of_ble_eq_true rfl⟩ ⟨Nat.zero_le _, Nat.zero_le _⟩ (Nat.le_of_ble_eq_true rfl) rfl dX8_flow_21 ?_
    intro r130 u131 h
    exact z_iret C hr u131 rfl h dX8_flow_24
abbrev j_X8_packet (p : Program) (l : Launch) (e : Env) (s : State) (m : MethodId) (args : Array Value) (below : List Frame) (meth : Method) (c : Code) (g : zG) (A : Nat → Prop) (ad : Nat → Nat) (Q : Int32 → RS → Prop) (u : RS) (pc : Nat) (lv : List (Nat × Value)) (st : List Value) : Prop := zJ p l e (zR 4 0 0) s m args below meth c g A 4 (zQi below args s g A 0 0 (wR g ad) Q) (wR g ad u) 0 0 pc lv st
def wp_X8_packet_73 (Q : Int32 → RS → Prop) (u : RS) (t0 : Int32) (t1 : Int32) (t2 : Int32) : Prop :=
  wp_X8_comes u t2 t1 t0 (fun r112 u113 => wp_X8_tell u113 r112 (fun r114 u115 => Q r114 u115))
set_option maxRecDepth 20000 in
theorem b_X8_packet_73 (C : zC p s m args meth c g A cX8_packet RX8 4) (hr : meth.sig.returnType = (some .int)) (ad : Nat → Nat) (Q : Int32 → RS → Prop) (u : RS) (t0 : Int32) (t1 : Int32) (t2 : Int32) (h : wp_X8_packet_73 Q u t0 t1 t2) : j_X8_packet p l e s m args below meth c g A ad Q u 73 [(0, .ref (ad 0))] [.int t0, .int t1, .int t2, .ref (ad 0), .ref (ad 0)] := by
  unfold wp_X8_packet_73 at h
  refine cRi (As := [.int t2, .int t1, .int t0]) C (c_X8_comes l g ad u t2 t1 t0 _ h) v_X8_comes ml8_201 rfl ⟨Nat.le_of_ble_eq_true rfl, Nat.le_of_ble_eq_true rfl⟩ ⟨Nat.zero_le _, Nat.zero_le _⟩ (Nat.le_of_ble_eq_true rfl) rfl dX8_packet_73 ?_
  intro r112 u113 h
  refine cRi (As := [.int r112]) C (c_X8_tell l g ad u113 r112 _ h) v_X8_tell ml8_81 rfl ⟨Nat.le_of_ble_eq_true rfl, Nat.le_of_ble_eq_true rfl⟩ ⟨Nat.zero_le _, Nat.zero_le _⟩ (Nat.le_of_ble_eq_true rfl) rfl dX8_packet_76 ?_
  intro r114 u115 h
  exact z_iret C hr u115 rfl h dX8_packet_79
def wp_X8_packet (u : RS) (x1 : Int32) (x2 : Int32) (x3 : Int32) (Q : Int32 → RS → Prop) : Prop :=
  ∀ u101 : RS, u101 = rN u 0 0 → wp_X8_in ((x2).toInt64) 1 1500 (fun r102 => ((¬ r102 = 0 → wp_X8_isFlow u101 x1 (fun r104 u105 => ((¬ r104 = 0 → wp_X8_hasNext u105 x1 x2 (fun r107 u108 => ((¬ r107 = 0 → wp_X8_remember u108 8 (fun u110 => ((x3 = 0 → wp_X8_packet_73 Q u110 0 x2 x1) ∧ (¬ x3 = 0 → wp_X8_packet_73 Q u110 1 x2 x1)))) ∧ (r107 = 0 → wp_X8_refuse u108 (-4) (fun r116 u117 => Q r116 u117))))) ∧ (r104 = 0 → wp_X8_refuse u105 (-2) (fun r118 u119 => Q r118 u119))))) ∧ (r102 = 0 → wp_X8_refuse u101 (-1) (fun r120 u121 => Q r120 u121))))
set_option maxRecDepth 20000 in
theorem c_X8_packet (l : Launch) (g : zG) (ad : Nat → Nat) (u : RS) (x1 : Int32) (x2 : Int32) (x3 : Int32) (Q : Int32 → RS → Prop) (h : wp_X8_packet u x1 x2 x3 Q) : zMi l yX8_packet cX8_packet 4 (some .int) 4 0 0 g [.ref (ad 0), .int x1, .int x2, .int x3] (wR g ad u) (wR g ad) Q := by
  refine zMi_of RX8 (by decide) rfl [(0, .ref (ad 0)), (1, .int x1), (2, .int x2), (3, .int x3)] rfl (Nat.le_of_ble_eq_true rfl) (fun p e s m args below meth c A C hr hnm => ?_)
  unfold wp_X8_packet at h
  refine z_aload_n C dX8_packet_0 rfl 0 rfl ?_
  refine z_iconst (v := 0) C dX8_packet_1 (by decide) ?_
  refine pR_thrown C dX8_packet_2 ?_
  refine z_stR (fun u101 eu101 => ?_)
  have h := h u101 eu101
  refine z_iload_n C dX8_packet_5 rfl 2 rfl ?_
  refine z_i2l C dX8_packet_6 ?_
  refine z_lconst (v := 1) C dX8_packet_7 (by decide) ?_
  refine z_ldc2 (v := 1500) C dX8_packet_8 k8_196 ?_
  refine cSi (As := [.long ((x2).toInt64), .long 1, .long 1500]) C (c_X8_in l g ((x2).toInt64) 1 1500 _ h) s_X8_in ml8_84 ⟨Nat.le_of_ble_eq_true rfl, Nat.le_of_ble_eq_true rfl⟩ ⟨Nat.zero_le _, Nat.zero_le _⟩ (Nat.le_of_ble_eq_true rfl) rfl dX8_packet_11 ?_
  intro r102 h
  refine z_if_ne C dX8_packet_14 (tgt := 23) (by decide) (fun hc103 => ?_) (fun hc103 => ?_)
  · have h := h.1 hc103
    refine z_aload_n C dX8_packet_23 rfl 0 rfl ?_
    refine z_iload_n C dX8_packet_24 rfl 1 rfl ?_
    refine cRi (As := [.int x1]) C (c_X8_isFlow l g ad u101 x1 _ h) v_X8_isFlow ml8_164 rfl ⟨Nat.le_of_ble_eq_true rfl, Nat.le_of_ble_eq_true rfl⟩ ⟨Nat.zero_le _, Nat.zero_le _⟩ (Nat.le_of_ble_eq_true rfl) rfl dX8_packet_25 ?_
    intro r104 u105 h
    refine z_if_ne C dX8_packet_28 (tgt := 38) (by decide) (fun hc106 => ?_) (fun hc106 => ?_)
    · have h := h.1 hc106
      refine z_aload_n C dX8_packet_38 rfl 0 rfl ?_
      refine z_iload_n C dX8_packet_39 rfl 1 rfl ?_
      refine z_iload_n C dX8_packet_40 rfl 2 rfl ?_
      refine cRi (As := [.int x1, .int x2]) C (c_X8_hasNext l g ad u105 x1 x2 _ h) v_X8_hasNext ml8_198 rfl ⟨Nat.le_of_ble_eq_true rfl, Nat.le_of_ble_eq_true rfl⟩ ⟨Nat.zero_le _, Nat.zero_le _⟩ (Nat.le_of_ble_eq_true rfl) rfl dX8_packet_41 ?_
      intro r107 u108 h
      refine z_if_ne C dX8_packet_44 (tgt := 54) (by decide) (fun hc109 => ?_) (fun hc109 => ?_)
      · have h := h.1 hc109
        refine z_aload_n C dX8_packet_54 rfl 0 rfl ?_
        refine z_bipush (v := 8) C dX8_packet_55 (by decide) ?_
        refine cRv (As := [.int 8]) C (c_X8_remember l g ad u108 8 _ h) v_X8_remember ml8_129 rfl ⟨Nat.le_of_ble_eq_true rfl, Nat.le_of_ble_eq_true rfl⟩ ⟨Nat.zero_le _, Nat.zero_le _⟩ (Nat.le_of_ble_eq_true rfl) rfl dX8_packet_57 ?_
        intro u110 h
        refine z_aload_n C dX8_packet_60 rfl 0 rfl ?_
        refine z_aload_n C dX8_packet_61 rfl 0 rfl ?_
        refine z_iload_n C dX8_packet_62 rfl 1 rfl ?_
        refine z_iload_n C dX8_packet_63 rfl 2 rfl ?_
        refine z_iload_n C dX8_packet_64 rfl 3 rfl ?_
        refine z_if_eq C dX8_packet_65 (tgt := 72) (by decide) (fun hc111 => ?_) (fun hc111 => ?_)
        · have h := h.1 hc111
          refine z_iconst (v := 0) C dX8_packet_72 (by decide) ?_
          refine z_lv (lv1 := [(0, .ref (ad 0))]) [0] rfl ?_
          exact b_X8_packet_73 C hr ad Q u110 0 x2 x1 h
        · have h := h.2 hc111
          refine z_iconst (v := 1) C dX8_packet_68 (by decide) ?_
          refine z_goto C dX8_packet_69 (tgt := 73) (by decide) ?_
          refine z_lv (lv1 := [(0, .ref (ad 0))]) [0] rfl ?_
          exact b_X8_packet_73 C hr ad Q u110 1 x2 x1 h
      · have h := h.2 hc109
        refine z_aload_n C dX8_packet_47 rfl 0 rfl ?_
        refine z_bipush (v := (-4)) C dX8_packet_48 (by decide) ?_
        refine cRi (As := [.int (-4)]) C (c_X8_refuse l g ad u108 (-4) _ h) v_X8_refuse ml8_75 rfl ⟨Nat.le_of_ble_eq_true rfl, Nat.le_of_ble_eq_true rfl⟩ ⟨Nat.zero_le _, Nat.zero_le _⟩ (Nat.le_of_ble_eq_true rfl) rfl dX8_packet_50 ?_
        intro r116 u117 h
        exact z_iret C hr u117 rfl h dX8_packet_53
    · have h := h.2 hc106
      refine z_aload_n C dX8_packet_31 rfl 0 rfl ?_
      refine z_bipush (v := (-2)) C dX8_packet_32 (by decide) ?_
      refine cRi (As := [.int (-2)]) C (c_X8_refuse l g ad u105 (-2) _ h) v_X8_refuse ml8_75 rfl ⟨Nat.le_of_ble_eq_true rfl, Nat.le_of_ble_eq_true rfl⟩ ⟨Nat.zero_le _, Nat.zero_le _⟩ (Nat.le_of_ble_eq_true rfl) rfl dX8_packet_34 ?_
      intro r118 u119 h
      exact z_iret C hr u119 rfl h dX8_packet_37
  · have h := h.2 hc103
    refine z_aload_n C dX8_packet_17 rfl 0 rfl ?_
    refine z_iconst (v := (-1)) C dX8_packet_18 (by decide) ?_
    refine cRi (As := [.int (-1)]) C (c_X8_refuse l g ad u101 (-1) _ h) v_X8_refuse ml8_75 rfl ⟨Nat.le_of_ble_eq_true rfl, Nat.le_of_ble_eq_true rfl⟩ ⟨Nat.zero_le _, Nat.zero_le _⟩ (Nat.le_of_ble_eq_true rfl) rfl dX8_packet_19 ?_
    intro r120 u121 h
    exact z_iret C hr u121 rfl h dX8_packet_22
abbrev j_X8_burst (p : Program) (l : Launch) (e : Env) (s : State) (m : MethodId) (args : Array Value) (below : List Frame) (meth : Method) (c : Code) (g : zG) (A : Nat → Prop) (ad : Nat → Nat) (Q : Int32 → RS → Prop) (u : RS) (pc : Nat) (lv : List (Nat × Value)) (st : List Value) : Prop := zJ p l e (zR 4 0 0) s m args below meth c g A 7 (zQi below args s g A 0 0 (wR g ad) Q) (wR g ad u) 0 0 pc lv st
def wp_X8_burst_29 (Q : Int32 → RS → Prop) (u : RS) : Prop :=
  wp_X8_refuse u (-1) (fun r104 u105 => Q r104 u105)
set_option maxRecDepth 20000 in
theorem b_X8_burst_29 (C : zC p s m args meth c g A cX8_burst RX8 7) (hr : meth.sig.returnType = (some .int)) (ad : Nat → Nat) (Q : Int32 → RS → Prop) (u : RS) (h : wp_X8_burst_29 Q u) : j_X8_burst p l e s m args below meth c g A ad Q u 29 [(0, .ref (ad 0))] [] := by
  unfold wp_X8_burst_29 at h
  refine z_aload_n C dX8_burst_29 rfl 0 rfl ?_
  refine z_iconst (v := (-1)) C dX8_burst_30 (by decide) ?_
  refine cRi (As := [.int (-1)]) C (c_X8_refuse l g ad u (-1) _ h) v_X8_refuse ml8_75 rfl ⟨Nat.le_of_ble_eq_true rfl, Nat.le_of_ble_eq_true rfl⟩ ⟨Nat.zero_le _, Nat.zero_le _⟩ (Nat.le_of_ble_eq_true rfl) rfl dX8_burst_31 ?_
  intro r104 u105 h
  exact z_iret C hr u105 rfl h dX8_burst_34
def wp_X8_burst_161 (Q : Int32 → RS → Prop) (B131 : RS → Int32 → Int32 → Int32 → Int32 → Int32 → Int32 → Prop) (u : RS) (x1 : Int32) (x2 : Int32) (x3 : Int32) (x4 : Int32) (x6 : Int32) (t0 : Int32) (t1 : Int32) : Prop :=
  ∀ x121 : Int32, x121 = t1 + t0 → ∀ x122 : Int32, x122 = x6 + 1 → B131 u x1 x2 x3 x4 x121 x122
set_option maxRecDepth 20000 in
theorem b_X8_burst_161 (C : zC p s m args meth c g A cX8_burst RX8 7) (hr : meth.sig.returnType = (some .int)) (ad : Nat → Nat) (Q : Int32 → RS → Prop) (B131 : RS → Int32 → Int32 → Int32 → Int32 → Int32 → Int32 → Prop) (hB131 : ∀ (u : RS) (x1 : Int32) (x2 : Int32) (x3 : Int32) (x4 : Int32) (x5 : Int32) (x6 : Int32), B131 u x1 x2 x3 x4 x5 x6 → j_X8_burst p l e s m args below meth c g A ad Q u 131 [(0, .ref (ad 0)), (1, .int x1), (2, .int x2), (3, .int x3), (4, .int x4), (5, .int x5), (6, .int x6)] []) (u : RS) (x1 : Int32) (x2 : Int32) (x3 : Int32) (x4 : Int32) (x6 : Int32) (t0 : Int32) (t1 : Int32) (h : wp_X8_burst_161 Q B131 u x1 x2 x3 x4 x6 t0 t1) : j_X8_burst p l e s m args below meth c g A ad Q u 161 [(0, .ref (ad 0)), (1, .int x1), (2, .int x2), (3, .int x3), (4, .int x4), (6, .int x6)] [.int t0, .int t1] := by
  unfold wp_X8_burst_161 at h
  refine z_iadd C dX8_burst_161 ?_
  refine z_topi (fun x121 ex121 => ?_)
  have h := h x121 ex121
  refine z_istore (lv1 := [(5, .int x121), (0, .ref (ad 0)), (1, .int x1), (2, .int x2), (3, .int x3), (4, .int x4), (6, .int x6)]) C dX8_burst_162 (by decide) rfl ?_
  obtain ⟨x122, ex122⟩ : ∃ y : Int32, y = x6 + 1 := ⟨_, rfl⟩
  have h := h x122 ex122
  refine z_iinc (v := x122) (lv1 := [(6, .int x122), (5, .int x121), (0, .ref (ad 0)), (1, .int x1), (2, .int x2), (3, .int x3), (4, .int x4)]) C dX8_burst_164 6 rfl (by rw [ex122]; rfl) (by decide) rfl ?_
  refine z_goto C dX8_burst_167 (tgt := 131) (by decide) ?_
  refine z_lv (lv1 := [(0, .ref (ad 0)), (1, .int x1), (2, .int x2), (3, .int x3), (4, .int x4), (5, .int x121), (6, .int x122)]) [2, 3, 4, 5, 6, 1, 0] rfl ?_
  exact hB131 u x1 x2 x3 x4 x121 x122 h
def wp_X8_burst_131 (Q : Int32 → RS → Prop) (B131 : RS → Int32 → Int32 → Int32 → Int32 → Int32 → Int32 → Prop) (u : RS) (x1 : Int32) (x2 : Int32) (x3 : Int32) (x4 : Int32) (x5 : Int32) (x6 : Int32) : Prop :=
  ((x2 ≤ x6 → wp_X8_tell u x5 (fun r115 u116 => Q r115 u116)) ∧ (¬ x2 ≤ x6 → ¬ x4 = 0 ∧ wp_X8_comes u ((x1 + x6) - (x1 + x6) / x4 * x4) x3 0 (fun r118 u119 => ((4 ≤ r118 → wp_X8_burst_161 Q B131 u119 x1 x2 x3 x4 x6 0 x5) ∧ (¬ 4 ≤ r118 → wp_X8_burst_161 Q B131 u119 x1 x2 x3 x4 x6 1 x5)))))
set_option maxRecDepth 20000 in
theorem b_X8_burst_131 (C : zC p s m args meth c g A cX8_burst RX8 7) (hr : meth.sig.returnType = (some .int)) (ad : Nat → Nat) (Q : Int32 → RS → Prop) (B131 : RS → Int32 → Int32 → Int32 → Int32 → Int32 → Int32 → Prop) (hB131 : ∀ (u : RS) (x1 : Int32) (x2 : Int32) (x3 : Int32) (x4 : Int32) (x5 : Int32) (x6 : Int32), B131 u x1 x2 x3 x4 x5 x6 → j_X8_burst p l e s m args below meth c g A ad Q u 131 [(0, .ref (ad 0)), (1, .int x1), (2, .int x2), (3, .int x3), (4, .int x4), (5, .int x5), (6, .int x6)] []) (u : RS) (x1 : Int32) (x2 : Int32) (x3 : Int32) (x4 : Int32) (x5 : Int32) (x6 : Int32) (h : wp_X8_burst_131 Q B131 u x1 x2 x3 x4 x5 x6) : j_X8_burst p l e s m args below meth c g A ad Q u 131 [(0, .ref (ad 0)), (1, .int x1), (2, .int x2), (3, .int x3), (4, .int x4), (5, .int x5), (6, .int x6)] [] := by
  unfold wp_X8_burst_131 at h
  refine z_iload C dX8_burst_131 6 rfl ?_
  refine z_iload_n C dX8_burst_133 rfl 2 rfl ?_
  refine z_icmp_ge C dX8_burst_134 (tgt := 170) (by decide) (fun hc114 => ?_) (fun hc114 => ?_)
  · have h := h.1 hc114
    refine z_aload_n C dX8_burst_170 rfl 0 rfl ?_
    refine z_iload C dX8_burst_171 5 rfl ?_
    refine cRi (As := [.int x5]) C (c_X8_tell l g ad u x5 _ h) v_X8_tell ml8_81 rfl ⟨Nat.le_of_ble_eq_true rfl, Nat.le_of_ble_eq_true rfl⟩ ⟨Nat.zero_le _, Nat.zero_le _⟩ (Nat.le_of_ble_eq_true rfl) rfl dX8_burst_173 ?_
    intro r115 u116 h
    exact z_iret C hr u116 rfl h dX8_burst_176
  · have h := h.2 hc114
    refine z_iload C dX8_burst_137 5 rfl ?_
    refine z_aload_n C dX8_burst_139 rfl 0 rfl ?_
    refine z_iload_n C dX8_burst_140 rfl 1 rfl ?_
    refine z_iload C dX8_burst_141 6 rfl ?_
    refine z_iadd C dX8_burst_143 ?_
    refine z_iload C dX8_burst_144 4 rfl ?_
    obtain ⟨hy117, h⟩ := h
    refine z_irem C dX8_burst_146 hy117 ?_
    refine z_iload_n C dX8_burst_147 rfl 3 rfl ?_
    refine z_iconst (v := 0) C dX8_burst_148 (by decide) ?_
    refine cRi (As := [.int ((x1 + x6) - (x1 + x6) / x4 * x4), .int x3, .int 0]) C (c_X8_comes l g ad u ((x1 + x6) - (x1 + x6) / x4 * x4) x3 0 _ h) v_X8_comes ml8_201 rfl ⟨Nat.le_of_ble_eq_true rfl, Nat.le_of_ble_eq_true rfl⟩ ⟨Nat.zero_le _, Nat.zero_le _⟩ (Nat.le_of_ble_eq_true rfl) rfl dX8_burst_149 ?_
    intro r118 u119 h
    refine z_iconst (v := 4) C dX8_burst_152 (by decide) ?_
    refine z_icmp_ge C dX8_burst_153 (tgt := 160) (by decide) (fun hc120 => ?_) (fun hc120 => ?_)
    · have h := h.1 hc120
      refine z_iconst (v := 0) C dX8_burst_160 (by decide) ?_
      refine z_lv (lv1 := [(0, .ref (ad 0)), (1, .int x1), (2, .int x2), (3, .int x3), (4, .int x4), (6, .int x6)]) [0, 1, 2, 3, 4, 6] rfl ?_
      exact b_X8_burst_161 C hr ad Q B131 hB131 u119 x1 x2 x3 x4 x6 0 x5 h
    · have h := h.2 hc120
      refine z_iconst (v := 1) C dX8_burst_156 (by decide) ?_
      refine z_goto C dX8_burst_157 (tgt := 161) (by decide) ?_
      refine z_lv (lv1 := [(0, .ref (ad 0)), (1, .int x1), (2, .int x2), (3, .int x3), (4, .int x4), (6, .int x6)]) [0, 1, 2, 3, 4, 6] rfl ?_
      exact b_X8_burst_161 C hr ad Q B131 hB131 u119 x1 x2 x3 x4 x6 1 x5 h
theorem l_X8_burst_131 (C : zC p s m args meth c g A cX8_burst RX8 7) (hr : meth.sig.returnType = (some .int)) (ad : Nat → Nat) (Q : Int32 → RS → Prop) : ∀ (n : Nat) (u : RS) (x1 : Int32) (x2 : Int32) (x3 : Int32) (x4 : Int32) (x5 : Int32) (x6 : Int32), zit7 (wp_X8_burst_131 Q) n u x1 x2 x3 x4 x5 x6 → j_X8_burst p l e s m args below meth c g A ad Q u 131 [(0, .ref (ad 0)), (1, .int x1), (2, .int x2), (3, .int x3), (4, .int x4), (5, .int x5), (6, .int x6)] [] := by
  intro n
  induction n with
  | zero => exact fun u x1 x2 x3 x4 x5 x6 h => h.elim
  | succ n ih => exact fun u x1 x2 x3 x4 x5 x6 h => b_X8_burst_131 C hr ad Q (zit7 (wp_X8_burst_131 Q) n) ih u x1 x2 x3 x4 x5 x6 h
def wp_X8_burst_119 (Q : Int32 → RS → Prop) (u : RS) (x1 : Int32) (x2 : Int32) (x3 : Int32) (x4 : Int32) : Prop :=
  wp_X8_remember u 9 (fun u113 => (∃ n, zit7 (wp_X8_burst_131 Q) n u113 x1 x2 x3 x4 0 0))
set_option maxRecDepth 20000 in
theorem b_X8_burst_119 (C : zC p s m args meth c g A cX8_burst RX8 7) (hr : meth.sig.returnType = (some .int)) (ad : Nat → Nat) (Q : Int32 → RS → Prop) (u : RS) (x1 : Int32) (x2 : Int32) (x3 : Int32) (x4 : Int32) (h : wp_X8_burst_119 Q u x1 x2 x3 x4) : j_X8_burst p l e s m args below meth c g A ad Q u 119 [(0, .ref (ad 0)), (1, .int x1), (2, .int x2), (3, .int x3), (4, .int x4)] [] := by
  unfold wp_X8_burst_119 at h
  refine z_aload_n C dX8_burst_119 rfl 0 rfl ?_
  refine z_bipush (v := 9) C dX8_burst_120 (by decide) ?_
  refine cRv (As := [.int 9]) C (c_X8_remember l g ad u 9 _ h) v_X8_remember ml8_129 rfl ⟨Nat.le_of_ble_eq_true rfl, Nat.le_of_ble_eq_true rfl⟩ ⟨Nat.zero_le _, Nat.zero_le _⟩ (Nat.le_of_ble_eq_true rfl) rfl dX8_burst_122 ?_
  intro u113 h
  refine z_iconst (v := 0) C dX8_burst_125 (by decide) ?_
  refine z_istore (lv1 := [(5, .int 0), (0, .ref (ad 0)), (1, .int x1), (2, .int x2), (3, .int x3), (4, .int x4)]) C dX8_burst_126 (by decide) rfl ?_
  refine z_iconst (v := 0) C dX8_burst_128 (by decide) ?_
  refine z_istore (lv1 := [(6, .int 0), (5, .int 0), (0, .ref (ad 0)), (1, .int x1), (2, .int x2), (3, .int x3), (4, .int x4)]) C dX8_burst_129 (by decide) rfl ?_
  refine z_lv (lv1 := [(0, .ref (ad 0)), (1, .int x1), (2, .int x2), (3, .int x3), (4, .int x4), (5, .int 0), (6, .int 0)]) [2, 3, 4, 5, 6, 1, 0] rfl ?_
  obtain ⟨n9, h⟩ := h
  exact l_X8_burst_131 C hr ad Q n9 u113 x1 x2 x3 x4 0 0 h
def wp_X8_burst_61 (Q : Int32 → RS → Prop) (B61 : RS → Int32 → Int32 → Int32 → Int32 → Int32 → Prop) (u : RS) (x1 : Int32) (x2 : Int32) (x3 : Int32) (x4 : Int32) (x5 : Int32) : Prop :=
  ((x4 ≤ x5 → wp_X8_burst_119 Q u x1 x2 x3 x4) ∧ (¬ x4 ≤ x5 → ((x2 ≤ x5 → wp_X8_burst_119 Q u x1 x2 x3 x4) ∧ (¬ x2 ≤ x5 → ¬ x4 = 0 ∧ ∀ x125 : Int32, x125 = (((x2 - x5) + x4) - 1) / x4 → ¬ x4 = 0 ∧ wp_X8_hasNext u ((x1 + x5) - (x1 + x5) / x4 * x4) (x125 * x3) (fun r127 u128 => ((¬ r127 = 0 → ∀ x130 : Int32, x130 = x5 + 1 → B61 u128 x1 x2 x3 x4 x130) ∧ (r127 = 0 → wp_X8_refuse u128 (-4) (fun r131 u132 => Q r131 u132))))))))
set_option maxRecDepth 20000 in
theorem b_X8_burst_61 (C : zC p s m args meth c g A cX8_burst RX8 7) (hr : meth.sig.returnType = (some .int)) (ad : Nat → Nat) (Q : Int32 → RS → Prop) (B61 : RS → Int32 → Int32 → Int32 → Int32 → Int32 → Prop) (hB61 : ∀ (u : RS) (x1 : Int32) (x2 : Int32) (x3 : Int32) (x4 : Int32) (x5 : Int32), B61 u x1 x2 x3 x4 x5 → j_X8_burst p l e s m args below meth c g A ad Q u 61 [(0, .ref (ad 0)), (1, .int x1), (2, .int x2), (3, .int x3), (4, .int x4), (5, .int x5)] []) (u : RS) (x1 : Int32) (x2 : Int32) (x3 : Int32) (x4 : Int32) (x5 : Int32) (h : wp_X8_burst_61 Q B61 u x1 x2 x3 x4 x5) : j_X8_burst p l e s m args below meth c g A ad Q u 61 [(0, .ref (ad 0)), (1, .int x1), (2, .int x2), (3, .int x3), (4, .int x4), (5, .int x5)] [] := by
  unfold wp_X8_burst_61 at h
  refine z_iload C dX8_burst_61 5 rfl ?_
  refine z_iload C dX8_burst_63 4 rfl ?_
  refine z_icmp_ge C dX8_burst_65 (tgt := 119) (by decide) (fun hc112 => ?_) (fun hc112 => ?_)
  · have h := h.1 hc112
    refine z_lv (lv1 := [(0, .ref (ad 0)), (1, .int x1), (2, .int x2), (3, .int x3), (4, .int x4)]) [0, 1, 2, 3, 4] rfl ?_
    exact b_X8_burst_119 C hr ad Q u x1 x2 x3 x4 h
  · have h := h.2 hc112
    refine z_iload C dX8_burst_68 5 rfl ?_
    refine z_iload_n C dX8_burst_70 rfl 2 rfl ?_
    refine z_icmp_ge C dX8_burst_71 (tgt := 119) (by decide) (fun hc123 => ?_) (fun hc123 => ?_)
    · have h := h.1 hc123
      refine z_lv (lv1 := [(0, .ref (ad 0)), (1, .int x1), (2, .int x2), (3, .int x3), (4, .int x4)]) [0, 1, 2, 3, 4] rfl ?_
      exact b_X8_burst_119 C hr ad Q u x1 x2 x3 x4 h
    · have h := h.2 hc123
      refine z_iload_n C dX8_burst_74 rfl 2 rfl ?_
      refine z_iload C dX8_burst_75 5 rfl ?_
      refine z_isub C dX8_burst_77 ?_
      refine z_iload C dX8_burst_78 4 rfl ?_
      refine z_iadd C dX8_burst_80 ?_
      refine z_iconst (v := 1) C dX8_burst_81 (by decide) ?_
      refine z_isub C dX8_burst_82 ?_
      refine z_iload C dX8_burst_83 4 rfl ?_
      obtain ⟨hy124, h⟩ := h
      refine z_idiv C dX8_burst_85 hy124 ?_
      refine z_topi (fun x125 ex125 => ?_)
      have h := h x125 ex125
      refine z_istore (lv1 := [(6, .int x125), (0, .ref (ad 0)), (1, .int x1), (2, .int x2), (3, .int x3), (4, .int x4), (5, .int x5)]) C dX8_burst_86 (by decide) rfl ?_
      refine z_aload_n C dX8_burst_88 rfl 1 rfl ?_
      refine z_iload_n C dX8_burst_89 rfl 2 rfl ?_
      refine z_iload C dX8_burst_90 6 rfl ?_
      refine z_iadd C dX8_burst_92 ?_
      refine z_iload C dX8_burst_93 5 rfl ?_
      obtain ⟨hy126, h⟩ := h
      refine z_irem C dX8_burst_95 hy126 ?_
      refine z_iload C dX8_burst_96 0 rfl ?_
      refine z_iload_n C dX8_burst_98 rfl 4 rfl ?_
      refine z_imul C dX8_burst_99 ?_
      refine cRi (As := [.int ((x1 + x5) - (x1 + x5) / x4 * x4), .int (x125 * x3)]) C (c_X8_hasNext l g ad u ((x1 + x5) - (x1 + x5) / x4 * x4) (x125 * x3) _ h) v_X8_hasNext ml8_198 rfl ⟨Nat.le_of_ble_eq_true rfl, Nat.le_of_ble_eq_true rfl⟩ ⟨Nat.zero_le _, Nat.zero_le _⟩ (Nat.le_of_ble_eq_true rfl) rfl dX8_burst_100 ?_
      intro r127 u128 h
      refine z_if_ne C dX8_burst_103 (tgt := 113) (by decide) (fun hc129 => ?_) (fun hc129 => ?_)
      · have h := h.1 hc129
        obtain ⟨x130, ex130⟩ : ∃ y : Int32, y = x5 + 1 := ⟨_, rfl⟩
        have h := h x130 ex130
        refine z_iinc (v := x130) (lv1 := [(5, .int x130), (6, .int x125), (0, .ref (ad 0)), (1, .int x1), (2, .int x2), (3, .int x3), (4, .int x4)]) C dX8_burst_113 6 rfl (by rw [ex130]; rfl) (by decide) rfl ?_
        refine z_goto C dX8_burst_116 (tgt := 61) (by decide) ?_
        refine z_lv (lv1 := [(0, .ref (ad 0)), (1, .int x1), (2, .int x2), (3, .int x3), (4, .int x4), (5, .int x130)]) [2, 3, 4, 5, 6, 0] rfl ?_
        exact hB61 u128 x1 x2 x3 x4 x130 h
      · have h := h.2 hc129
        refine z_aload_n C dX8_burst_106 rfl 1 rfl ?_
        refine z_bipush (v := (-4)) C dX8_burst_107 (by decide) ?_
        refine cRi (As := [.int (-4)]) C (c_X8_refuse l g ad u128 (-4) _ h) v_X8_refuse ml8_75 rfl ⟨Nat.le_of_ble_eq_true rfl, Nat.le_of_ble_eq_true rfl⟩ ⟨Nat.zero_le _, Nat.zero_le _⟩ (Nat.le_of_ble_eq_true rfl) rfl dX8_burst_109 ?_
        intro r131 u132 h
        exact z_iret C hr u132 rfl h dX8_burst_112
theorem l_X8_burst_61 (C : zC p s m args meth c g A cX8_burst RX8 7) (hr : meth.sig.returnType = (some .int)) (ad : Nat → Nat) (Q : Int32 → RS → Prop) : ∀ (n : Nat) (u : RS) (x1 : Int32) (x2 : Int32) (x3 : Int32) (x4 : Int32) (x5 : Int32), zit6 (wp_X8_burst_61 Q) n u x1 x2 x3 x4 x5 → j_X8_burst p l e s m args below meth c g A ad Q u 61 [(0, .ref (ad 0)), (1, .int x1), (2, .int x2), (3, .int x3), (4, .int x4), (5, .int x5)] [] := by
  intro n
  induction n with
  | zero => exact fun u x1 x2 x3 x4 x5 h => h.elim
  | succ n ih => exact fun u x1 x2 x3 x4 x5 h => b_X8_burst_61 C hr ad Q (zit6 (wp_X8_burst_61 Q) n) ih u x1 x2 x3 x4 x5 h
def wp_X8_burst (u : RS) (x1 : Int32) (x2 : Int32) (x3 : Int32) (Q : Int32 → RS → Prop) : Prop :=
  ∀ u101 : RS, u101 = rN u 0 0 → wp_X8_in ((x2).toInt64) 1 20 (fun r102 => ((r102 = 0 → wp_X8_burst_29 Q u101) ∧ (¬ r102 = 0 → wp_X8_in ((x3).toInt64) 1 1500 (fun r106 => ((¬ r106 = 0 → wp_X8_isFlow u101 x1 (fun r108 u109 => ((¬ r108 = 0 → ∀ x111 : Int32, x111 = u109.1 3 4 → (∃ n, zit6 (wp_X8_burst_61 Q) n u109 x1 x2 x3 x111 0)) ∧ (r108 = 0 → wp_X8_refuse u109 (-2) (fun r133 u134 => Q r133 u134))))) ∧ (r106 = 0 → wp_X8_burst_29 Q u101))))))
set_option maxRecDepth 20000 in
theorem c_X8_burst (l : Launch) (g : zG) (ad : Nat → Nat) (u : RS) (x1 : Int32) (x2 : Int32) (x3 : Int32) (Q : Int32 → RS → Prop) (h : wp_X8_burst u x1 x2 x3 Q) : zMi l yX8_burst cX8_burst 7 (some .int) 4 0 0 g [.ref (ad 0), .int x1, .int x2, .int x3] (wR g ad u) (wR g ad) Q := by
  refine zMi_of RX8 (by decide) rfl [(0, .ref (ad 0)), (1, .int x1), (2, .int x2), (3, .int x3)] rfl (Nat.le_of_ble_eq_true rfl) (fun p e s m args below meth c A C hr hnm => ?_)
  unfold wp_X8_burst at h
  refine z_aload_n C dX8_burst_0 rfl 0 rfl ?_
  refine z_iconst (v := 0) C dX8_burst_1 (by decide) ?_
  refine pR_thrown C dX8_burst_2 ?_
  refine z_stR (fun u101 eu101 => ?_)
  have h := h u101 eu101
  refine z_iload_n C dX8_burst_5 rfl 2 rfl ?_
  refine z_i2l C dX8_burst_6 ?_
  refine z_lconst (v := 1) C dX8_burst_7 (by decide) ?_
  refine z_ldc2 (v := 20) C dX8_burst_8 k8_204 ?_
  refine cSi (As := [.long ((x2).toInt64), .long 1, .long 20]) C (c_X8_in l g ((x2).toInt64) 1 20 _ h) s_X8_in ml8_84 ⟨Nat.le_of_ble_eq_true rfl, Nat.le_of_ble_eq_true rfl⟩ ⟨Nat.zero_le _, Nat.zero_le _⟩ (Nat.le_of_ble_eq_true rfl) rfl dX8_burst_11 ?_
  intro r102 h
  refine z_if_eq C dX8_burst_14 (tgt := 29) (by decide) (fun hc103 => ?_) (fun hc103 => ?_)
  · have h := h.1 hc103
    refine z_lv (lv1 := [(0, .ref (ad 0))]) [0] rfl ?_
    exact b_X8_burst_29 C hr ad Q u101 h
  · have h := h.2 hc103
    refine z_iload_n C dX8_burst_17 rfl 3 rfl ?_
    refine z_i2l C dX8_burst_18 ?_
    refine z_lconst (v := 1) C dX8_burst_19 (by decide) ?_
    refine z_ldc2 (v := 1500) C dX8_burst_20 k8_196 ?_
    refine cSi (As := [.long ((x3).toInt64), .long 1, .long 1500]) C (c_X8_in l g ((x3).toInt64) 1 1500 _ h) s_X8_in ml8_84 ⟨Nat.le_of_ble_eq_true rfl, Nat.le_of_ble_eq_true rfl⟩ ⟨Nat.zero_le _, Nat.zero_le _⟩ (Nat.le_of_ble_eq_true rfl) rfl dX8_burst_23 ?_
    intro r106 h
    refine z_if_ne C dX8_burst_26 (tgt := 35) (by decide) (fun hc107 => ?_) (fun hc107 => ?_)
    · have h := h.1 hc107
      refine z_aload_n C dX8_burst_35 rfl 0 rfl ?_
      refine z_iload_n C dX8_burst_36 rfl 1 rfl ?_
      refine cRi (As := [.int x1]) C (c_X8_isFlow l g ad u101 x1 _ h) v_X8_isFlow ml8_164 rfl ⟨Nat.le_of_ble_eq_true rfl, Nat.le_of_ble_eq_true rfl⟩ ⟨Nat.zero_le _, Nat.zero_le _⟩ (Nat.le_of_ble_eq_true rfl) rfl dX8_burst_37 ?_
      intro r108 u109 h
      refine z_if_ne C dX8_burst_40 (tgt := 50) (by decide) (fun hc110 => ?_) (fun hc110 => ?_)
      · have h := h.1 hc110
        refine z_aload_n C dX8_burst_50 rfl 0 rfl ?_
        refine gR_row C dX8_burst_51 ?_
        refine z_iconst (v := 4) C dX8_burst_54 (by decide) ?_
        refine lRn_row C 4 (by decide +kernel) (vp_in_iff.mpr (by decide +kernel)) dX8_burst_55 ?_
        refine z_topi (fun x111 ex111 => ?_)
        have h := h x111 ex111
        refine z_istore (lv1 := [(4, .int x111), (0, .ref (ad 0)), (1, .int x1), (2, .int x2), (3, .int x3)]) C dX8_burst_56 (by decide) rfl ?_
        refine z_iconst (v := 0) C dX8_burst_58 (by decide) ?_
        refine z_istore (lv1 := [(5, .int 0), (4, .int x111), (0, .ref (ad 0)), (1, .int x1), (2, .int x2), (3, .int x3)]) C dX8_burst_59 (by decide) rfl ?_
        refine z_lv (lv1 := [(0, .ref (ad 0)), (1, .int x1), (2, .int x2), (3, .int x3), (4, .int x111), (5, .int 0)]) [2, 3, 4, 5, 1, 0] rfl ?_
        obtain ⟨n9, h⟩ := h
        exact l_X8_burst_61 C hr ad Q n9 u109 x1 x2 x3 x111 0 h
      · have h := h.2 hc110
        refine z_aload_n C dX8_burst_43 rfl 0 rfl ?_
        refine z_bipush (v := (-2)) C dX8_burst_44 (by decide) ?_
        refine cRi (As := [.int (-2)]) C (c_X8_refuse l g ad u109 (-2) _ h) v_X8_refuse ml8_75 rfl ⟨Nat.le_of_ble_eq_true rfl, Nat.le_of_ble_eq_true rfl⟩ ⟨Nat.zero_le _, Nat.zero_le _⟩ (Nat.le_of_ble_eq_true rfl) rfl dX8_burst_46 ?_
        intro r133 u134 h
        exact z_iret C hr u134 rfl h dX8_burst_49
    · have h := h.2 hc107
      refine z_lv (lv1 := [(0, .ref (ad 0))]) [0] rfl ?_
      exact b_X8_burst_29 C hr ad Q u101 h
abbrev j_X8_gives (p : Program) (l : Launch) (e : Env) (s : State) (m : MethodId) (args : Array Value) (below : List Frame) (meth : Method) (c : Code) (g : zG) (A : Nat → Prop) (ad : Nat → Nat) (Q : RS → Prop) (u : RS) (pc : Nat) (lv : List (Nat × Value)) (st : List Value) : Prop := zJ p l e (zR 4 0 0) s m args below meth c g A 10 (zQv below args s g A 0 0 (wR g ad) Q) (wR g ad u) 0 0 pc lv st
def wp_X8_gives_279 (Q : RS → Prop) (u : RS) (x1 : Int32) (x2 : Int32) (x3 : Int32) (x4 : Int32) (x5 : Int32) (x6 : Int32) (x7 : Int32) (x8 : Int32) (t0 : Int64) (t1 : Int64) (t2 : Int32) : Prop :=
  vp_in t2 7 ∧ ∀ u132 : RS, u132 = rL u 4 (vp_updL (u.2 4) (zn t2) (t1 + t0)) → ∀ u133 : RS, u133 = rL u132 4 (vp_updL (u132.2 4) 4 ((u132.2 4 4) + ((x6).toInt64))) → ∀ u134 : RS, u134 = rL u133 4 (vp_updL (u133.2 4) 5 ((u133.2 4 5) + ((x7).toInt64))) → ∀ u135 : RS, u135 = rL u134 4 (vp_updL (u134.2 4) 6 ((u134.2 4 6) + ((x8).toInt64))) → vp_in x3 72 ∧ vp_in (x4 + 9) 1065 ∧ ∀ u138 : RS, u138 = rI u135 3 (upd (u135.1 3) (zn (x4 + 9)) ((u135.1 17 (zn x3)) + x5)) → vp_in (x4 + 10) 1065 ∧ vp_in (x4 + 10) 1065 ∧ ∀ u141 : RS, u141 = rI u138 3 (upd (u138.1 3) (zn (x4 + 10)) ((u138.1 3 (zn (x4 + 10))) + 1)) → vp_in (x4 + 13) 1065 ∧ vp_in (x4 + 13) 1065 ∧ ∀ u144 : RS, u144 = rI u141 3 (upd (u141.1 3) (zn (x4 + 13)) ((u141.1 3 (zn (x4 + 13))) + x5)) → vp_in (x3 + 2) 72 ∧ ∀ u146 : RS, u146 = rI u144 17 (upd (u144.1 17) (zn (x3 + 2)) 0) → ∀ u147 : RS, u147 = rN u146 18 ((u146.1 18 0) + 1) → wp_X8_follows u147 x1 x2 (fun u148 => Q u148)
set_option maxRecDepth 20000 in
theorem b_X8_gives_279 (C : zC p s m args meth c g A cX8_gives RX8 10) (hr : meth.sig.returnType = none) (ad : Nat → Nat) (Q : RS → Prop) (u : RS) (x1 : Int32) (x2 : Int32) (x3 : Int32) (x4 : Int32) (x5 : Int32) (x6 : Int32) (x7 : Int32) (x8 : Int32) (t0 : Int64) (t1 : Int64) (t2 : Int32) (h : wp_X8_gives_279 Q u x1 x2 x3 x4 x5 x6 x7 x8 t0 t1 t2) : j_X8_gives p l e s m args below meth c g A ad Q u 279 [(0, .ref (ad 0)), (1, .int x1), (2, .int x2), (3, .int x3), (4, .int x4), (5, .int x5), (6, .int x6), (7, .int x7), (8, .int x8)] [.long t0, .long t1, .int t2, .ref (ad 3)] := by
  unfold wp_X8_gives_279 at h
  refine z_ladd C dX8_gives_279 ?_
  obtain ⟨hi131, h⟩ := h
  refine sR_sums C hi131 dX8_gives_280 ?_
  refine z_stR (fun u132 eu132 => ?_)
  have h := h u132 eu132
  refine z_aload_n C dX8_gives_281 rfl 0 rfl ?_
  refine gR_sums C dX8_gives_282 ?_
  refine z_iconst (v := 4) C dX8_gives_285 (by decide) ?_
  refine z_dup2 C dX8_gives_286 rfl rfl ?_
  refine lRn_sums C 4 (by decide +kernel) (vp_in_iff.mpr (by decide +kernel)) dX8_gives_287 ?_
  refine z_iload C dX8_gives_288 6 rfl ?_
  refine z_i2l C dX8_gives_290 ?_
  refine z_ladd C dX8_gives_291 ?_
  refine sRn_sums C 4 (by decide +kernel) (vp_in_iff.mpr (by decide +kernel)) dX8_gives_292 ?_
  refine z_stR (fun u133 eu133 => ?_)
  have h := h u133 eu133
  refine z_aload_n C dX8_gives_293 rfl 0 rfl ?_
  refine gR_sums C dX8_gives_294 ?_
  refine z_iconst (v := 5) C dX8_gives_297 (by decide) ?_
  refine z_dup2 C dX8_gives_298 rfl rfl ?_
  refine lRn_sums C 5 (by decide +kernel) (vp_in_iff.mpr (by decide +kernel)) dX8_gives_299 ?_
  refine z_iload C dX8_gives_300 7 rfl ?_
  refine z_i2l C dX8_gives_302 ?_
  refine z_ladd C dX8_gives_303 ?_
  refine sRn_sums C 5 (by decide +kernel) (vp_in_iff.mpr (by decide +kernel)) dX8_gives_304 ?_
  refine z_stR (fun u134 eu134 => ?_)
  have h := h u134 eu134
  refine z_aload_n C dX8_gives_305 rfl 0 rfl ?_
  refine gR_sums C dX8_gives_306 ?_
  refine z_bipush (v := 6) C dX8_gives_309 (by decide) ?_
  refine z_dup2 C dX8_gives_311 rfl rfl ?_
  refine lRn_sums C 6 (by decide +kernel) (vp_in_iff.mpr (by decide +kernel)) dX8_gives_312 ?_
  refine z_iload C dX8_gives_313 8 rfl ?_
  refine z_i2l C dX8_gives_315 ?_
  refine z_ladd C dX8_gives_316 ?_
  refine sRn_sums C 6 (by decide +kernel) (vp_in_iff.mpr (by decide +kernel)) dX8_gives_317 ?_
  refine z_stR (fun u135 eu135 => ?_)
  have h := h u135 eu135
  refine z_aload_n C dX8_gives_318 rfl 0 rfl ?_
  refine gR_row C dX8_gives_319 ?_
  refine z_iload C dX8_gives_322 4 rfl ?_
  refine z_bipush (v := 9) C dX8_gives_324 (by decide) ?_
  refine z_iadd C dX8_gives_326 ?_
  refine z_aload_n C dX8_gives_327 rfl 0 rfl ?_
  refine gR_open C dX8_gives_328 ?_
  refine z_iload_n C dX8_gives_331 rfl 3 rfl ?_
  obtain ⟨hi136, h⟩ := h
  refine lR_open C hi136 dX8_gives_332 ?_
  refine z_iload C dX8_gives_333 5 rfl ?_
  refine z_iadd C dX8_gives_335 ?_
  obtain ⟨hi137, h⟩ := h
  refine sR_row C hi137 dX8_gives_336 ?_
  refine z_stR (fun u138 eu138 => ?_)
  have h := h u138 eu138
  refine z_aload_n C dX8_gives_337 rfl 0 rfl ?_
  refine gR_row C dX8_gives_338 ?_
  refine z_iload C dX8_gives_341 4 rfl ?_
  refine z_bipush (v := 10) C dX8_gives_343 (by decide) ?_
  refine z_iadd C dX8_gives_345 ?_
  refine z_dup2 C dX8_gives_346 rfl rfl ?_
  obtain ⟨hi139, h⟩ := h
  refine lR_row C hi139 dX8_gives_347 ?_
  refine z_iconst (v := 1) C dX8_gives_348 (by decide) ?_
  refine z_iadd C dX8_gives_349 ?_
  obtain ⟨hi140, h⟩ := h
  refine sR_row C hi140 dX8_gives_350 ?_
  refine z_stR (fun u141 eu141 => ?_)
  have h := h u141 eu141
  refine z_aload_n C dX8_gives_351 rfl 0 rfl ?_
  refine gR_row C dX8_gives_352 ?_
  refine z_iload C dX8_gives_355 4 rfl ?_
  refine z_bipush (v := 13) C dX8_gives_357 (by decide) ?_
  refine z_iadd C dX8_gives_359 ?_
  refine z_dup2 C dX8_gives_360 rfl rfl ?_
  obtain ⟨hi142, h⟩ := h
  refine lR_row C hi142 dX8_gives_361 ?_
  refine z_iload C dX8_gives_362 5 rfl ?_
  refine z_iadd C dX8_gives_364 ?_
  obtain ⟨hi143, h⟩ := h
  refine sR_row C hi143 dX8_gives_365 ?_
  refine z_stR (fun u144 eu144 => ?_)
  have h := h u144 eu144
  refine z_aload_n C dX8_gives_366 rfl 0 rfl ?_
  refine gR_open C dX8_gives_367 ?_
  refine z_iload_n C dX8_gives_370 rfl 3 rfl ?_
  refine z_iconst (v := 2) C dX8_gives_371 (by decide) ?_
  refine z_iadd C dX8_gives_372 ?_
  refine z_iconst (v := 0) C dX8_gives_373 (by decide) ?_
  obtain ⟨hi145, h⟩ := h
  refine sR_open C hi145 dX8_gives_374 ?_
  refine z_stR (fun u146 eu146 => ?_)
  have h := h u146 eu146
  refine z_aload_n C dX8_gives_375 rfl 0 rfl ?_
  refine z_dup C dX8_gives_376 rfl ?_
  refine gR_givenMany C dX8_gives_377 ?_
  refine z_iconst (v := 1) C dX8_gives_380 (by decide) ?_
  refine z_iadd C dX8_gives_381 ?_
  refine pR_givenMany C dX8_gives_382 ?_
  refine z_stR (fun u147 eu147 => ?_)
  have h := h u147 eu147
  refine z_aload_n C dX8_gives_385 rfl 0 rfl ?_
  refine z_iload_n C dX8_gives_386 rfl 1 rfl ?_
  refine z_iload_n C dX8_gives_387 rfl 2 rfl ?_
  refine cRv (As := [.int x1, .int x2]) C (c_X8_follows l g ad u147 x1 x2 _ h) v_X8_follows ml8_212 rfl ⟨Nat.le_of_ble_eq_true rfl, Nat.le_of_ble_eq_true rfl⟩ ⟨Nat.zero_le _, Nat.zero_le _⟩ (Nat.le_of_ble_eq_true rfl) rfl dX8_gives_388 ?_
  intro u148 h
  exact z_vret C hr u148 rfl h dX8_gives_391
def wp_X8_gives_122 (Q : RS → Prop) (u : RS) (x1 : Int32) (x2 : Int32) (x3 : Int32) (x4 : Int32) (x5 : Int32) (x6 : Int32) (x7 : Int32) (x8 : Int32) : Prop :=
  ∀ x110 : Int32, x110 = 993 + (6 * (u.1 3 13)) → vp_in x110 1065 ∧ ∀ u112 : RS, u112 = rI u 3 (upd (u.1 3) (zn x110) x1) → vp_in x3 72 ∧ vp_in (x110 + 1) 1065 ∧ ∀ u115 : RS, u115 = rI u112 3 (upd (u112.1 3) (zn (x110 + 1)) (u112.1 17 (zn x3))) → vp_in (x110 + 2) 1065 ∧ ∀ u117 : RS, u117 = rI u115 3 (upd (u115.1 3) (zn (x110 + 2)) x5) → vp_in (x3 + 2) 72 ∧ vp_in (x110 + 3) 1065 ∧ ∀ u120 : RS, u120 = rI u117 3 (upd (u117.1 3) (zn (x110 + 3)) (u117.1 17 (zn (x3 + 2)))) → vp_in (x110 + 4) 1065 ∧ ∀ u122 : RS, u122 = rI u120 3 (upd (u120.1 3) (zn (x110 + 4)) x8) → vp_in (x110 + 5) 1065 ∧ ∀ u124 : RS, u124 = rI u122 3 (upd (u122.1 3) (zn (x110 + 5)) x6) → ∀ u125 : RS, u125 = rI u124 3 (upd (u124.1 3) 13 ((u124.1 3 13) + 1)) → ∀ u126 : RS, u126 = rL u125 4 (vp_updL (u125.2 4) 0 ((u125.2 4 0) + 1)) → vp_in (x3 + 2) 72 ∧ ∀ u128 : RS, u128 = rL u126 4 (vp_updL (u126.2 4) 1 ((u126.2 4 1) + ((u126.1 17 (zn (x3 + 2))).toInt64))) → ∀ u129 : RS, u129 = rL u128 4 (vp_updL (u128.2 4) 2 ((u128.2 4 2) + ((x5).toInt64))) → ((x6 ≤ 0 → wp_X8_gives_279 Q u129 x1 x2 x3 x4 x5 x6 x7 x8 0 (u129.2 4 3) 3) ∧ (¬ x6 ≤ 0 → wp_X8_gives_279 Q u129 x1 x2 x3 x4 x5 x6 x7 x8 1 (u129.2 4 3) 3))
set_option maxRecDepth 20000 in
theorem b_X8_gives_122 (C : zC p s m args meth c g A cX8_gives RX8 10) (hr : meth.sig.returnType = none) (ad : Nat → Nat) (Q : RS → Prop) (u : RS) (x1 : Int32) (x2 : Int32) (x3 : Int32) (x4 : Int32) (x5 : Int32) (x6 : Int32) (x7 : Int32) (x8 : Int32) (h : wp_X8_gives_122 Q u x1 x2 x3 x4 x5 x6 x7 x8) : j_X8_gives p l e s m args below meth c g A ad Q u 122 [(0, .ref (ad 0)), (1, .int x1), (2, .int x2), (3, .int x3), (4, .int x4), (5, .int x5), (6, .int x6), (7, .int x7), (8, .int x8)] [] := by
  unfold wp_X8_gives_122 at h
  refine z_sipush (v := 993) C dX8_gives_122 (by decide) ?_
  refine z_bipush (v := 6) C dX8_gives_125 (by decide) ?_
  refine z_aload_n C dX8_gives_127 rfl 0 rfl ?_
  refine gR_row C dX8_gives_128 ?_
  refine z_bipush (v := 13) C dX8_gives_131 (by decide) ?_
  refine lRn_row C 13 (by decide +kernel) (vp_in_iff.mpr (by decide +kernel)) dX8_gives_133 ?_
  refine z_imul C dX8_gives_134 ?_
  refine z_iadd C dX8_gives_135 ?_
  refine z_topi (fun x110 ex110 => ?_)
  have h := h x110 ex110
  refine z_istore (lv1 := [(9, .int x110), (0, .ref (ad 0)), (1, .int x1), (2, .int x2), (3, .int x3), (4, .int x4), (5, .int x5), (6, .int x6), (7, .int x7), (8, .int x8)]) C dX8_gives_136 (by decide) rfl ?_
  refine z_aload_n C dX8_gives_138 rfl 1 rfl ?_
  refine gR_row C dX8_gives_139 ?_
  refine z_iload C dX8_gives_142 0 rfl ?_
  refine z_iload_n C dX8_gives_144 rfl 2 rfl ?_
  obtain ⟨hi111, h⟩ := h
  refine sR_row C hi111 dX8_gives_145 ?_
  refine z_stR (fun u112 eu112 => ?_)
  have h := h u112 eu112
  refine z_aload_n C dX8_gives_146 rfl 1 rfl ?_
  refine gR_row C dX8_gives_147 ?_
  refine z_iload C dX8_gives_150 0 rfl ?_
  refine z_iconst (v := 1) C dX8_gives_152 (by decide) ?_
  refine z_iadd C dX8_gives_153 ?_
  refine z_aload_n C dX8_gives_154 rfl 1 rfl ?_
  refine gR_open C dX8_gives_155 ?_
  refine z_iload_n C dX8_gives_158 rfl 4 rfl ?_
  obtain ⟨hi113, h⟩ := h
  refine lR_open C hi113 dX8_gives_159 ?_
  obtain ⟨hi114, h⟩ := h
  refine sR_row C hi114 dX8_gives_160 ?_
  refine z_stR (fun u115 eu115 => ?_)
  have h := h u115 eu115
  refine z_aload_n C dX8_gives_161 rfl 1 rfl ?_
  refine gR_row C dX8_gives_162 ?_
  refine z_iload C dX8_gives_165 0 rfl ?_
  refine z_iconst (v := 2) C dX8_gives_167 (by decide) ?_
  refine z_iadd C dX8_gives_168 ?_
  refine z_iload C dX8_gives_169 6 rfl ?_
  obtain ⟨hi116, h⟩ := h
  refine sR_row C hi116 dX8_gives_171 ?_
  refine z_stR (fun u117 eu117 => ?_)
  have h := h u117 eu117
  refine z_aload_n C dX8_gives_172 rfl 1 rfl ?_
  refine gR_row C dX8_gives_173 ?_
  refine z_iload C dX8_gives_176 0 rfl ?_
  refine z_iconst (v := 3) C dX8_gives_178 (by decide) ?_
  refine z_iadd C dX8_gives_179 ?_
  refine z_aload_n C dX8_gives_180 rfl 1 rfl ?_
  refine gR_open C dX8_gives_181 ?_
  refine z_iload_n C dX8_gives_184 rfl 4 rfl ?_
  refine z_iconst (v := 2) C dX8_gives_185 (by decide) ?_
  refine z_iadd C dX8_gives_186 ?_
  obtain ⟨hi118, h⟩ := h
  refine lR_open C hi118 dX8_gives_187 ?_
  obtain ⟨hi119, h⟩ := h
  refine sR_row C hi119 dX8_gives_188 ?_
  refine z_stR (fun u120 eu120 => ?_)
  have h := h u120 eu120
  refine z_aload_n C dX8_gives_189 rfl 1 rfl ?_
  refine gR_row C dX8_gives_190 ?_
  refine z_iload C dX8_gives_193 0 rfl ?_
  refine z_iconst (v := 4) C dX8_gives_195 (by decide) ?_
  refine z_iadd C dX8_gives_196 ?_
  refine z_iload C dX8_gives_197 9 rfl ?_
  obtain ⟨hi121, h⟩ := h
  refine sR_row C hi121 dX8_gives_199 ?_
  refine z_stR (fun u122 eu122 => ?_)
  have h := h u122 eu122
  refine z_aload_n C dX8_gives_200 rfl 1 rfl ?_
  refine gR_row C dX8_gives_201 ?_
  refine z_iload C dX8_gives_204 0 rfl ?_
  refine z_iconst (v := 5) C dX8_gives_206 (by decide) ?_
  refine z_iadd C dX8_gives_207 ?_
  refine z_iload C dX8_gives_208 7 rfl ?_
  obtain ⟨hi123, h⟩ := h
  refine sR_row C hi123 dX8_gives_210 ?_
  refine z_stR (fun u124 eu124 => ?_)
  have h := h u124 eu124
  refine z_aload_n C dX8_gives_211 rfl 1 rfl ?_
  refine gR_row C dX8_gives_212 ?_
  refine z_bipush (v := 13) C dX8_gives_215 (by decide) ?_
  refine z_dup2 C dX8_gives_217 rfl rfl ?_
  refine lRn_row C 13 (by decide +kernel) (vp_in_iff.mpr (by decide +kernel)) dX8_gives_218 ?_
  refine z_iconst (v := 1) C dX8_gives_219 (by decide) ?_
  refine z_iadd C dX8_gives_220 ?_
  refine sRn_row C 13 (by decide +kernel) (vp_in_iff.mpr (by decide +kernel)) dX8_gives_221 ?_
  refine z_stR (fun u125 eu125 => ?_)
  have h := h u125 eu125
  refine z_aload_n C dX8_gives_222 rfl 1 rfl ?_
  refine gR_sums C dX8_gives_223 ?_
  refine z_iconst (v := 0) C dX8_gives_226 (by decide) ?_
  refine z_dup2 C dX8_gives_227 rfl rfl ?_
  refine lRn_sums C 0 (by decide +kernel) (vp_in_iff.mpr (by decide +kernel)) dX8_gives_228 ?_
  refine z_lconst (v := 1) C dX8_gives_229 (by decide) ?_
  refine z_ladd C dX8_gives_230 ?_
  refine sRn_sums C 0 (by decide +kernel) (vp_in_iff.mpr (by decide +kernel)) dX8_gives_231 ?_
  refine z_stR (fun u126 eu126 => ?_)
  have h := h u126 eu126
  refine z_aload_n C dX8_gives_232 rfl 1 rfl ?_
  refine gR_sums C dX8_gives_233 ?_
  refine z_iconst (v := 1) C dX8_gives_236 (by decide) ?_
  refine z_dup2 C dX8_gives_237 rfl rfl ?_
  refine lRn_sums C 1 (by decide +kernel) (vp_in_iff.mpr (by decide +kernel)) dX8_gives_238 ?_
  refine z_aload_n C dX8_gives_239 rfl 1 rfl ?_
  refine gR_open C dX8_gives_240 ?_
  refine z_iload_n C dX8_gives_243 rfl 4 rfl ?_
  refine z_iconst (v := 2) C dX8_gives_244 (by decide) ?_
  refine z_iadd C dX8_gives_245 ?_
  obtain ⟨hi127, h⟩ := h
  refine lR_open C hi127 dX8_gives_246 ?_
  refine z_i2l C dX8_gives_247 ?_
  refine z_ladd C dX8_gives_248 ?_
  refine sRn_sums C 1 (by decide +kernel) (vp_in_iff.mpr (by decide +kernel)) dX8_gives_249 ?_
  refine z_stR (fun u128 eu128 => ?_)
  have h := h u128 eu128
  refine z_aload_n C dX8_gives_250 rfl 1 rfl ?_
  refine gR_sums C dX8_gives_251 ?_
  refine z_iconst (v := 2) C dX8_gives_254 (by decide) ?_
  refine z_dup2 C dX8_gives_255 rfl rfl ?_
  refine lRn_sums C 2 (by decide +kernel) (vp_in_iff.mpr (by decide +kernel)) dX8_gives_256 ?_
  refine z_iload C dX8_gives_257 6 rfl ?_
  refine z_i2l C dX8_gives_259 ?_
  refine z_ladd C dX8_gives_260 ?_
  refine sRn_sums C 2 (by decide +kernel) (vp_in_iff.mpr (by decide +kernel)) dX8_gives_261 ?_
  refine z_stR (fun u129 eu129 => ?_)
  have h := h u129 eu129
  refine z_aload_n C dX8_gives_262 rfl 1 rfl ?_
  refine gR_sums C dX8_gives_263 ?_
  refine z_iconst (v := 3) C dX8_gives_266 (by decide) ?_
  refine z_dup2 C dX8_gives_267 rfl rfl ?_
  refine lRn_sums C 3 (by decide +kernel) (vp_in_iff.mpr (by decide +kernel)) dX8_gives_268 ?_
  refine z_iload C dX8_gives_269 7 rfl ?_
  refine z_if_le C dX8_gives_271 (tgt := 278) (by decide) (fun hc130 => ?_) (fun hc130 => ?_)
  · have h := h.1 hc130
    refine z_lconst (v := 0) C dX8_gives_278 (by decide) ?_
    refine z_lv (lv1 := [(0, .ref (ad 0)), (1, .int x1), (2, .int x2), (3, .int x3), (4, .int x4), (5, .int x5), (6, .int x6), (7, .int x7), (8, .int x8)]) [1, 2, 3, 4, 5, 6, 7, 8, 9] rfl ?_
    exact b_X8_gives_279 C hr ad Q u129 x1 x2 x3 x4 x5 x6 x7 x8 0 (u129.2 4 3) 3 h
  · have h := h.2 hc130
    refine z_lconst (v := 1) C dX8_gives_274 (by decide) ?_
    refine z_goto C dX8_gives_275 (tgt := 279) (by decide) ?_
    refine z_lv (lv1 := [(0, .ref (ad 0)), (1, .int x1), (2, .int x2), (3, .int x3), (4, .int x4), (5, .int x5), (6, .int x6), (7, .int x7), (8, .int x8)]) [1, 2, 3, 4, 5, 6, 7, 8, 9] rfl ?_
    exact b_X8_gives_279 C hr ad Q u129 x1 x2 x3 x4 x5 x6 x7 x8 1 (u129.2 4 3) 3 h
def wp_X8_gives_80 (Q : RS → Prop) (B80 : RS → Int32 → Int32 → Int32 → Int32 → Int32 → Int32 → Int32 → Int32 → Int32 → Prop) (u : RS) (x1 : Int32) (x2 : Int32) (x3 : Int32) (x4 : Int32) (x5 : Int32) (x6 : Int32) (x7 : Int32) (x8 : Int32) (x9 : Int32) : Prop :=
  ((1059 ≤ x9 → ∀ u150 : RS, u150 = rI u 3 (upd (u.1 3) 13 ((u.1 3 13) - 1)) → wp_X8_gives_122 Q u150 x1 x2 x3 x4 x5 x6 x7 x8) ∧ (¬ 1059 ≤ x9 → vp_in (x9 + 6) 1065 ∧ vp_in x9 1065 ∧ ∀ u153 : RS, u153 = rI u 3 (upd (u.1 3) (zn x9) (u.1 3 (zn (x9 + 6)))) → ∀ x154 : Int32, x154 = x9 + 1 → B80 u153 x1 x2 x3 x4 x5 x6 x7 x8 x154))
set_option maxRecDepth 20000 in
theorem b_X8_gives_80 (C : zC p s m args meth c g A cX8_gives RX8 10) (hr : meth.sig.returnType = none) (ad : Nat → Nat) (Q : RS → Prop) (B80 : RS → Int32 → Int32 → Int32 → Int32 → Int32 → Int32 → Int32 → Int32 → Int32 → Prop) (hB80 : ∀ (u : RS) (x1 : Int32) (x2 : Int32) (x3 : Int32) (x4 : Int32) (x5 : Int32) (x6 : Int32) (x7 : Int32) (x8 : Int32) (x9 : Int32), B80 u x1 x2 x3 x4 x5 x6 x7 x8 x9 → j_X8_gives p l e s m args below meth c g A ad Q u 80 [(0, .ref (ad 0)), (1, .int x1), (2, .int x2), (3, .int x3), (4, .int x4), (5, .int x5), (6, .int x6), (7, .int x7), (8, .int x8), (9, .int x9)] []) (u : RS) (x1 : Int32) (x2 : Int32) (x3 : Int32) (x4 : Int32) (x5 : Int32) (x6 : Int32) (x7 : Int32) (x8 : Int32) (x9 : Int32) (h : wp_X8_gives_80 Q B80 u x1 x2 x3 x4 x5 x6 x7 x8 x9) : j_X8_gives p l e s m args below meth c g A ad Q u 80 [(0, .ref (ad 0)), (1, .int x1), (2, .int x2), (3, .int x3), (4, .int x4), (5, .int x5), (6, .int x6), (7, .int x7), (8, .int x8), (9, .int x9)] [] := by
  unfold wp_X8_gives_80 at h
  refine z_iload C dX8_gives_80 9 rfl ?_
  refine z_sipush (v := 1059) C dX8_gives_82 (by decide) ?_
  refine z_icmp_ge C dX8_gives_85 (tgt := 111) (by decide) (fun hc149 => ?_) (fun hc149 => ?_)
  · have h := h.1 hc149
    refine z_aload_n C dX8_gives_111 rfl 0 rfl ?_
    refine gR_row C dX8_gives_112 ?_
    refine z_bipush (v := 13) C dX8_gives_115 (by decide) ?_
    refine z_dup2 C dX8_gives_117 rfl rfl ?_
    refine lRn_row C 13 (by decide +kernel) (vp_in_iff.mpr (by decide +kernel)) dX8_gives_118 ?_
    refine z_iconst (v := 1) C dX8_gives_119 (by decide) ?_
    refine z_isub C dX8_gives_120 ?_
    refine sRn_row C 13 (by decide +kernel) (vp_in_iff.mpr (by decide +kernel)) dX8_gives_121 ?_
    refine z_stR (fun u150 eu150 => ?_)
    have h := h u150 eu150
    refine z_lv (lv1 := [(0, .ref (ad 0)), (1, .int x1), (2, .int x2), (3, .int x3), (4, .int x4), (5, .int x5), (6, .int x6), (7, .int x7), (8, .int x8)]) [0, 1, 2, 3, 4, 5, 6, 7, 8] rfl ?_
    exact b_X8_gives_122 C hr ad Q u150 x1 x2 x3 x4 x5 x6 x7 x8 h
  · have h := h.2 hc149
    refine z_aload_n C dX8_gives_88 rfl 0 rfl ?_
    refine gR_row C dX8_gives_89 ?_
    refine z_iload C dX8_gives_92 9 rfl ?_
    refine z_aload_n C dX8_gives_94 rfl 0 rfl ?_
    refine gR_row C dX8_gives_95 ?_
    refine z_iload C dX8_gives_98 9 rfl ?_
    refine z_bipush (v := 6) C dX8_gives_100 (by decide) ?_
    refine z_iadd C dX8_gives_102 ?_
    obtain ⟨hi151, h⟩ := h
    refine lR_row C hi151 dX8_gives_103 ?_
    obtain ⟨hi152, h⟩ := h
    refine sR_row C hi152 dX8_gives_104 ?_
    refine z_stR (fun u153 eu153 => ?_)
    have h := h u153 eu153
    obtain ⟨x154, ex154⟩ : ∃ y : Int32, y = x9 + 1 := ⟨_, rfl⟩
    have h := h x154 ex154
    refine z_iinc (v := x154) (lv1 := [(9, .int x154), (0, .ref (ad 0)), (1, .int x1), (2, .int x2), (3, .int x3), (4, .int x4), (5, .int x5), (6, .int x6), (7, .int x7), (8, .int x8)]) C dX8_gives_105 9 rfl (by rw [ex154]; rfl) (by decide) rfl ?_
    refine z_goto C dX8_gives_108 (tgt := 80) (by decide) ?_
    refine z_lv (lv1 := [(0, .ref (ad 0)), (1, .int x1), (2, .int x2), (3, .int x3), (4, .int x4), (5, .int x5), (6, .int x6), (7, .int x7), (8, .int x8), (9, .int x154)]) [1, 2, 3, 4, 5, 6, 7, 8, 9, 0] rfl ?_
    exact hB80 u153 x1 x2 x3 x4 x5 x6 x7 x8 x154 h
theorem l_X8_gives_80 (C : zC p s m args meth c g A cX8_gives RX8 10) (hr : meth.sig.returnType = none) (ad : Nat → Nat) (Q : RS → Prop) : ∀ (n : Nat) (u : RS) (x1 : Int32) (x2 : Int32) (x3 : Int32) (x4 : Int32) (x5 : Int32) (x6 : Int32) (x7 : Int32) (x8 : Int32) (x9 : Int32), zit10 (wp_X8_gives_80 Q) n u x1 x2 x3 x4 x5 x6 x7 x8 x9 → j_X8_gives p l e s m args below meth c g A ad Q u 80 [(0, .ref (ad 0)), (1, .int x1), (2, .int x2), (3, .int x3), (4, .int x4), (5, .int x5), (6, .int x6), (7, .int x7), (8, .int x8), (9, .int x9)] [] := by
  intro n
  induction n with
  | zero => exact fun u x1 x2 x3 x4 x5 x6 x7 x8 x9 h => h.elim
  | succ n ih => exact fun u x1 x2 x3 x4 x5 x6 x7 x8 x9 h => b_X8_gives_80 C hr ad Q (zit10 (wp_X8_gives_80 Q) n) ih u x1 x2 x3 x4 x5 x6 x7 x8 x9 h
def wp_X8_gives (u : RS) (x1 : Int32) (x2 : Int32) (Q : RS → Prop) : Prop :=
  ∀ x101 : Int32, x101 = 3 * x1 → wp_X8_flowAt x1 (fun r102 => vp_in (x101 + 1) 72 ∧ ∀ x104 : Int32, x104 = u.1 17 (zn (x101 + 1)) → wp_X8_lesser (u.1 3 18) x104 (fun r105 => ∀ x106 : Int32, x106 = x104 - r105 → ¬ u.1 3 19 = 0 ∧ ∀ x108 : Int32, x108 = ((x106 + (u.1 3 19)) - 1) / (u.1 3 19) → ((¬ u.1 3 13 = 12 → wp_X8_gives_122 Q u x1 x2 x101 r102 x104 r105 x106 x108) ∧ (u.1 3 13 = 12 → (∃ n, zit10 (wp_X8_gives_80 Q) n u x1 x2 x101 r102 x104 r105 x106 x108 993)))))
set_option maxRecDepth 20000 in
theorem c_X8_gives (l : Launch) (g : zG) (ad : Nat → Nat) (u : RS) (x1 : Int32) (x2 : Int32) (Q : RS → Prop) (h : wp_X8_gives u x1 x2 Q) : zMv l yX8_gives cX8_gives 10 none 4 0 0 g [.ref (ad 0), .int x1, .int x2] (wR g ad u) (wR g ad) Q := by
  refine zMv_of RX8 (by decide) rfl [(0, .ref (ad 0)), (1, .int x1), (2, .int x2)] rfl (Nat.le_of_ble_eq_true rfl) (fun p e s m args below meth c A C hr hnm => ?_)
  unfold wp_X8_gives at h
  refine z_iconst (v := 3) C dX8_gives_0 (by decide) ?_
  refine z_iload_n C dX8_gives_1 rfl 1 rfl ?_
  refine z_imul C dX8_gives_2 ?_
  refine z_topi (fun x101 ex101 => ?_)
  have h := h x101 ex101
  refine z_istore_n (lv1 := [(3, .int x101), (0, .ref (ad 0)), (1, .int x1), (2, .int x2)]) C dX8_gives_3 rfl (by decide) rfl ?_
  refine z_iload_n C dX8_gives_4 rfl 2 rfl ?_
  refine cSi (As := [.int x1]) C (c_X8_flowAt l g x1 _ h) s_X8_flowAt ml8_102 ⟨Nat.le_of_ble_eq_true rfl, Nat.le_of_ble_eq_true rfl⟩ ⟨Nat.zero_le _, Nat.zero_le _⟩ (Nat.le_of_ble_eq_true rfl) rfl dX8_gives_5 ?_
  intro r102 h
  refine z_istore (lv1 := [(4, .int r102), (3, .int x101), (0, .ref (ad 0)), (1, .int x1), (2, .int x2)]) C dX8_gives_8 (by decide) rfl ?_
  refine z_aload_n C dX8_gives_10 rfl 2 rfl ?_
  refine gR_open C dX8_gives_11 ?_
  refine z_iload_n C dX8_gives_14 rfl 1 rfl ?_
  refine z_iconst (v := 1) C dX8_gives_15 (by decide) ?_
  refine z_iadd C dX8_gives_16 ?_
  obtain ⟨hi103, h⟩ := h
  refine lR_open C hi103 dX8_gives_17 ?_
  refine z_topi (fun x104 ex104 => ?_)
  have h := h x104 ex104
  refine z_istore (lv1 := [(5, .int x104), (4, .int r102), (3, .int x101), (0, .ref (ad 0)), (1, .int x1), (2, .int x2)]) C dX8_gives_18 (by decide) rfl ?_
  refine z_aload_n C dX8_gives_20 rfl 3 rfl ?_
  refine gR_row C dX8_gives_21 ?_
  refine z_bipush (v := 18) C dX8_gives_24 (by decide) ?_
  refine lRn_row C 18 (by decide +kernel) (vp_in_iff.mpr (by decide +kernel)) dX8_gives_26 ?_
  refine z_iload C dX8_gives_27 0 rfl ?_
  refine cSi (As := [.int (u.1 3 18), .int x104]) C (c_X8_lesser l g (u.1 3 18) x104 _ h) s_X8_lesser ml8_206 ⟨Nat.le_of_ble_eq_true rfl, Nat.le_of_ble_eq_true rfl⟩ ⟨Nat.zero_le _, Nat.zero_le _⟩ (Nat.le_of_ble_eq_true rfl) rfl dX8_gives_29 ?_
  intro r105 h
  refine z_istore (lv1 := [(6, .int r105), (5, .int x104), (4, .int r102), (3, .int x101), (0, .ref (ad 0)), (1, .int x1), (2, .int x2)]) C dX8_gives_32 (by decide) rfl ?_
  refine z_iload C dX8_gives_34 1 rfl ?_
  refine z_iload C dX8_gives_36 0 rfl ?_
  refine z_isub C dX8_gives_38 ?_
  refine z_topi (fun x106 ex106 => ?_)
  have h := h x106 ex106
  refine z_istore (lv1 := [(7, .int x106), (6, .int r105), (5, .int x104), (4, .int r102), (3, .int x101), (0, .ref (ad 0)), (1, .int x1), (2, .int x2)]) C dX8_gives_39 (by decide) rfl ?_
  refine z_iload C dX8_gives_41 0 rfl ?_
  refine z_aload_n C dX8_gives_43 rfl 5 rfl ?_
  refine gR_row C dX8_gives_44 ?_
  refine z_bipush (v := 19) C dX8_gives_47 (by decide) ?_
  refine lRn_row C 19 (by decide +kernel) (vp_in_iff.mpr (by decide +kernel)) dX8_gives_49 ?_
  refine z_iadd C dX8_gives_50 ?_
  refine z_iconst (v := 1) C dX8_gives_51 (by decide) ?_
  refine z_isub C dX8_gives_52 ?_
  refine z_aload_n C dX8_gives_53 rfl 5 rfl ?_
  refine gR_row C dX8_gives_54 ?_
  refine z_bipush (v := 19) C dX8_gives_57 (by decide) ?_
  refine lRn_row C 19 (by decide +kernel) (vp_in_iff.mpr (by decide +kernel)) dX8_gives_59 ?_
  obtain ⟨hy107, h⟩ := h
  refine z_idiv C dX8_gives_60 hy107 ?_
  refine z_topi (fun x108 ex108 => ?_)
  have h := h x108 ex108
  refine z_istore (lv1 := [(8, .int x108), (7, .int x106), (6, .int r105), (5, .int x104), (4, .int r102), (3, .int x101), (0, .ref (ad 0)), (1, .int x1), (2, .int x2)]) C dX8_gives_61 (by decide) rfl ?_
  refine z_aload_n C dX8_gives_63 rfl 6 rfl ?_
  refine gR_row C dX8_gives_64 ?_
  refine z_bipush (v := 13) C dX8_gives_67 (by decide) ?_
  refine lRn_row C 13 (by decide +kernel) (vp_in_iff.mpr (by decide +kernel)) dX8_gives_69 ?_
  refine z_bipush (v := 12) C dX8_gives_70 (by decide) ?_
  refine z_icmp_ne C dX8_gives_72 (tgt := 122) (by decide) (fun hc109 => ?_) (fun hc109 => ?_)
  · have h := h.1 hc109
    refine z_lv (lv1 := [(0, .ref (ad 0)), (1, .int x1), (2, .int x2), (3, .int x101), (4, .int r102), (5, .int x104), (6, .int r105), (7, .int x106), (8, .int x108)]) [6, 7, 8, 5, 4, 3, 2, 1, 0] rfl ?_
    exact b_X8_gives_122 C hr ad Q u x1 x2 x101 r102 x104 r105 x106 x108 h
  · have h := h.2 hc109
    refine z_sipush (v := 993) C dX8_gives_75 (by decide) ?_
    refine z_istore (lv1 := [(9, .int 993), (8, .int x108), (7, .int x106), (6, .int r105), (5, .int x104), (4, .int r102), (3, .int x101), (0, .ref (ad 0)), (1, .int x1), (2, .int x2)]) C dX8_gives_78 (by decide) rfl ?_
    refine z_lv (lv1 := [(0, .ref (ad 0)), (1, .int x1), (2, .int x2), (3, .int x101), (4, .int r102), (5, .int x104), (6, .int r105), (7, .int x106), (8, .int x108), (9, .int 993)]) [7, 8, 9, 6, 5, 4, 3, 2, 1, 0] rfl ?_
    obtain ⟨n9, h⟩ := h
    exact l_X8_gives_80 C hr ad Q n9 u x1 x2 x101 r102 x104 r105 x106 x108 993 h
abbrev j_X8_queue (p : Program) (l : Launch) (e : Env) (s : State) (m : MethodId) (args : Array Value) (below : List Frame) (meth : Method) (c : Code) (g : zG) (A : Nat → Prop) (ad : Nat → Nat) (Q : Int32 → RS → Prop) (u : RS) (pc : Nat) (lv : List (Nat × Value)) (st : List Value) : Prop := zJ p l e (zR 4 0 0) s m args below meth c g A 4 (zQi below args s g A 0 0 (wR g ad) Q) (wR g ad u) 0 0 pc lv st
def wp_X8_queue_108 (Q : Int32 → RS → Prop) (u : RS) (t0 : Int32) : Prop :=
  Q t0 u
set_option maxRecDepth 20000 in
theorem b_X8_queue_108 (C : zC p s m args meth c g A cX8_queue RX8 4) (hr : meth.sig.returnType = (some .int)) (ad : Nat → Nat) (Q : Int32 → RS → Prop) (u : RS) (t0 : Int32) (h : wp_X8_queue_108 Q u t0) : j_X8_queue p l e s m args below meth c g A ad Q u 108 [(0, .ref (ad 0))] [.int t0] := by
  unfold wp_X8_queue_108 at h
  exact z_iret C hr u rfl h dX8_queue_108
def wp_X8_queue (u : RS) (x1 : Int32) (x2 : Int32) (Q : Int32 → RS → Prop) : Prop :=
  ∀ u101 : RS, u101 = rN u 0 0 → wp_X8_isQueue x1 (fun r102 => ((¬ r102 = 0 → wp_X8_queueAt x1 (fun r104 => ((x2 = 6 → wp_X8_wishers u101 x1 (fun r106 u107 => Q r106 u107)) ∧ (x2 = 7 → vp_in (r104 + 6) 1065 ∧ Q (u101.1 3 (zn (r104 + 6))) u101) ∧ (x2 = 8 → vp_in (r104 + 7) 1065 ∧ Q (u101.1 3 (zn (r104 + 7))) u101) ∧ (x2 = 9 → wp_X8_entriesOf u101 x1 (fun r113 u114 => Q r113 u114)) ∧ (¬ x2 = 6 → ¬ x2 = 7 → ¬ x2 = 8 → ¬ x2 = 9 → wp_X8_in ((x2).toInt64) 0 5 (fun r115 => ((r115 = 0 → wp_X8_queue_108 Q u101 (-1)) ∧ (¬ r115 = 0 → vp_in (r104 + x2) 1065 ∧ wp_X8_queue_108 Q u101 (u101.1 3 (zn (r104 + x2)))))))))) ∧ (r102 = 0 → Q (-1) u101)))
set_option maxRecDepth 20000 in
theorem c_X8_queue (l : Launch) (g : zG) (ad : Nat → Nat) (u : RS) (x1 : Int32) (x2 : Int32) (Q : Int32 → RS → Prop) (h : wp_X8_queue u x1 x2 Q) : zMi l yX8_queue cX8_queue 4 (some .int) 4 0 0 g [.ref (ad 0), .int x1, .int x2] (wR g ad u) (wR g ad) Q := by
  refine zMi_of RX8 (by decide) rfl [(0, .ref (ad 0)), (1, .int x1), (2, .int x2)] rfl (Nat.le_of_ble_eq_true rfl) (fun p e s m args below meth c A C hr hnm => ?_)
  unfold wp_X8_queue at h
  refine z_aload_n C dX8_queue_0 rfl 0 rfl ?_
  refine z_iconst (v := 0) C dX8_queue_1 (by decide) ?_
  refine pR_thrown C dX8_queue_2 ?_
  refine z_stR (fun u101 eu101 => ?_)
  have h := h u101 eu101
  refine z_iload_n C dX8_queue_5 rfl 1 rfl ?_
  refine cSi (As := [.int x1]) C (c_X8_isQueue l g x1 _ h) s_X8_isQueue ml8_150 ⟨Nat.le_of_ble_eq_true rfl, Nat.le_of_ble_eq_true rfl⟩ ⟨Nat.zero_le _, Nat.zero_le _⟩ (Nat.le_of_ble_eq_true rfl) rfl dX8_queue_6 ?_
  intro r102 h
  refine z_if_ne C dX8_queue_9 (tgt := 14) (by decide) (fun hc103 => ?_) (fun hc103 => ?_)
  · have h := h.1 hc103
    refine z_iload_n C dX8_queue_14 rfl 1 rfl ?_
    refine cSi (As := [.int x1]) C (c_X8_queueAt l g x1 _ h) s_X8_queueAt ml8_57 ⟨Nat.le_of_ble_eq_true rfl, Nat.le_of_ble_eq_true rfl⟩ ⟨Nat.zero_le _, Nat.zero_le _⟩ (Nat.le_of_ble_eq_true rfl) rfl dX8_queue_15 ?_
    intro r104 h
    refine z_istore_n (lv1 := [(3, .int r104), (0, .ref (ad 0)), (1, .int x1), (2, .int x2)]) C dX8_queue_18 rfl (by decide) rfl ?_
    refine z_iload_n C dX8_queue_19 rfl 3 rfl ?_
    by_cases hx105 : x2 = 6
    · have h := h.1 hx105
      refine z_tIn C dX8_queue_20 (6) (by rw [hx105]; decide) (by decide) (by decide) rfl (tgt := 52) (by decide) ?_
      refine z_aload_n C dX8_queue_52 rfl 1 rfl ?_
      refine z_iload_n C dX8_queue_53 rfl 2 rfl ?_
      refine cRi (As := [.int x1]) C (c_X8_wishers l g ad u101 x1 _ h) v_X8_wishers ml8_247 rfl ⟨Nat.le_of_ble_eq_true rfl, Nat.le_of_ble_eq_true rfl⟩ ⟨Nat.zero_le _, Nat.zero_le _⟩ (Nat.le_of_ble_eq_true rfl) rfl dX8_queue_54 ?_
      intro r106 u107 h
      exact z_iret C hr u107 rfl h dX8_queue_57
    have h := h.2
    by_cases hx108 : x2 = 7
    · have h := h.1 hx108
      refine z_tIn C dX8_queue_20 (7) (by rw [hx108]; decide) (by decide) (by decide) rfl (tgt := 58) (by decide) ?_
      refine z_aload_n C dX8_queue_58 rfl 1 rfl ?_
      refine gR_row C dX8_queue_59 ?_
      refine z_iload_n C dX8_queue_62 rfl 0 rfl ?_
      refine z_bipush (v := 6) C dX8_queue_63 (by decide) ?_
      refine z_iadd C dX8_queue_65 ?_
      obtain ⟨hi109, h⟩ := h
      refine lR_row C hi109 dX8_queue_66 ?_
      exact z_iret C hr u101 rfl h dX8_queue_67
    have h := h.2
    by_cases hx110 : x2 = 8
    · have h := h.1 hx110
      refine z_tIn C dX8_queue_20 (8) (by rw [hx110]; decide) (by decide) (by decide) rfl (tgt := 68) (by decide) ?_
      refine z_aload_n C dX8_queue_68 rfl 1 rfl ?_
      refine gR_row C dX8_queue_69 ?_
      refine z_iload_n C dX8_queue_72 rfl 0 rfl ?_
      refine z_bipush (v := 7) C dX8_queue_73 (by decide) ?_
      refine z_iadd C dX8_queue_75 ?_
      obtain ⟨hi111, h⟩ := h
      refine lR_row C hi111 dX8_queue_76 ?_
      exact z_iret C hr u101 rfl h dX8_queue_77
    have h := h.2
    by_cases hx112 : x2 = 9
    · have h := h.1 hx112
      refine z_tIn C dX8_queue_20 (9) (by rw [hx112]; decide) (by decide) (by decide) rfl (tgt := 78) (by decide) ?_
      refine z_aload_n C dX8_queue_78 rfl 1 rfl ?_
      refine z_iload_n C dX8_queue_79 rfl 2 rfl ?_
      refine cRi (As := [.int x1]) C (c_X8_entriesOf l g ad u101 x1 _ h) v_X8_entriesOf ml8_250 rfl ⟨Nat.le_of_ble_eq_true rfl, Nat.le_of_ble_eq_true rfl⟩ ⟨Nat.zero_le _, Nat.zero_le _⟩ (Nat.le_of_ble_eq_true rfl) rfl dX8_queue_80 ?_
      intro r113 u114 h
      exact z_iret C hr u114 rfl h dX8_queue_83
    have h := h.2
    have h := h hx105 hx108 hx110 hx112
    have thx105 := lv_neT (a := 6) hx105 (by decide)
    have thx108 := lv_neT (a := 7) hx108 (by decide)
    have thx110 := lv_neT (a := 8) hx110 (by decide)
    have thx112 := lv_neT (a := 9) hx112 (by decide)
    refine z_tOut C dX8_queue_20 (by omega) (tgt := 84) (by decide) ?_
    refine z_iload_n C dX8_queue_84 rfl 3 rfl ?_
    refine z_i2l C dX8_queue_85 ?_
    refine z_lconst (v := 0) C dX8_queue_86 (by decide) ?_
    refine z_ldc2 (v := 5) C dX8_queue_87 k8_253 ?_
    refine cSi (As := [.long ((x2).toInt64), .long 0, .long 5]) C (c_X8_in l g ((x2).toInt64) 0 5 _ h) s_X8_in ml8_84 ⟨Nat.le_of_ble_eq_true rfl, Nat.le_of_ble_eq_true rfl⟩ ⟨Nat.zero_le _, Nat.zero_le _⟩ (Nat.le_of_ble_eq_true rfl) rfl dX8_queue_90 ?_
    intro r115 h
    refine z_if_eq C dX8_queue_93 (tgt := 107) (by decide) (fun hc116 => ?_) (fun hc116 => ?_)
    · have h := h.1 hc116
      refine z_iconst (v := (-1)) C dX8_queue_107 (by decide) ?_
      refine z_lv (lv1 := [(0, .ref (ad 0))]) [1] rfl ?_
      exact b_X8_queue_108 C hr ad Q u101 (-1) h
    · have h := h.2 hc116
      refine z_aload_n C dX8_queue_96 rfl 1 rfl ?_
      refine gR_row C dX8_queue_97 ?_
      refine z_iload_n C dX8_queue_100 rfl 0 rfl ?_
      refine z_iload_n C dX8_queue_101 rfl 3 rfl ?_
      refine z_iadd C dX8_queue_102 ?_
      obtain ⟨hi117, h⟩ := h
      refine lR_row C hi117 dX8_queue_103 ?_
      refine z_goto C dX8_queue_104 (tgt := 108) (by decide) ?_
      refine z_lv (lv1 := [(0, .ref (ad 0))]) [1] rfl ?_
      exact b_X8_queue_108 C hr ad Q u101 (u101.1 3 (zn (r104 + x2))) h
  · have h := h.2 hc103
    refine z_iconst (v := (-1)) C dX8_queue_12 (by decide) ?_
    exact z_iret C hr u101 rfl h dX8_queue_13
abbrev j_X8_spread (p : Program) (l : Launch) (e : Env) (s : State) (m : MethodId) (args : Array Value) (below : List Frame) (meth : Method) (c : Code) (g : zG) (A : Nat → Prop) (ad : Nat → Nat) (Q : Int32 → RS → Prop) (u : RS) (pc : Nat) (lv : List (Nat × Value)) (st : List Value) : Prop := zJ p l e (zR 4 0 0) s m args below meth c g A 10 (zQi below args s g A 0 0 (wR g ad) Q) (wR g ad u) 0 0 pc lv st
def wp_X8_spread_24 (Q : Int32 → RS → Prop) (u : RS) : Prop :=
  Q (-1) u
set_option maxRecDepth 20000 in
theorem b_X8_spread_24 (C : zC p s m args meth c g A cX8_spread RX8 10) (hr : meth.sig.returnType = (some .int)) (ad : Nat → Nat) (Q : Int32 → RS → Prop) (u : RS) (h : wp_X8_spread_24 Q u) : j_X8_spread p l e s m args below meth c g A ad Q u 24 [(0, .ref (ad 0))] [] := by
  unfold wp_X8_spread_24 at h
  refine z_iconst (v := (-1)) C dX8_spread_24 (by decide) ?_
  exact z_iret C hr u rfl h dX8_spread_25
def wp_X8_spread_188 (Q : Int32 → RS → Prop) (u : RS) (t0 : Int32) : Prop :=
  Q t0 u
set_option maxRecDepth 20000 in
theorem b_X8_spread_188 (C : zC p s m args meth c g A cX8_spread RX8 10) (hr : meth.sig.returnType = (some .int)) (ad : Nat → Nat) (Q : Int32 → RS → Prop) (u : RS) (t0 : Int32) (h : wp_X8_spread_188 Q u t0) : j_X8_spread p l e s m args below meth c g A ad Q u 188 [(0, .ref (ad 0))] [.int t0] := by
  unfold wp_X8_spread_188 at h
  exact z_iret C hr u rfl h dX8_spread_188
def wp_X8_spread_147 (Q : Int32 → RS → Prop) (B57 : RS → Int32 → Int32 → Int32 → Int32 → Int32 → Int32 → Int32 → Prop) (u : RS) (x1 : Int32) (x2 : Int32) (x3 : Int32) (x4 : Int32) (x5 : Int32) (x7 : Int32) (t0 : Int32) : Prop :=
  ∀ x121 : Int32, x121 = x7 + 1 → B57 u x1 x2 x3 x4 x5 t0 x121
set_option maxRecDepth 20000 in
theorem b_X8_spread_147 (C : zC p s m args meth c g A cX8_spread RX8 10) (hr : meth.sig.returnType = (some .int)) (ad : Nat → Nat) (Q : Int32 → RS → Prop) (B57 : RS → Int32 → Int32 → Int32 → Int32 → Int32 → Int32 → Int32 → Prop) (hB57 : ∀ (u : RS) (x1 : Int32) (x2 : Int32) (x3 : Int32) (x4 : Int32) (x5 : Int32) (x6 : Int32) (x7 : Int32), B57 u x1 x2 x3 x4 x5 x6 x7 → j_X8_spread p l e s m args below meth c g A ad Q u 57 [(0, .ref (ad 0)), (1, .int x1), (2, .int x2), (3, .int x3), (4, .int x4), (5, .int x5), (6, .int x6), (7, .int x7)] []) (u : RS) (x1 : Int32) (x2 : Int32) (x3 : Int32) (x4 : Int32) (x5 : Int32) (x7 : Int32) (t0 : Int32) (h : wp_X8_spread_147 Q B57 u x1 x2 x3 x4 x5 x7 t0) : j_X8_spread p l e s m args below meth c g A ad Q u 147 [(0, .ref (ad 0)), (1, .int x1), (2, .int x2), (3, .int x3), (4, .int x4), (5, .int x5), (7, .int x7)] [.int t0] := by
  unfold wp_X8_spread_147 at h
  refine z_istore (lv1 := [(6, .int t0), (0, .ref (ad 0)), (1, .int x1), (2, .int x2), (3, .int x3), (4, .int x4), (5, .int x5), (7, .int x7)]) C dX8_spread_147 (by decide) rfl ?_
  obtain ⟨x121, ex121⟩ : ∃ y : Int32, y = x7 + 1 := ⟨_, rfl⟩
  have h := h x121 ex121
  refine z_iinc (v := x121) (lv1 := [(7, .int x121), (6, .int t0), (0, .ref (ad 0)), (1, .int x1), (2, .int x2), (3, .int x3), (4, .int x4), (5, .int x5)]) C dX8_spread_149 7 rfl (by rw [ex121]; rfl) (by decide) rfl ?_
  refine z_goto C dX8_spread_152 (tgt := 57) (by decide) ?_
  refine z_lv (lv1 := [(0, .ref (ad 0)), (1, .int x1), (2, .int x2), (3, .int x3), (4, .int x4), (5, .int x5), (6, .int t0), (7, .int x121)]) [2, 3, 4, 5, 6, 7, 1, 0] rfl ?_
  exact hB57 u x1 x2 x3 x4 x5 t0 x121 h
def wp_X8_spread_131 (Q : Int32 → RS → Prop) (B57 : RS → Int32 → Int32 → Int32 → Int32 → Int32 → Int32 → Int32 → Prop) (u : RS) (x1 : Int32) (x2 : Int32) (x3 : Int32) (x4 : Int32) (x6 : Int32) (x7 : Int32) (x9 : Int32) (t0 : Int32) : Prop :=
  ((x9 ≤ x6 → wp_X8_spread_147 Q B57 u x1 x2 x3 x4 t0 x7 x6) ∧ (¬ x9 ≤ x6 → wp_X8_spread_147 Q B57 u x1 x2 x3 x4 t0 x7 x9))
set_option maxRecDepth 20000 in
theorem b_X8_spread_131 (C : zC p s m args meth c g A cX8_spread RX8 10) (hr : meth.sig.returnType = (some .int)) (ad : Nat → Nat) (Q : Int32 → RS → Prop) (B57 : RS → Int32 → Int32 → Int32 → Int32 → Int32 → Int32 → Int32 → Prop) (hB57 : ∀ (u : RS) (x1 : Int32) (x2 : Int32) (x3 : Int32) (x4 : Int32) (x5 : Int32) (x6 : Int32) (x7 : Int32), B57 u x1 x2 x3 x4 x5 x6 x7 → j_X8_spread p l e s m args below meth c g A ad Q u 57 [(0, .ref (ad 0)), (1, .int x1), (2, .int x2), (3, .int x3), (4, .int x4), (5, .int x5), (6, .int x6), (7, .int x7)] []) (u : RS) (x1 : Int32) (x2 : Int32) (x3 : Int32) (x4 : Int32) (x6 : Int32) (x7 : Int32) (x9 : Int32) (t0 : Int32) (h : wp_X8_spread_131 Q B57 u x1 x2 x3 x4 x6 x7 x9 t0) : j_X8_spread p l e s m args below meth c g A ad Q u 131 [(0, .ref (ad 0)), (1, .int x1), (2, .int x2), (3, .int x3), (4, .int x4), (6, .int x6), (7, .int x7), (9, .int x9)] [.int t0] := by
  unfold wp_X8_spread_131 at h
  refine z_istore (lv1 := [(5, .int t0), (0, .ref (ad 0)), (1, .int x1), (2, .int x2), (3, .int x3), (4, .int x4), (6, .int x6), (7, .int x7), (9, .int x9)]) C dX8_spread_131 (by decide) rfl ?_
  refine z_iload C dX8_spread_133 8 rfl ?_
  refine z_iload C dX8_spread_135 6 rfl ?_
  refine z_icmp_le C dX8_spread_137 (tgt := 145) (by decide) (fun hc120 => ?_) (fun hc120 => ?_)
  · have h := h.1 hc120
    refine z_iload C dX8_spread_145 6 rfl ?_
    refine z_lv (lv1 := [(0, .ref (ad 0)), (1, .int x1), (2, .int x2), (3, .int x3), (4, .int x4), (5, .int t0), (7, .int x7)]) [1, 2, 3, 4, 5, 0, 7] rfl ?_
    exact b_X8_spread_147 C hr ad Q B57 hB57 u x1 x2 x3 x4 t0 x7 x6 h
  · have h := h.2 hc120
    refine z_iload C dX8_spread_140 8 rfl ?_
    refine z_goto C dX8_spread_142 (tgt := 147) (by decide) ?_
    refine z_lv (lv1 := [(0, .ref (ad 0)), (1, .int x1), (2, .int x2), (3, .int x3), (4, .int x4), (5, .int t0), (7, .int x7)]) [1, 2, 3, 4, 5, 0, 7] rfl ?_
    exact b_X8_spread_147 C hr ad Q B57 hB57 u x1 x2 x3 x4 t0 x7 x9 h
def wp_X8_spread_57 (Q : Int32 → RS → Prop) (B57 : RS → Int32 → Int32 → Int32 → Int32 → Int32 → Int32 → Int32 → Prop) (u : RS) (x1 : Int32) (x2 : Int32) (x3 : Int32) (x4 : Int32) (x5 : Int32) (x6 : Int32) (x7 : Int32) : Prop :=
  ((256 ≤ x7 → ∀ u109 : RS, u109 = rI u 3 (upd (u.1 3) 0 x2) → ∀ u110 : RS, u110 = rI u109 3 (upd (u109.1 3) 1 x3) → ∀ u111 : RS, u111 = rI u110 3 (upd (u110.1 3) 2 x4) → ((¬ x1 = 0 → wp_X8_spread_188 Q u111 x6) ∧ (x1 = 0 → wp_X8_spread_188 Q u111 x5))) ∧ (¬ 256 ≤ x7 → ∀ x113 : Int32, x113 = (((x7 <<< (24 &&& 31)) ||| (x7 <<< (16 &&& 31))) ||| (x7 <<< (8 &&& 31))) ||| x7 → ∀ u114 : RS, u114 = rI u 3 (upd (u.1 3) 0 x113) → ∀ u115 : RS, u115 = rI u114 3 (upd (u114.1 3) 1 x113) → ∀ u116 : RS, u116 = rI u115 3 (upd (u115.1 3) 2 x7) → wp_X8_unlikeEntries u116 (fun r117 u118 => ((r117 ≤ x6 → wp_X8_spread_131 Q B57 u118 x1 x2 x3 x4 x6 x7 r117 x5) ∧ (¬ r117 ≤ x6 → wp_X8_spread_131 Q B57 u118 x1 x2 x3 x4 x6 x7 r117 x7)))))
set_option maxRecDepth 20000 in
theorem b_X8_spread_57 (C : zC p s m args meth c g A cX8_spread RX8 10) (hr : meth.sig.returnType = (some .int)) (ad : Nat → Nat) (Q : Int32 → RS → Prop) (B57 : RS → Int32 → Int32 → Int32 → Int32 → Int32 → Int32 → Int32 → Prop) (hB57 : ∀ (u : RS) (x1 : Int32) (x2 : Int32) (x3 : Int32) (x4 : Int32) (x5 : Int32) (x6 : Int32) (x7 : Int32), B57 u x1 x2 x3 x4 x5 x6 x7 → j_X8_spread p l e s m args below meth c g A ad Q u 57 [(0, .ref (ad 0)), (1, .int x1), (2, .int x2), (3, .int x3), (4, .int x4), (5, .int x5), (6, .int x6), (7, .int x7)] []) (u : RS) (x1 : Int32) (x2 : Int32) (x3 : Int32) (x4 : Int32) (x5 : Int32) (x6 : Int32) (x7 : Int32) (h : wp_X8_spread_57 Q B57 u x1 x2 x3 x4 x5 x6 x7) : j_X8_spread p l e s m args below meth c g A ad Q u 57 [(0, .ref (ad 0)), (1, .int x1), (2, .int x2), (3, .int x3), (4, .int x4), (5, .int x5), (6, .int x6), (7, .int x7)] [] := by
  unfold wp_X8_spread_57 at h
  refine z_iload C dX8_spread_57 7 rfl ?_
  refine z_sipush (v := 256) C dX8_spread_59 (by decide) ?_
  refine z_icmp_ge C dX8_spread_62 (tgt := 155) (by decide) (fun hc108 => ?_) (fun hc108 => ?_)
  · have h := h.1 hc108
    refine z_aload_n C dX8_spread_155 rfl 0 rfl ?_
    refine gR_row C dX8_spread_156 ?_
    refine z_iconst (v := 0) C dX8_spread_159 (by decide) ?_
    refine z_iload_n C dX8_spread_160 rfl 2 rfl ?_
    refine sRn_row C 0 (by decide +kernel) (vp_in_iff.mpr (by decide +kernel)) dX8_spread_161 ?_
    refine z_stR (fun u109 eu109 => ?_)
    have h := h u109 eu109
    refine z_aload_n C dX8_spread_162 rfl 0 rfl ?_
    refine gR_row C dX8_spread_163 ?_
    refine z_iconst (v := 1) C dX8_spread_166 (by decide) ?_
    refine z_iload_n C dX8_spread_167 rfl 3 rfl ?_
    refine sRn_row C 1 (by decide +kernel) (vp_in_iff.mpr (by decide +kernel)) dX8_spread_168 ?_
    refine z_stR (fun u110 eu110 => ?_)
    have h := h u110 eu110
    refine z_aload_n C dX8_spread_169 rfl 0 rfl ?_
    refine gR_row C dX8_spread_170 ?_
    refine z_iconst (v := 2) C dX8_spread_173 (by decide) ?_
    refine z_iload C dX8_spread_174 4 rfl ?_
    refine sRn_row C 2 (by decide +kernel) (vp_in_iff.mpr (by decide +kernel)) dX8_spread_176 ?_
    refine z_stR (fun u111 eu111 => ?_)
    have h := h u111 eu111
    refine z_iload_n C dX8_spread_177 rfl 1 rfl ?_
    refine z_if_ne C dX8_spread_178 (tgt := 186) (by decide) (fun hc112 => ?_) (fun hc112 => ?_)
    · have h := h.1 hc112
      refine z_iload C dX8_spread_186 6 rfl ?_
      refine z_lv (lv1 := [(0, .ref (ad 0))]) [0] rfl ?_
      exact b_X8_spread_188 C hr ad Q u111 x6 h
    · have h := h.2 hc112
      refine z_iload C dX8_spread_181 5 rfl ?_
      refine z_goto C dX8_spread_183 (tgt := 188) (by decide) ?_
      refine z_lv (lv1 := [(0, .ref (ad 0))]) [0] rfl ?_
      exact b_X8_spread_188 C hr ad Q u111 x5 h
  · have h := h.2 hc108
    refine z_iload C dX8_spread_65 7 rfl ?_
    refine z_bipush (v := 24) C dX8_spread_67 (by decide) ?_
    refine z_ishl C dX8_spread_69 ?_
    refine z_iload C dX8_spread_70 7 rfl ?_
    refine z_bipush (v := 16) C dX8_spread_72 (by decide) ?_
    refine z_ishl C dX8_spread_74 ?_
    refine z_ior C dX8_spread_75 ?_
    refine z_iload C dX8_spread_76 7 rfl ?_
    refine z_bipush (v := 8) C dX8_spread_78 (by decide) ?_
    refine z_ishl C dX8_spread_80 ?_
    refine z_ior C dX8_spread_81 ?_
    refine z_iload C dX8_spread_82 7 rfl ?_
    refine z_ior C dX8_spread_84 ?_
    refine z_topi (fun x113 ex113 => ?_)
    have h := h x113 ex113
    refine z_istore (lv1 := [(8, .int x113), (0, .ref (ad 0)), (1, .int x1), (2, .int x2), (3, .int x3), (4, .int x4), (5, .int x5), (6, .int x6), (7, .int x7)]) C dX8_spread_85 (by decide) rfl ?_
    refine z_aload_n C dX8_spread_87 rfl 1 rfl ?_
    refine gR_row C dX8_spread_88 ?_
    refine z_iconst (v := 0) C dX8_spread_91 (by decide) ?_
    refine z_iload C dX8_spread_92 0 rfl ?_
    refine sRn_row C 0 (by decide +kernel) (vp_in_iff.mpr (by decide +kernel)) dX8_spread_94 ?_
    refine z_stR (fun u114 eu114 => ?_)
    have h := h u114 eu114
    refine z_aload_n C dX8_spread_95 rfl 1 rfl ?_
    refine gR_row C dX8_spread_96 ?_
    refine z_iconst (v := 1) C dX8_spread_99 (by decide) ?_
    refine z_iload C dX8_spread_100 0 rfl ?_
    refine sRn_row C 1 (by decide +kernel) (vp_in_iff.mpr (by decide +kernel)) dX8_spread_102 ?_
    refine z_stR (fun u115 eu115 => ?_)
    have h := h u115 eu115
    refine z_aload_n C dX8_spread_103 rfl 1 rfl ?_
    refine gR_row C dX8_spread_104 ?_
    refine z_iconst (v := 2) C dX8_spread_107 (by decide) ?_
    refine z_iload C dX8_spread_108 8 rfl ?_
    refine sRn_row C 2 (by decide +kernel) (vp_in_iff.mpr (by decide +kernel)) dX8_spread_110 ?_
    refine z_stR (fun u116 eu116 => ?_)
    have h := h u116 eu116
    refine z_aload_n C dX8_spread_111 rfl 1 rfl ?_
    refine cRi (As := []) C (c_X8_unlikeEntries l g ad u116 _ h) v_X8_unlikeEntries ml8_262 rfl ⟨Nat.le_of_ble_eq_true rfl, Nat.le_of_ble_eq_true rfl⟩ ⟨Nat.zero_le _, Nat.zero_le _⟩ (Nat.le_of_ble_eq_true rfl) rfl dX8_spread_112 ?_
    intro r117 u118 h
    refine z_istore (lv1 := [(9, .int r117), (8, .int x113), (0, .ref (ad 0)), (1, .int x1), (2, .int x2), (3, .int x3), (4, .int x4), (5, .int x5), (6, .int x6), (7, .int x7)]) C dX8_spread_115 (by decide) rfl ?_
    refine z_iload C dX8_spread_117 0 rfl ?_
    refine z_iload C dX8_spread_119 8 rfl ?_
    refine z_icmp_le C dX8_spread_121 (tgt := 129) (by decide) (fun hc119 => ?_) (fun hc119 => ?_)
    · have h := h.1 hc119
      refine z_iload C dX8_spread_129 7 rfl ?_
      refine z_lv (lv1 := [(0, .ref (ad 0)), (1, .int x1), (2, .int x2), (3, .int x3), (4, .int x4), (6, .int x6), (7, .int x7), (9, .int r117)]) [2, 3, 4, 5, 6, 8, 9, 0] rfl ?_
      exact b_X8_spread_131 C hr ad Q B57 hB57 u118 x1 x2 x3 x4 x6 x7 r117 x5 h
    · have h := h.2 hc119
      refine z_iload C dX8_spread_124 9 rfl ?_
      refine z_goto C dX8_spread_126 (tgt := 131) (by decide) ?_
      refine z_lv (lv1 := [(0, .ref (ad 0)), (1, .int x1), (2, .int x2), (3, .int x3), (4, .int x4), (6, .int x6), (7, .int x7), (9, .int r117)]) [2, 3, 4, 5, 6, 8, 9, 0] rfl ?_
      exact b_X8_spread_131 C hr ad Q B57 hB57 u118 x1 x2 x3 x4 x6 x7 r117 x7 h
theorem l_X8_spread_57 (C : zC p s m args meth c g A cX8_spread RX8 10) (hr : meth.sig.returnType = (some .int)) (ad : Nat → Nat) (Q : Int32 → RS → Prop) : ∀ (n : Nat) (u : RS) (x1 : Int32) (x2 : Int32) (x3 : Int32) (x4 : Int32) (x5 : Int32) (x6 : Int32) (x7 : Int32), zit8 (wp_X8_spread_57 Q) n u x1 x2 x3 x4 x5 x6 x7 → j_X8_spread p l e s m args below meth c g A ad Q u 57 [(0, .ref (ad 0)), (1, .int x1), (2, .int x2), (3, .int x3), (4, .int x4), (5, .int x5), (6, .int x6), (7, .int x7)] [] := by
  intro n
  induction n with
  | zero => exact fun u x1 x2 x3 x4 x5 x6 x7 h => h.elim
  | succ n ih => exact fun u x1 x2 x3 x4 x5 x6 x7 h => b_X8_spread_57 C hr ad Q (zit8 (wp_X8_spread_57 Q) n) ih u x1 x2 x3 x4 x5 x6 x7 h
def wp_X8_spread (u : RS) (x1 : Int32) (Q : Int32 → RS → Prop) : Prop :=
  ∀ u101 : RS, u101 = rN u 0 0 → ((u101.1 3 4 = 0 → wp_X8_spread_24 Q u101) ∧ (¬ u101.1 3 4 = 0 → wp_X8_in ((x1).toInt64) 0 1 (fun r103 => ((¬ r103 = 0 → ∀ x105 : Int32, x105 = u101.1 3 0 → ∀ x106 : Int32, x106 = u101.1 3 1 → ∀ x107 : Int32, x107 = u101.1 3 2 → (∃ n, zit8 (wp_X8_spread_57 Q) n u101 x1 x105 x106 x107 (-1) 0 0)) ∧ (r103 = 0 → wp_X8_spread_24 Q u101)))))
set_option maxRecDepth 20000 in
theorem c_X8_spread (l : Launch) (g : zG) (ad : Nat → Nat) (u : RS) (x1 : Int32) (Q : Int32 → RS → Prop) (h : wp_X8_spread u x1 Q) : zMi l yX8_spread cX8_spread 10 (some .int) 4 0 0 g [.ref (ad 0), .int x1] (wR g ad u) (wR g ad) Q := by
  refine zMi_of RX8 (by decide) rfl [(0, .ref (ad 0)), (1, .int x1)] rfl (Nat.le_of_ble_eq_true rfl) (fun p e s m args below meth c A C hr hnm => ?_)
  unfold wp_X8_spread at h
  refine z_aload_n C dX8_spread_0 rfl 0 rfl ?_
  refine z_iconst (v := 0) C dX8_spread_1 (by decide) ?_
  refine pR_thrown C dX8_spread_2 ?_
  refine z_stR (fun u101 eu101 => ?_)
  have h := h u101 eu101
  refine z_aload_n C dX8_spread_5 rfl 0 rfl ?_
  refine gR_row C dX8_spread_6 ?_
  refine z_iconst (v := 4) C dX8_spread_9 (by decide) ?_
  refine lRn_row C 4 (by decide +kernel) (vp_in_iff.mpr (by decide +kernel)) dX8_spread_10 ?_
  refine z_if_eq C dX8_spread_11 (tgt := 24) (by decide) (fun hc102 => ?_) (fun hc102 => ?_)
  · have h := h.1 hc102
    refine z_lv (lv1 := [(0, .ref (ad 0))]) [0] rfl ?_
    exact b_X8_spread_24 C hr ad Q u101 h
  · have h := h.2 hc102
    refine z_iload_n C dX8_spread_14 rfl 1 rfl ?_
    refine z_i2l C dX8_spread_15 ?_
    refine z_lconst (v := 0) C dX8_spread_16 (by decide) ?_
    refine z_lconst (v := 1) C dX8_spread_17 (by decide) ?_
    refine cSi (As := [.long ((x1).toInt64), .long 0, .long 1]) C (c_X8_in l g ((x1).toInt64) 0 1 _ h) s_X8_in ml8_84 ⟨Nat.le_of_ble_eq_true rfl, Nat.le_of_ble_eq_true rfl⟩ ⟨Nat.zero_le _, Nat.zero_le _⟩ (Nat.le_of_ble_eq_true rfl) rfl dX8_spread_18 ?_
    intro r103 h
    refine z_if_ne C dX8_spread_21 (tgt := 26) (by decide) (fun hc104 => ?_) (fun hc104 => ?_)
    · have h := h.1 hc104
      refine z_aload_n C dX8_spread_26 rfl 0 rfl ?_
      refine gR_row C dX8_spread_27 ?_
      refine z_iconst (v := 0) C dX8_spread_30 (by decide) ?_
      refine lRn_row C 0 (by decide +kernel) (vp_in_iff.mpr (by decide +kernel)) dX8_spread_31 ?_
      refine z_topi (fun x105 ex105 => ?_)
      have h := h x105 ex105
      refine z_istore_n (lv1 := [(2, .int x105), (0, .ref (ad 0)), (1, .int x1)]) C dX8_spread_32 rfl (by decide) rfl ?_
      refine z_aload_n C dX8_spread_33 rfl 1 rfl ?_
      refine gR_row C dX8_spread_34 ?_
      refine z_iconst (v := 1) C dX8_spread_37 (by decide) ?_
      refine lRn_row C 1 (by decide +kernel) (vp_in_iff.mpr (by decide +kernel)) dX8_spread_38 ?_
      refine z_topi (fun x106 ex106 => ?_)
      have h := h x106 ex106
      refine z_istore_n (lv1 := [(3, .int x106), (2, .int x105), (0, .ref (ad 0)), (1, .int x1)]) C dX8_spread_39 rfl (by decide) rfl ?_
      refine z_aload_n C dX8_spread_40 rfl 2 rfl ?_
      refine gR_row C dX8_spread_41 ?_
      refine z_iconst (v := 2) C dX8_spread_44 (by decide) ?_
      refine lRn_row C 2 (by decide +kernel) (vp_in_iff.mpr (by decide +kernel)) dX8_spread_45 ?_
      refine z_topi (fun x107 ex107 => ?_)
      have h := h x107 ex107
      refine z_istore (lv1 := [(4, .int x107), (3, .int x106), (2, .int x105), (0, .ref (ad 0)), (1, .int x1)]) C dX8_spread_46 (by decide) rfl ?_
      refine z_iconst (v := (-1)) C dX8_spread_48 (by decide) ?_
      refine z_istore (lv1 := [(5, .int (-1)), (4, .int x107), (3, .int x106), (2, .int x105), (0, .ref (ad 0)), (1, .int x1)]) C dX8_spread_49 (by decide) rfl ?_
      refine z_iconst (v := 0) C dX8_spread_51 (by decide) ?_
      refine z_istore (lv1 := [(6, .int 0), (5, .int (-1)), (4, .int x107), (3, .int x106), (2, .int x105), (0, .ref (ad 0)), (1, .int x1)]) C dX8_spread_52 (by decide) rfl ?_
      refine z_iconst (v := 0) C dX8_spread_54 (by decide) ?_
      refine z_istore (lv1 := [(7, .int 0), (6, .int 0), (5, .int (-1)), (4, .int x107), (3, .int x106), (2, .int x105), (0, .ref (ad 0)), (1, .int x1)]) C dX8_spread_55 (by decide) rfl ?_
      refine z_lv (lv1 := [(0, .ref (ad 0)), (1, .int x1), (2, .int x105), (3, .int x106), (4, .int x107), (5, .int (-1)), (6, .int 0), (7, .int 0)]) [6, 7, 5, 4, 3, 2, 1, 0] rfl ?_
      obtain ⟨n9, h⟩ := h
      exact l_X8_spread_57 C hr ad Q n9 u101 x1 x105 x106 x107 (-1) 0 0 h
    · have h := h.2 hc104
      refine z_lv (lv1 := [(0, .ref (ad 0))]) [0] rfl ?_
      exact b_X8_spread_24 C hr ad Q u101 h
abbrev j_X8_key (p : Program) (l : Launch) (e : Env) (s : State) (m : MethodId) (args : Array Value) (below : List Frame) (meth : Method) (c : Code) (g : zG) (A : Nat → Prop) (ad : Nat → Nat) (Q : Int32 → RS → Prop) (u : RS) (pc : Nat) (lv : List (Nat × Value)) (st : List Value) : Prop := zJ p l e (zR 5 0 0) s m args below meth c g A 4 (zQi below args s g A 0 0 (wR g ad) Q) (wR g ad u) 0 0 pc lv st
def wp_X8_key (u : RS) (x1 : Int32) (x2 : Int32) (x3 : Int32) (Q : Int32 → RS → Prop) : Prop :=
  ∀ u101 : RS, u101 = rN u 0 0 → wp_X8_isByte x3 (fun r102 => ((¬ r102 = 0 → wp_X8_remember u101 0 (fun u104 => ∀ u105 : RS, u105 = rI u104 3 (upd (u104.1 3) 0 x1) → ∀ u106 : RS, u106 = rI u105 3 (upd (u105.1 3) 1 x2) → ∀ u107 : RS, u107 = rI u106 3 (upd (u106.1 3) 2 x3) → wp_X8_layHashes u107 (fun u108 => wp_X8_tell u108 0 (fun r109 u110 => Q r109 u110)))) ∧ (r102 = 0 → wp_X8_refuse u101 (-1) (fun r111 u112 => Q r111 u112))))
set_option maxRecDepth 20000 in
theorem c_X8_key (l : Launch) (g : zG) (ad : Nat → Nat) (u : RS) (x1 : Int32) (x2 : Int32) (x3 : Int32) (Q : Int32 → RS → Prop) (h : wp_X8_key u x1 x2 x3 Q) : zMi l yX8_key cX8_key 4 (some .int) 5 0 0 g [.ref (ad 0), .int x1, .int x2, .int x3] (wR g ad u) (wR g ad) Q := by
  refine zMi_of RX8 (by decide) rfl [(0, .ref (ad 0)), (1, .int x1), (2, .int x2), (3, .int x3)] rfl (Nat.le_of_ble_eq_true rfl) (fun p e s m args below meth c A C hr hnm => ?_)
  unfold wp_X8_key at h
  refine z_aload_n C dX8_key_0 rfl 0 rfl ?_
  refine z_iconst (v := 0) C dX8_key_1 (by decide) ?_
  refine pR_thrown C dX8_key_2 ?_
  refine z_stR (fun u101 eu101 => ?_)
  have h := h u101 eu101
  refine z_iload_n C dX8_key_5 rfl 3 rfl ?_
  refine cSi (As := [.int x3]) C (c_X8_isByte l g x3 _ h) s_X8_isByte ml8_98 ⟨Nat.le_of_ble_eq_true rfl, Nat.le_of_ble_eq_true rfl⟩ ⟨Nat.zero_le _, Nat.zero_le _⟩ (Nat.le_of_ble_eq_true rfl) rfl dX8_key_6 ?_
  intro r102 h
  refine z_if_ne C dX8_key_9 (tgt := 18) (by decide) (fun hc103 => ?_) (fun hc103 => ?_)
  · have h := h.1 hc103
    refine z_aload_n C dX8_key_18 rfl 0 rfl ?_
    refine z_iconst (v := 0) C dX8_key_19 (by decide) ?_
    refine cRv (As := [.int 0]) C (c_X8_remember l g ad u101 0 _ h) v_X8_remember ml8_129 rfl ⟨Nat.le_of_ble_eq_true rfl, Nat.le_of_ble_eq_true rfl⟩ ⟨Nat.zero_le _, Nat.zero_le _⟩ (Nat.le_of_ble_eq_true rfl) rfl dX8_key_20 ?_
    intro u104 h
    refine z_aload_n C dX8_key_23 rfl 0 rfl ?_
    refine gR_row C dX8_key_24 ?_
    refine z_iconst (v := 0) C dX8_key_27 (by decide) ?_
    refine z_iload_n C dX8_key_28 rfl 1 rfl ?_
    refine sRn_row C 0 (by decide +kernel) (vp_in_iff.mpr (by decide +kernel)) dX8_key_29 ?_
    refine z_stR (fun u105 eu105 => ?_)
    have h := h u105 eu105
    refine z_aload_n C dX8_key_30 rfl 0 rfl ?_
    refine gR_row C dX8_key_31 ?_
    refine z_iconst (v := 1) C dX8_key_34 (by decide) ?_
    refine z_iload_n C dX8_key_35 rfl 2 rfl ?_
    refine sRn_row C 1 (by decide +kernel) (vp_in_iff.mpr (by decide +kernel)) dX8_key_36 ?_
    refine z_stR (fun u106 eu106 => ?_)
    have h := h u106 eu106
    refine z_aload_n C dX8_key_37 rfl 0 rfl ?_
    refine gR_row C dX8_key_38 ?_
    refine z_iconst (v := 2) C dX8_key_41 (by decide) ?_
    refine z_iload_n C dX8_key_42 rfl 3 rfl ?_
    refine sRn_row C 2 (by decide +kernel) (vp_in_iff.mpr (by decide +kernel)) dX8_key_43 ?_
    refine z_stR (fun u107 eu107 => ?_)
    have h := h u107 eu107
    refine z_aload_n C dX8_key_44 rfl 0 rfl ?_
    refine cRv (As := []) C (c_X8_layHashes l g ad u107 _ h) v_X8_layHashes ml8_132 rfl ⟨Nat.le_of_ble_eq_true rfl, Nat.le_of_ble_eq_true rfl⟩ ⟨Nat.zero_le _, Nat.zero_le _⟩ (Nat.le_of_ble_eq_true rfl) rfl dX8_key_45 ?_
    intro u108 h
    refine z_aload_n C dX8_key_48 rfl 0 rfl ?_
    refine z_iconst (v := 0) C dX8_key_49 (by decide) ?_
    refine cRi (As := [.int 0]) C (c_X8_tell l g ad u108 0 _ h) v_X8_tell ml8_81 rfl ⟨Nat.le_of_ble_eq_true rfl, Nat.le_of_ble_eq_true rfl⟩ ⟨Nat.zero_le _, Nat.zero_le _⟩ (Nat.le_of_ble_eq_true rfl) rfl dX8_key_50 ?_
    intro r109 u110 h
    exact z_iret C hr u110 rfl h dX8_key_53
  · have h := h.2 hc103
    refine z_aload_n C dX8_key_12 rfl 0 rfl ?_
    refine z_iconst (v := (-1)) C dX8_key_13 (by decide) ?_
    refine cRi (As := [.int (-1)]) C (c_X8_refuse l g ad u101 (-1) _ h) v_X8_refuse ml8_75 rfl ⟨Nat.le_of_ble_eq_true rfl, Nat.le_of_ble_eq_true rfl⟩ ⟨Nat.zero_le _, Nat.zero_le _⟩ (Nat.le_of_ble_eq_true rfl) rfl dX8_key_14 ?_
    intro r111 u112 h
    exact z_iret C hr u112 rfl h dX8_key_17
abbrev j_X8_mask (p : Program) (l : Launch) (e : Env) (s : State) (m : MethodId) (args : Array Value) (below : List Frame) (meth : Method) (c : Code) (g : zG) (A : Nat → Prop) (ad : Nat → Nat) (Q : Int32 → RS → Prop) (u : RS) (pc : Nat) (lv : List (Nat × Value)) (st : List Value) : Prop := zJ p l e (zR 5 0 0) s m args below meth c g A 3 (zQi below args s g A 0 0 (wR g ad) Q) (wR g ad u) 0 0 pc lv st
def wp_X8_mask (u : RS) (x1 : Int32) (Q : Int32 → RS → Prop) : Prop :=
  ∀ u101 : RS, u101 = rN u 0 0 → wp_X8_in ((x1).toInt64) 0 31 (fun r102 => ((¬ r102 = 0 → wp_X8_becomes u101 3 x1 1 (fun r104 u105 => wp_X8_layHashes u105 (fun u106 => Q r104 u106))) ∧ (r102 = 0 → wp_X8_refuse u101 (-1) (fun r107 u108 => Q r107 u108))))
set_option maxRecDepth 20000 in
theorem c_X8_mask (l : Launch) (g : zG) (ad : Nat → Nat) (u : RS) (x1 : Int32) (Q : Int32 → RS → Prop) (h : wp_X8_mask u x1 Q) : zMi l yX8_mask cX8_mask 3 (some .int) 5 0 0 g [.ref (ad 0), .int x1] (wR g ad u) (wR g ad) Q := by
  refine zMi_of RX8 (by decide) rfl [(0, .ref (ad 0)), (1, .int x1)] rfl (Nat.le_of_ble_eq_true rfl) (fun p e s m args below meth c A C hr hnm => ?_)
  unfold wp_X8_mask at h
  refine z_aload_n C dX8_mask_0 rfl 0 rfl ?_
  refine z_iconst (v := 0) C dX8_mask_1 (by decide) ?_
  refine pR_thrown C dX8_mask_2 ?_
  refine z_stR (fun u101 eu101 => ?_)
  have h := h u101 eu101
  refine z_iload_n C dX8_mask_5 rfl 1 rfl ?_
  refine z_i2l C dX8_mask_6 ?_
  refine z_lconst (v := 0) C dX8_mask_7 (by decide) ?_
  refine z_ldc2 (v := 31) C dX8_mask_8 k8_135 ?_
  refine cSi (As := [.long ((x1).toInt64), .long 0, .long 31]) C (c_X8_in l g ((x1).toInt64) 0 31 _ h) s_X8_in ml8_84 ⟨Nat.le_of_ble_eq_true rfl, Nat.le_of_ble_eq_true rfl⟩ ⟨Nat.zero_le _, Nat.zero_le _⟩ (Nat.le_of_ble_eq_true rfl) rfl dX8_mask_11 ?_
  intro r102 h
  refine z_if_ne C dX8_mask_14 (tgt := 23) (by decide) (fun hc103 => ?_) (fun hc103 => ?_)
  · have h := h.1 hc103
    refine z_aload_n C dX8_mask_23 rfl 0 rfl ?_
    refine z_iconst (v := 3) C dX8_mask_24 (by decide) ?_
    refine z_iload_n C dX8_mask_25 rfl 1 rfl ?_
    refine z_iconst (v := 1) C dX8_mask_26 (by decide) ?_
    refine cRi (As := [.int 3, .int x1, .int 1]) C (c_X8_becomes l g ad u101 3 x1 1 _ h) v_X8_becomes ml8_137 rfl ⟨Nat.le_of_ble_eq_true rfl, Nat.le_of_ble_eq_true rfl⟩ ⟨Nat.zero_le _, Nat.zero_le _⟩ (Nat.le_of_ble_eq_true rfl) rfl dX8_mask_27 ?_
    intro r104 u105 h
    refine z_istore_n (lv1 := [(2, .int r104), (0, .ref (ad 0)), (1, .int x1)]) C dX8_mask_30 rfl (by decide) rfl ?_
    refine z_aload_n C dX8_mask_31 rfl 1 rfl ?_
    refine cRv (As := []) C (c_X8_layHashes l g ad u105 _ h) v_X8_layHashes ml8_132 rfl ⟨Nat.le_of_ble_eq_true rfl, Nat.le_of_ble_eq_true rfl⟩ ⟨Nat.zero_le _, Nat.zero_le _⟩ (Nat.le_of_ble_eq_true rfl) rfl dX8_mask_32 ?_
    intro u106 h
    refine z_iload_n C dX8_mask_35 rfl 0 rfl ?_
    exact z_iret C hr u106 rfl h dX8_mask_36
  · have h := h.2 hc103
    refine z_aload_n C dX8_mask_17 rfl 0 rfl ?_
    refine z_iconst (v := (-1)) C dX8_mask_18 (by decide) ?_
    refine cRi (As := [.int (-1)]) C (c_X8_refuse l g ad u101 (-1) _ h) v_X8_refuse ml8_75 rfl ⟨Nat.le_of_ble_eq_true rfl, Nat.le_of_ble_eq_true rfl⟩ ⟨Nat.zero_le _, Nat.zero_le _⟩ (Nat.le_of_ble_eq_true rfl) rfl dX8_mask_19 ?_
    intro r107 u108 h
    exact z_iret C hr u108 rfl h dX8_mask_22
abbrev j_X8_joins (p : Program) (l : Launch) (e : Env) (s : State) (m : MethodId) (args : Array Value) (below : List Frame) (meth : Method) (c : Code) (g : zG) (A : Nat → Prop) (ad : Nat → Nat) (Q : RS → Prop) (u : RS) (pc : Nat) (lv : List (Nat × Value)) (st : List Value) : Prop := zJ p l e (zR 5 0 0) s m args below meth c g A 6 (zQv below args s g A 0 0 (wR g ad) Q) (wR g ad u) 0 0 pc lv st
def wp_X8_joins_191 (Q : RS → Prop) (u : RS) : Prop :=
  Q u
set_option maxRecDepth 20000 in
theorem b_X8_joins_191 (C : zC p s m args meth c g A cX8_joins RX8 6) (hr : meth.sig.returnType = none) (ad : Nat → Nat) (Q : RS → Prop) (u : RS) (h : wp_X8_joins_191 Q u) : j_X8_joins p l e s m args below meth c g A ad Q u 191 [(0, .ref (ad 0))] [] := by
  unfold wp_X8_joins_191 at h
  exact z_vret C hr u rfl h dX8_joins_191
def wp_X8_joins_140 (Q : RS → Prop) (u : RS) (x1 : Int32) (x2 : Int32) (x3 : Int32) (x4 : Int32) : Prop :=
  vp_in (x4 + 1) 72 ∧ vp_in (x2 + 2) 1065 ∧ vp_in (x4 + 1) 72 ∧ ∀ u112 : RS, u112 = rI u 17 (upd (u.1 17) (zn (x4 + 1)) ((u.1 17 (zn (x4 + 1))) + (u.1 3 (zn (x2 + 2))))) → vp_in (x4 + 2) 72 ∧ vp_in (x4 + 2) 72 ∧ ∀ u115 : RS, u115 = rI u112 17 (upd (u112.1 17) (zn (x4 + 2)) ((u112.1 17 (zn (x4 + 2))) + 1)) → vp_in (x2 + 3) 1065 ∧ ((¬ u115.1 3 (zn (x2 + 3)) = 1 → wp_X8_joins_191 Q u115) ∧ (u115.1 3 (zn (x2 + 3)) = 1 → wp_X8_gives u115 x3 x1 (fun u118 => wp_X8_joins_191 Q u118)))
set_option maxRecDepth 20000 in
theorem b_X8_joins_140 (C : zC p s m args meth c g A cX8_joins RX8 6) (hr : meth.sig.returnType = none) (ad : Nat → Nat) (Q : RS → Prop) (u : RS) (x1 : Int32) (x2 : Int32) (x3 : Int32) (x4 : Int32) (h : wp_X8_joins_140 Q u x1 x2 x3 x4) : j_X8_joins p l e s m args below meth c g A ad Q u 140 [(0, .ref (ad 0)), (1, .int x1), (2, .int x2), (3, .int x3), (4, .int x4)] [] := by
  unfold wp_X8_joins_140 at h
  refine z_aload_n C dX8_joins_140 rfl 0 rfl ?_
  refine gR_open C dX8_joins_141 ?_
  refine z_iload C dX8_joins_144 4 rfl ?_
  refine z_iconst (v := 1) C dX8_joins_146 (by decide) ?_
  refine z_iadd C dX8_joins_147 ?_
  refine z_dup2 C dX8_joins_148 rfl rfl ?_
  obtain ⟨hi109, h⟩ := h
  refine lR_open C hi109 dX8_joins_149 ?_
  refine z_aload_n C dX8_joins_150 rfl 0 rfl ?_
  refine gR_row C dX8_joins_151 ?_
  refine z_iload_n C dX8_joins_154 rfl 2 rfl ?_
  refine z_iconst (v := 2) C dX8_joins_155 (by decide) ?_
  refine z_iadd C dX8_joins_156 ?_
  obtain ⟨hi110, h⟩ := h
  refine lR_row C hi110 dX8_joins_157 ?_
  refine z_iadd C dX8_joins_158 ?_
  obtain ⟨hi111, h⟩ := h
  refine sR_open C hi111 dX8_joins_159 ?_
  refine z_stR (fun u112 eu112 => ?_)
  have h := h u112 eu112
  refine z_aload_n C dX8_joins_160 rfl 0 rfl ?_
  refine gR_open C dX8_joins_161 ?_
  refine z_iload C dX8_joins_164 4 rfl ?_
  refine z_iconst (v := 2) C dX8_joins_166 (by decide) ?_
  refine z_iadd C dX8_joins_167 ?_
  refine z_dup2 C dX8_joins_168 rfl rfl ?_
  obtain ⟨hi113, h⟩ := h
  refine lR_open C hi113 dX8_joins_169 ?_
  refine z_iconst (v := 1) C dX8_joins_170 (by decide) ?_
  refine z_iadd C dX8_joins_171 ?_
  obtain ⟨hi114, h⟩ := h
  refine sR_open C hi114 dX8_joins_172 ?_
  refine z_stR (fun u115 eu115 => ?_)
  have h := h u115 eu115
  refine z_aload_n C dX8_joins_173 rfl 0 rfl ?_
  refine gR_row C dX8_joins_174 ?_
  refine z_iload_n C dX8_joins_177 rfl 2 rfl ?_
  refine z_iconst (v := 3) C dX8_joins_178 (by decide) ?_
  refine z_iadd C dX8_joins_179 ?_
  obtain ⟨hi116, h⟩ := h
  refine lR_row C hi116 dX8_joins_180 ?_
  refine z_iconst (v := 1) C dX8_joins_181 (by decide) ?_
  refine z_icmp_ne C dX8_joins_182 (tgt := 191) (by decide) (fun hc117 => ?_) (fun hc117 => ?_)
  · have h := h.1 hc117
    refine z_lv (lv1 := [(0, .ref (ad 0))]) [0] rfl ?_
    exact b_X8_joins_191 C hr ad Q u115 h
  · have h := h.2 hc117
    refine z_aload_n C dX8_joins_185 rfl 0 rfl ?_
    refine z_iload_n C dX8_joins_186 rfl 3 rfl ?_
    refine z_iload_n C dX8_joins_187 rfl 1 rfl ?_
    refine cRv (As := [.int x3, .int x1]) C (c_X8_gives l g ad u115 x3 x1 _ h) v_X8_gives ml8_219 rfl ⟨Nat.le_of_ble_eq_true rfl, Nat.le_of_ble_eq_true rfl⟩ ⟨Nat.zero_le _, Nat.zero_le _⟩ (Nat.le_of_ble_eq_true rfl) rfl dX8_joins_188 ?_
    intro u118 h
    refine z_lv (lv1 := [(0, .ref (ad 0))]) [0] rfl ?_
    exact b_X8_joins_191 C hr ad Q u118 h
def wp_X8_joins_110 (Q : RS → Prop) (u : RS) (x1 : Int32) (x2 : Int32) (x3 : Int32) (x4 : Int32) (x5 : Int32) : Prop :=
  ((¬ x5 = 0 → wp_X8_joins_140 Q u x1 x2 x3 x4) ∧ (x5 = 0 → vp_in (x2 + 1) 1065 ∧ vp_in x4 72 ∧ ∀ u121 : RS, u121 = rI u 17 (upd (u.1 17) (zn x4) (u.1 3 (zn (x2 + 1)))) → vp_in (x4 + 1) 72 ∧ ∀ u123 : RS, u123 = rI u121 17 (upd (u121.1 17) (zn (x4 + 1)) 0) → wp_X8_joins_140 Q u123 x1 x2 x3 x4))
set_option maxRecDepth 20000 in
theorem b_X8_joins_110 (C : zC p s m args meth c g A cX8_joins RX8 6) (hr : meth.sig.returnType = none) (ad : Nat → Nat) (Q : RS → Prop) (u : RS) (x1 : Int32) (x2 : Int32) (x3 : Int32) (x4 : Int32) (x5 : Int32) (h : wp_X8_joins_110 Q u x1 x2 x3 x4 x5) : j_X8_joins p l e s m args below meth c g A ad Q u 110 [(0, .ref (ad 0)), (1, .int x1), (2, .int x2), (3, .int x3), (4, .int x4), (5, .int x5)] [] := by
  unfold wp_X8_joins_110 at h
  refine z_iload C dX8_joins_110 5 rfl ?_
  refine z_if_ne C dX8_joins_112 (tgt := 140) (by decide) (fun hc108 => ?_) (fun hc108 => ?_)
  · have h := h.1 hc108
    refine z_lv (lv1 := [(0, .ref (ad 0)), (1, .int x1), (2, .int x2), (3, .int x3), (4, .int x4)]) [0, 1, 2, 3, 4] rfl ?_
    exact b_X8_joins_140 C hr ad Q u x1 x2 x3 x4 h
  · have h := h.2 hc108
    refine z_aload_n C dX8_joins_115 rfl 0 rfl ?_
    refine gR_open C dX8_joins_116 ?_
    refine z_iload C dX8_joins_119 4 rfl ?_
    refine z_aload_n C dX8_joins_121 rfl 0 rfl ?_
    refine gR_row C dX8_joins_122 ?_
    refine z_iload_n C dX8_joins_125 rfl 2 rfl ?_
    refine z_iconst (v := 1) C dX8_joins_126 (by decide) ?_
    refine z_iadd C dX8_joins_127 ?_
    obtain ⟨hi119, h⟩ := h
    refine lR_row C hi119 dX8_joins_128 ?_
    obtain ⟨hi120, h⟩ := h
    refine sR_open C hi120 dX8_joins_129 ?_
    refine z_stR (fun u121 eu121 => ?_)
    have h := h u121 eu121
    refine z_aload_n C dX8_joins_130 rfl 0 rfl ?_
    refine gR_open C dX8_joins_131 ?_
    refine z_iload C dX8_joins_134 4 rfl ?_
    refine z_iconst (v := 1) C dX8_joins_136 (by decide) ?_
    refine z_iadd C dX8_joins_137 ?_
    refine z_iconst (v := 0) C dX8_joins_138 (by decide) ?_
    obtain ⟨hi122, h⟩ := h
    refine sR_open C hi122 dX8_joins_139 ?_
    refine z_stR (fun u123 eu123 => ?_)
    have h := h u123 eu123
    refine z_lv (lv1 := [(0, .ref (ad 0)), (1, .int x1), (2, .int x2), (3, .int x3), (4, .int x4)]) [0, 1, 2, 3, 4] rfl ?_
    exact b_X8_joins_140 C hr ad Q u123 x1 x2 x3 x4 h
def wp_X8_joins_85 (Q : RS → Prop) (u : RS) (x1 : Int32) (x2 : Int32) (x3 : Int32) (x4 : Int32) (t0 : Int32) : Prop :=
  vp_in (x4 + 2) 72 ∧ ((u.1 17 (zn (x4 + 2)) ≤ 0 → wp_X8_joins_110 Q u x1 x2 x3 x4 t0) ∧ (¬ u.1 17 (zn (x4 + 2)) ≤ 0 → ((¬ t0 = 0 → wp_X8_joins_110 Q u x1 x2 x3 x4 t0) ∧ (t0 = 0 → wp_X8_gives u x3 x1 (fun u125 => wp_X8_joins_110 Q u125 x1 x2 x3 x4 t0)))))
set_option maxRecDepth 20000 in
theorem b_X8_joins_85 (C : zC p s m args meth c g A cX8_joins RX8 6) (hr : meth.sig.returnType = none) (ad : Nat → Nat) (Q : RS → Prop) (u : RS) (x1 : Int32) (x2 : Int32) (x3 : Int32) (x4 : Int32) (t0 : Int32) (h : wp_X8_joins_85 Q u x1 x2 x3 x4 t0) : j_X8_joins p l e s m args below meth c g A ad Q u 85 [(0, .ref (ad 0)), (1, .int x1), (2, .int x2), (3, .int x3), (4, .int x4)] [.int t0] := by
  unfold wp_X8_joins_85 at h
  refine z_istore (lv1 := [(5, .int t0), (0, .ref (ad 0)), (1, .int x1), (2, .int x2), (3, .int x3), (4, .int x4)]) C dX8_joins_85 (by decide) rfl ?_
  refine z_aload_n C dX8_joins_87 rfl 1 rfl ?_
  refine gR_open C dX8_joins_88 ?_
  refine z_iload C dX8_joins_91 5 rfl ?_
  refine z_iconst (v := 2) C dX8_joins_93 (by decide) ?_
  refine z_iadd C dX8_joins_94 ?_
  obtain ⟨hi106, h⟩ := h
  refine lR_open C hi106 dX8_joins_95 ?_
  refine z_if_le C dX8_joins_96 (tgt := 110) (by decide) (fun hc107 => ?_) (fun hc107 => ?_)
  · have h := h.1 hc107
    refine z_lv (lv1 := [(0, .ref (ad 0)), (1, .int x1), (2, .int x2), (3, .int x3), (4, .int x4), (5, .int t0)]) [1, 2, 3, 4, 5, 0] rfl ?_
    exact b_X8_joins_110 C hr ad Q u x1 x2 x3 x4 t0 h
  · have h := h.2 hc107
    refine z_iload C dX8_joins_99 0 rfl ?_
    refine z_if_ne C dX8_joins_101 (tgt := 110) (by decide) (fun hc124 => ?_) (fun hc124 => ?_)
    · have h := h.1 hc124
      refine z_lv (lv1 := [(0, .ref (ad 0)), (1, .int x1), (2, .int x2), (3, .int x3), (4, .int x4), (5, .int t0)]) [1, 2, 3, 4, 5, 0] rfl ?_
      exact b_X8_joins_110 C hr ad Q u x1 x2 x3 x4 t0 h
    · have h := h.2 hc124
      refine z_aload_n C dX8_joins_104 rfl 1 rfl ?_
      refine z_iload_n C dX8_joins_105 rfl 4 rfl ?_
      refine z_iload_n C dX8_joins_106 rfl 2 rfl ?_
      refine cRv (As := [.int x3, .int x1]) C (c_X8_gives l g ad u x3 x1 _ h) v_X8_gives ml8_219 rfl ⟨Nat.le_of_ble_eq_true rfl, Nat.le_of_ble_eq_true rfl⟩ ⟨Nat.zero_le _, Nat.zero_le _⟩ (Nat.le_of_ble_eq_true rfl) rfl dX8_joins_107 ?_
      intro u125 h
      refine z_lv (lv1 := [(0, .ref (ad 0)), (1, .int x1), (2, .int x2), (3, .int x3), (4, .int x4), (5, .int t0)]) [1, 2, 3, 4, 5, 0] rfl ?_
      exact b_X8_joins_110 C hr ad Q u125 x1 x2 x3 x4 t0 h
def wp_X8_joins_84 (Q : RS → Prop) (u : RS) (x1 : Int32) (x2 : Int32) (x3 : Int32) (x4 : Int32) : Prop :=
  wp_X8_joins_85 Q u x1 x2 x3 x4 0
set_option maxRecDepth 20000 in
theorem b_X8_joins_84 (C : zC p s m args meth c g A cX8_joins RX8 6) (hr : meth.sig.returnType = none) (ad : Nat → Nat) (Q : RS → Prop) (u : RS) (x1 : Int32) (x2 : Int32) (x3 : Int32) (x4 : Int32) (h : wp_X8_joins_84 Q u x1 x2 x3 x4) : j_X8_joins p l e s m args below meth c g A ad Q u 84 [(0, .ref (ad 0)), (1, .int x1), (2, .int x2), (3, .int x3), (4, .int x4)] [] := by
  unfold wp_X8_joins_84 at h
  refine z_iconst (v := 0) C dX8_joins_84 (by decide) ?_
  exact b_X8_joins_85 C hr ad Q u x1 x2 x3 x4 0 h
def wp_X8_joins (u : RS) (x1 : Int32) (x2 : Int32) (Q : RS → Prop) : Prop :=
  vp_in x2 1065 ∧ ∀ x102 : Int32, x102 = u.1 3 (zn x2) → ∀ x103 : Int32, x103 = 3 * x102 → vp_in (x103 + 2) 72 ∧ ((u.1 17 (zn (x103 + 2)) ≤ 0 → wp_X8_joins_84 Q u x1 x2 x102 x103) ∧ (¬ u.1 17 (zn (x103 + 2)) ≤ 0 → vp_in x103 72 ∧ vp_in (x103 + 1) 72 ∧ vp_in (x2 + 1) 1065 ∧ ((¬ (u.1 17 (zn x103)) + (u.1 17 (zn (x103 + 1))) = u.1 3 (zn (x2 + 1)) → wp_X8_joins_84 Q u x1 x2 x102 x103) ∧ ((u.1 17 (zn x103)) + (u.1 17 (zn (x103 + 1))) = u.1 3 (zn (x2 + 1)) → vp_in (x103 + 1) 72 ∧ vp_in (x2 + 2) 1065 ∧ ((u.1 3 17 < (u.1 17 (zn (x103 + 1))) + (u.1 3 (zn (x2 + 2))) → wp_X8_joins_84 Q u x1 x2 x102 x103) ∧ (¬ u.1 3 17 < (u.1 17 (zn (x103 + 1))) + (u.1 3 (zn (x2 + 2))) → wp_X8_joins_85 Q u x1 x2 x102 x103 1))))))
set_option maxRecDepth 20000 in
theorem c_X8_joins (l : Launch) (g : zG) (ad : Nat → Nat) (u : RS) (x1 : Int32) (x2 : Int32) (Q : RS → Prop) (h : wp_X8_joins u x1 x2 Q) : zMv l yX8_joins cX8_joins 6 none 5 0 0 g [.ref (ad 0), .int x1, .int x2] (wR g ad u) (wR g ad) Q := by
  refine zMv_of RX8 (by decide) rfl [(0, .ref (ad 0)), (1, .int x1), (2, .int x2)] rfl (Nat.le_of_ble_eq_true rfl) (fun p e s m args below meth c A C hr hnm => ?_)
  unfold wp_X8_joins at h
  refine z_aload_n C dX8_joins_0 rfl 0 rfl ?_
  refine gR_row C dX8_joins_1 ?_
  refine z_iload_n C dX8_joins_4 rfl 2 rfl ?_
  obtain ⟨hi101, h⟩ := h
  refine lR_row C hi101 dX8_joins_5 ?_
  refine z_topi (fun x102 ex102 => ?_)
  have h := h x102 ex102
  refine z_istore_n (lv1 := [(3, .int x102), (0, .ref (ad 0)), (1, .int x1), (2, .int x2)]) C dX8_joins_6 rfl (by decide) rfl ?_
  refine z_iconst (v := 3) C dX8_joins_7 (by decide) ?_
  refine z_iload_n C dX8_joins_8 rfl 0 rfl ?_
  refine z_imul C dX8_joins_9 ?_
  refine z_topi (fun x103 ex103 => ?_)
  have h := h x103 ex103
  refine z_istore (lv1 := [(4, .int x103), (3, .int x102), (0, .ref (ad 0)), (1, .int x1), (2, .int x2)]) C dX8_joins_10 (by decide) rfl ?_
  refine z_aload_n C dX8_joins_12 rfl 2 rfl ?_
  refine gR_open C dX8_joins_13 ?_
  refine z_iload C dX8_joins_16 0 rfl ?_
  refine z_iconst (v := 2) C dX8_joins_18 (by decide) ?_
  refine z_iadd C dX8_joins_19 ?_
  obtain ⟨hi104, h⟩ := h
  refine lR_open C hi104 dX8_joins_20 ?_
  refine z_if_le C dX8_joins_21 (tgt := 84) (by decide) (fun hc105 => ?_) (fun hc105 => ?_)
  · have h := h.1 hc105
    refine z_lv (lv1 := [(0, .ref (ad 0)), (1, .int x1), (2, .int x2), (3, .int x102), (4, .int x103)]) [2, 3, 4, 1, 0] rfl ?_
    exact b_X8_joins_84 C hr ad Q u x1 x2 x102 x103 h
  · have h := h.2 hc105
    refine z_aload_n C dX8_joins_24 rfl 2 rfl ?_
    refine gR_open C dX8_joins_25 ?_
    refine z_iload C dX8_joins_28 0 rfl ?_
    obtain ⟨hi126, h⟩ := h
    refine lR_open C hi126 dX8_joins_30 ?_
    refine z_aload_n C dX8_joins_31 rfl 2 rfl ?_
    refine gR_open C dX8_joins_32 ?_
    refine z_iload C dX8_joins_35 0 rfl ?_
    refine z_iconst (v := 1) C dX8_joins_37 (by decide) ?_
    refine z_iadd C dX8_joins_38 ?_
    obtain ⟨hi127, h⟩ := h
    refine lR_open C hi127 dX8_joins_39 ?_
    refine z_iadd C dX8_joins_40 ?_
    refine z_aload_n C dX8_joins_41 rfl 2 rfl ?_
    refine gR_row C dX8_joins_42 ?_
    refine z_iload_n C dX8_joins_45 rfl 4 rfl ?_
    refine z_iconst (v := 1) C dX8_joins_46 (by decide) ?_
    refine z_iadd C dX8_joins_47 ?_
    obtain ⟨hi128, h⟩ := h
    refine lR_row C hi128 dX8_joins_48 ?_
    refine z_icmp_ne C dX8_joins_49 (tgt := 84) (by decide) (fun hc129 => ?_) (fun hc129 => ?_)
    · have h := h.1 hc129
      refine z_lv (lv1 := [(0, .ref (ad 0)), (1, .int x1), (2, .int x2), (3, .int x102), (4, .int x103)]) [2, 3, 4, 1, 0] rfl ?_
      exact b_X8_joins_84 C hr ad Q u x1 x2 x102 x103 h
    · have h := h.2 hc129
      refine z_aload_n C dX8_joins_52 rfl 2 rfl ?_
      refine gR_open C dX8_joins_53 ?_
      refine z_iload C dX8_joins_56 0 rfl ?_
      refine z_iconst (v := 1) C dX8_joins_58 (by decide) ?_
      refine z_iadd C dX8_joins_59 ?_
      obtain ⟨hi130, h⟩ := h
      refine lR_open C hi130 dX8_joins_60 ?_
      refine z_aload_n C dX8_joins_61 rfl 2 rfl ?_
      refine gR_row C dX8_joins_62 ?_
      refine z_iload_n C dX8_joins_65 rfl 4 rfl ?_
      refine z_iconst (v := 2) C dX8_joins_66 (by decide) ?_
      refine z_iadd C dX8_joins_67 ?_
      obtain ⟨hi131, h⟩ := h
      refine lR_row C hi131 dX8_joins_68 ?_
      refine z_iadd C dX8_joins_69 ?_
      refine z_aload_n C dX8_joins_70 rfl 2 rfl ?_
      refine gR_row C dX8_joins_71 ?_
      refine z_bipush (v := 17) C dX8_joins_74 (by decide) ?_
      refine lRn_row C 17 (by decide +kernel) (vp_in_iff.mpr (by decide +kernel)) dX8_joins_76 ?_
      refine z_icmp_gt C dX8_joins_77 (tgt := 84) (by decide) (fun hc132 => ?_) (fun hc132 => ?_)
      · have h := h.1 hc132
        refine z_lv (lv1 := [(0, .ref (ad 0)), (1, .int x1), (2, .int x2), (3, .int x102), (4, .int x103)]) [2, 3, 4, 1, 0] rfl ?_
        exact b_X8_joins_84 C hr ad Q u x1 x2 x102 x103 h
      · have h := h.2 hc132
        refine z_iconst (v := 1) C dX8_joins_80 (by decide) ?_
        refine z_goto C dX8_joins_81 (tgt := 85) (by decide) ?_
        refine z_lv (lv1 := [(0, .ref (ad 0)), (1, .int x1), (2, .int x2), (3, .int x102), (4, .int x103)]) [2, 3, 4, 1, 0] rfl ?_
        exact b_X8_joins_85 C hr ad Q u x1 x2 x102 x103 1 h
abbrev j_X8_takes (p : Program) (l : Launch) (e : Env) (s : State) (m : MethodId) (args : Array Value) (below : List Frame) (meth : Method) (c : Code) (g : zG) (A : Nat → Prop) (ad : Nat → Nat) (Q : Int32 → RS → Prop) (u : RS) (pc : Nat) (lv : List (Nat × Value)) (st : List Value) : Prop := zJ p l e (zR 6 0 0) s m args below meth c g A 5 (zQi below args s g A 0 0 (wR g ad) Q) (wR g ad u) 0 0 pc lv st
def wp_X8_takes_235 (Q : Int32 → RS → Prop) (u : RS) (x3 : Int32) (t0 : Int32) (t1 : Int32) : Prop :=
  vp_in t1 1065 ∧ ∀ u125 : RS, u125 = rI u 3 (upd (u.1 3) (zn t1) t0) → Q x3 u125
set_option maxRecDepth 20000 in
theorem b_X8_takes_235 (C : zC p s m args meth c g A cX8_takes RX8 5) (hr : meth.sig.returnType = (some .int)) (ad : Nat → Nat) (Q : Int32 → RS → Prop) (u : RS) (x3 : Int32) (t0 : Int32) (t1 : Int32) (h : wp_X8_takes_235 Q u x3 t0 t1) : j_X8_takes p l e s m args below meth c g A ad Q u 235 [(0, .ref (ad 0)), (3, .int x3)] [.int t0, .int t1, .ref (ad 2)] := by
  unfold wp_X8_takes_235 at h
  obtain ⟨hi124, h⟩ := h
  refine sR_row C hi124 dX8_takes_235 ?_
  refine z_stR (fun u125 eu125 => ?_)
  have h := h u125 eu125
  refine z_iload_n C dX8_takes_236 rfl 1 rfl ?_
  exact z_iret C hr u125 rfl h dX8_takes_237
def wp_X8_takes_124 (Q : Int32 → RS → Prop) (B124 : RS → Int32 → Int32 → Int32 → Int32 → Prop) (u : RS) (x1 : Int32) (x2 : Int32) (x3 : Int32) (x4 : Int32) : Prop :=
  vp_in x2 1065 ∧ wp_X8_packetAt x1 (u.1 3 (zn x2)) (fun r112 => ((r112 ≤ x4 → vp_in (x2 + 4) 1065 ∧ vp_in (x2 + 4) 1065 ∧ ∀ u116 : RS, u116 = rI u 3 (upd (u.1 3) (zn (x2 + 4)) ((u.1 3 (zn (x2 + 4))) + x3)) → vp_in (x2 + 3) 1065 ∧ vp_in (x2 + 3) 1065 ∧ ∀ u119 : RS, u119 = rI u116 3 (upd (u116.1 3) (zn (x2 + 3)) ((u116.1 3 (zn (x2 + 3))) + 1)) → ∀ u120 : RS, u120 = rI u119 3 (upd (u119.1 3) 10 ((u119.1 3 10) + 1)) → ∀ u121 : RS, u121 = rN u120 19 ((u120.1 19 0) + 1) → vp_in x2 1065 ∧ ((u121.1 3 (zn x2) ≤ 0 → wp_X8_takes_235 Q u121 x3 (-1) (x2 + 2)) ∧ (¬ u121.1 3 (zn x2) ≤ 0 → wp_X8_takes_235 Q u121 x3 (u121.1 3 6) (x2 + 2)))) ∧ (¬ r112 ≤ x4 → vp_in (x4 + (4 * x3)) 1065 ∧ vp_in x4 1065 ∧ ∀ u128 : RS, u128 = rI u 3 (upd (u.1 3) (zn x4) (u.1 3 (zn (x4 + (4 * x3))))) → ∀ x129 : Int32, x129 = x4 + 1 → B124 u128 x1 x2 x3 x129)))
set_option maxRecDepth 20000 in
theorem b_X8_takes_124 (C : zC p s m args meth c g A cX8_takes RX8 5) (hr : meth.sig.returnType = (some .int)) (ad : Nat → Nat) (Q : Int32 → RS → Prop) (B124 : RS → Int32 → Int32 → Int32 → Int32 → Prop) (hB124 : ∀ (u : RS) (x1 : Int32) (x2 : Int32) (x3 : Int32) (x4 : Int32), B124 u x1 x2 x3 x4 → j_X8_takes p l e s m args below meth c g A ad Q u 124 [(0, .ref (ad 0)), (1, .int x1), (2, .int x2), (3, .int x3), (4, .int x4)] []) (u : RS) (x1 : Int32) (x2 : Int32) (x3 : Int32) (x4 : Int32) (h : wp_X8_takes_124 Q B124 u x1 x2 x3 x4) : j_X8_takes p l e s m args below meth c g A ad Q u 124 [(0, .ref (ad 0)), (1, .int x1), (2, .int x2), (3, .int x3), (4, .int x4)] [] := by
  unfold wp_X8_takes_124 at h
  refine z_iload C dX8_takes_124 4 rfl ?_
  refine z_iload_n C dX8_takes_126 rfl 1 rfl ?_
  refine z_aload_n C dX8_takes_127 rfl 0 rfl ?_
  refine gR_row C dX8_takes_128 ?_
  refine z_iload_n C dX8_takes_131 rfl 2 rfl ?_
  obtain ⟨hi111, h⟩ := h
  refine lR_row C hi111 dX8_takes_132 ?_
  refine cSi (As := [.int x1, .int (u.1 3 (zn x2))]) C (c_X8_packetAt l g x1 (u.1 3 (zn x2)) _ h) s_X8_packetAt ml8_125 ⟨Nat.le_of_ble_eq_true rfl, Nat.le_of_ble_eq_true rfl⟩ ⟨Nat.zero_le _, Nat.zero_le _⟩ (Nat.le_of_ble_eq_true rfl) rfl dX8_takes_133 ?_
  intro r112 h
  refine z_icmp_ge C dX8_takes_136 (tgt := 163) (by decide) (fun hc113 => ?_) (fun hc113 => ?_)
  · have h := h.1 hc113
    refine z_aload_n C dX8_takes_163 rfl 0 rfl ?_
    refine gR_row C dX8_takes_164 ?_
    refine z_iload_n C dX8_takes_167 rfl 2 rfl ?_
    refine z_iconst (v := 4) C dX8_takes_168 (by decide) ?_
    refine z_iadd C dX8_takes_169 ?_
    refine z_dup2 C dX8_takes_170 rfl rfl ?_
    obtain ⟨hi114, h⟩ := h
    refine lR_row C hi114 dX8_takes_171 ?_
    refine z_iload_n C dX8_takes_172 rfl 3 rfl ?_
    refine z_iadd C dX8_takes_173 ?_
    obtain ⟨hi115, h⟩ := h
    refine sR_row C hi115 dX8_takes_174 ?_
    refine z_stR (fun u116 eu116 => ?_)
    have h := h u116 eu116
    refine z_aload_n C dX8_takes_175 rfl 0 rfl ?_
    refine gR_row C dX8_takes_176 ?_
    refine z_iload_n C dX8_takes_179 rfl 2 rfl ?_
    refine z_iconst (v := 3) C dX8_takes_180 (by decide) ?_
    refine z_iadd C dX8_takes_181 ?_
    refine z_dup2 C dX8_takes_182 rfl rfl ?_
    obtain ⟨hi117, h⟩ := h
    refine lR_row C hi117 dX8_takes_183 ?_
    refine z_iconst (v := 1) C dX8_takes_184 (by decide) ?_
    refine z_iadd C dX8_takes_185 ?_
    obtain ⟨hi118, h⟩ := h
    refine sR_row C hi118 dX8_takes_186 ?_
    refine z_stR (fun u119 eu119 => ?_)
    have h := h u119 eu119
    refine z_aload_n C dX8_takes_187 rfl 0 rfl ?_
    refine gR_row C dX8_takes_188 ?_
    refine z_bipush (v := 10) C dX8_takes_191 (by decide) ?_
    refine z_dup2 C dX8_takes_193 rfl rfl ?_
    refine lRn_row C 10 (by decide +kernel) (vp_in_iff.mpr (by decide +kernel)) dX8_takes_194 ?_
    refine z_iconst (v := 1) C dX8_takes_195 (by decide) ?_
    refine z_iadd C dX8_takes_196 ?_
    refine sRn_row C 10 (by decide +kernel) (vp_in_iff.mpr (by decide +kernel)) dX8_takes_197 ?_
    refine z_stR (fun u120 eu120 => ?_)
    have h := h u120 eu120
    refine z_aload_n C dX8_takes_198 rfl 0 rfl ?_
    refine z_dup C dX8_takes_199 rfl ?_
    refine gR_callMany C dX8_takes_200 ?_
    refine z_iconst (v := 1) C dX8_takes_203 (by decide) ?_
    refine z_iadd C dX8_takes_204 ?_
    refine pR_callMany C dX8_takes_205 ?_
    refine z_stR (fun u121 eu121 => ?_)
    have h := h u121 eu121
    refine z_aload_n C dX8_takes_208 rfl 0 rfl ?_
    refine gR_row C dX8_takes_209 ?_
    refine z_iload_n C dX8_takes_212 rfl 2 rfl ?_
    refine z_iconst (v := 2) C dX8_takes_213 (by decide) ?_
    refine z_iadd C dX8_takes_214 ?_
    refine z_aload_n C dX8_takes_215 rfl 0 rfl ?_
    refine gR_row C dX8_takes_216 ?_
    refine z_iload_n C dX8_takes_219 rfl 2 rfl ?_
    obtain ⟨hi122, h⟩ := h
    refine lR_row C hi122 dX8_takes_220 ?_
    refine z_if_le C dX8_takes_221 (tgt := 234) (by decide) (fun hc123 => ?_) (fun hc123 => ?_)
    · have h := h.1 hc123
      refine z_iconst (v := (-1)) C dX8_takes_234 (by decide) ?_
      refine z_lv (lv1 := [(0, .ref (ad 0)), (3, .int x3)]) [0, 3] rfl ?_
      exact b_X8_takes_235 C hr ad Q u121 x3 (-1) (x2 + 2) h
    · have h := h.2 hc123
      refine z_aload_n C dX8_takes_224 rfl 0 rfl ?_
      refine gR_row C dX8_takes_225 ?_
      refine z_bipush (v := 6) C dX8_takes_228 (by decide) ?_
      refine lRn_row C 6 (by decide +kernel) (vp_in_iff.mpr (by decide +kernel)) dX8_takes_230 ?_
      refine z_goto C dX8_takes_231 (tgt := 235) (by decide) ?_
      refine z_lv (lv1 := [(0, .ref (ad 0)), (3, .int x3)]) [0, 3] rfl ?_
      exact b_X8_takes_235 C hr ad Q u121 x3 (u121.1 3 6) (x2 + 2) h
  · have h := h.2 hc113
    refine z_aload_n C dX8_takes_139 rfl 0 rfl ?_
    refine gR_row C dX8_takes_140 ?_
    refine z_iload C dX8_takes_143 4 rfl ?_
    refine z_aload_n C dX8_takes_145 rfl 0 rfl ?_
    refine gR_row C dX8_takes_146 ?_
    refine z_iload C dX8_takes_149 4 rfl ?_
    refine z_iconst (v := 4) C dX8_takes_151 (by decide) ?_
    refine z_iload_n C dX8_takes_152 rfl 3 rfl ?_
    refine z_imul C dX8_takes_153 ?_
    refine z_iadd C dX8_takes_154 ?_
    obtain ⟨hi126, h⟩ := h
    refine lR_row C hi126 dX8_takes_155 ?_
    obtain ⟨hi127, h⟩ := h
    refine sR_row C hi127 dX8_takes_156 ?_
    refine z_stR (fun u128 eu128 => ?_)
    have h := h u128 eu128
    obtain ⟨x129, ex129⟩ : ∃ y : Int32, y = x4 + 1 := ⟨_, rfl⟩
    have h := h x129 ex129
    refine z_iinc (v := x129) (lv1 := [(4, .int x129), (0, .ref (ad 0)), (1, .int x1), (2, .int x2), (3, .int x3)]) C dX8_takes_157 4 rfl (by rw [ex129]; rfl) (by decide) rfl ?_
    refine z_goto C dX8_takes_160 (tgt := 124) (by decide) ?_
    refine z_lv (lv1 := [(0, .ref (ad 0)), (1, .int x1), (2, .int x2), (3, .int x3), (4, .int x129)]) [1, 2, 3, 4, 0] rfl ?_
    exact hB124 u128 x1 x2 x3 x129 h
theorem l_X8_takes_124 (C : zC p s m args meth c g A cX8_takes RX8 5) (hr : meth.sig.returnType = (some .int)) (ad : Nat → Nat) (Q : Int32 → RS → Prop) : ∀ (n : Nat) (u : RS) (x1 : Int32) (x2 : Int32) (x3 : Int32) (x4 : Int32), zit5 (wp_X8_takes_124 Q) n u x1 x2 x3 x4 → j_X8_takes p l e s m args below meth c g A ad Q u 124 [(0, .ref (ad 0)), (1, .int x1), (2, .int x2), (3, .int x3), (4, .int x4)] [] := by
  intro n
  induction n with
  | zero => exact fun u x1 x2 x3 x4 h => h.elim
  | succ n ih => exact fun u x1 x2 x3 x4 h => b_X8_takes_124 C hr ad Q (zit5 (wp_X8_takes_124 Q) n) ih u x1 x2 x3 x4 h
def wp_X8_takes_102 (Q : Int32 → RS → Prop) (B70 : RS → Int32 → Int32 → Int32 → Int32 → Prop) (u : RS) (x1 : Int32) (x2 : Int32) (x3 : Int32) (x4 : Int32) : Prop :=
  ∀ x132 : Int32, x132 = x4 + 1 → B70 u x1 x2 x3 x132
set_option maxRecDepth 20000 in
theorem b_X8_takes_102 (C : zC p s m args meth c g A cX8_takes RX8 5) (hr : meth.sig.returnType = (some .int)) (ad : Nat → Nat) (Q : Int32 → RS → Prop) (B70 : RS → Int32 → Int32 → Int32 → Int32 → Prop) (hB70 : ∀ (u : RS) (x1 : Int32) (x2 : Int32) (x3 : Int32) (x4 : Int32), B70 u x1 x2 x3 x4 → j_X8_takes p l e s m args below meth c g A ad Q u 70 [(0, .ref (ad 0)), (1, .int x1), (2, .int x2), (3, .int x3), (4, .int x4)] []) (u : RS) (x1 : Int32) (x2 : Int32) (x3 : Int32) (x4 : Int32) (h : wp_X8_takes_102 Q B70 u x1 x2 x3 x4) : j_X8_takes p l e s m args below meth c g A ad Q u 102 [(0, .ref (ad 0)), (1, .int x1), (2, .int x2), (3, .int x3), (4, .int x4)] [] := by
  unfold wp_X8_takes_102 at h
  obtain ⟨x132, ex132⟩ : ∃ y : Int32, y = x4 + 1 := ⟨_, rfl⟩
  have h := h x132 ex132
  refine z_iinc (v := x132) (lv1 := [(4, .int x132), (0, .ref (ad 0)), (1, .int x1), (2, .int x2), (3, .int x3)]) C dX8_takes_102 4 rfl (by rw [ex132]; rfl) (by decide) rfl ?_
  refine z_goto C dX8_takes_105 (tgt := 70) (by decide) ?_
  refine z_lv (lv1 := [(0, .ref (ad 0)), (1, .int x1), (2, .int x2), (3, .int x3), (4, .int x132)]) [1, 2, 3, 4, 0] rfl ?_
  exact hB70 u x1 x2 x3 x132 h
def wp_X8_takes_70 (Q : Int32 → RS → Prop) (B70 : RS → Int32 → Int32 → Int32 → Int32 → Prop) (u : RS) (x1 : Int32) (x2 : Int32) (x3 : Int32) (x4 : Int32) : Prop :=
  ((u.1 3 4 ≤ x4 → vp_in x2 1065 ∧ vp_in x2 1065 ∧ ∀ u109 : RS, u109 = rI u 3 (upd (u.1 3) (zn x2) ((u.1 3 (zn x2)) - x3)) → ∀ x110 : Int32, x110 = x2 + 8 → (∃ n, zit5 (wp_X8_takes_124 Q) n u109 x1 x2 x3 x110)) ∧ (¬ u.1 3 4 ≤ x4 → vp_in ((3 * x4) + 2) 72 ∧ ((u.1 17 (zn ((3 * x4) + 2)) ≤ 0 → wp_X8_takes_102 Q B70 u x1 x2 x3 x4) ∧ (¬ u.1 17 (zn ((3 * x4) + 2)) ≤ 0 → wp_X8_gives u x4 x1 (fun u133 => wp_X8_takes_102 Q B70 u133 x1 x2 x3 x4)))))
set_option maxRecDepth 20000 in
theorem b_X8_takes_70 (C : zC p s m args meth c g A cX8_takes RX8 5) (hr : meth.sig.returnType = (some .int)) (ad : Nat → Nat) (Q : Int32 → RS → Prop) (B70 : RS → Int32 → Int32 → Int32 → Int32 → Prop) (hB70 : ∀ (u : RS) (x1 : Int32) (x2 : Int32) (x3 : Int32) (x4 : Int32), B70 u x1 x2 x3 x4 → j_X8_takes p l e s m args below meth c g A ad Q u 70 [(0, .ref (ad 0)), (1, .int x1), (2, .int x2), (3, .int x3), (4, .int x4)] []) (u : RS) (x1 : Int32) (x2 : Int32) (x3 : Int32) (x4 : Int32) (h : wp_X8_takes_70 Q B70 u x1 x2 x3 x4) : j_X8_takes p l e s m args below meth c g A ad Q u 70 [(0, .ref (ad 0)), (1, .int x1), (2, .int x2), (3, .int x3), (4, .int x4)] [] := by
  unfold wp_X8_takes_70 at h
  refine z_iload C dX8_takes_70 4 rfl ?_
  refine z_aload_n C dX8_takes_72 rfl 0 rfl ?_
  refine gR_row C dX8_takes_73 ?_
  refine z_iconst (v := 4) C dX8_takes_76 (by decide) ?_
  refine lRn_row C 4 (by decide +kernel) (vp_in_iff.mpr (by decide +kernel)) dX8_takes_77 ?_
  refine z_icmp_ge C dX8_takes_78 (tgt := 108) (by decide) (fun hc106 => ?_) (fun hc106 => ?_)
  · have h := h.1 hc106
    refine z_aload_n C dX8_takes_108 rfl 0 rfl ?_
    refine gR_row C dX8_takes_109 ?_
    refine z_iload_n C dX8_takes_112 rfl 2 rfl ?_
    refine z_dup2 C dX8_takes_113 rfl rfl ?_
    obtain ⟨hi107, h⟩ := h
    refine lR_row C hi107 dX8_takes_114 ?_
    refine z_iload_n C dX8_takes_115 rfl 3 rfl ?_
    refine z_isub C dX8_takes_116 ?_
    obtain ⟨hi108, h⟩ := h
    refine sR_row C hi108 dX8_takes_117 ?_
    refine z_stR (fun u109 eu109 => ?_)
    have h := h u109 eu109
    refine z_iload_n C dX8_takes_118 rfl 2 rfl ?_
    refine z_bipush (v := 8) C dX8_takes_119 (by decide) ?_
    refine z_iadd C dX8_takes_121 ?_
    refine z_topi (fun x110 ex110 => ?_)
    have h := h x110 ex110
    refine z_istore (lv1 := [(4, .int x110), (0, .ref (ad 0)), (1, .int x1), (2, .int x2), (3, .int x3)]) C dX8_takes_122 (by decide) rfl ?_
    refine z_lv (lv1 := [(0, .ref (ad 0)), (1, .int x1), (2, .int x2), (3, .int x3), (4, .int x110)]) [1, 2, 3, 4, 0] rfl ?_
    obtain ⟨n9, h⟩ := h
    exact l_X8_takes_124 C hr ad Q n9 u109 x1 x2 x3 x110 h
  · have h := h.2 hc106
    refine z_aload_n C dX8_takes_81 rfl 0 rfl ?_
    refine gR_open C dX8_takes_82 ?_
    refine z_iconst (v := 3) C dX8_takes_85 (by decide) ?_
    refine z_iload C dX8_takes_86 4 rfl ?_
    refine z_imul C dX8_takes_88 ?_
    refine z_iconst (v := 2) C dX8_takes_89 (by decide) ?_
    refine z_iadd C dX8_takes_90 ?_
    obtain ⟨hi130, h⟩ := h
    refine lR_open C hi130 dX8_takes_91 ?_
    refine z_if_le C dX8_takes_92 (tgt := 102) (by decide) (fun hc131 => ?_) (fun hc131 => ?_)
    · have h := h.1 hc131
      exact b_X8_takes_102 C hr ad Q B70 hB70 u x1 x2 x3 x4 h
    · have h := h.2 hc131
      refine z_aload_n C dX8_takes_95 rfl 0 rfl ?_
      refine z_iload C dX8_takes_96 4 rfl ?_
      refine z_iload_n C dX8_takes_98 rfl 1 rfl ?_
      refine cRv (As := [.int x4, .int x1]) C (c_X8_gives l g ad u x4 x1 _ h) v_X8_gives ml8_219 rfl ⟨Nat.le_of_ble_eq_true rfl, Nat.le_of_ble_eq_true rfl⟩ ⟨Nat.zero_le _, Nat.zero_le _⟩ (Nat.le_of_ble_eq_true rfl) rfl dX8_takes_99 ?_
      intro u133 h
      exact b_X8_takes_102 C hr ad Q B70 hB70 u133 x1 x2 x3 x4 h
theorem l_X8_takes_70 (C : zC p s m args meth c g A cX8_takes RX8 5) (hr : meth.sig.returnType = (some .int)) (ad : Nat → Nat) (Q : Int32 → RS → Prop) : ∀ (n : Nat) (u : RS) (x1 : Int32) (x2 : Int32) (x3 : Int32) (x4 : Int32), zit5 (wp_X8_takes_70 Q) n u x1 x2 x3 x4 → j_X8_takes p l e s m args below meth c g A ad Q u 70 [(0, .ref (ad 0)), (1, .int x1), (2, .int x2), (3, .int x3), (4, .int x4)] [] := by
  intro n
  induction n with
  | zero => exact fun u x1 x2 x3 x4 h => h.elim
  | succ n ih => exact fun u x1 x2 x3 x4 h => b_X8_takes_70 C hr ad Q (zit5 (wp_X8_takes_70 Q) n) ih u x1 x2 x3 x4 h
def wp_X8_takes_44 (Q : Int32 → RS → Prop) (B44 : RS → Int32 → Int32 → Int32 → Int32 → Prop) (u : RS) (x1 : Int32) (x2 : Int32) (x3 : Int32) (x4 : Int32) : Prop :=
  ((x3 ≤ x4 → (∃ n, zit5 (wp_X8_takes_70 Q) n u x1 x2 x3 0)) ∧ (¬ x3 ≤ x4 → wp_X8_packetAt x1 x4 (fun r134 => wp_X8_joins u x1 r134 (fun u135 => ∀ x136 : Int32, x136 = x4 + 1 → B44 u135 x1 x2 x3 x136))))
set_option maxRecDepth 20000 in
theorem b_X8_takes_44 (C : zC p s m args meth c g A cX8_takes RX8 5) (hr : meth.sig.returnType = (some .int)) (ad : Nat → Nat) (Q : Int32 → RS → Prop) (B44 : RS → Int32 → Int32 → Int32 → Int32 → Prop) (hB44 : ∀ (u : RS) (x1 : Int32) (x2 : Int32) (x3 : Int32) (x4 : Int32), B44 u x1 x2 x3 x4 → j_X8_takes p l e s m args below meth c g A ad Q u 44 [(0, .ref (ad 0)), (1, .int x1), (2, .int x2), (3, .int x3), (4, .int x4)] []) (u : RS) (x1 : Int32) (x2 : Int32) (x3 : Int32) (x4 : Int32) (h : wp_X8_takes_44 Q B44 u x1 x2 x3 x4) : j_X8_takes p l e s m args below meth c g A ad Q u 44 [(0, .ref (ad 0)), (1, .int x1), (2, .int x2), (3, .int x3), (4, .int x4)] [] := by
  unfold wp_X8_takes_44 at h
  refine z_iload C dX8_takes_44 4 rfl ?_
  refine z_iload_n C dX8_takes_46 rfl 3 rfl ?_
  refine z_icmp_ge C dX8_takes_47 (tgt := 67) (by decide) (fun hc105 => ?_) (fun hc105 => ?_)
  · have h := h.1 hc105
    refine z_iconst (v := 0) C dX8_takes_67 (by decide) ?_
    refine z_istore (lv1 := [(4, .int 0), (0, .ref (ad 0)), (1, .int x1), (2, .int x2), (3, .int x3)]) C dX8_takes_68 (by decide) rfl ?_
    refine z_lv (lv1 := [(0, .ref (ad 0)), (1, .int x1), (2, .int x2), (3, .int x3), (4, .int 0)]) [1, 2, 3, 4, 0] rfl ?_
    obtain ⟨n9, h⟩ := h
    exact l_X8_takes_70 C hr ad Q n9 u x1 x2 x3 0 h
  · have h := h.2 hc105
    refine z_aload_n C dX8_takes_50 rfl 0 rfl ?_
    refine z_iload_n C dX8_takes_51 rfl 1 rfl ?_
    refine z_iload_n C dX8_takes_52 rfl 1 rfl ?_
    refine z_iload C dX8_takes_53 4 rfl ?_
    refine cSi (As := [.int x1, .int x4]) C (c_X8_packetAt l g x1 x4 _ h) s_X8_packetAt ml8_125 ⟨Nat.le_of_ble_eq_true rfl, Nat.le_of_ble_eq_true rfl⟩ ⟨Nat.zero_le _, Nat.zero_le _⟩ (Nat.le_of_ble_eq_true rfl) rfl dX8_takes_55 ?_
    intro r134 h
    refine cRv (As := [.int x1, .int r134]) C (c_X8_joins l g ad u x1 r134 _ h) v_X8_joins ml8_216 rfl ⟨Nat.le_of_ble_eq_true rfl, Nat.le_of_ble_eq_true rfl⟩ ⟨Nat.zero_le _, Nat.zero_le _⟩ (Nat.le_of_ble_eq_true rfl) rfl dX8_takes_58 ?_
    intro u135 h
    obtain ⟨x136, ex136⟩ : ∃ y : Int32, y = x4 + 1 := ⟨_, rfl⟩
    have h := h x136 ex136
    refine z_iinc (v := x136) (lv1 := [(4, .int x136), (0, .ref (ad 0)), (1, .int x1), (2, .int x2), (3, .int x3)]) C dX8_takes_61 4 rfl (by rw [ex136]; rfl) (by decide) rfl ?_
    refine z_goto C dX8_takes_64 (tgt := 44) (by decide) ?_
    refine z_lv (lv1 := [(0, .ref (ad 0)), (1, .int x1), (2, .int x2), (3, .int x3), (4, .int x136)]) [1, 2, 3, 4, 0] rfl ?_
    exact hB44 u135 x1 x2 x3 x136 h
theorem l_X8_takes_44 (C : zC p s m args meth c g A cX8_takes RX8 5) (hr : meth.sig.returnType = (some .int)) (ad : Nat → Nat) (Q : Int32 → RS → Prop) : ∀ (n : Nat) (u : RS) (x1 : Int32) (x2 : Int32) (x3 : Int32) (x4 : Int32), zit5 (wp_X8_takes_44 Q) n u x1 x2 x3 x4 → j_X8_takes p l e s m args below meth c g A ad Q u 44 [(0, .ref (ad 0)), (1, .int x1), (2, .int x2), (3, .int x3), (4, .int x4)] [] := by
  intro n
  induction n with
  | zero => exact fun u x1 x2 x3 x4 h => h.elim
  | succ n ih => exact fun u x1 x2 x3 x4 h => b_X8_takes_44 C hr ad Q (zit5 (wp_X8_takes_44 Q) n) ih u x1 x2 x3 x4 h
def wp_X8_takes_20 (Q : Int32 → RS → Prop) (B20 : RS → Int32 → Int32 → Int32 → Int32 → Prop) (u : RS) (x1 : Int32) (x2 : Int32) (x3 : Int32) (x4 : Int32) : Prop :=
  ((72 ≤ x4 → (∃ n, zit5 (wp_X8_takes_44 Q) n u x1 x2 x3 0)) ∧ (¬ 72 ≤ x4 → vp_in x4 72 ∧ ∀ u138 : RS, u138 = rI u 17 (upd (u.1 17) (zn x4) 0) → ∀ x139 : Int32, x139 = x4 + 1 → B20 u138 x1 x2 x3 x139))
set_option maxRecDepth 20000 in
theorem b_X8_takes_20 (C : zC p s m args meth c g A cX8_takes RX8 5) (hr : meth.sig.returnType = (some .int)) (ad : Nat → Nat) (Q : Int32 → RS → Prop) (B20 : RS → Int32 → Int32 → Int32 → Int32 → Prop) (hB20 : ∀ (u : RS) (x1 : Int32) (x2 : Int32) (x3 : Int32) (x4 : Int32), B20 u x1 x2 x3 x4 → j_X8_takes p l e s m args below meth c g A ad Q u 20 [(0, .ref (ad 0)), (1, .int x1), (2, .int x2), (3, .int x3), (4, .int x4)] []) (u : RS) (x1 : Int32) (x2 : Int32) (x3 : Int32) (x4 : Int32) (h : wp_X8_takes_20 Q B20 u x1 x2 x3 x4) : j_X8_takes p l e s m args below meth c g A ad Q u 20 [(0, .ref (ad 0)), (1, .int x1), (2, .int x2), (3, .int x3), (4, .int x4)] [] := by
  unfold wp_X8_takes_20 at h
  refine z_iload C dX8_takes_20 4 rfl ?_
  refine z_bipush (v := 72) C dX8_takes_22 (by decide) ?_
  refine z_icmp_ge C dX8_takes_24 (tgt := 41) (by decide) (fun hc104 => ?_) (fun hc104 => ?_)
  · have h := h.1 hc104
    refine z_iconst (v := 0) C dX8_takes_41 (by decide) ?_
    refine z_istore (lv1 := [(4, .int 0), (0, .ref (ad 0)), (1, .int x1), (2, .int x2), (3, .int x3)]) C dX8_takes_42 (by decide) rfl ?_
    refine z_lv (lv1 := [(0, .ref (ad 0)), (1, .int x1), (2, .int x2), (3, .int x3), (4, .int 0)]) [1, 2, 3, 4, 0] rfl ?_
    obtain ⟨n9, h⟩ := h
    exact l_X8_takes_44 C hr ad Q n9 u x1 x2 x3 0 h
  · have h := h.2 hc104
    refine z_aload_n C dX8_takes_27 rfl 0 rfl ?_
    refine gR_open C dX8_takes_28 ?_
    refine z_iload C dX8_takes_31 4 rfl ?_
    refine z_iconst (v := 0) C dX8_takes_33 (by decide) ?_
    obtain ⟨hi137, h⟩ := h
    refine sR_open C hi137 dX8_takes_34 ?_
    refine z_stR (fun u138 eu138 => ?_)
    have h := h u138 eu138
    obtain ⟨x139, ex139⟩ : ∃ y : Int32, y = x4 + 1 := ⟨_, rfl⟩
    have h := h x139 ex139
    refine z_iinc (v := x139) (lv1 := [(4, .int x139), (0, .ref (ad 0)), (1, .int x1), (2, .int x2), (3, .int x3)]) C dX8_takes_35 4 rfl (by rw [ex139]; rfl) (by decide) rfl ?_
    refine z_goto C dX8_takes_38 (tgt := 20) (by decide) ?_
    refine z_lv (lv1 := [(0, .ref (ad 0)), (1, .int x1), (2, .int x2), (3, .int x3), (4, .int x139)]) [1, 2, 3, 4, 0] rfl ?_
    exact hB20 u138 x1 x2 x3 x139 h
theorem l_X8_takes_20 (C : zC p s m args meth c g A cX8_takes RX8 5) (hr : meth.sig.returnType = (some .int)) (ad : Nat → Nat) (Q : Int32 → RS → Prop) : ∀ (n : Nat) (u : RS) (x1 : Int32) (x2 : Int32) (x3 : Int32) (x4 : Int32), zit5 (wp_X8_takes_20 Q) n u x1 x2 x3 x4 → j_X8_takes p l e s m args below meth c g A ad Q u 20 [(0, .ref (ad 0)), (1, .int x1), (2, .int x2), (3, .int x3), (4, .int x4)] [] := by
  intro n
  induction n with
  | zero => exact fun u x1 x2 x3 x4 h => h.elim
  | succ n ih => exact fun u x1 x2 x3 x4 h => b_X8_takes_20 C hr ad Q (zit5 (wp_X8_takes_20 Q) n) ih u x1 x2 x3 x4 h
def wp_X8_takes (u : RS) (x1 : Int32) (Q : Int32 → RS → Prop) : Prop :=
  wp_X8_queueAt x1 (fun r101 => vp_in r101 1065 ∧ wp_X8_lesser (u.1 3 (zn r101)) 16 (fun r103 => (∃ n, zit5 (wp_X8_takes_20 Q) n u x1 r101 r103 0)))
set_option maxRecDepth 20000 in
theorem c_X8_takes (l : Launch) (g : zG) (ad : Nat → Nat) (u : RS) (x1 : Int32) (Q : Int32 → RS → Prop) (h : wp_X8_takes u x1 Q) : zMi l yX8_takes cX8_takes 5 (some .int) 6 0 0 g [.ref (ad 0), .int x1] (wR g ad u) (wR g ad) Q := by
  refine zMi_of RX8 (by decide) rfl [(0, .ref (ad 0)), (1, .int x1)] rfl (Nat.le_of_ble_eq_true rfl) (fun p e s m args below meth c A C hr hnm => ?_)
  unfold wp_X8_takes at h
  refine z_iload_n C dX8_takes_0 rfl 1 rfl ?_
  refine cSi (As := [.int x1]) C (c_X8_queueAt l g x1 _ h) s_X8_queueAt ml8_57 ⟨Nat.le_of_ble_eq_true rfl, Nat.le_of_ble_eq_true rfl⟩ ⟨Nat.zero_le _, Nat.zero_le _⟩ (Nat.le_of_ble_eq_true rfl) rfl dX8_takes_1 ?_
  intro r101 h
  refine z_istore_n (lv1 := [(2, .int r101), (0, .ref (ad 0)), (1, .int x1)]) C dX8_takes_4 rfl (by decide) rfl ?_
  refine z_aload_n C dX8_takes_5 rfl 1 rfl ?_
  refine gR_row C dX8_takes_6 ?_
  refine z_iload_n C dX8_takes_9 rfl 0 rfl ?_
  obtain ⟨hi102, h⟩ := h
  refine lR_row C hi102 dX8_takes_10 ?_
  refine z_bipush (v := 16) C dX8_takes_11 (by decide) ?_
  refine cSi (As := [.int (u.1 3 (zn r101)), .int 16]) C (c_X8_lesser l g (u.1 3 (zn r101)) 16 _ h) s_X8_lesser ml8_206 ⟨Nat.le_of_ble_eq_true rfl, Nat.le_of_ble_eq_true rfl⟩ ⟨Nat.zero_le _, Nat.zero_le _⟩ (Nat.le_of_ble_eq_true rfl) rfl dX8_takes_13 ?_
  intro r103 h
  refine z_istore_n (lv1 := [(3, .int r103), (2, .int r101), (0, .ref (ad 0)), (1, .int x1)]) C dX8_takes_16 rfl (by decide) rfl ?_
  refine z_iconst (v := 0) C dX8_takes_17 (by decide) ?_
  refine z_istore (lv1 := [(4, .int 0), (3, .int r103), (2, .int r101), (0, .ref (ad 0)), (1, .int x1)]) C dX8_takes_18 (by decide) rfl ?_
  refine z_lv (lv1 := [(0, .ref (ad 0)), (1, .int x1), (2, .int r101), (3, .int r103), (4, .int 0)]) [3, 4, 2, 1, 0] rfl ?_
  obtain ⟨n9, h⟩ := h
  exact l_X8_takes_20 C hr ad Q n9 u x1 r101 r103 0 h
end WR
