section WR
variable {p : Program} {l : Launch} {e : Env} {s : State} {m : MethodId} {args : Array Value} {below : List Frame} {meth : Method} {c : Code} {g : zG} {A : Nat → Prop}
abbrev j_X8_becomes (p : Program) (l : Launch) (e : Env) (s : State) (m : MethodId) (args : Array Value) (below : List Frame) (meth : Method) (c : Code) (g : zG) (A : Nat → Prop) (ad : Nat → Nat) (Q : Int32 → RS → Prop) (u : RS) (pc : Nat) (lv : List (Nat × Value)) (st : List Value) : Prop := zJ p l e (zR 2 0 0) s m args below meth c g A 5 (zQi below args s g A 0 0 (wR g ad) Q) (wR g ad u) 0 0 pc lv st
def wp_X8_becomes (u : RS) (x1 : Int32) (x2 : Int32) (x3 : Int32) (Q : Int32 → RS → Prop) : Prop :=
  wp_X8_remember u x3 (fun u101 => vp_in x1 1065 ∧ ∀ x103 : Int32, x103 = u101.1 3 (zn x1) → vp_in x1 1065 ∧ ∀ u105 : RS, u105 = rI u101 3 (upd (u101.1 3) (zn x1) x2) → wp_X8_tell u105 x103 (fun r106 u107 => Q r106 u107))
set_option maxRecDepth 20000 in
theorem c_X8_becomes (l : Launch) (g : zG) (ad : Nat → Nat) (u : RS) (x1 : Int32) (x2 : Int32) (x3 : Int32) (Q : Int32 → RS → Prop) (h : wp_X8_becomes u x1 x2 x3 Q) : zMi l yX8_becomes cX8_becomes 5 (some .int) 2 0 0 g [.ref (ad 0), .int x1, .int x2, .int x3] (wR g ad u) (wR g ad) Q := by
  refine zMi_of RX8 (by decide) rfl [(0, .ref (ad 0)), (1, .int x1), (2, .int x2), (3, .int x3)] rfl (Nat.le_of_ble_eq_true rfl) (fun p e s m args below meth c A C hr hnm => ?_)
  unfold wp_X8_becomes at h
  refine z_aload_n C dX8_becomes_0 rfl 0 rfl ?_
  refine z_iload_n C dX8_becomes_1 rfl 3 rfl ?_
  refine cRv (As := [.int x3]) C (c_X8_remember l g ad u x3 _ h) v_X8_remember ml8_129 rfl ⟨Nat.le_of_ble_eq_true rfl, Nat.le_of_ble_eq_true rfl⟩ ⟨Nat.zero_le _, Nat.zero_le _⟩ (Nat.le_of_ble_eq_true rfl) rfl dX8_becomes_2 ?_
  intro u101 h
  refine z_aload_n C dX8_becomes_5 rfl 0 rfl ?_
  refine gR_row C dX8_becomes_6 ?_
  refine z_iload_n C dX8_becomes_9 rfl 1 rfl ?_
  obtain ⟨hi102, h⟩ := h
  refine lR_row C hi102 dX8_becomes_10 ?_
  refine z_topi (fun x103 ex103 => ?_)
  have h := h x103 ex103
  refine z_istore (lv1 := [(4, .int x103), (0, .ref (ad 0)), (1, .int x1), (2, .int x2), (3, .int x3)]) C dX8_becomes_11 (by decide) rfl ?_
  refine z_aload_n C dX8_becomes_13 rfl 1 rfl ?_
  refine gR_row C dX8_becomes_14 ?_
  refine z_iload_n C dX8_becomes_17 rfl 2 rfl ?_
  refine z_iload_n C dX8_becomes_18 rfl 3 rfl ?_
  obtain ⟨hi104, h⟩ := h
  refine sR_row C hi104 dX8_becomes_19 ?_
  refine z_stR (fun u105 eu105 => ?_)
  have h := h u105 eu105
  refine z_aload_n C dX8_becomes_20 rfl 1 rfl ?_
  refine z_iload C dX8_becomes_21 0 rfl ?_
  refine cRi (As := [.int x103]) C (c_X8_tell l g ad u105 x103 _ h) v_X8_tell ml8_81 rfl ⟨Nat.le_of_ble_eq_true rfl, Nat.le_of_ble_eq_true rfl⟩ ⟨Nat.zero_le _, Nat.zero_le _⟩ (Nat.le_of_ble_eq_true rfl) rfl dX8_becomes_23 ?_
  intro r106 u107 h
  exact z_iret C hr u107 rfl h dX8_becomes_26
abbrev j_X8_balance (p : Program) (l : Launch) (e : Env) (s : State) (m : MethodId) (args : Array Value) (below : List Frame) (meth : Method) (c : Code) (g : zG) (A : Nat → Prop) (ad : Nat → Nat) (Q : Int32 → RS → Prop) (u : RS) (pc : Nat) (lv : List (Nat × Value)) (st : List Value) : Prop := zJ p l e (zR 2 0 0) s m args below meth c g A 3 (zQi below args s g A 0 0 (wR g ad) Q) (wR g ad u) 0 0 pc lv st
def wp_X8_balance_17 (Q : Int32 → RS → Prop) (B17 : RS → Int32 → Int32 → Prop) (u : RS) (x1 : Int32) (x2 : Int32) : Prop :=
  ((16 ≤ x2 → wp_X8_tell u x1 (fun r106 u107 => Q r106 u107)) ∧ (¬ 16 ≤ x2 → vp_in (39 + x2) 1065 ∧ ∀ u109 : RS, u109 = rI u 3 (upd (u.1 3) (zn (39 + x2)) 0) → ∀ x110 : Int32, x110 = x2 + 1 → B17 u109 x1 x110))
set_option maxRecDepth 20000 in
theorem b_X8_balance_17 (C : zC p s m args meth c g A cX8_balance RX8 3) (hr : meth.sig.returnType = (some .int)) (ad : Nat → Nat) (Q : Int32 → RS → Prop) (B17 : RS → Int32 → Int32 → Prop) (hB17 : ∀ (u : RS) (x1 : Int32) (x2 : Int32), B17 u x1 x2 → j_X8_balance p l e s m args below meth c g A ad Q u 17 [(0, .ref (ad 0)), (1, .int x1), (2, .int x2)] []) (u : RS) (x1 : Int32) (x2 : Int32) (h : wp_X8_balance_17 Q B17 u x1 x2) : j_X8_balance p l e s m args below meth c g A ad Q u 17 [(0, .ref (ad 0)), (1, .int x1), (2, .int x2)] [] := by
  unfold wp_X8_balance_17 at h
  refine z_iload_n C dX8_balance_17 rfl 2 rfl ?_
  refine z_bipush (v := 16) C dX8_balance_18 (by decide) ?_
  refine z_icmp_ge C dX8_balance_20 (tgt := 39) (by decide) (fun hc105 => ?_) (fun hc105 => ?_)
  · have h := h.1 hc105
    refine z_aload_n C dX8_balance_39 rfl 0 rfl ?_
    refine z_iload_n C dX8_balance_40 rfl 1 rfl ?_
    refine cRi (As := [.int x1]) C (c_X8_tell l g ad u x1 _ h) v_X8_tell ml8_81 rfl ⟨Nat.le_of_ble_eq_true rfl, Nat.le_of_ble_eq_true rfl⟩ ⟨Nat.zero_le _, Nat.zero_le _⟩ (Nat.le_of_ble_eq_true rfl) rfl dX8_balance_41 ?_
    intro r106 u107 h
    exact z_iret C hr u107 rfl h dX8_balance_44
  · have h := h.2 hc105
    refine z_aload_n C dX8_balance_23 rfl 0 rfl ?_
    refine gR_row C dX8_balance_24 ?_
    refine z_bipush (v := 39) C dX8_balance_27 (by decide) ?_
    refine z_iload_n C dX8_balance_29 rfl 2 rfl ?_
    refine z_iadd C dX8_balance_30 ?_
    refine z_iconst (v := 0) C dX8_balance_31 (by decide) ?_
    obtain ⟨hi108, h⟩ := h
    refine sR_row C hi108 dX8_balance_32 ?_
    refine z_stR (fun u109 eu109 => ?_)
    have h := h u109 eu109
    obtain ⟨x110, ex110⟩ : ∃ y : Int32, y = x2 + 1 := ⟨_, rfl⟩
    have h := h x110 ex110
    refine z_iinc (v := x110) (lv1 := [(2, .int x110), (0, .ref (ad 0)), (1, .int x1)]) C dX8_balance_33 2 rfl (by rw [ex110]; rfl) (by decide) rfl ?_
    refine z_goto C dX8_balance_36 (tgt := 17) (by decide) ?_
    refine z_lv (lv1 := [(0, .ref (ad 0)), (1, .int x1), (2, .int x110)]) [1, 2, 0] rfl ?_
    exact hB17 u109 x1 x110 h
theorem l_X8_balance_17 (C : zC p s m args meth c g A cX8_balance RX8 3) (hr : meth.sig.returnType = (some .int)) (ad : Nat → Nat) (Q : Int32 → RS → Prop) : ∀ (n : Nat) (u : RS) (x1 : Int32) (x2 : Int32), zit3 (wp_X8_balance_17 Q) n u x1 x2 → j_X8_balance p l e s m args below meth c g A ad Q u 17 [(0, .ref (ad 0)), (1, .int x1), (2, .int x2)] [] := by
  intro n
  induction n with
  | zero => exact fun u x1 x2 h => h.elim
  | succ n ih => exact fun u x1 x2 h => b_X8_balance_17 C hr ad Q (zit3 (wp_X8_balance_17 Q) n) ih u x1 x2 h
def wp_X8_balance (u : RS) (Q : Int32 → RS → Prop) : Prop :=
  ∀ u101 : RS, u101 = rN u 0 0 → wp_X8_remember u101 4 (fun u102 => wp_X8_layBalanced u102 (fun r103 u104 => (∃ n, zit3 (wp_X8_balance_17 Q) n u104 r103 0)))
set_option maxRecDepth 20000 in
theorem c_X8_balance (l : Launch) (g : zG) (ad : Nat → Nat) (u : RS) (Q : Int32 → RS → Prop) (h : wp_X8_balance u Q) : zMi l yX8_balance cX8_balance 3 (some .int) 2 0 0 g [.ref (ad 0)] (wR g ad u) (wR g ad) Q := by
  refine zMi_of RX8 (by decide) rfl [(0, .ref (ad 0))] rfl (Nat.le_of_ble_eq_true rfl) (fun p e s m args below meth c A C hr hnm => ?_)
  unfold wp_X8_balance at h
  refine z_aload_n C dX8_balance_0 rfl 0 rfl ?_
  refine z_iconst (v := 0) C dX8_balance_1 (by decide) ?_
  refine pR_thrown C dX8_balance_2 ?_
  refine z_stR (fun u101 eu101 => ?_)
  have h := h u101 eu101
  refine z_aload_n C dX8_balance_5 rfl 0 rfl ?_
  refine z_iconst (v := 4) C dX8_balance_6 (by decide) ?_
  refine cRv (As := [.int 4]) C (c_X8_remember l g ad u101 4 _ h) v_X8_remember ml8_129 rfl ⟨Nat.le_of_ble_eq_true rfl, Nat.le_of_ble_eq_true rfl⟩ ⟨Nat.zero_le _, Nat.zero_le _⟩ (Nat.le_of_ble_eq_true rfl) rfl dX8_balance_7 ?_
  intro u102 h
  refine z_aload_n C dX8_balance_10 rfl 0 rfl ?_
  refine cRi (As := []) C (c_X8_layBalanced l g ad u102 _ h) v_X8_layBalanced ml8_159 rfl ⟨Nat.le_of_ble_eq_true rfl, Nat.le_of_ble_eq_true rfl⟩ ⟨Nat.zero_le _, Nat.zero_le _⟩ (Nat.le_of_ble_eq_true rfl) rfl dX8_balance_11 ?_
  intro r103 u104 h
  refine z_istore_n (lv1 := [(1, .int r103), (0, .ref (ad 0))]) C dX8_balance_14 rfl (by decide) rfl ?_
  refine z_iconst (v := 0) C dX8_balance_15 (by decide) ?_
  refine z_istore_n (lv1 := [(2, .int 0), (1, .int r103), (0, .ref (ad 0))]) C dX8_balance_16 rfl (by decide) rfl ?_
  refine z_lv (lv1 := [(0, .ref (ad 0)), (1, .int r103), (2, .int 0)]) [2, 1, 0] rfl ?_
  obtain ⟨n9, h⟩ := h
  exact l_X8_balance_17 C hr ad Q n9 u104 r103 0 h
abbrev j_X8_retire (p : Program) (l : Launch) (e : Env) (s : State) (m : MethodId) (args : Array Value) (below : List Frame) (meth : Method) (c : Code) (g : zG) (A : Nat → Prop) (ad : Nat → Nat) (Q : Int32 → RS → Prop) (u : RS) (pc : Nat) (lv : List (Nat × Value)) (st : List Value) : Prop := zJ p l e (zR 2 0 0) s m args below meth c g A 5 (zQi below args s g A 0 0 (wR g ad) Q) (wR g ad u) 0 0 pc lv st
def wp_X8_retire_154 (Q : Int32 → RS → Prop) (B154 : RS → Int32 → Int32 → Int32 → Prop) (u : RS) (x1 : Int32) (x2 : Int32) (x3 : Int32) : Prop :=
  ((x3 = (-1) → wp_X8_tell u x2 (fun r112 u113 => Q r112 u113)) ∧ (¬ x3 = (-1) → wp_X8_leastShare u x1 (fun r114 u115 => vp_in (23 + x3) 1065 ∧ ∀ u117 : RS, u117 = rI u115 3 (upd (u115.1 3) (zn (23 + x3)) r114) → vp_in r114 4 ∧ vp_in (39 + x3) 1065 ∧ vp_in r114 4 ∧ ∀ u121 : RS, u121 = rI u117 15 (upd (u117.1 15) (zn r114) ((u117.1 15 (zn r114)) + (u117.1 3 (zn (39 + x3))))) → vp_in x3 16 ∧ ∀ u123 : RS, u123 = rI u121 16 (upd (u121.1 16) (zn x3) (vp_nar .boolean 1)) → ∀ x124 : Int32, x124 = x2 + 1 → wp_X8_nextEntry u123 (fun r125 u126 => B154 u126 x1 x124 r125))))
set_option maxRecDepth 20000 in
theorem b_X8_retire_154 (C : zC p s m args meth c g A cX8_retire RX8 5) (hr : meth.sig.returnType = (some .int)) (ad : Nat → Nat) (Q : Int32 → RS → Prop) (B154 : RS → Int32 → Int32 → Int32 → Prop) (hB154 : ∀ (u : RS) (x1 : Int32) (x2 : Int32) (x3 : Int32), B154 u x1 x2 x3 → j_X8_retire p l e s m args below meth c g A ad Q u 154 [(0, .ref (ad 0)), (1, .int x1), (2, .int x2), (3, .int x3)] []) (u : RS) (x1 : Int32) (x2 : Int32) (x3 : Int32) (h : wp_X8_retire_154 Q B154 u x1 x2 x3) : j_X8_retire p l e s m args below meth c g A ad Q u 154 [(0, .ref (ad 0)), (1, .int x1), (2, .int x2), (3, .int x3)] [] := by
  unfold wp_X8_retire_154 at h
  refine z_iload_n C dX8_retire_154 rfl 3 rfl ?_
  refine z_iconst (v := (-1)) C dX8_retire_155 (by decide) ?_
  refine z_icmp_eq C dX8_retire_156 (tgt := 214) (by decide) (fun hc111 => ?_) (fun hc111 => ?_)
  · have h := h.1 hc111
    refine z_aload_n C dX8_retire_214 rfl 0 rfl ?_
    refine z_iload_n C dX8_retire_215 rfl 2 rfl ?_
    refine cRi (As := [.int x2]) C (c_X8_tell l g ad u x2 _ h) v_X8_tell ml8_81 rfl ⟨Nat.le_of_ble_eq_true rfl, Nat.le_of_ble_eq_true rfl⟩ ⟨Nat.zero_le _, Nat.zero_le _⟩ (Nat.le_of_ble_eq_true rfl) rfl dX8_retire_216 ?_
    intro r112 u113 h
    exact z_iret C hr u113 rfl h dX8_retire_219
  · have h := h.2 hc111
    refine z_aload_n C dX8_retire_159 rfl 0 rfl ?_
    refine z_iload_n C dX8_retire_160 rfl 1 rfl ?_
    refine cRi (As := [.int x1]) C (c_X8_leastShare l g ad u x1 _ h) v_X8_leastShare ml8_156 rfl ⟨Nat.le_of_ble_eq_true rfl, Nat.le_of_ble_eq_true rfl⟩ ⟨Nat.zero_le _, Nat.zero_le _⟩ (Nat.le_of_ble_eq_true rfl) rfl dX8_retire_161 ?_
    intro r114 u115 h
    refine z_istore (lv1 := [(4, .int r114), (0, .ref (ad 0)), (1, .int x1), (2, .int x2), (3, .int x3)]) C dX8_retire_164 (by decide) rfl ?_
    refine z_aload_n C dX8_retire_166 rfl 1 rfl ?_
    refine gR_row C dX8_retire_167 ?_
    refine z_bipush (v := 23) C dX8_retire_170 (by decide) ?_
    refine z_iload_n C dX8_retire_172 rfl 4 rfl ?_
    refine z_iadd C dX8_retire_173 ?_
    refine z_iload C dX8_retire_174 0 rfl ?_
    obtain ⟨hi116, h⟩ := h
    refine sR_row C hi116 dX8_retire_176 ?_
    refine z_stR (fun u117 eu117 => ?_)
    have h := h u117 eu117
    refine z_aload_n C dX8_retire_177 rfl 1 rfl ?_
    refine gR_share C dX8_retire_178 ?_
    refine z_iload C dX8_retire_181 0 rfl ?_
    refine z_dup2 C dX8_retire_183 rfl rfl ?_
    obtain ⟨hi118, h⟩ := h
    refine lR_share C hi118 dX8_retire_184 ?_
    refine z_aload_n C dX8_retire_185 rfl 1 rfl ?_
    refine gR_row C dX8_retire_186 ?_
    refine z_bipush (v := 39) C dX8_retire_189 (by decide) ?_
    refine z_iload_n C dX8_retire_191 rfl 4 rfl ?_
    refine z_iadd C dX8_retire_192 ?_
    obtain ⟨hi119, h⟩ := h
    refine lR_row C hi119 dX8_retire_193 ?_
    refine z_iadd C dX8_retire_194 ?_
    obtain ⟨hi120, h⟩ := h
    refine sR_share C hi120 dX8_retire_195 ?_
    refine z_stR (fun u121 eu121 => ?_)
    have h := h u121 eu121
    refine z_aload_n C dX8_retire_196 rfl 1 rfl ?_
    refine gR_laid C dX8_retire_197 ?_
    refine z_iload_n C dX8_retire_200 rfl 4 rfl ?_
    refine z_iconst (v := 1) C dX8_retire_201 (by decide) ?_
    obtain ⟨hi122, h⟩ := h
    refine sR_laid C hi122 dX8_retire_202 ?_
    refine z_stR (fun u123 eu123 => ?_)
    have h := h u123 eu123
    obtain ⟨x124, ex124⟩ : ∃ y : Int32, y = x2 + 1 := ⟨_, rfl⟩
    have h := h x124 ex124
    refine z_iinc (v := x124) (lv1 := [(2, .int x124), (4, .int r114), (0, .ref (ad 0)), (1, .int x1), (3, .int x3)]) C dX8_retire_203 3 rfl (by rw [ex124]; rfl) (by decide) rfl ?_
    refine z_aload_n C dX8_retire_206 rfl 2 rfl ?_
    refine cRi (As := []) C (c_X8_nextEntry l g ad u123 _ h) v_X8_nextEntry ml8_153 rfl ⟨Nat.le_of_ble_eq_true rfl, Nat.le_of_ble_eq_true rfl⟩ ⟨Nat.zero_le _, Nat.zero_le _⟩ (Nat.le_of_ble_eq_true rfl) rfl dX8_retire_207 ?_
    intro r125 u126 h
    refine z_istore_n (lv1 := [(3, .int r125), (2, .int x124), (4, .int r114), (0, .ref (ad 0)), (1, .int x1)]) C dX8_retire_210 rfl (by decide) rfl ?_
    refine z_goto C dX8_retire_211 (tgt := 154) (by decide) ?_
    refine z_lv (lv1 := [(0, .ref (ad 0)), (1, .int x1), (2, .int x124), (3, .int r125)]) [3, 4, 1, 0] rfl ?_
    exact hB154 u126 x1 x124 r125 h
theorem l_X8_retire_154 (C : zC p s m args meth c g A cX8_retire RX8 5) (hr : meth.sig.returnType = (some .int)) (ad : Nat → Nat) (Q : Int32 → RS → Prop) : ∀ (n : Nat) (u : RS) (x1 : Int32) (x2 : Int32) (x3 : Int32), zit4 (wp_X8_retire_154 Q) n u x1 x2 x3 → j_X8_retire p l e s m args below meth c g A ad Q u 154 [(0, .ref (ad 0)), (1, .int x1), (2, .int x2), (3, .int x3)] [] := by
  intro n
  induction n with
  | zero => exact fun u x1 x2 x3 h => h.elim
  | succ n ih => exact fun u x1 x2 x3 h => b_X8_retire_154 C hr ad Q (zit4 (wp_X8_retire_154 Q) n) ih u x1 x2 x3 h
def wp_X8_retire_114 (Q : Int32 → RS → Prop) (B85 : RS → Int32 → Int32 → Prop) (u : RS) (x1 : Int32) (x2 : Int32) (t0 : Int32) (t1 : Int32) : Prop :=
  vp_in t1 16 ∧ ∀ u130 : RS, u130 = rI u 16 (upd (u.1 16) (zn t1) (vp_nar .boolean t0)) → vp_in (23 + x2) 1065 ∧ vp_in (u130.1 3 (zn (23 + x2))) 4 ∧ vp_in (39 + x2) 1065 ∧ vp_in (u130.1 3 (zn (23 + x2))) 4 ∧ ∀ u135 : RS, u135 = rI u130 15 (upd (u130.1 15) (zn (u130.1 3 (zn (23 + x2)))) ((u130.1 15 (zn (u130.1 3 (zn (23 + x2))))) + (u130.1 3 (zn (39 + x2))))) → ∀ x136 : Int32, x136 = x2 + 1 → B85 u135 x1 x136
set_option maxRecDepth 20000 in
theorem b_X8_retire_114 (C : zC p s m args meth c g A cX8_retire RX8 5) (hr : meth.sig.returnType = (some .int)) (ad : Nat → Nat) (Q : Int32 → RS → Prop) (B85 : RS → Int32 → Int32 → Prop) (hB85 : ∀ (u : RS) (x1 : Int32) (x2 : Int32), B85 u x1 x2 → j_X8_retire p l e s m args below meth c g A ad Q u 85 [(0, .ref (ad 0)), (1, .int x1), (2, .int x2)] []) (u : RS) (x1 : Int32) (x2 : Int32) (t0 : Int32) (t1 : Int32) (h : wp_X8_retire_114 Q B85 u x1 x2 t0 t1) : j_X8_retire p l e s m args below meth c g A ad Q u 114 [(0, .ref (ad 0)), (1, .int x1), (2, .int x2)] [.int t0, .int t1, .ref (ad 14)] := by
  unfold wp_X8_retire_114 at h
  obtain ⟨hi129, h⟩ := h
  refine sR_laid C hi129 dX8_retire_114 ?_
  refine z_stR (fun u130 eu130 => ?_)
  have h := h u130 eu130
  refine z_aload_n C dX8_retire_115 rfl 0 rfl ?_
  refine gR_share C dX8_retire_116 ?_
  refine z_aload_n C dX8_retire_119 rfl 0 rfl ?_
  refine gR_row C dX8_retire_120 ?_
  refine z_bipush (v := 23) C dX8_retire_123 (by decide) ?_
  refine z_iload_n C dX8_retire_125 rfl 2 rfl ?_
  refine z_iadd C dX8_retire_126 ?_
  obtain ⟨hi131, h⟩ := h
  refine lR_row C hi131 dX8_retire_127 ?_
  refine z_dup2 C dX8_retire_128 rfl rfl ?_
  obtain ⟨hi132, h⟩ := h
  refine lR_share C hi132 dX8_retire_129 ?_
  refine z_aload_n C dX8_retire_130 rfl 0 rfl ?_
  refine gR_row C dX8_retire_131 ?_
  refine z_bipush (v := 39) C dX8_retire_134 (by decide) ?_
  refine z_iload_n C dX8_retire_136 rfl 2 rfl ?_
  refine z_iadd C dX8_retire_137 ?_
  obtain ⟨hi133, h⟩ := h
  refine lR_row C hi133 dX8_retire_138 ?_
  refine z_iadd C dX8_retire_139 ?_
  obtain ⟨hi134, h⟩ := h
  refine sR_share C hi134 dX8_retire_140 ?_
  refine z_stR (fun u135 eu135 => ?_)
  have h := h u135 eu135
  obtain ⟨x136, ex136⟩ : ∃ y : Int32, y = x2 + 1 := ⟨_, rfl⟩
  have h := h x136 ex136
  refine z_iinc (v := x136) (lv1 := [(2, .int x136), (0, .ref (ad 0)), (1, .int x1)]) C dX8_retire_141 2 rfl (by rw [ex136]; rfl) (by decide) rfl ?_
  refine z_goto C dX8_retire_144 (tgt := 85) (by decide) ?_
  refine z_lv (lv1 := [(0, .ref (ad 0)), (1, .int x1), (2, .int x136)]) [1, 2, 0] rfl ?_
  exact hB85 u135 x1 x136 h
def wp_X8_retire_85 (Q : Int32 → RS → Prop) (B85 : RS → Int32 → Int32 → Prop) (u : RS) (x1 : Int32) (x2 : Int32) : Prop :=
  ((16 ≤ x2 → wp_X8_nextEntry u (fun r109 u110 => (∃ n, zit4 (wp_X8_retire_154 Q) n u110 x1 0 r109))) ∧ (¬ 16 ≤ x2 → vp_in (23 + x2) 1065 ∧ ((u.1 3 (zn (23 + x2)) = x1 → wp_X8_retire_114 Q B85 u x1 x2 0 x2) ∧ (¬ u.1 3 (zn (23 + x2)) = x1 → wp_X8_retire_114 Q B85 u x1 x2 1 x2))))
set_option maxRecDepth 20000 in
theorem b_X8_retire_85 (C : zC p s m args meth c g A cX8_retire RX8 5) (hr : meth.sig.returnType = (some .int)) (ad : Nat → Nat) (Q : Int32 → RS → Prop) (B85 : RS → Int32 → Int32 → Prop) (hB85 : ∀ (u : RS) (x1 : Int32) (x2 : Int32), B85 u x1 x2 → j_X8_retire p l e s m args below meth c g A ad Q u 85 [(0, .ref (ad 0)), (1, .int x1), (2, .int x2)] []) (u : RS) (x1 : Int32) (x2 : Int32) (h : wp_X8_retire_85 Q B85 u x1 x2) : j_X8_retire p l e s m args below meth c g A ad Q u 85 [(0, .ref (ad 0)), (1, .int x1), (2, .int x2)] [] := by
  unfold wp_X8_retire_85 at h
  refine z_iload_n C dX8_retire_85 rfl 2 rfl ?_
  refine z_bipush (v := 16) C dX8_retire_86 (by decide) ?_
  refine z_icmp_ge C dX8_retire_88 (tgt := 147) (by decide) (fun hc108 => ?_) (fun hc108 => ?_)
  · have h := h.1 hc108
    refine z_iconst (v := 0) C dX8_retire_147 (by decide) ?_
    refine z_istore_n (lv1 := [(2, .int 0), (0, .ref (ad 0)), (1, .int x1)]) C dX8_retire_148 rfl (by decide) rfl ?_
    refine z_aload_n C dX8_retire_149 rfl 1 rfl ?_
    refine cRi (As := []) C (c_X8_nextEntry l g ad u _ h) v_X8_nextEntry ml8_153 rfl ⟨Nat.le_of_ble_eq_true rfl, Nat.le_of_ble_eq_true rfl⟩ ⟨Nat.zero_le _, Nat.zero_le _⟩ (Nat.le_of_ble_eq_true rfl) rfl dX8_retire_150 ?_
    intro r109 u110 h
    refine z_istore_n (lv1 := [(3, .int r109), (2, .int 0), (0, .ref (ad 0)), (1, .int x1)]) C dX8_retire_153 rfl (by decide) rfl ?_
    refine z_lv (lv1 := [(0, .ref (ad 0)), (1, .int x1), (2, .int 0), (3, .int r109)]) [2, 3, 1, 0] rfl ?_
    obtain ⟨n9, h⟩ := h
    exact l_X8_retire_154 C hr ad Q n9 u110 x1 0 r109 h
  · have h := h.2 hc108
    refine z_aload_n C dX8_retire_91 rfl 0 rfl ?_
    refine gR_laid C dX8_retire_92 ?_
    refine z_iload_n C dX8_retire_95 rfl 2 rfl ?_
    refine z_aload_n C dX8_retire_96 rfl 0 rfl ?_
    refine gR_row C dX8_retire_97 ?_
    refine z_bipush (v := 23) C dX8_retire_100 (by decide) ?_
    refine z_iload_n C dX8_retire_102 rfl 2 rfl ?_
    refine z_iadd C dX8_retire_103 ?_
    obtain ⟨hi127, h⟩ := h
    refine lR_row C hi127 dX8_retire_104 ?_
    refine z_iload_n C dX8_retire_105 rfl 1 rfl ?_
    refine z_icmp_eq C dX8_retire_106 (tgt := 113) (by decide) (fun hc128 => ?_) (fun hc128 => ?_)
    · have h := h.1 hc128
      refine z_iconst (v := 0) C dX8_retire_113 (by decide) ?_
      exact b_X8_retire_114 C hr ad Q B85 hB85 u x1 x2 0 x2 h
    · have h := h.2 hc128
      refine z_iconst (v := 1) C dX8_retire_109 (by decide) ?_
      refine z_goto C dX8_retire_110 (tgt := 114) (by decide) ?_
      exact b_X8_retire_114 C hr ad Q B85 hB85 u x1 x2 1 x2 h
theorem l_X8_retire_85 (C : zC p s m args meth c g A cX8_retire RX8 5) (hr : meth.sig.returnType = (some .int)) (ad : Nat → Nat) (Q : Int32 → RS → Prop) : ∀ (n : Nat) (u : RS) (x1 : Int32) (x2 : Int32), zit3 (wp_X8_retire_85 Q) n u x1 x2 → j_X8_retire p l e s m args below meth c g A ad Q u 85 [(0, .ref (ad 0)), (1, .int x1), (2, .int x2)] [] := by
  intro n
  induction n with
  | zero => exact fun u x1 x2 h => h.elim
  | succ n ih => exact fun u x1 x2 h => b_X8_retire_85 C hr ad Q (zit3 (wp_X8_retire_85 Q) n) ih u x1 x2 h
def wp_X8_retire_65 (Q : Int32 → RS → Prop) (B65 : RS → Int32 → Int32 → Prop) (u : RS) (x1 : Int32) (x2 : Int32) : Prop :=
  ((4 ≤ x2 → (∃ n, zit3 (wp_X8_retire_85 Q) n u x1 0)) ∧ (¬ 4 ≤ x2 → vp_in x2 4 ∧ ∀ u138 : RS, u138 = rI u 15 (upd (u.1 15) (zn x2) 0) → ∀ x139 : Int32, x139 = x2 + 1 → B65 u138 x1 x139))
set_option maxRecDepth 20000 in
theorem b_X8_retire_65 (C : zC p s m args meth c g A cX8_retire RX8 5) (hr : meth.sig.returnType = (some .int)) (ad : Nat → Nat) (Q : Int32 → RS → Prop) (B65 : RS → Int32 → Int32 → Prop) (hB65 : ∀ (u : RS) (x1 : Int32) (x2 : Int32), B65 u x1 x2 → j_X8_retire p l e s m args below meth c g A ad Q u 65 [(0, .ref (ad 0)), (1, .int x1), (2, .int x2)] []) (u : RS) (x1 : Int32) (x2 : Int32) (h : wp_X8_retire_65 Q B65 u x1 x2) : j_X8_retire p l e s m args below meth c g A ad Q u 65 [(0, .ref (ad 0)), (1, .int x1), (2, .int x2)] [] := by
  unfold wp_X8_retire_65 at h
  refine z_iload_n C dX8_retire_65 rfl 2 rfl ?_
  refine z_iconst (v := 4) C dX8_retire_66 (by decide) ?_
  refine z_icmp_ge C dX8_retire_67 (tgt := 83) (by decide) (fun hc107 => ?_) (fun hc107 => ?_)
  · have h := h.1 hc107
    refine z_iconst (v := 0) C dX8_retire_83 (by decide) ?_
    refine z_istore_n (lv1 := [(2, .int 0), (0, .ref (ad 0)), (1, .int x1)]) C dX8_retire_84 rfl (by decide) rfl ?_
    refine z_lv (lv1 := [(0, .ref (ad 0)), (1, .int x1), (2, .int 0)]) [1, 2, 0] rfl ?_
    obtain ⟨n9, h⟩ := h
    exact l_X8_retire_85 C hr ad Q n9 u x1 0 h
  · have h := h.2 hc107
    refine z_aload_n C dX8_retire_70 rfl 0 rfl ?_
    refine gR_share C dX8_retire_71 ?_
    refine z_iload_n C dX8_retire_74 rfl 2 rfl ?_
    refine z_iconst (v := 0) C dX8_retire_75 (by decide) ?_
    obtain ⟨hi137, h⟩ := h
    refine sR_share C hi137 dX8_retire_76 ?_
    refine z_stR (fun u138 eu138 => ?_)
    have h := h u138 eu138
    obtain ⟨x139, ex139⟩ : ∃ y : Int32, y = x2 + 1 := ⟨_, rfl⟩
    have h := h x139 ex139
    refine z_iinc (v := x139) (lv1 := [(2, .int x139), (0, .ref (ad 0)), (1, .int x1)]) C dX8_retire_77 2 rfl (by rw [ex139]; rfl) (by decide) rfl ?_
    refine z_goto C dX8_retire_80 (tgt := 65) (by decide) ?_
    refine z_lv (lv1 := [(0, .ref (ad 0)), (1, .int x1), (2, .int x139)]) [1, 2, 0] rfl ?_
    exact hB65 u138 x1 x139 h
theorem l_X8_retire_65 (C : zC p s m args meth c g A cX8_retire RX8 5) (hr : meth.sig.returnType = (some .int)) (ad : Nat → Nat) (Q : Int32 → RS → Prop) : ∀ (n : Nat) (u : RS) (x1 : Int32) (x2 : Int32), zit3 (wp_X8_retire_65 Q) n u x1 x2 → j_X8_retire p l e s m args below meth c g A ad Q u 65 [(0, .ref (ad 0)), (1, .int x1), (2, .int x2)] [] := by
  intro n
  induction n with
  | zero => exact fun u x1 x2 h => h.elim
  | succ n ih => exact fun u x1 x2 h => b_X8_retire_65 C hr ad Q (zit3 (wp_X8_retire_65 Q) n) ih u x1 x2 h
def wp_X8_retire_57 (Q : Int32 → RS → Prop) (B33 : RS → Int32 → Int32 → Prop) (u : RS) (x1 : Int32) (x2 : Int32) : Prop :=
  ∀ x143 : Int32, x143 = x2 + (-1) → B33 u x1 x143
set_option maxRecDepth 20000 in
theorem b_X8_retire_57 (C : zC p s m args meth c g A cX8_retire RX8 5) (hr : meth.sig.returnType = (some .int)) (ad : Nat → Nat) (Q : Int32 → RS → Prop) (B33 : RS → Int32 → Int32 → Prop) (hB33 : ∀ (u : RS) (x1 : Int32) (x2 : Int32), B33 u x1 x2 → j_X8_retire p l e s m args below meth c g A ad Q u 33 [(0, .ref (ad 0)), (1, .int x1), (2, .int x2)] []) (u : RS) (x1 : Int32) (x2 : Int32) (h : wp_X8_retire_57 Q B33 u x1 x2) : j_X8_retire p l e s m args below meth c g A ad Q u 57 [(0, .ref (ad 0)), (1, .int x1), (2, .int x2)] [] := by
  unfold wp_X8_retire_57 at h
  obtain ⟨x143, ex143⟩ : ∃ y : Int32, y = x2 + (-1) := ⟨_, rfl⟩
  have h := h x143 ex143
  refine z_iinc (v := x143) (lv1 := [(2, .int x143), (0, .ref (ad 0)), (1, .int x1)]) C dX8_retire_57 2 rfl (by rw [ex143]; rfl) (by decide) rfl ?_
  refine z_goto C dX8_retire_60 (tgt := 33) (by decide) ?_
  refine z_lv (lv1 := [(0, .ref (ad 0)), (1, .int x1), (2, .int x143)]) [1, 2, 0] rfl ?_
  exact hB33 u x1 x143 h
def wp_X8_retire_33 (Q : Int32 → RS → Prop) (B33 : RS → Int32 → Int32 → Prop) (u : RS) (x1 : Int32) (x2 : Int32) : Prop :=
  ((x2 < 0 → (∃ n, zit3 (wp_X8_retire_65 Q) n u x1 0)) ∧ (¬ x2 < 0 → wp_X8_ruleAt x2 (fun r140 => vp_in (r140 + 1) 1065 ∧ ((¬ u.1 3 (zn (r140 + 1)) = x1 → wp_X8_retire_57 Q B33 u x1 x2) ∧ (u.1 3 (zn (r140 + 1)) = x1 → wp_X8_dropRule u x2 (fun u144 => wp_X8_retire_57 Q B33 u144 x1 x2))))))
set_option maxRecDepth 20000 in
theorem b_X8_retire_33 (C : zC p s m args meth c g A cX8_retire RX8 5) (hr : meth.sig.returnType = (some .int)) (ad : Nat → Nat) (Q : Int32 → RS → Prop) (B33 : RS → Int32 → Int32 → Prop) (hB33 : ∀ (u : RS) (x1 : Int32) (x2 : Int32), B33 u x1 x2 → j_X8_retire p l e s m args below meth c g A ad Q u 33 [(0, .ref (ad 0)), (1, .int x1), (2, .int x2)] []) (u : RS) (x1 : Int32) (x2 : Int32) (h : wp_X8_retire_33 Q B33 u x1 x2) : j_X8_retire p l e s m args below meth c g A ad Q u 33 [(0, .ref (ad 0)), (1, .int x1), (2, .int x2)] [] := by
  unfold wp_X8_retire_33 at h
  refine z_iload_n C dX8_retire_33 rfl 2 rfl ?_
  refine z_if_lt C dX8_retire_34 (tgt := 63) (by decide) (fun hc106 => ?_) (fun hc106 => ?_)
  · have h := h.1 hc106
    refine z_iconst (v := 0) C dX8_retire_63 (by decide) ?_
    refine z_istore_n (lv1 := [(2, .int 0), (0, .ref (ad 0)), (1, .int x1)]) C dX8_retire_64 rfl (by decide) rfl ?_
    refine z_lv (lv1 := [(0, .ref (ad 0)), (1, .int x1), (2, .int 0)]) [1, 2, 0] rfl ?_
    obtain ⟨n9, h⟩ := h
    exact l_X8_retire_65 C hr ad Q n9 u x1 0 h
  · have h := h.2 hc106
    refine z_aload_n C dX8_retire_37 rfl 0 rfl ?_
    refine gR_row C dX8_retire_38 ?_
    refine z_iload_n C dX8_retire_41 rfl 2 rfl ?_
    refine cSi (As := [.int x2]) C (c_X8_ruleAt l g x2 _ h) s_X8_ruleAt ml8_116 ⟨Nat.le_of_ble_eq_true rfl, Nat.le_of_ble_eq_true rfl⟩ ⟨Nat.zero_le _, Nat.zero_le _⟩ (Nat.le_of_ble_eq_true rfl) rfl dX8_retire_42 ?_
    intro r140 h
    refine z_iconst (v := 1) C dX8_retire_45 (by decide) ?_
    refine z_iadd C dX8_retire_46 ?_
    obtain ⟨hi141, h⟩ := h
    refine lR_row C hi141 dX8_retire_47 ?_
    refine z_iload_n C dX8_retire_48 rfl 1 rfl ?_
    refine z_icmp_ne C dX8_retire_49 (tgt := 57) (by decide) (fun hc142 => ?_) (fun hc142 => ?_)
    · have h := h.1 hc142
      exact b_X8_retire_57 C hr ad Q B33 hB33 u x1 x2 h
    · have h := h.2 hc142
      refine z_aload_n C dX8_retire_52 rfl 0 rfl ?_
      refine z_iload_n C dX8_retire_53 rfl 2 rfl ?_
      refine cRv (As := [.int x2]) C (c_X8_dropRule l g ad u x2 _ h) v_X8_dropRule ml8_167 rfl ⟨Nat.le_of_ble_eq_true rfl, Nat.le_of_ble_eq_true rfl⟩ ⟨Nat.zero_le _, Nat.zero_le _⟩ (Nat.le_of_ble_eq_true rfl) rfl dX8_retire_54 ?_
      intro u144 h
      exact b_X8_retire_57 C hr ad Q B33 hB33 u144 x1 x2 h
theorem l_X8_retire_33 (C : zC p s m args meth c g A cX8_retire RX8 5) (hr : meth.sig.returnType = (some .int)) (ad : Nat → Nat) (Q : Int32 → RS → Prop) : ∀ (n : Nat) (u : RS) (x1 : Int32) (x2 : Int32), zit3 (wp_X8_retire_33 Q) n u x1 x2 → j_X8_retire p l e s m args below meth c g A ad Q u 33 [(0, .ref (ad 0)), (1, .int x1), (2, .int x2)] [] := by
  intro n
  induction n with
  | zero => exact fun u x1 x2 h => h.elim
  | succ n ih => exact fun u x1 x2 h => b_X8_retire_33 C hr ad Q (zit3 (wp_X8_retire_33 Q) n) ih u x1 x2 h
def wp_X8_retire (u : RS) (x1 : Int32) (Q : Int32 → RS → Prop) : Prop :=
  ∀ u101 : RS, u101 = rN u 0 0 → wp_X8_isQueue x1 (fun r102 => ((¬ r102 = 0 → wp_X8_remember u101 14 (fun u104 => ∀ x105 : Int32, x105 = (u104.1 3 5) - 1 → (∃ n, zit3 (wp_X8_retire_33 Q) n u104 x1 x105))) ∧ (r102 = 0 → wp_X8_refuse u101 (-1) (fun r145 u146 => Q r145 u146))))
set_option maxRecDepth 20000 in
theorem c_X8_retire (l : Launch) (g : zG) (ad : Nat → Nat) (u : RS) (x1 : Int32) (Q : Int32 → RS → Prop) (h : wp_X8_retire u x1 Q) : zMi l yX8_retire cX8_retire 5 (some .int) 2 0 0 g [.ref (ad 0), .int x1] (wR g ad u) (wR g ad) Q := by
  refine zMi_of RX8 (by decide) rfl [(0, .ref (ad 0)), (1, .int x1)] rfl (Nat.le_of_ble_eq_true rfl) (fun p e s m args below meth c A C hr hnm => ?_)
  unfold wp_X8_retire at h
  refine z_aload_n C dX8_retire_0 rfl 0 rfl ?_
  refine z_iconst (v := 0) C dX8_retire_1 (by decide) ?_
  refine pR_thrown C dX8_retire_2 ?_
  refine z_stR (fun u101 eu101 => ?_)
  have h := h u101 eu101
  refine z_iload_n C dX8_retire_5 rfl 1 rfl ?_
  refine cSi (As := [.int x1]) C (c_X8_isQueue l g x1 _ h) s_X8_isQueue ml8_150 ⟨Nat.le_of_ble_eq_true rfl, Nat.le_of_ble_eq_true rfl⟩ ⟨Nat.zero_le _, Nat.zero_le _⟩ (Nat.le_of_ble_eq_true rfl) rfl dX8_retire_6 ?_
  intro r102 h
  refine z_if_ne C dX8_retire_9 (tgt := 18) (by decide) (fun hc103 => ?_) (fun hc103 => ?_)
  · have h := h.1 hc103
    refine z_aload_n C dX8_retire_18 rfl 0 rfl ?_
    refine z_bipush (v := 14) C dX8_retire_19 (by decide) ?_
    refine cRv (As := [.int 14]) C (c_X8_remember l g ad u101 14 _ h) v_X8_remember ml8_129 rfl ⟨Nat.le_of_ble_eq_true rfl, Nat.le_of_ble_eq_true rfl⟩ ⟨Nat.zero_le _, Nat.zero_le _⟩ (Nat.le_of_ble_eq_true rfl) rfl dX8_retire_21 ?_
    intro u104 h
    refine z_aload_n C dX8_retire_24 rfl 0 rfl ?_
    refine gR_row C dX8_retire_25 ?_
    refine z_iconst (v := 5) C dX8_retire_28 (by decide) ?_
    refine lRn_row C 5 (by decide +kernel) (vp_in_iff.mpr (by decide +kernel)) dX8_retire_29 ?_
    refine z_iconst (v := 1) C dX8_retire_30 (by decide) ?_
    refine z_isub C dX8_retire_31 ?_
    refine z_topi (fun x105 ex105 => ?_)
    have h := h x105 ex105
    refine z_istore_n (lv1 := [(2, .int x105), (0, .ref (ad 0)), (1, .int x1)]) C dX8_retire_32 rfl (by decide) rfl ?_
    refine z_lv (lv1 := [(0, .ref (ad 0)), (1, .int x1), (2, .int x105)]) [1, 2, 0] rfl ?_
    obtain ⟨n9, h⟩ := h
    exact l_X8_retire_33 C hr ad Q n9 u104 x1 x105 h
  · have h := h.2 hc103
    refine z_aload_n C dX8_retire_12 rfl 0 rfl ?_
    refine z_iconst (v := (-1)) C dX8_retire_13 (by decide) ?_
    refine cRi (As := [.int (-1)]) C (c_X8_refuse l g ad u101 (-1) _ h) v_X8_refuse ml8_75 rfl ⟨Nat.le_of_ble_eq_true rfl, Nat.le_of_ble_eq_true rfl⟩ ⟨Nat.zero_le _, Nat.zero_le _⟩ (Nat.le_of_ble_eq_true rfl) rfl dX8_retire_14 ?_
    intro r145 u146 h
    exact z_iret C hr u146 rfl h dX8_retire_17
abbrev j_X8_steers (p : Program) (l : Launch) (e : Env) (s : State) (m : MethodId) (args : Array Value) (below : List Frame) (meth : Method) (c : Code) (g : zG) (A : Nat → Prop) (ad : Nat → Nat) (Q : Int32 → RS → Prop) (u : RS) (pc : Nat) (lv : List (Nat × Value)) (st : List Value) : Prop := zJ p l e (zR 2 0 0) s m args below meth c g A 9 (zQi below args s g A 0 0 (wR g ad) Q) (wR g ad u) 0 0 pc lv st
def wp_X8_steers_166 (Q : Int32 → RS → Prop) (u : RS) (x1 : Int32) (x2 : Int32) (x3 : Int32) (x4 : Int32) : Prop :=
  wp_X8_ruleAt x3 (fun r105 => vp_in r105 1065 ∧ ∀ u107 : RS, u107 = rI u 3 (upd (u.1 3) (zn r105) x1) → wp_X8_ruleAt x3 (fun r108 => vp_in (r108 + 1) 1065 ∧ ∀ u110 : RS, u110 = rI u107 3 (upd (u107.1 3) (zn (r108 + 1)) x2) → wp_X8_ruleAt x3 (fun r111 => vp_in (r111 + 2) 1065 ∧ ∀ u113 : RS, u113 = rI u110 3 (upd (u110.1 3) (zn (r111 + 2)) (u110.1 3 6)) → Q x4 u113)))
set_option maxRecDepth 20000 in
theorem b_X8_steers_166 (C : zC p s m args meth c g A cX8_steers RX8 9) (hr : meth.sig.returnType = (some .int)) (ad : Nat → Nat) (Q : Int32 → RS → Prop) (u : RS) (x1 : Int32) (x2 : Int32) (x3 : Int32) (x4 : Int32) (h : wp_X8_steers_166 Q u x1 x2 x3 x4) : j_X8_steers p l e s m args below meth c g A ad Q u 166 [(0, .ref (ad 0)), (1, .int x1), (2, .int x2), (3, .int x3), (4, .int x4)] [] := by
  unfold wp_X8_steers_166 at h
  refine z_aload_n C dX8_steers_166 rfl 0 rfl ?_
  refine gR_row C dX8_steers_167 ?_
  refine z_iload_n C dX8_steers_170 rfl 3 rfl ?_
  refine cSi (As := [.int x3]) C (c_X8_ruleAt l g x3 _ h) s_X8_ruleAt ml8_116 ⟨Nat.le_of_ble_eq_true rfl, Nat.le_of_ble_eq_true rfl⟩ ⟨Nat.zero_le _, Nat.zero_le _⟩ (Nat.le_of_ble_eq_true rfl) rfl dX8_steers_171 ?_
  intro r105 h
  refine z_iload_n C dX8_steers_174 rfl 1 rfl ?_
  obtain ⟨hi106, h⟩ := h
  refine sR_row C hi106 dX8_steers_175 ?_
  refine z_stR (fun u107 eu107 => ?_)
  have h := h u107 eu107
  refine z_aload_n C dX8_steers_176 rfl 0 rfl ?_
  refine gR_row C dX8_steers_177 ?_
  refine z_iload_n C dX8_steers_180 rfl 3 rfl ?_
  refine cSi (As := [.int x3]) C (c_X8_ruleAt l g x3 _ h) s_X8_ruleAt ml8_116 ⟨Nat.le_of_ble_eq_true rfl, Nat.le_of_ble_eq_true rfl⟩ ⟨Nat.zero_le _, Nat.zero_le _⟩ (Nat.le_of_ble_eq_true rfl) rfl dX8_steers_181 ?_
  intro r108 h
  refine z_iconst (v := 1) C dX8_steers_184 (by decide) ?_
  refine z_iadd C dX8_steers_185 ?_
  refine z_iload_n C dX8_steers_186 rfl 2 rfl ?_
  obtain ⟨hi109, h⟩ := h
  refine sR_row C hi109 dX8_steers_187 ?_
  refine z_stR (fun u110 eu110 => ?_)
  have h := h u110 eu110
  refine z_aload_n C dX8_steers_188 rfl 0 rfl ?_
  refine gR_row C dX8_steers_189 ?_
  refine z_iload_n C dX8_steers_192 rfl 3 rfl ?_
  refine cSi (As := [.int x3]) C (c_X8_ruleAt l g x3 _ h) s_X8_ruleAt ml8_116 ⟨Nat.le_of_ble_eq_true rfl, Nat.le_of_ble_eq_true rfl⟩ ⟨Nat.zero_le _, Nat.zero_le _⟩ (Nat.le_of_ble_eq_true rfl) rfl dX8_steers_193 ?_
  intro r111 h
  refine z_iconst (v := 2) C dX8_steers_196 (by decide) ?_
  refine z_iadd C dX8_steers_197 ?_
  refine z_aload_n C dX8_steers_198 rfl 0 rfl ?_
  refine gR_row C dX8_steers_199 ?_
  refine z_bipush (v := 6) C dX8_steers_202 (by decide) ?_
  refine lRn_row C 6 (by decide +kernel) (vp_in_iff.mpr (by decide +kernel)) dX8_steers_204 ?_
  obtain ⟨hi112, h⟩ := h
  refine sR_row C hi112 dX8_steers_205 ?_
  refine z_stR (fun u113 eu113 => ?_)
  have h := h u113 eu113
  refine z_iload C dX8_steers_206 4 rfl ?_
  exact z_iret C hr u113 rfl h dX8_steers_208
def wp_X8_steers_144 (Q : Int32 → RS → Prop) (u : RS) (x1 : Int32) (x2 : Int32) (x3 : Int32) (x4 : Int32) : Prop :=
  ((¬ x3 = (-1) → wp_X8_steers_166 Q u x1 x2 x3 x4) ∧ (x3 = (-1) → ∀ x114 : Int32, x114 = u.1 3 5 → ∀ u115 : RS, u115 = rI u 3 (upd (u.1 3) 5 ((u.1 3 5) + 1)) → wp_X8_steers_166 Q u115 x1 x2 x114 x4))
set_option maxRecDepth 20000 in
theorem b_X8_steers_144 (C : zC p s m args meth c g A cX8_steers RX8 9) (hr : meth.sig.returnType = (some .int)) (ad : Nat → Nat) (Q : Int32 → RS → Prop) (u : RS) (x1 : Int32) (x2 : Int32) (x3 : Int32) (x4 : Int32) (h : wp_X8_steers_144 Q u x1 x2 x3 x4) : j_X8_steers p l e s m args below meth c g A ad Q u 144 [(0, .ref (ad 0)), (1, .int x1), (2, .int x2), (3, .int x3), (4, .int x4)] [] := by
  unfold wp_X8_steers_144 at h
  refine z_iload_n C dX8_steers_144 rfl 3 rfl ?_
  refine z_iconst (v := (-1)) C dX8_steers_145 (by decide) ?_
  refine z_icmp_ne C dX8_steers_146 (tgt := 166) (by decide) (fun hc104 => ?_) (fun hc104 => ?_)
  · have h := h.1 hc104
    exact b_X8_steers_166 C hr ad Q u x1 x2 x3 x4 h
  · have h := h.2 hc104
    refine z_aload_n C dX8_steers_149 rfl 0 rfl ?_
    refine gR_row C dX8_steers_150 ?_
    refine z_iconst (v := 5) C dX8_steers_153 (by decide) ?_
    refine lRn_row C 5 (by decide +kernel) (vp_in_iff.mpr (by decide +kernel)) dX8_steers_154 ?_
    refine z_topi (fun x114 ex114 => ?_)
    have h := h x114 ex114
    refine z_istore_n (lv1 := [(3, .int x114), (0, .ref (ad 0)), (1, .int x1), (2, .int x2), (4, .int x4)]) C dX8_steers_155 rfl (by decide) rfl ?_
    refine z_aload_n C dX8_steers_156 rfl 1 rfl ?_
    refine gR_row C dX8_steers_157 ?_
    refine z_iconst (v := 5) C dX8_steers_160 (by decide) ?_
    refine z_dup2 C dX8_steers_161 rfl rfl ?_
    refine lRn_row C 5 (by decide +kernel) (vp_in_iff.mpr (by decide +kernel)) dX8_steers_162 ?_
    refine z_iconst (v := 1) C dX8_steers_163 (by decide) ?_
    refine z_iadd C dX8_steers_164 ?_
    refine sRn_row C 5 (by decide +kernel) (vp_in_iff.mpr (by decide +kernel)) dX8_steers_165 ?_
    refine z_stR (fun u115 eu115 => ?_)
    have h := h u115 eu115
    refine z_lv (lv1 := [(0, .ref (ad 0)), (1, .int x1), (2, .int x2), (3, .int x114), (4, .int x4)]) [1, 2, 3, 0, 4] rfl ?_
    exact b_X8_steers_166 C hr ad Q u115 x1 x2 x114 x4 h
def wp_X8_steers_118 (Q : Int32 → RS → Prop) (B31 : RS → Int32 → Int32 → Int32 → Int32 → Int32 → Prop) (u : RS) (x1 : Int32) (x2 : Int32) (x3 : Int32) (x6 : Int32) (t0 : Int32) : Prop :=
  ∀ x127 : Int32, x127 = x6 + 1 → B31 u x1 x2 x3 t0 x127
set_option maxRecDepth 20000 in
theorem b_X8_steers_118 (C : zC p s m args meth c g A cX8_steers RX8 9) (hr : meth.sig.returnType = (some .int)) (ad : Nat → Nat) (Q : Int32 → RS → Prop) (B31 : RS → Int32 → Int32 → Int32 → Int32 → Int32 → Prop) (hB31 : ∀ (u : RS) (x1 : Int32) (x2 : Int32) (x3 : Int32) (x5 : Int32) (x6 : Int32), B31 u x1 x2 x3 x5 x6 → j_X8_steers p l e s m args below meth c g A ad Q u 31 [(0, .ref (ad 0)), (1, .int x1), (2, .int x2), (3, .int x3), (5, .int x5), (6, .int x6)] []) (u : RS) (x1 : Int32) (x2 : Int32) (x3 : Int32) (x6 : Int32) (t0 : Int32) (h : wp_X8_steers_118 Q B31 u x1 x2 x3 x6 t0) : j_X8_steers p l e s m args below meth c g A ad Q u 118 [(0, .ref (ad 0)), (1, .int x1), (2, .int x2), (3, .int x3), (6, .int x6)] [.int t0] := by
  unfold wp_X8_steers_118 at h
  refine z_istore (lv1 := [(5, .int t0), (0, .ref (ad 0)), (1, .int x1), (2, .int x2), (3, .int x3), (6, .int x6)]) C dX8_steers_118 (by decide) rfl ?_
  obtain ⟨x127, ex127⟩ : ∃ y : Int32, y = x6 + 1 := ⟨_, rfl⟩
  have h := h x127 ex127
  refine z_iinc (v := x127) (lv1 := [(6, .int x127), (5, .int t0), (0, .ref (ad 0)), (1, .int x1), (2, .int x2), (3, .int x3)]) C dX8_steers_120 5 rfl (by rw [ex127]; rfl) (by decide) rfl ?_
  refine z_goto C dX8_steers_123 (tgt := 31) (by decide) ?_
  refine z_lv (lv1 := [(0, .ref (ad 0)), (1, .int x1), (2, .int x2), (3, .int x3), (5, .int t0), (6, .int x127)]) [2, 3, 4, 5, 1, 0] rfl ?_
  exact hB31 u x1 x2 x3 t0 x127 h
def wp_X8_steers_111 (Q : Int32 → RS → Prop) (B31 : RS → Int32 → Int32 → Int32 → Int32 → Int32 → Prop) (u : RS) (x1 : Int32) (x2 : Int32) (x3 : Int32) (x6 : Int32) : Prop :=
  wp_X8_steers_118 Q B31 u x1 x2 x3 x6 x6
set_option maxRecDepth 20000 in
theorem b_X8_steers_111 (C : zC p s m args meth c g A cX8_steers RX8 9) (hr : meth.sig.returnType = (some .int)) (ad : Nat → Nat) (Q : Int32 → RS → Prop) (B31 : RS → Int32 → Int32 → Int32 → Int32 → Int32 → Prop) (hB31 : ∀ (u : RS) (x1 : Int32) (x2 : Int32) (x3 : Int32) (x5 : Int32) (x6 : Int32), B31 u x1 x2 x3 x5 x6 → j_X8_steers p l e s m args below meth c g A ad Q u 31 [(0, .ref (ad 0)), (1, .int x1), (2, .int x2), (3, .int x3), (5, .int x5), (6, .int x6)] []) (u : RS) (x1 : Int32) (x2 : Int32) (x3 : Int32) (x6 : Int32) (h : wp_X8_steers_111 Q B31 u x1 x2 x3 x6) : j_X8_steers p l e s m args below meth c g A ad Q u 111 [(0, .ref (ad 0)), (1, .int x1), (2, .int x2), (3, .int x3), (6, .int x6)] [] := by
  unfold wp_X8_steers_111 at h
  refine z_iload C dX8_steers_111 4 rfl ?_
  refine z_goto C dX8_steers_113 (tgt := 118) (by decide) ?_
  exact b_X8_steers_118 C hr ad Q B31 hB31 u x1 x2 x3 x6 x6 h
def wp_X8_steers_116 (Q : Int32 → RS → Prop) (B31 : RS → Int32 → Int32 → Int32 → Int32 → Int32 → Prop) (u : RS) (x1 : Int32) (x2 : Int32) (x3 : Int32) (x5 : Int32) (x6 : Int32) : Prop :=
  wp_X8_steers_118 Q B31 u x1 x2 x3 x6 x5
set_option maxRecDepth 20000 in
theorem b_X8_steers_116 (C : zC p s m args meth c g A cX8_steers RX8 9) (hr : meth.sig.returnType = (some .int)) (ad : Nat → Nat) (Q : Int32 → RS → Prop) (B31 : RS → Int32 → Int32 → Int32 → Int32 → Int32 → Prop) (hB31 : ∀ (u : RS) (x1 : Int32) (x2 : Int32) (x3 : Int32) (x5 : Int32) (x6 : Int32), B31 u x1 x2 x3 x5 x6 → j_X8_steers p l e s m args below meth c g A ad Q u 31 [(0, .ref (ad 0)), (1, .int x1), (2, .int x2), (3, .int x3), (5, .int x5), (6, .int x6)] []) (u : RS) (x1 : Int32) (x2 : Int32) (x3 : Int32) (x5 : Int32) (x6 : Int32) (h : wp_X8_steers_116 Q B31 u x1 x2 x3 x5 x6) : j_X8_steers p l e s m args below meth c g A ad Q u 116 [(0, .ref (ad 0)), (1, .int x1), (2, .int x2), (3, .int x3), (5, .int x5), (6, .int x6)] [] := by
  unfold wp_X8_steers_116 at h
  refine z_iload C dX8_steers_116 4 rfl ?_
  refine z_lv (lv1 := [(0, .ref (ad 0)), (1, .int x1), (2, .int x2), (3, .int x3), (6, .int x6)]) [0, 1, 2, 3, 5] rfl ?_
  exact b_X8_steers_118 C hr ad Q B31 hB31 u x1 x2 x3 x6 x5 h
def wp_X8_steers_31 (Q : Int32 → RS → Prop) (B31 : RS → Int32 → Int32 → Int32 → Int32 → Int32 → Prop) (u : RS) (x1 : Int32) (x2 : Int32) (x3 : Int32) (x5 : Int32) (x6 : Int32) : Prop :=
  ((6 ≤ x6 → wp_X8_ruleAt x5 (fun r118 => vp_in r118 1065 ∧ ∀ x120 : Int32, x120 = u.1 3 (zn r118) → wp_X8_dropRule u x5 (fun u121 => wp_X8_steers_144 Q u121 x1 x2 x3 x120))) ∧ (¬ 6 ≤ x6 → wp_X8_ruleAt x6 (fun r122 => wp_X8_ruleAt x5 (fun r123 => vp_in (r122 + 2) 1065 ∧ vp_in (r123 + 2) 1065 ∧ ((u.1 3 (zn (r122 + 2)) < u.1 3 (zn (r123 + 2)) → wp_X8_steers_111 Q B31 u x1 x2 x3 x6) ∧ (¬ u.1 3 (zn (r122 + 2)) < u.1 3 (zn (r123 + 2)) → vp_in (r122 + 2) 1065 ∧ vp_in (r123 + 2) 1065 ∧ ((¬ u.1 3 (zn (r122 + 2)) = u.1 3 (zn (r123 + 2)) → wp_X8_steers_116 Q B31 u x1 x2 x3 x5 x6) ∧ (u.1 3 (zn (r122 + 2)) = u.1 3 (zn (r123 + 2)) → vp_in r122 1065 ∧ vp_in r123 1065 ∧ ((u.1 3 (zn r123) ≤ u.1 3 (zn r122) → wp_X8_steers_116 Q B31 u x1 x2 x3 x5 x6) ∧ (¬ u.1 3 (zn r123) ≤ u.1 3 (zn r122) → wp_X8_steers_111 Q B31 u x1 x2 x3 x6))))))))))
set_option maxRecDepth 20000 in
theorem b_X8_steers_31 (C : zC p s m args meth c g A cX8_steers RX8 9) (hr : meth.sig.returnType = (some .int)) (ad : Nat → Nat) (Q : Int32 → RS → Prop) (B31 : RS → Int32 → Int32 → Int32 → Int32 → Int32 → Prop) (hB31 : ∀ (u : RS) (x1 : Int32) (x2 : Int32) (x3 : Int32) (x5 : Int32) (x6 : Int32), B31 u x1 x2 x3 x5 x6 → j_X8_steers p l e s m args below meth c g A ad Q u 31 [(0, .ref (ad 0)), (1, .int x1), (2, .int x2), (3, .int x3), (5, .int x5), (6, .int x6)] []) (u : RS) (x1 : Int32) (x2 : Int32) (x3 : Int32) (x5 : Int32) (x6 : Int32) (h : wp_X8_steers_31 Q B31 u x1 x2 x3 x5 x6) : j_X8_steers p l e s m args below meth c g A ad Q u 31 [(0, .ref (ad 0)), (1, .int x1), (2, .int x2), (3, .int x3), (5, .int x5), (6, .int x6)] [] := by
  unfold wp_X8_steers_31 at h
  refine z_iload C dX8_steers_31 5 rfl ?_
  refine z_bipush (v := 6) C dX8_steers_33 (by decide) ?_
  refine z_icmp_ge C dX8_steers_35 (tgt := 126) (by decide) (fun hc117 => ?_) (fun hc117 => ?_)
  · have h := h.1 hc117
    refine z_aload_n C dX8_steers_126 rfl 0 rfl ?_
    refine gR_row C dX8_steers_127 ?_
    refine z_iload C dX8_steers_130 4 rfl ?_
    refine cSi (As := [.int x5]) C (c_X8_ruleAt l g x5 _ h) s_X8_ruleAt ml8_116 ⟨Nat.le_of_ble_eq_true rfl, Nat.le_of_ble_eq_true rfl⟩ ⟨Nat.zero_le _, Nat.zero_le _⟩ (Nat.le_of_ble_eq_true rfl) rfl dX8_steers_132 ?_
    intro r118 h
    obtain ⟨hi119, h⟩ := h
    refine lR_row C hi119 dX8_steers_135 ?_
    refine z_topi (fun x120 ex120 => ?_)
    have h := h x120 ex120
    refine z_istore (lv1 := [(4, .int x120), (0, .ref (ad 0)), (1, .int x1), (2, .int x2), (3, .int x3), (5, .int x5), (6, .int x6)]) C dX8_steers_136 (by decide) rfl ?_
    refine z_aload_n C dX8_steers_138 rfl 1 rfl ?_
    refine z_iload C dX8_steers_139 5 rfl ?_
    refine cRv (As := [.int x5]) C (c_X8_dropRule l g ad u x5 _ h) v_X8_dropRule ml8_167 rfl ⟨Nat.le_of_ble_eq_true rfl, Nat.le_of_ble_eq_true rfl⟩ ⟨Nat.zero_le _, Nat.zero_le _⟩ (Nat.le_of_ble_eq_true rfl) rfl dX8_steers_141 ?_
    intro u121 h
    refine z_lv (lv1 := [(0, .ref (ad 0)), (1, .int x1), (2, .int x2), (3, .int x3), (4, .int x120)]) [1, 2, 3, 4, 0] rfl ?_
    exact b_X8_steers_144 C hr ad Q u121 x1 x2 x3 x120 h
  · have h := h.2 hc117
    refine z_iload C dX8_steers_38 5 rfl ?_
    refine cSi (As := [.int x6]) C (c_X8_ruleAt l g x6 _ h) s_X8_ruleAt ml8_116 ⟨Nat.le_of_ble_eq_true rfl, Nat.le_of_ble_eq_true rfl⟩ ⟨Nat.zero_le _, Nat.zero_le _⟩ (Nat.le_of_ble_eq_true rfl) rfl dX8_steers_40 ?_
    intro r122 h
    refine z_istore (lv1 := [(7, .int r122), (0, .ref (ad 0)), (1, .int x1), (2, .int x2), (3, .int x3), (5, .int x5), (6, .int x6)]) C dX8_steers_43 (by decide) rfl ?_
    refine z_iload C dX8_steers_45 5 rfl ?_
    refine cSi (As := [.int x5]) C (c_X8_ruleAt l g x5 _ h) s_X8_ruleAt ml8_116 ⟨Nat.le_of_ble_eq_true rfl, Nat.le_of_ble_eq_true rfl⟩ ⟨Nat.zero_le _, Nat.zero_le _⟩ (Nat.le_of_ble_eq_true rfl) rfl dX8_steers_47 ?_
    intro r123 h
    refine z_istore (lv1 := [(8, .int r123), (7, .int r122), (0, .ref (ad 0)), (1, .int x1), (2, .int x2), (3, .int x3), (5, .int x5), (6, .int x6)]) C dX8_steers_50 (by decide) rfl ?_
    refine z_aload_n C dX8_steers_52 rfl 2 rfl ?_
    refine gR_row C dX8_steers_53 ?_
    refine z_iload C dX8_steers_56 1 rfl ?_
    refine z_iconst (v := 2) C dX8_steers_58 (by decide) ?_
    refine z_iadd C dX8_steers_59 ?_
    obtain ⟨hi124, h⟩ := h
    refine lR_row C hi124 dX8_steers_60 ?_
    refine z_aload_n C dX8_steers_61 rfl 2 rfl ?_
    refine gR_row C dX8_steers_62 ?_
    refine z_iload C dX8_steers_65 0 rfl ?_
    refine z_iconst (v := 2) C dX8_steers_67 (by decide) ?_
    refine z_iadd C dX8_steers_68 ?_
    obtain ⟨hi125, h⟩ := h
    refine lR_row C hi125 dX8_steers_69 ?_
    refine z_icmp_lt C dX8_steers_70 (tgt := 111) (by decide) (fun hc126 => ?_) (fun hc126 => ?_)
    · have h := h.1 hc126
      refine z_lv (lv1 := [(0, .ref (ad 0)), (1, .int x1), (2, .int x2), (3, .int x3), (6, .int x6)]) [2, 3, 4, 5, 7] rfl ?_
      exact b_X8_steers_111 C hr ad Q B31 hB31 u x1 x2 x3 x6 h
    · have h := h.2 hc126
      refine z_aload_n C dX8_steers_73 rfl 2 rfl ?_
      refine gR_row C dX8_steers_74 ?_
      refine z_iload C dX8_steers_77 1 rfl ?_
      refine z_iconst (v := 2) C dX8_steers_79 (by decide) ?_
      refine z_iadd C dX8_steers_80 ?_
      obtain ⟨hi128, h⟩ := h
      refine lR_row C hi128 dX8_steers_81 ?_
      refine z_aload_n C dX8_steers_82 rfl 2 rfl ?_
      refine gR_row C dX8_steers_83 ?_
      refine z_iload C dX8_steers_86 0 rfl ?_
      refine z_iconst (v := 2) C dX8_steers_88 (by decide) ?_
      refine z_iadd C dX8_steers_89 ?_
      obtain ⟨hi129, h⟩ := h
      refine lR_row C hi129 dX8_steers_90 ?_
      refine z_icmp_ne C dX8_steers_91 (tgt := 116) (by decide) (fun hc130 => ?_) (fun hc130 => ?_)
      · have h := h.1 hc130
        refine z_lv (lv1 := [(0, .ref (ad 0)), (1, .int x1), (2, .int x2), (3, .int x3), (5, .int x5), (6, .int x6)]) [2, 3, 4, 5, 6, 7] rfl ?_
        exact b_X8_steers_116 C hr ad Q B31 hB31 u x1 x2 x3 x5 x6 h
      · have h := h.2 hc130
        refine z_aload_n C dX8_steers_94 rfl 2 rfl ?_
        refine gR_row C dX8_steers_95 ?_
        refine z_iload C dX8_steers_98 1 rfl ?_
        obtain ⟨hi131, h⟩ := h
        refine lR_row C hi131 dX8_steers_100 ?_
        refine z_aload_n C dX8_steers_101 rfl 2 rfl ?_
        refine gR_row C dX8_steers_102 ?_
        refine z_iload C dX8_steers_105 0 rfl ?_
        obtain ⟨hi132, h⟩ := h
        refine lR_row C hi132 dX8_steers_107 ?_
        refine z_icmp_ge C dX8_steers_108 (tgt := 116) (by decide) (fun hc133 => ?_) (fun hc133 => ?_)
        · have h := h.1 hc133
          refine z_lv (lv1 := [(0, .ref (ad 0)), (1, .int x1), (2, .int x2), (3, .int x3), (5, .int x5), (6, .int x6)]) [2, 3, 4, 5, 6, 7] rfl ?_
          exact b_X8_steers_116 C hr ad Q B31 hB31 u x1 x2 x3 x5 x6 h
        · have h := h.2 hc133
          refine z_lv (lv1 := [(0, .ref (ad 0)), (1, .int x1), (2, .int x2), (3, .int x3), (6, .int x6)]) [2, 3, 4, 5, 7] rfl ?_
          exact b_X8_steers_111 C hr ad Q B31 hB31 u x1 x2 x3 x6 h
theorem l_X8_steers_31 (C : zC p s m args meth c g A cX8_steers RX8 9) (hr : meth.sig.returnType = (some .int)) (ad : Nat → Nat) (Q : Int32 → RS → Prop) : ∀ (n : Nat) (u : RS) (x1 : Int32) (x2 : Int32) (x3 : Int32) (x5 : Int32) (x6 : Int32), zit6 (wp_X8_steers_31 Q) n u x1 x2 x3 x5 x6 → j_X8_steers p l e s m args below meth c g A ad Q u 31 [(0, .ref (ad 0)), (1, .int x1), (2, .int x2), (3, .int x3), (5, .int x5), (6, .int x6)] [] := by
  intro n
  induction n with
  | zero => exact fun u x1 x2 x3 x5 x6 h => h.elim
  | succ n ih => exact fun u x1 x2 x3 x5 x6 h => b_X8_steers_31 C hr ad Q (zit6 (wp_X8_steers_31 Q) n) ih u x1 x2 x3 x5 x6 h
def wp_X8_steers (u : RS) (x1 : Int32) (x2 : Int32) (Q : Int32 → RS → Prop) : Prop :=
  wp_X8_ruleOf u x1 (fun r101 u102 => ((¬ r101 = (-1) → wp_X8_steers_144 Q u102 x1 x2 r101 (-1)) ∧ (r101 = (-1) → ((¬ u102.1 3 5 = 6 → wp_X8_steers_144 Q u102 x1 x2 r101 (-1)) ∧ (u102.1 3 5 = 6 → (∃ n, zit6 (wp_X8_steers_31 Q) n u102 x1 x2 r101 0 1))))))
set_option maxRecDepth 20000 in
theorem c_X8_steers (l : Launch) (g : zG) (ad : Nat → Nat) (u : RS) (x1 : Int32) (x2 : Int32) (Q : Int32 → RS → Prop) (h : wp_X8_steers u x1 x2 Q) : zMi l yX8_steers cX8_steers 9 (some .int) 2 0 0 g [.ref (ad 0), .int x1, .int x2] (wR g ad u) (wR g ad) Q := by
  refine zMi_of RX8 (by decide) rfl [(0, .ref (ad 0)), (1, .int x1), (2, .int x2)] rfl (Nat.le_of_ble_eq_true rfl) (fun p e s m args below meth c A C hr hnm => ?_)
  unfold wp_X8_steers at h
  refine z_aload_n C dX8_steers_0 rfl 0 rfl ?_
  refine z_iload_n C dX8_steers_1 rfl 1 rfl ?_
  refine cRi (As := [.int x1]) C (c_X8_ruleOf l g ad u x1 _ h) v_X8_ruleOf ml8_119 rfl ⟨Nat.le_of_ble_eq_true rfl, Nat.le_of_ble_eq_true rfl⟩ ⟨Nat.zero_le _, Nat.zero_le _⟩ (Nat.le_of_ble_eq_true rfl) rfl dX8_steers_2 ?_
  intro r101 u102 h
  refine z_istore_n (lv1 := [(3, .int r101), (0, .ref (ad 0)), (1, .int x1), (2, .int x2)]) C dX8_steers_5 rfl (by decide) rfl ?_
  refine z_iconst (v := (-1)) C dX8_steers_6 (by decide) ?_
  refine z_istore (lv1 := [(4, .int (-1)), (3, .int r101), (0, .ref (ad 0)), (1, .int x1), (2, .int x2)]) C dX8_steers_7 (by decide) rfl ?_
  refine z_iload_n C dX8_steers_9 rfl 1 rfl ?_
  refine z_iconst (v := (-1)) C dX8_steers_10 (by decide) ?_
  refine z_icmp_ne C dX8_steers_11 (tgt := 144) (by decide) (fun hc103 => ?_) (fun hc103 => ?_)
  · have h := h.1 hc103
    refine z_lv (lv1 := [(0, .ref (ad 0)), (1, .int x1), (2, .int x2), (3, .int r101), (4, .int (-1))]) [2, 3, 4, 1, 0] rfl ?_
    exact b_X8_steers_144 C hr ad Q u102 x1 x2 r101 (-1) h
  · have h := h.2 hc103
    refine z_aload_n C dX8_steers_14 rfl 2 rfl ?_
    refine gR_row C dX8_steers_15 ?_
    refine z_iconst (v := 5) C dX8_steers_18 (by decide) ?_
    refine lRn_row C 5 (by decide +kernel) (vp_in_iff.mpr (by decide +kernel)) dX8_steers_19 ?_
    refine z_bipush (v := 6) C dX8_steers_20 (by decide) ?_
    refine z_icmp_ne C dX8_steers_22 (tgt := 144) (by decide) (fun hc116 => ?_) (fun hc116 => ?_)
    · have h := h.1 hc116
      refine z_lv (lv1 := [(0, .ref (ad 0)), (1, .int x1), (2, .int x2), (3, .int r101), (4, .int (-1))]) [2, 3, 4, 1, 0] rfl ?_
      exact b_X8_steers_144 C hr ad Q u102 x1 x2 r101 (-1) h
    · have h := h.2 hc116
      refine z_iconst (v := 0) C dX8_steers_25 (by decide) ?_
      refine z_istore (lv1 := [(5, .int 0), (4, .int (-1)), (3, .int r101), (0, .ref (ad 0)), (1, .int x1), (2, .int x2)]) C dX8_steers_26 (by decide) rfl ?_
      refine z_iconst (v := 1) C dX8_steers_28 (by decide) ?_
      refine z_istore (lv1 := [(6, .int 1), (5, .int 0), (4, .int (-1)), (3, .int r101), (0, .ref (ad 0)), (1, .int x1), (2, .int x2)]) C dX8_steers_29 (by decide) rfl ?_
      refine z_lv (lv1 := [(0, .ref (ad 0)), (1, .int x1), (2, .int x2), (3, .int r101), (5, .int 0), (6, .int 1)]) [4, 5, 6, 3, 1, 0] rfl ?_
      obtain ⟨n9, h⟩ := h
      exact l_X8_steers_31 C hr ad Q n9 u102 x1 x2 r101 0 1 h
abbrev j_X8_free (p : Program) (l : Launch) (e : Env) (s : State) (m : MethodId) (args : Array Value) (below : List Frame) (meth : Method) (c : Code) (g : zG) (A : Nat → Prop) (ad : Nat → Nat) (Q : Int32 → RS → Prop) (u : RS) (pc : Nat) (lv : List (Nat × Value)) (st : List Value) : Prop := zJ p l e (zR 2 0 0) s m args below meth c g A 4 (zQi below args s g A 0 0 (wR g ad) Q) (wR g ad u) 0 0 pc lv st
def wp_X8_free_22 (Q : Int32 → RS → Prop) (u : RS) (t0 : Int32) : Prop :=
  ((¬ t0 = (-1) → wp_X8_remember u 6 (fun u106 => wp_X8_ruleAt t0 (fun r107 => vp_in (r107 + 1) 1065 ∧ ∀ x109 : Int32, x109 = u106.1 3 (zn (r107 + 1)) → wp_X8_dropRule u106 t0 (fun u110 => wp_X8_tell u110 x109 (fun r111 u112 => Q r111 u112))))) ∧ (t0 = (-1) → wp_X8_refuse u (-2) (fun r113 u114 => Q r113 u114)))
set_option maxRecDepth 20000 in
theorem b_X8_free_22 (C : zC p s m args meth c g A cX8_free RX8 4) (hr : meth.sig.returnType = (some .int)) (ad : Nat → Nat) (Q : Int32 → RS → Prop) (u : RS) (t0 : Int32) (h : wp_X8_free_22 Q u t0) : j_X8_free p l e s m args below meth c g A ad Q u 22 [(0, .ref (ad 0))] [.int t0] := by
  unfold wp_X8_free_22 at h
  refine z_istore_n (lv1 := [(2, .int t0), (0, .ref (ad 0))]) C dX8_free_22 rfl (by decide) rfl ?_
  refine z_iload_n C dX8_free_23 rfl 0 rfl ?_
  refine z_iconst (v := (-1)) C dX8_free_24 (by decide) ?_
  refine z_icmp_ne C dX8_free_25 (tgt := 35) (by decide) (fun hc105 => ?_) (fun hc105 => ?_)
  · have h := h.1 hc105
    refine z_aload_n C dX8_free_35 rfl 1 rfl ?_
    refine z_bipush (v := 6) C dX8_free_36 (by decide) ?_
    refine cRv (As := [.int 6]) C (c_X8_remember l g ad u 6 _ h) v_X8_remember ml8_129 rfl ⟨Nat.le_of_ble_eq_true rfl, Nat.le_of_ble_eq_true rfl⟩ ⟨Nat.zero_le _, Nat.zero_le _⟩ (Nat.le_of_ble_eq_true rfl) rfl dX8_free_38 ?_
    intro u106 h
    refine z_aload_n C dX8_free_41 rfl 1 rfl ?_
    refine gR_row C dX8_free_42 ?_
    refine z_iload_n C dX8_free_45 rfl 0 rfl ?_
    refine cSi (As := [.int t0]) C (c_X8_ruleAt l g t0 _ h) s_X8_ruleAt ml8_116 ⟨Nat.le_of_ble_eq_true rfl, Nat.le_of_ble_eq_true rfl⟩ ⟨Nat.zero_le _, Nat.zero_le _⟩ (Nat.le_of_ble_eq_true rfl) rfl dX8_free_46 ?_
    intro r107 h
    refine z_iconst (v := 1) C dX8_free_49 (by decide) ?_
    refine z_iadd C dX8_free_50 ?_
    obtain ⟨hi108, h⟩ := h
    refine lR_row C hi108 dX8_free_51 ?_
    refine z_topi (fun x109 ex109 => ?_)
    have h := h x109 ex109
    refine z_istore_n (lv1 := [(3, .int x109), (2, .int t0), (0, .ref (ad 0))]) C dX8_free_52 rfl (by decide) rfl ?_
    refine z_aload_n C dX8_free_53 rfl 2 rfl ?_
    refine z_iload_n C dX8_free_54 rfl 1 rfl ?_
    refine cRv (As := [.int t0]) C (c_X8_dropRule l g ad u106 t0 _ h) v_X8_dropRule ml8_167 rfl ⟨Nat.le_of_ble_eq_true rfl, Nat.le_of_ble_eq_true rfl⟩ ⟨Nat.zero_le _, Nat.zero_le _⟩ (Nat.le_of_ble_eq_true rfl) rfl dX8_free_55 ?_
    intro u110 h
    refine z_aload_n C dX8_free_58 rfl 2 rfl ?_
    refine z_iload_n C dX8_free_59 rfl 0 rfl ?_
    refine cRi (As := [.int x109]) C (c_X8_tell l g ad u110 x109 _ h) v_X8_tell ml8_81 rfl ⟨Nat.le_of_ble_eq_true rfl, Nat.le_of_ble_eq_true rfl⟩ ⟨Nat.zero_le _, Nat.zero_le _⟩ (Nat.le_of_ble_eq_true rfl) rfl dX8_free_60 ?_
    intro r111 u112 h
    exact z_iret C hr u112 rfl h dX8_free_63
  · have h := h.2 hc105
    refine z_aload_n C dX8_free_28 rfl 1 rfl ?_
    refine z_bipush (v := (-2)) C dX8_free_29 (by decide) ?_
    refine cRi (As := [.int (-2)]) C (c_X8_refuse l g ad u (-2) _ h) v_X8_refuse ml8_75 rfl ⟨Nat.le_of_ble_eq_true rfl, Nat.le_of_ble_eq_true rfl⟩ ⟨Nat.zero_le _, Nat.zero_le _⟩ (Nat.le_of_ble_eq_true rfl) rfl dX8_free_31 ?_
    intro r113 u114 h
    exact z_iret C hr u114 rfl h dX8_free_34
def wp_X8_free (u : RS) (x1 : Int32) (Q : Int32 → RS → Prop) : Prop :=
  ∀ u101 : RS, u101 = rN u 0 0 → wp_X8_isFlow u101 x1 (fun r102 u103 => ((r102 = 0 → wp_X8_free_22 Q u103 (-1)) ∧ (¬ r102 = 0 → wp_X8_ruleOf u103 x1 (fun r115 u116 => wp_X8_free_22 Q u116 r115))))
set_option maxRecDepth 20000 in
theorem c_X8_free (l : Launch) (g : zG) (ad : Nat → Nat) (u : RS) (x1 : Int32) (Q : Int32 → RS → Prop) (h : wp_X8_free u x1 Q) : zMi l yX8_free cX8_free 4 (some .int) 2 0 0 g [.ref (ad 0), .int x1] (wR g ad u) (wR g ad) Q := by
  refine zMi_of RX8 (by decide) rfl [(0, .ref (ad 0)), (1, .int x1)] rfl (Nat.le_of_ble_eq_true rfl) (fun p e s m args below meth c A C hr hnm => ?_)
  unfold wp_X8_free at h
  refine z_aload_n C dX8_free_0 rfl 0 rfl ?_
  refine z_iconst (v := 0) C dX8_free_1 (by decide) ?_
  refine pR_thrown C dX8_free_2 ?_
  refine z_stR (fun u101 eu101 => ?_)
  have h := h u101 eu101
  refine z_aload_n C dX8_free_5 rfl 0 rfl ?_
  refine z_iload_n C dX8_free_6 rfl 1 rfl ?_
  refine cRi (As := [.int x1]) C (c_X8_isFlow l g ad u101 x1 _ h) v_X8_isFlow ml8_164 rfl ⟨Nat.le_of_ble_eq_true rfl, Nat.le_of_ble_eq_true rfl⟩ ⟨Nat.zero_le _, Nat.zero_le _⟩ (Nat.le_of_ble_eq_true rfl) rfl dX8_free_7 ?_
  intro r102 u103 h
  refine z_if_eq C dX8_free_10 (tgt := 21) (by decide) (fun hc104 => ?_) (fun hc104 => ?_)
  · have h := h.1 hc104
    refine z_iconst (v := (-1)) C dX8_free_21 (by decide) ?_
    refine z_lv (lv1 := [(0, .ref (ad 0))]) [0] rfl ?_
    exact b_X8_free_22 C hr ad Q u103 (-1) h
  · have h := h.2 hc104
    refine z_aload_n C dX8_free_13 rfl 0 rfl ?_
    refine z_iload_n C dX8_free_14 rfl 1 rfl ?_
    refine cRi (As := [.int x1]) C (c_X8_ruleOf l g ad u103 x1 _ h) v_X8_ruleOf ml8_119 rfl ⟨Nat.le_of_ble_eq_true rfl, Nat.le_of_ble_eq_true rfl⟩ ⟨Nat.zero_le _, Nat.zero_le _⟩ (Nat.le_of_ble_eq_true rfl) rfl dX8_free_15 ?_
    intro r115 u116 h
    refine z_goto C dX8_free_18 (tgt := 22) (by decide) ?_
    refine z_lv (lv1 := [(0, .ref (ad 0))]) [0] rfl ?_
    exact b_X8_free_22 C hr ad Q u116 r115 h
abbrev j_X8_gap (p : Program) (l : Launch) (e : Env) (s : State) (m : MethodId) (args : Array Value) (below : List Frame) (meth : Method) (c : Code) (g : zG) (A : Nat → Prop) (ad : Nat → Nat) (Q : Int32 → RS → Prop) (u : RS) (pc : Nat) (lv : List (Nat × Value)) (st : List Value) : Prop := zJ p l e (zR 2 0 0) s m args below meth c g A 3 (zQi below args s g A 0 0 (wR g ad) Q) (wR g ad u) 0 0 pc lv st
def wp_X8_gap (u : RS) (x1 : Int32) (x2 : Int32) (Q : Int32 → RS → Prop) : Prop :=
  ∀ u101 : RS, u101 = rN u 0 0 → wp_X8_in ((x2).toInt64) 1 9999 (fun r102 => ((¬ r102 = 0 → wp_X8_isFlow u101 x1 (fun r104 u105 => ((¬ r104 = 0 → wp_X8_hasNext u105 x1 x2 (fun r107 u108 => ((¬ r107 = 0 → wp_X8_remember u108 10 (fun u110 => wp_X8_flowAt x1 (fun r111 => vp_in (r111 + 5) 1065 ∧ vp_in (r111 + 5) 1065 ∧ ∀ u114 : RS, u114 = rI u110 3 (upd (u110.1 3) (zn (r111 + 5)) ((u110.1 3 (zn (r111 + 5))) + x2)) → wp_X8_flowAt x1 (fun r115 => vp_in (r115 + 5) 1065 ∧ wp_X8_tell u114 (u114.1 3 (zn (r115 + 5))) (fun r117 u118 => Q r117 u118))))) ∧ (r107 = 0 → wp_X8_refuse u108 (-4) (fun r119 u120 => Q r119 u120))))) ∧ (r104 = 0 → wp_X8_refuse u105 (-2) (fun r121 u122 => Q r121 u122))))) ∧ (r102 = 0 → wp_X8_refuse u101 (-1) (fun r123 u124 => Q r123 u124))))
set_option maxRecDepth 20000 in
theorem c_X8_gap (l : Launch) (g : zG) (ad : Nat → Nat) (u : RS) (x1 : Int32) (x2 : Int32) (Q : Int32 → RS → Prop) (h : wp_X8_gap u x1 x2 Q) : zMi l yX8_gap cX8_gap 3 (some .int) 2 0 0 g [.ref (ad 0), .int x1, .int x2] (wR g ad u) (wR g ad) Q := by
  refine zMi_of RX8 (by decide) rfl [(0, .ref (ad 0)), (1, .int x1), (2, .int x2)] rfl (Nat.le_of_ble_eq_true rfl) (fun p e s m args below meth c A C hr hnm => ?_)
  unfold wp_X8_gap at h
  refine z_aload_n C dX8_gap_0 rfl 0 rfl ?_
  refine z_iconst (v := 0) C dX8_gap_1 (by decide) ?_
  refine pR_thrown C dX8_gap_2 ?_
  refine z_stR (fun u101 eu101 => ?_)
  have h := h u101 eu101
  refine z_iload_n C dX8_gap_5 rfl 2 rfl ?_
  refine z_i2l C dX8_gap_6 ?_
  refine z_lconst (v := 1) C dX8_gap_7 (by decide) ?_
  refine z_ldc2 (v := 9999) C dX8_gap_8 k8_177 ?_
  refine cSi (As := [.long ((x2).toInt64), .long 1, .long 9999]) C (c_X8_in l g ((x2).toInt64) 1 9999 _ h) s_X8_in ml8_84 ⟨Nat.le_of_ble_eq_true rfl, Nat.le_of_ble_eq_true rfl⟩ ⟨Nat.zero_le _, Nat.zero_le _⟩ (Nat.le_of_ble_eq_true rfl) rfl dX8_gap_11 ?_
  intro r102 h
  refine z_if_ne C dX8_gap_14 (tgt := 23) (by decide) (fun hc103 => ?_) (fun hc103 => ?_)
  · have h := h.1 hc103
    refine z_aload_n C dX8_gap_23 rfl 0 rfl ?_
    refine z_iload_n C dX8_gap_24 rfl 1 rfl ?_
    refine cRi (As := [.int x1]) C (c_X8_isFlow l g ad u101 x1 _ h) v_X8_isFlow ml8_164 rfl ⟨Nat.le_of_ble_eq_true rfl, Nat.le_of_ble_eq_true rfl⟩ ⟨Nat.zero_le _, Nat.zero_le _⟩ (Nat.le_of_ble_eq_true rfl) rfl dX8_gap_25 ?_
    intro r104 u105 h
    refine z_if_ne C dX8_gap_28 (tgt := 38) (by decide) (fun hc106 => ?_) (fun hc106 => ?_)
    · have h := h.1 hc106
      refine z_aload_n C dX8_gap_38 rfl 0 rfl ?_
      refine z_iload_n C dX8_gap_39 rfl 1 rfl ?_
      refine z_iload_n C dX8_gap_40 rfl 2 rfl ?_
      refine cRi (As := [.int x1, .int x2]) C (c_X8_hasNext l g ad u105 x1 x2 _ h) v_X8_hasNext ml8_198 rfl ⟨Nat.le_of_ble_eq_true rfl, Nat.le_of_ble_eq_true rfl⟩ ⟨Nat.zero_le _, Nat.zero_le _⟩ (Nat.le_of_ble_eq_true rfl) rfl dX8_gap_41 ?_
      intro r107 u108 h
      refine z_if_ne C dX8_gap_44 (tgt := 54) (by decide) (fun hc109 => ?_) (fun hc109 => ?_)
      · have h := h.1 hc109
        refine z_aload_n C dX8_gap_54 rfl 0 rfl ?_
        refine z_bipush (v := 10) C dX8_gap_55 (by decide) ?_
        refine cRv (As := [.int 10]) C (c_X8_remember l g ad u108 10 _ h) v_X8_remember ml8_129 rfl ⟨Nat.le_of_ble_eq_true rfl, Nat.le_of_ble_eq_true rfl⟩ ⟨Nat.zero_le _, Nat.zero_le _⟩ (Nat.le_of_ble_eq_true rfl) rfl dX8_gap_57 ?_
        intro u110 h
        refine z_aload_n C dX8_gap_60 rfl 0 rfl ?_
        refine gR_row C dX8_gap_61 ?_
        refine z_iload_n C dX8_gap_64 rfl 1 rfl ?_
        refine cSi (As := [.int x1]) C (c_X8_flowAt l g x1 _ h) s_X8_flowAt ml8_102 ⟨Nat.le_of_ble_eq_true rfl, Nat.le_of_ble_eq_true rfl⟩ ⟨Nat.zero_le _, Nat.zero_le _⟩ (Nat.le_of_ble_eq_true rfl) rfl dX8_gap_65 ?_
        intro r111 h
        refine z_iconst (v := 5) C dX8_gap_68 (by decide) ?_
        refine z_iadd C dX8_gap_69 ?_
        refine z_dup2 C dX8_gap_70 rfl rfl ?_
        obtain ⟨hi112, h⟩ := h
        refine lR_row C hi112 dX8_gap_71 ?_
        refine z_iload_n C dX8_gap_72 rfl 2 rfl ?_
        refine z_iadd C dX8_gap_73 ?_
        obtain ⟨hi113, h⟩ := h
        refine sR_row C hi113 dX8_gap_74 ?_
        refine z_stR (fun u114 eu114 => ?_)
        have h := h u114 eu114
        refine z_aload_n C dX8_gap_75 rfl 0 rfl ?_
        refine z_aload_n C dX8_gap_76 rfl 0 rfl ?_
        refine gR_row C dX8_gap_77 ?_
        refine z_iload_n C dX8_gap_80 rfl 1 rfl ?_
        refine cSi (As := [.int x1]) C (c_X8_flowAt l g x1 _ h) s_X8_flowAt ml8_102 ⟨Nat.le_of_ble_eq_true rfl, Nat.le_of_ble_eq_true rfl⟩ ⟨Nat.zero_le _, Nat.zero_le _⟩ (Nat.le_of_ble_eq_true rfl) rfl dX8_gap_81 ?_
        intro r115 h
        refine z_iconst (v := 5) C dX8_gap_84 (by decide) ?_
        refine z_iadd C dX8_gap_85 ?_
        obtain ⟨hi116, h⟩ := h
        refine lR_row C hi116 dX8_gap_86 ?_
        refine cRi (As := [.int (u114.1 3 (zn (r115 + 5)))]) C (c_X8_tell l g ad u114 (u114.1 3 (zn (r115 + 5))) _ h) v_X8_tell ml8_81 rfl ⟨Nat.le_of_ble_eq_true rfl, Nat.le_of_ble_eq_true rfl⟩ ⟨Nat.zero_le _, Nat.zero_le _⟩ (Nat.le_of_ble_eq_true rfl) rfl dX8_gap_87 ?_
        intro r117 u118 h
        exact z_iret C hr u118 rfl h dX8_gap_90
      · have h := h.2 hc109
        refine z_aload_n C dX8_gap_47 rfl 0 rfl ?_
        refine z_bipush (v := (-4)) C dX8_gap_48 (by decide) ?_
        refine cRi (As := [.int (-4)]) C (c_X8_refuse l g ad u108 (-4) _ h) v_X8_refuse ml8_75 rfl ⟨Nat.le_of_ble_eq_true rfl, Nat.le_of_ble_eq_true rfl⟩ ⟨Nat.zero_le _, Nat.zero_le _⟩ (Nat.le_of_ble_eq_true rfl) rfl dX8_gap_50 ?_
        intro r119 u120 h
        exact z_iret C hr u120 rfl h dX8_gap_53
    · have h := h.2 hc106
      refine z_aload_n C dX8_gap_31 rfl 0 rfl ?_
      refine z_bipush (v := (-2)) C dX8_gap_32 (by decide) ?_
      refine cRi (As := [.int (-2)]) C (c_X8_refuse l g ad u105 (-2) _ h) v_X8_refuse ml8_75 rfl ⟨Nat.le_of_ble_eq_true rfl, Nat.le_of_ble_eq_true rfl⟩ ⟨Nat.zero_le _, Nat.zero_le _⟩ (Nat.le_of_ble_eq_true rfl) rfl dX8_gap_34 ?_
      intro r121 u122 h
      exact z_iret C hr u122 rfl h dX8_gap_37
  · have h := h.2 hc103
    refine z_aload_n C dX8_gap_17 rfl 0 rfl ?_
    refine z_iconst (v := (-1)) C dX8_gap_18 (by decide) ?_
    refine cRi (As := [.int (-1)]) C (c_X8_refuse l g ad u101 (-1) _ h) v_X8_refuse ml8_75 rfl ⟨Nat.le_of_ble_eq_true rfl, Nat.le_of_ble_eq_true rfl⟩ ⟨Nat.zero_le _, Nat.zero_le _⟩ (Nat.le_of_ble_eq_true rfl) rfl dX8_gap_19 ?_
    intro r123 u124 h
    exact z_iret C hr u124 rfl h dX8_gap_22
abbrev j_X8_hashOf (p : Program) (l : Launch) (e : Env) (s : State) (m : MethodId) (args : Array Value) (below : List Frame) (meth : Method) (c : Code) (g : zG) (A : Nat → Prop) (ad : Nat → Nat) (Q : Int32 → RS → Prop) (u : RS) (pc : Nat) (lv : List (Nat × Value)) (st : List Value) : Prop := zJ p l e (zR 2 0 0) s m args below meth c g A 2 (zQi below args s g A 0 0 (wR g ad) Q) (wR g ad u) 0 0 pc lv st
def wp_X8_hashOf_29 (Q : Int32 → RS → Prop) (u : RS) (t0 : Int32) : Prop :=
  Q t0 u
set_option maxRecDepth 20000 in
theorem b_X8_hashOf_29 (C : zC p s m args meth c g A cX8_hashOf RX8 2) (hr : meth.sig.returnType = (some .int)) (ad : Nat → Nat) (Q : Int32 → RS → Prop) (u : RS) (t0 : Int32) (h : wp_X8_hashOf_29 Q u t0) : j_X8_hashOf p l e s m args below meth c g A ad Q u 29 [(0, .ref (ad 0))] [.int t0] := by
  unfold wp_X8_hashOf_29 at h
  exact z_iret C hr u rfl h dX8_hashOf_29
def wp_X8_hashOf (u : RS) (x1 : Int32) (Q : Int32 → RS → Prop) : Prop :=
  ∀ u101 : RS, u101 = rN u 0 0 → wp_X8_isFlow u101 x1 (fun r102 u103 => ((r102 = 0 → wp_X8_hashOf_29 Q u103 0) ∧ (¬ r102 = 0 → wp_X8_flowAt x1 (fun r105 => vp_in (r105 + 14) 1065 ∧ wp_X8_hashOf_29 Q u103 (u103.1 3 (zn (r105 + 14)))))))
set_option maxRecDepth 20000 in
theorem c_X8_hashOf (l : Launch) (g : zG) (ad : Nat → Nat) (u : RS) (x1 : Int32) (Q : Int32 → RS → Prop) (h : wp_X8_hashOf u x1 Q) : zMi l yX8_hashOf cX8_hashOf 2 (some .int) 2 0 0 g [.ref (ad 0), .int x1] (wR g ad u) (wR g ad) Q := by
  refine zMi_of RX8 (by decide) rfl [(0, .ref (ad 0)), (1, .int x1)] rfl (Nat.le_of_ble_eq_true rfl) (fun p e s m args below meth c A C hr hnm => ?_)
  unfold wp_X8_hashOf at h
  refine z_aload_n C dX8_hashOf_0 rfl 0 rfl ?_
  refine z_iconst (v := 0) C dX8_hashOf_1 (by decide) ?_
  refine pR_thrown C dX8_hashOf_2 ?_
  refine z_stR (fun u101 eu101 => ?_)
  have h := h u101 eu101
  refine z_aload_n C dX8_hashOf_5 rfl 0 rfl ?_
  refine z_iload_n C dX8_hashOf_6 rfl 1 rfl ?_
  refine cRi (As := [.int x1]) C (c_X8_isFlow l g ad u101 x1 _ h) v_X8_isFlow ml8_164 rfl ⟨Nat.le_of_ble_eq_true rfl, Nat.le_of_ble_eq_true rfl⟩ ⟨Nat.zero_le _, Nat.zero_le _⟩ (Nat.le_of_ble_eq_true rfl) rfl dX8_hashOf_7 ?_
  intro r102 u103 h
  refine z_if_eq C dX8_hashOf_10 (tgt := 28) (by decide) (fun hc104 => ?_) (fun hc104 => ?_)
  · have h := h.1 hc104
    refine z_iconst (v := 0) C dX8_hashOf_28 (by decide) ?_
    refine z_lv (lv1 := [(0, .ref (ad 0))]) [0] rfl ?_
    exact b_X8_hashOf_29 C hr ad Q u103 0 h
  · have h := h.2 hc104
    refine z_aload_n C dX8_hashOf_13 rfl 0 rfl ?_
    refine gR_row C dX8_hashOf_14 ?_
    refine z_iload_n C dX8_hashOf_17 rfl 1 rfl ?_
    refine cSi (As := [.int x1]) C (c_X8_flowAt l g x1 _ h) s_X8_flowAt ml8_102 ⟨Nat.le_of_ble_eq_true rfl, Nat.le_of_ble_eq_true rfl⟩ ⟨Nat.zero_le _, Nat.zero_le _⟩ (Nat.le_of_ble_eq_true rfl) rfl dX8_hashOf_18 ?_
    intro r105 h
    refine z_bipush (v := 14) C dX8_hashOf_21 (by decide) ?_
    refine z_iadd C dX8_hashOf_23 ?_
    obtain ⟨hi106, h⟩ := h
    refine lR_row C hi106 dX8_hashOf_24 ?_
    refine z_goto C dX8_hashOf_25 (tgt := 29) (by decide) ?_
    refine z_lv (lv1 := [(0, .ref (ad 0))]) [0] rfl ?_
    exact b_X8_hashOf_29 C hr ad Q u103 (u103.1 3 (zn (r105 + 14))) h
abbrev j_X8_missing (p : Program) (l : Launch) (e : Env) (s : State) (m : MethodId) (args : Array Value) (below : List Frame) (meth : Method) (c : Code) (g : zG) (A : Nat → Prop) (ad : Nat → Nat) (Q : Int32 → RS → Prop) (u : RS) (pc : Nat) (lv : List (Nat × Value)) (st : List Value) : Prop := zJ p l e (zR 2 0 0) s m args below meth c g A 10 (zQi below args s g A 0 0 (wR g ad) Q) (wR g ad u) 0 0 pc lv st
def wp_X8_missing_23 (Q : Int32 → RS → Prop) (u : RS) : Prop :=
  Q (-1) u
set_option maxRecDepth 20000 in
theorem b_X8_missing_23 (C : zC p s m args meth c g A cX8_missing RX8 10) (hr : meth.sig.returnType = (some .int)) (ad : Nat → Nat) (Q : Int32 → RS → Prop) (u : RS) (h : wp_X8_missing_23 Q u) : j_X8_missing p l e s m args below meth c g A ad Q u 23 [(0, .ref (ad 0))] [] := by
  unfold wp_X8_missing_23 at h
  refine z_iconst (v := (-1)) C dX8_missing_23 (by decide) ?_
  exact z_iret C hr u rfl h dX8_missing_24
def wp_X8_missing_241 (Q : Int32 → RS → Prop) (u : RS) (t0 : Int32) : Prop :=
  Q t0 u
set_option maxRecDepth 20000 in
theorem b_X8_missing_241 (C : zC p s m args meth c g A cX8_missing RX8 10) (hr : meth.sig.returnType = (some .int)) (ad : Nat → Nat) (Q : Int32 → RS → Prop) (u : RS) (t0 : Int32) (h : wp_X8_missing_241 Q u t0) : j_X8_missing p l e s m args below meth c g A ad Q u 241 [(0, .ref (ad 0))] [.int t0] := by
  unfold wp_X8_missing_241 at h
  exact z_iret C hr u rfl h dX8_missing_241
def wp_X8_missing_209 (Q : Int32 → RS → Prop) (u : RS) (x2 : Int32) (x3 : Int32) (x4 : Int32) (t0 : Int32) : Prop :=
  ((¬ x2 = 0 → wp_X8_missing_241 Q u t0) ∧ (x2 = 0 → vp_in (x3 + 5) 1065 ∧ vp_in (x3 + 13) 1065 ∧ wp_X8_missing_241 Q u (((u.1 3 (zn (x3 + 5))) - (u.1 3 (zn (x3 + 13)))) - x4)))
set_option maxRecDepth 20000 in
theorem b_X8_missing_209 (C : zC p s m args meth c g A cX8_missing RX8 10) (hr : meth.sig.returnType = (some .int)) (ad : Nat → Nat) (Q : Int32 → RS → Prop) (u : RS) (x2 : Int32) (x3 : Int32) (x4 : Int32) (t0 : Int32) (h : wp_X8_missing_209 Q u x2 x3 x4 t0) : j_X8_missing p l e s m args below meth c g A ad Q u 209 [(0, .ref (ad 0)), (2, .int x2), (3, .int x3), (4, .int x4)] [.int t0] := by
  unfold wp_X8_missing_209 at h
  refine z_istore (lv1 := [(6, .int t0), (0, .ref (ad 0)), (2, .int x2), (3, .int x3), (4, .int x4)]) C dX8_missing_209 (by decide) rfl ?_
  refine z_iload_n C dX8_missing_211 rfl 2 rfl ?_
  refine z_if_ne C dX8_missing_212 (tgt := 239) (by decide) (fun hc113 => ?_) (fun hc113 => ?_)
  · have h := h.1 hc113
    refine z_iload C dX8_missing_239 0 rfl ?_
    refine z_lv (lv1 := [(0, .ref (ad 0))]) [1] rfl ?_
    exact b_X8_missing_241 C hr ad Q u t0 h
  · have h := h.2 hc113
    refine z_aload_n C dX8_missing_215 rfl 1 rfl ?_
    refine gR_row C dX8_missing_216 ?_
    refine z_iload_n C dX8_missing_219 rfl 3 rfl ?_
    refine z_iconst (v := 5) C dX8_missing_220 (by decide) ?_
    refine z_iadd C dX8_missing_221 ?_
    obtain ⟨hi114, h⟩ := h
    refine lR_row C hi114 dX8_missing_222 ?_
    refine z_aload_n C dX8_missing_223 rfl 1 rfl ?_
    refine gR_row C dX8_missing_224 ?_
    refine z_iload_n C dX8_missing_227 rfl 3 rfl ?_
    refine z_bipush (v := 13) C dX8_missing_228 (by decide) ?_
    refine z_iadd C dX8_missing_230 ?_
    obtain ⟨hi115, h⟩ := h
    refine lR_row C hi115 dX8_missing_231 ?_
    refine z_isub C dX8_missing_232 ?_
    refine z_iload C dX8_missing_233 4 rfl ?_
    refine z_isub C dX8_missing_235 ?_
    refine z_goto C dX8_missing_236 (tgt := 241) (by decide) ?_
    refine z_lv (lv1 := [(0, .ref (ad 0))]) [1] rfl ?_
    exact b_X8_missing_241 C hr ad Q u (((u.1 3 (zn (x3 + 5))) - (u.1 3 (zn (x3 + 13)))) - x4) h
def wp_X8_missing_165 (Q : Int32 → RS → Prop) (B50 : RS → Int32 → Int32 → Int32 → Int32 → Int32 → Int32 → Int32 → Prop) (B59 : RS → Int32 → Int32 → Int32 → Int32 → Int32 → Int32 → Int32 → Int32 → Prop) (u : RS) (x1 : Int32) (x2 : Int32) (x3 : Int32) (x4 : Int32) (x5 : Int32) (x6 : Int32) (x7 : Int32) (x8 : Int32) : Prop :=
  ∀ x124 : Int32, x124 = x8 + 1 → B59 u x1 x2 x3 x4 x5 x6 x7 x124
set_option maxRecDepth 20000 in
theorem b_X8_missing_165 (C : zC p s m args meth c g A cX8_missing RX8 10) (hr : meth.sig.returnType = (some .int)) (ad : Nat → Nat) (Q : Int32 → RS → Prop) (B50 : RS → Int32 → Int32 → Int32 → Int32 → Int32 → Int32 → Int32 → Prop) (hB50 : ∀ (u : RS) (x1 : Int32) (x2 : Int32) (x3 : Int32) (x4 : Int32) (x5 : Int32) (x6 : Int32) (x7 : Int32), B50 u x1 x2 x3 x4 x5 x6 x7 → j_X8_missing p l e s m args below meth c g A ad Q u 50 [(0, .ref (ad 0)), (1, .int x1), (2, .int x2), (3, .int x3), (4, .int x4), (5, .int x5), (6, .int x6), (7, .int x7)] []) (B59 : RS → Int32 → Int32 → Int32 → Int32 → Int32 → Int32 → Int32 → Int32 → Prop) (hB59 : ∀ (u : RS) (x1 : Int32) (x2 : Int32) (x3 : Int32) (x4 : Int32) (x5 : Int32) (x6 : Int32) (x7 : Int32) (x8 : Int32), B59 u x1 x2 x3 x4 x5 x6 x7 x8 → j_X8_missing p l e s m args below meth c g A ad Q u 59 [(0, .ref (ad 0)), (1, .int x1), (2, .int x2), (3, .int x3), (4, .int x4), (5, .int x5), (6, .int x6), (7, .int x7), (8, .int x8)] []) (u : RS) (x1 : Int32) (x2 : Int32) (x3 : Int32) (x4 : Int32) (x5 : Int32) (x6 : Int32) (x7 : Int32) (x8 : Int32) (h : wp_X8_missing_165 Q B50 B59 u x1 x2 x3 x4 x5 x6 x7 x8) : j_X8_missing p l e s m args below meth c g A ad Q u 165 [(0, .ref (ad 0)), (1, .int x1), (2, .int x2), (3, .int x3), (4, .int x4), (5, .int x5), (6, .int x6), (7, .int x7), (8, .int x8)] [] := by
  unfold wp_X8_missing_165 at h
  obtain ⟨x124, ex124⟩ : ∃ y : Int32, y = x8 + 1 := ⟨_, rfl⟩
  have h := h x124 ex124
  refine z_iinc (v := x124) (lv1 := [(8, .int x124), (0, .ref (ad 0)), (1, .int x1), (2, .int x2), (3, .int x3), (4, .int x4), (5, .int x5), (6, .int x6), (7, .int x7)]) C dX8_missing_165 8 rfl (by rw [ex124]; rfl) (by decide) rfl ?_
  refine z_goto C dX8_missing_168 (tgt := 59) (by decide) ?_
  refine z_lv (lv1 := [(0, .ref (ad 0)), (1, .int x1), (2, .int x2), (3, .int x3), (4, .int x4), (5, .int x5), (6, .int x6), (7, .int x7), (8, .int x124)]) [1, 2, 3, 4, 5, 6, 7, 8, 0] rfl ?_
  exact hB59 u x1 x2 x3 x4 x5 x6 x7 x124 h
def wp_X8_missing_128 (Q : Int32 → RS → Prop) (B50 : RS → Int32 → Int32 → Int32 → Int32 → Int32 → Int32 → Int32 → Prop) (B59 : RS → Int32 → Int32 → Int32 → Int32 → Int32 → Int32 → Int32 → Int32 → Prop) (u : RS) (x1 : Int32) (x2 : Int32) (x3 : Int32) (x4 : Int32) (x7 : Int32) (x8 : Int32) (x9 : Int32) (t0 : Int32) : Prop :=
  vp_in (x9 + 1) 1065 ∧ vp_in (x9 + 2) 1065 ∧ ∀ x129 : Int32, x129 = (u.1 3 (zn (x9 + 1))) + (u.1 3 (zn (x9 + 2))) → vp_in (x9 + 2) 1065 ∧ ∀ x131 : Int32, x131 = x4 + (u.1 3 (zn (x9 + 2))) → wp_X8_missing_165 Q B50 B59 u x1 x2 x3 x131 x129 t0 x7 x8
set_option maxRecDepth 20000 in
theorem b_X8_missing_128 (C : zC p s m args meth c g A cX8_missing RX8 10) (hr : meth.sig.returnType = (some .int)) (ad : Nat → Nat) (Q : Int32 → RS → Prop) (B50 : RS → Int32 → Int32 → Int32 → Int32 → Int32 → Int32 → Int32 → Prop) (hB50 : ∀ (u : RS) (x1 : Int32) (x2 : Int32) (x3 : Int32) (x4 : Int32) (x5 : Int32) (x6 : Int32) (x7 : Int32), B50 u x1 x2 x3 x4 x5 x6 x7 → j_X8_missing p l e s m args below meth c g A ad Q u 50 [(0, .ref (ad 0)), (1, .int x1), (2, .int x2), (3, .int x3), (4, .int x4), (5, .int x5), (6, .int x6), (7, .int x7)] []) (B59 : RS → Int32 → Int32 → Int32 → Int32 → Int32 → Int32 → Int32 → Int32 → Prop) (hB59 : ∀ (u : RS) (x1 : Int32) (x2 : Int32) (x3 : Int32) (x4 : Int32) (x5 : Int32) (x6 : Int32) (x7 : Int32) (x8 : Int32), B59 u x1 x2 x3 x4 x5 x6 x7 x8 → j_X8_missing p l e s m args below meth c g A ad Q u 59 [(0, .ref (ad 0)), (1, .int x1), (2, .int x2), (3, .int x3), (4, .int x4), (5, .int x5), (6, .int x6), (7, .int x7), (8, .int x8)] []) (u : RS) (x1 : Int32) (x2 : Int32) (x3 : Int32) (x4 : Int32) (x7 : Int32) (x8 : Int32) (x9 : Int32) (t0 : Int32) (h : wp_X8_missing_128 Q B50 B59 u x1 x2 x3 x4 x7 x8 x9 t0) : j_X8_missing p l e s m args below meth c g A ad Q u 128 [(0, .ref (ad 0)), (1, .int x1), (2, .int x2), (3, .int x3), (4, .int x4), (7, .int x7), (8, .int x8), (9, .int x9)] [.int t0] := by
  unfold wp_X8_missing_128 at h
  refine z_istore (lv1 := [(6, .int t0), (0, .ref (ad 0)), (1, .int x1), (2, .int x2), (3, .int x3), (4, .int x4), (7, .int x7), (8, .int x8), (9, .int x9)]) C dX8_missing_128 (by decide) rfl ?_
  refine z_aload_n C dX8_missing_130 rfl 1 rfl ?_
  refine gR_row C dX8_missing_131 ?_
  refine z_iload C dX8_missing_134 8 rfl ?_
  refine z_iconst (v := 1) C dX8_missing_136 (by decide) ?_
  refine z_iadd C dX8_missing_137 ?_
  obtain ⟨hi127, h⟩ := h
  refine lR_row C hi127 dX8_missing_138 ?_
  refine z_aload_n C dX8_missing_139 rfl 1 rfl ?_
  refine gR_row C dX8_missing_140 ?_
  refine z_iload C dX8_missing_143 8 rfl ?_
  refine z_iconst (v := 2) C dX8_missing_145 (by decide) ?_
  refine z_iadd C dX8_missing_146 ?_
  obtain ⟨hi128, h⟩ := h
  refine lR_row C hi128 dX8_missing_147 ?_
  refine z_iadd C dX8_missing_148 ?_
  refine z_topi (fun x129 ex129 => ?_)
  have h := h x129 ex129
  refine z_istore (lv1 := [(5, .int x129), (6, .int t0), (0, .ref (ad 0)), (1, .int x1), (2, .int x2), (3, .int x3), (4, .int x4), (7, .int x7), (8, .int x8), (9, .int x9)]) C dX8_missing_149 (by decide) rfl ?_
  refine z_iload C dX8_missing_151 6 rfl ?_
  refine z_aload_n C dX8_missing_153 rfl 2 rfl ?_
  refine gR_row C dX8_missing_154 ?_
  refine z_iload C dX8_missing_157 9 rfl ?_
  refine z_iconst (v := 2) C dX8_missing_159 (by decide) ?_
  refine z_iadd C dX8_missing_160 ?_
  obtain ⟨hi130, h⟩ := h
  refine lR_row C hi130 dX8_missing_161 ?_
  refine z_iadd C dX8_missing_162 ?_
  refine z_topi (fun x131 ex131 => ?_)
  have h := h x131 ex131
  refine z_istore (lv1 := [(4, .int x131), (5, .int x129), (6, .int t0), (0, .ref (ad 0)), (1, .int x1), (2, .int x2), (3, .int x3), (7, .int x7), (8, .int x8), (9, .int x9)]) C dX8_missing_163 (by decide) rfl ?_
  refine z_lv (lv1 := [(0, .ref (ad 0)), (1, .int x1), (2, .int x2), (3, .int x3), (4, .int x131), (5, .int x129), (6, .int t0), (7, .int x7), (8, .int x8)]) [3, 4, 5, 6, 0, 1, 2, 7, 8] rfl ?_
  exact b_X8_missing_165 C hr ad Q B50 hB50 B59 hB59 u x1 x2 x3 x131 x129 t0 x7 x8 h
def wp_X8_missing_59 (Q : Int32 → RS → Prop) (B50 : RS → Int32 → Int32 → Int32 → Int32 → Int32 → Int32 → Int32 → Prop) (B59 : RS → Int32 → Int32 → Int32 → Int32 → Int32 → Int32 → Int32 → Int32 → Prop) (u : RS) (x1 : Int32) (x2 : Int32) (x3 : Int32) (x4 : Int32) (x5 : Int32) (x6 : Int32) (x7 : Int32) (x8 : Int32) : Prop :=
  wp_X8_queueAt x7 (fun r117 => vp_in r117 1065 ∧ ((u.1 3 (zn r117) ≤ x8 → ∀ x120 : Int32, x120 = x7 + 1 → B50 u x1 x2 x3 x4 x5 x6 x120) ∧ (¬ u.1 3 (zn r117) ≤ x8 → wp_X8_packetAt x7 x8 (fun r121 => vp_in r121 1065 ∧ ((¬ u.1 3 (zn r121) = x1 → wp_X8_missing_165 Q B50 B59 u x1 x2 x3 x4 x5 x6 x7 x8) ∧ (u.1 3 (zn r121) = x1 → vp_in (r121 + 1) 1065 ∧ (((u.1 3 (zn (r121 + 1))) - x5 ≤ x6 → wp_X8_missing_128 Q B50 B59 u x1 x2 x3 x4 x7 x8 r121 x6) ∧ (¬ (u.1 3 (zn (r121 + 1))) - x5 ≤ x6 → vp_in (r121 + 1) 1065 ∧ wp_X8_missing_128 Q B50 B59 u x1 x2 x3 x4 x7 x8 r121 ((u.1 3 (zn (r121 + 1))) - x5)))))))))
set_option maxRecDepth 20000 in
theorem b_X8_missing_59 (C : zC p s m args meth c g A cX8_missing RX8 10) (hr : meth.sig.returnType = (some .int)) (ad : Nat → Nat) (Q : Int32 → RS → Prop) (B50 : RS → Int32 → Int32 → Int32 → Int32 → Int32 → Int32 → Int32 → Prop) (hB50 : ∀ (u : RS) (x1 : Int32) (x2 : Int32) (x3 : Int32) (x4 : Int32) (x5 : Int32) (x6 : Int32) (x7 : Int32), B50 u x1 x2 x3 x4 x5 x6 x7 → j_X8_missing p l e s m args below meth c g A ad Q u 50 [(0, .ref (ad 0)), (1, .int x1), (2, .int x2), (3, .int x3), (4, .int x4), (5, .int x5), (6, .int x6), (7, .int x7)] []) (B59 : RS → Int32 → Int32 → Int32 → Int32 → Int32 → Int32 → Int32 → Int32 → Prop) (hB59 : ∀ (u : RS) (x1 : Int32) (x2 : Int32) (x3 : Int32) (x4 : Int32) (x5 : Int32) (x6 : Int32) (x7 : Int32) (x8 : Int32), B59 u x1 x2 x3 x4 x5 x6 x7 x8 → j_X8_missing p l e s m args below meth c g A ad Q u 59 [(0, .ref (ad 0)), (1, .int x1), (2, .int x2), (3, .int x3), (4, .int x4), (5, .int x5), (6, .int x6), (7, .int x7), (8, .int x8)] []) (u : RS) (x1 : Int32) (x2 : Int32) (x3 : Int32) (x4 : Int32) (x5 : Int32) (x6 : Int32) (x7 : Int32) (x8 : Int32) (h : wp_X8_missing_59 Q B50 B59 u x1 x2 x3 x4 x5 x6 x7 x8) : j_X8_missing p l e s m args below meth c g A ad Q u 59 [(0, .ref (ad 0)), (1, .int x1), (2, .int x2), (3, .int x3), (4, .int x4), (5, .int x5), (6, .int x6), (7, .int x7), (8, .int x8)] [] := by
  unfold wp_X8_missing_59 at h
  refine z_iload C dX8_missing_59 8 rfl ?_
  refine z_aload_n C dX8_missing_61 rfl 0 rfl ?_
  refine gR_row C dX8_missing_62 ?_
  refine z_iload C dX8_missing_65 7 rfl ?_
  refine cSi (As := [.int x7]) C (c_X8_queueAt l g x7 _ h) s_X8_queueAt ml8_57 ⟨Nat.le_of_ble_eq_true rfl, Nat.le_of_ble_eq_true rfl⟩ ⟨Nat.zero_le _, Nat.zero_le _⟩ (Nat.le_of_ble_eq_true rfl) rfl dX8_missing_67 ?_
  intro r117 h
  obtain ⟨hi118, h⟩ := h
  refine lR_row C hi118 dX8_missing_70 ?_
  refine z_icmp_ge C dX8_missing_71 (tgt := 171) (by decide) (fun hc119 => ?_) (fun hc119 => ?_)
  · have h := h.1 hc119
    obtain ⟨x120, ex120⟩ : ∃ y : Int32, y = x7 + 1 := ⟨_, rfl⟩
    have h := h x120 ex120
    refine z_iinc (v := x120) (lv1 := [(7, .int x120), (0, .ref (ad 0)), (1, .int x1), (2, .int x2), (3, .int x3), (4, .int x4), (5, .int x5), (6, .int x6), (8, .int x8)]) C dX8_missing_171 7 rfl (by rw [ex120]; rfl) (by decide) rfl ?_
    refine z_goto C dX8_missing_174 (tgt := 50) (by decide) ?_
    refine z_lv (lv1 := [(0, .ref (ad 0)), (1, .int x1), (2, .int x2), (3, .int x3), (4, .int x4), (5, .int x5), (6, .int x6), (7, .int x120)]) [1, 2, 3, 4, 5, 6, 7, 0] rfl ?_
    exact hB50 u x1 x2 x3 x4 x5 x6 x120 h
  · have h := h.2 hc119
    refine z_iload C dX8_missing_74 7 rfl ?_
    refine z_iload C dX8_missing_76 8 rfl ?_
    refine cSi (As := [.int x7, .int x8]) C (c_X8_packetAt l g x7 x8 _ h) s_X8_packetAt ml8_125 ⟨Nat.le_of_ble_eq_true rfl, Nat.le_of_ble_eq_true rfl⟩ ⟨Nat.zero_le _, Nat.zero_le _⟩ (Nat.le_of_ble_eq_true rfl) rfl dX8_missing_78 ?_
    intro r121 h
    refine z_istore (lv1 := [(9, .int r121), (0, .ref (ad 0)), (1, .int x1), (2, .int x2), (3, .int x3), (4, .int x4), (5, .int x5), (6, .int x6), (7, .int x7), (8, .int x8)]) C dX8_missing_81 (by decide) rfl ?_
    refine z_aload_n C dX8_missing_83 rfl 1 rfl ?_
    refine gR_row C dX8_missing_84 ?_
    refine z_iload C dX8_missing_87 0 rfl ?_
    obtain ⟨hi122, h⟩ := h
    refine lR_row C hi122 dX8_missing_89 ?_
    refine z_iload_n C dX8_missing_90 rfl 2 rfl ?_
    refine z_icmp_ne C dX8_missing_91 (tgt := 165) (by decide) (fun hc123 => ?_) (fun hc123 => ?_)
    · have h := h.1 hc123
      refine z_lv (lv1 := [(0, .ref (ad 0)), (1, .int x1), (2, .int x2), (3, .int x3), (4, .int x4), (5, .int x5), (6, .int x6), (7, .int x7), (8, .int x8)]) [1, 2, 3, 4, 5, 6, 7, 8, 9] rfl ?_
      exact b_X8_missing_165 C hr ad Q B50 hB50 B59 hB59 u x1 x2 x3 x4 x5 x6 x7 x8 h
    · have h := h.2 hc123
      refine z_aload_n C dX8_missing_94 rfl 1 rfl ?_
      refine gR_row C dX8_missing_95 ?_
      refine z_iload C dX8_missing_98 0 rfl ?_
      refine z_iconst (v := 1) C dX8_missing_100 (by decide) ?_
      refine z_iadd C dX8_missing_101 ?_
      obtain ⟨hi125, h⟩ := h
      refine lR_row C hi125 dX8_missing_102 ?_
      refine z_iload C dX8_missing_103 6 rfl ?_
      refine z_isub C dX8_missing_105 ?_
      refine z_iload C dX8_missing_106 7 rfl ?_
      refine z_icmp_le C dX8_missing_108 (tgt := 126) (by decide) (fun hc126 => ?_) (fun hc126 => ?_)
      · have h := h.1 hc126
        refine z_iload C dX8_missing_126 7 rfl ?_
        refine z_lv (lv1 := [(0, .ref (ad 0)), (1, .int x1), (2, .int x2), (3, .int x3), (4, .int x4), (7, .int x7), (8, .int x8), (9, .int r121)]) [1, 2, 3, 4, 5, 8, 9, 0] rfl ?_
        exact b_X8_missing_128 C hr ad Q B50 hB50 B59 hB59 u x1 x2 x3 x4 x7 x8 r121 x6 h
      · have h := h.2 hc126
        refine z_aload_n C dX8_missing_111 rfl 1 rfl ?_
        refine gR_row C dX8_missing_112 ?_
        refine z_iload C dX8_missing_115 0 rfl ?_
        refine z_iconst (v := 1) C dX8_missing_117 (by decide) ?_
        refine z_iadd C dX8_missing_118 ?_
        obtain ⟨hi132, h⟩ := h
        refine lR_row C hi132 dX8_missing_119 ?_
        refine z_iload C dX8_missing_120 6 rfl ?_
        refine z_isub C dX8_missing_122 ?_
        refine z_goto C dX8_missing_123 (tgt := 128) (by decide) ?_
        refine z_lv (lv1 := [(0, .ref (ad 0)), (1, .int x1), (2, .int x2), (3, .int x3), (4, .int x4), (7, .int x7), (8, .int x8), (9, .int r121)]) [1, 2, 3, 4, 5, 8, 9, 0] rfl ?_
        exact b_X8_missing_128 C hr ad Q B50 hB50 B59 hB59 u x1 x2 x3 x4 x7 x8 r121 ((u.1 3 (zn (r121 + 1))) - x5) h
theorem l_X8_missing_59 (C : zC p s m args meth c g A cX8_missing RX8 10) (hr : meth.sig.returnType = (some .int)) (ad : Nat → Nat) (Q : Int32 → RS → Prop) (B50 : RS → Int32 → Int32 → Int32 → Int32 → Int32 → Int32 → Int32 → Prop) (hB50 : ∀ (u : RS) (x1 : Int32) (x2 : Int32) (x3 : Int32) (x4 : Int32) (x5 : Int32) (x6 : Int32) (x7 : Int32), B50 u x1 x2 x3 x4 x5 x6 x7 → j_X8_missing p l e s m args below meth c g A ad Q u 50 [(0, .ref (ad 0)), (1, .int x1), (2, .int x2), (3, .int x3), (4, .int x4), (5, .int x5), (6, .int x6), (7, .int x7)] []) : ∀ (n : Nat) (u : RS) (x1 : Int32) (x2 : Int32) (x3 : Int32) (x4 : Int32) (x5 : Int32) (x6 : Int32) (x7 : Int32) (x8 : Int32), zit9 (wp_X8_missing_59 Q B50) n u x1 x2 x3 x4 x5 x6 x7 x8 → j_X8_missing p l e s m args below meth c g A ad Q u 59 [(0, .ref (ad 0)), (1, .int x1), (2, .int x2), (3, .int x3), (4, .int x4), (5, .int x5), (6, .int x6), (7, .int x7), (8, .int x8)] [] := by
  intro n
  induction n with
  | zero => exact fun u x1 x2 x3 x4 x5 x6 x7 x8 h => h.elim
  | succ n ih => exact fun u x1 x2 x3 x4 x5 x6 x7 x8 h => b_X8_missing_59 C hr ad Q B50 hB50 (zit9 (wp_X8_missing_59 Q B50) n) ih u x1 x2 x3 x4 x5 x6 x7 x8 h
def wp_X8_missing_50 (Q : Int32 → RS → Prop) (B50 : RS → Int32 → Int32 → Int32 → Int32 → Int32 → Int32 → Int32 → Prop) (u : RS) (x1 : Int32) (x2 : Int32) (x3 : Int32) (x4 : Int32) (x5 : Int32) (x6 : Int32) (x7 : Int32) : Prop :=
  ((4 ≤ x7 → vp_in (x3 + 5) 1065 ∧ (((u.1 3 (zn (x3 + 5))) - x5 ≤ x6 → wp_X8_missing_209 Q u x2 x3 x4 x6) ∧ (¬ (u.1 3 (zn (x3 + 5))) - x5 ≤ x6 → vp_in (x3 + 5) 1065 ∧ wp_X8_missing_209 Q u x2 x3 x4 ((u.1 3 (zn (x3 + 5))) - x5)))) ∧ (¬ 4 ≤ x7 → (∃ n, zit9 (wp_X8_missing_59 Q B50) n u x1 x2 x3 x4 x5 x6 x7 0)))
set_option maxRecDepth 20000 in
theorem b_X8_missing_50 (C : zC p s m args meth c g A cX8_missing RX8 10) (hr : meth.sig.returnType = (some .int)) (ad : Nat → Nat) (Q : Int32 → RS → Prop) (B50 : RS → Int32 → Int32 → Int32 → Int32 → Int32 → Int32 → Int32 → Prop) (hB50 : ∀ (u : RS) (x1 : Int32) (x2 : Int32) (x3 : Int32) (x4 : Int32) (x5 : Int32) (x6 : Int32) (x7 : Int32), B50 u x1 x2 x3 x4 x5 x6 x7 → j_X8_missing p l e s m args below meth c g A ad Q u 50 [(0, .ref (ad 0)), (1, .int x1), (2, .int x2), (3, .int x3), (4, .int x4), (5, .int x5), (6, .int x6), (7, .int x7)] []) (u : RS) (x1 : Int32) (x2 : Int32) (x3 : Int32) (x4 : Int32) (x5 : Int32) (x6 : Int32) (x7 : Int32) (h : wp_X8_missing_50 Q B50 u x1 x2 x3 x4 x5 x6 x7) : j_X8_missing p l e s m args below meth c g A ad Q u 50 [(0, .ref (ad 0)), (1, .int x1), (2, .int x2), (3, .int x3), (4, .int x4), (5, .int x5), (6, .int x6), (7, .int x7)] [] := by
  unfold wp_X8_missing_50 at h
  refine z_iload C dX8_missing_50 7 rfl ?_
  refine z_iconst (v := 4) C dX8_missing_52 (by decide) ?_
  refine z_icmp_ge C dX8_missing_53 (tgt := 177) (by decide) (fun hc110 => ?_) (fun hc110 => ?_)
  · have h := h.1 hc110
    refine z_aload_n C dX8_missing_177 rfl 0 rfl ?_
    refine gR_row C dX8_missing_178 ?_
    refine z_iload_n C dX8_missing_181 rfl 3 rfl ?_
    refine z_iconst (v := 5) C dX8_missing_182 (by decide) ?_
    refine z_iadd C dX8_missing_183 ?_
    obtain ⟨hi111, h⟩ := h
    refine lR_row C hi111 dX8_missing_184 ?_
    refine z_iload C dX8_missing_185 5 rfl ?_
    refine z_isub C dX8_missing_187 ?_
    refine z_iload C dX8_missing_188 6 rfl ?_
    refine z_icmp_le C dX8_missing_190 (tgt := 207) (by decide) (fun hc112 => ?_) (fun hc112 => ?_)
    · have h := h.1 hc112
      refine z_iload C dX8_missing_207 6 rfl ?_
      refine z_lv (lv1 := [(0, .ref (ad 0)), (2, .int x2), (3, .int x3), (4, .int x4)]) [0, 2, 3, 4] rfl ?_
      exact b_X8_missing_209 C hr ad Q u x2 x3 x4 x6 h
    · have h := h.2 hc112
      refine z_aload_n C dX8_missing_193 rfl 0 rfl ?_
      refine gR_row C dX8_missing_194 ?_
      refine z_iload_n C dX8_missing_197 rfl 3 rfl ?_
      refine z_iconst (v := 5) C dX8_missing_198 (by decide) ?_
      refine z_iadd C dX8_missing_199 ?_
      obtain ⟨hi116, h⟩ := h
      refine lR_row C hi116 dX8_missing_200 ?_
      refine z_iload C dX8_missing_201 5 rfl ?_
      refine z_isub C dX8_missing_203 ?_
      refine z_goto C dX8_missing_204 (tgt := 209) (by decide) ?_
      refine z_lv (lv1 := [(0, .ref (ad 0)), (2, .int x2), (3, .int x3), (4, .int x4)]) [0, 2, 3, 4] rfl ?_
      exact b_X8_missing_209 C hr ad Q u x2 x3 x4 ((u.1 3 (zn (x3 + 5))) - x5) h
  · have h := h.2 hc110
    refine z_iconst (v := 0) C dX8_missing_56 (by decide) ?_
    refine z_istore (lv1 := [(8, .int 0), (0, .ref (ad 0)), (1, .int x1), (2, .int x2), (3, .int x3), (4, .int x4), (5, .int x5), (6, .int x6), (7, .int x7)]) C dX8_missing_57 (by decide) rfl ?_
    refine z_lv (lv1 := [(0, .ref (ad 0)), (1, .int x1), (2, .int x2), (3, .int x3), (4, .int x4), (5, .int x5), (6, .int x6), (7, .int x7), (8, .int 0)]) [1, 2, 3, 4, 5, 6, 7, 8, 0] rfl ?_
    obtain ⟨n9, h⟩ := h
    exact l_X8_missing_59 C hr ad Q B50 hB50 n9 u x1 x2 x3 x4 x5 x6 x7 0 h
theorem l_X8_missing_50 (C : zC p s m args meth c g A cX8_missing RX8 10) (hr : meth.sig.returnType = (some .int)) (ad : Nat → Nat) (Q : Int32 → RS → Prop) : ∀ (n : Nat) (u : RS) (x1 : Int32) (x2 : Int32) (x3 : Int32) (x4 : Int32) (x5 : Int32) (x6 : Int32) (x7 : Int32), zit8 (wp_X8_missing_50 Q) n u x1 x2 x3 x4 x5 x6 x7 → j_X8_missing p l e s m args below meth c g A ad Q u 50 [(0, .ref (ad 0)), (1, .int x1), (2, .int x2), (3, .int x3), (4, .int x4), (5, .int x5), (6, .int x6), (7, .int x7)] [] := by
  intro n
  induction n with
  | zero => exact fun u x1 x2 x3 x4 x5 x6 x7 h => h.elim
  | succ n ih => exact fun u x1 x2 x3 x4 x5 x6 x7 h => b_X8_missing_50 C hr ad Q (zit8 (wp_X8_missing_50 Q) n) ih u x1 x2 x3 x4 x5 x6 x7 h
def wp_X8_missing (u : RS) (x1 : Int32) (x2 : Int32) (Q : Int32 → RS → Prop) : Prop :=
  ∀ u101 : RS, u101 = rN u 0 0 → wp_X8_isFlow u101 x1 (fun r102 u103 => ((r102 = 0 → wp_X8_missing_23 Q u103) ∧ (¬ r102 = 0 → wp_X8_in ((x2).toInt64) 0 1 (fun r105 => ((¬ r105 = 0 → wp_X8_flowAt x1 (fun r107 => vp_in (r107 + 9) 1065 ∧ ∀ x109 : Int32, x109 = u103.1 3 (zn (r107 + 9)) → (∃ n, zit8 (wp_X8_missing_50 Q) n u103 x1 x2 r107 0 x109 0 0))) ∧ (r105 = 0 → wp_X8_missing_23 Q u103))))))
set_option maxRecDepth 20000 in
theorem c_X8_missing (l : Launch) (g : zG) (ad : Nat → Nat) (u : RS) (x1 : Int32) (x2 : Int32) (Q : Int32 → RS → Prop) (h : wp_X8_missing u x1 x2 Q) : zMi l yX8_missing cX8_missing 10 (some .int) 2 0 0 g [.ref (ad 0), .int x1, .int x2] (wR g ad u) (wR g ad) Q := by
  refine zMi_of RX8 (by decide) rfl [(0, .ref (ad 0)), (1, .int x1), (2, .int x2)] rfl (Nat.le_of_ble_eq_true rfl) (fun p e s m args below meth c A C hr hnm => ?_)
  unfold wp_X8_missing at h
  refine z_aload_n C dX8_missing_0 rfl 0 rfl ?_
  refine z_iconst (v := 0) C dX8_missing_1 (by decide) ?_
  refine pR_thrown C dX8_missing_2 ?_
  refine z_stR (fun u101 eu101 => ?_)
  have h := h u101 eu101
  refine z_aload_n C dX8_missing_5 rfl 0 rfl ?_
  refine z_iload_n C dX8_missing_6 rfl 1 rfl ?_
  refine cRi (As := [.int x1]) C (c_X8_isFlow l g ad u101 x1 _ h) v_X8_isFlow ml8_164 rfl ⟨Nat.le_of_ble_eq_true rfl, Nat.le_of_ble_eq_true rfl⟩ ⟨Nat.zero_le _, Nat.zero_le _⟩ (Nat.le_of_ble_eq_true rfl) rfl dX8_missing_7 ?_
  intro r102 u103 h
  refine z_if_eq C dX8_missing_10 (tgt := 23) (by decide) (fun hc104 => ?_) (fun hc104 => ?_)
  · have h := h.1 hc104
    refine z_lv (lv1 := [(0, .ref (ad 0))]) [0] rfl ?_
    exact b_X8_missing_23 C hr ad Q u103 h
  · have h := h.2 hc104
    refine z_iload_n C dX8_missing_13 rfl 2 rfl ?_
    refine z_i2l C dX8_missing_14 ?_
    refine z_lconst (v := 0) C dX8_missing_15 (by decide) ?_
    refine z_lconst (v := 1) C dX8_missing_16 (by decide) ?_
    refine cSi (As := [.long ((x2).toInt64), .long 0, .long 1]) C (c_X8_in l g ((x2).toInt64) 0 1 _ h) s_X8_in ml8_84 ⟨Nat.le_of_ble_eq_true rfl, Nat.le_of_ble_eq_true rfl⟩ ⟨Nat.zero_le _, Nat.zero_le _⟩ (Nat.le_of_ble_eq_true rfl) rfl dX8_missing_17 ?_
    intro r105 h
    refine z_if_ne C dX8_missing_20 (tgt := 25) (by decide) (fun hc106 => ?_) (fun hc106 => ?_)
    · have h := h.1 hc106
      refine z_iload_n C dX8_missing_25 rfl 1 rfl ?_
      refine cSi (As := [.int x1]) C (c_X8_flowAt l g x1 _ h) s_X8_flowAt ml8_102 ⟨Nat.le_of_ble_eq_true rfl, Nat.le_of_ble_eq_true rfl⟩ ⟨Nat.zero_le _, Nat.zero_le _⟩ (Nat.le_of_ble_eq_true rfl) rfl dX8_missing_26 ?_
      intro r107 h
      refine z_istore_n (lv1 := [(3, .int r107), (0, .ref (ad 0)), (1, .int x1), (2, .int x2)]) C dX8_missing_29 rfl (by decide) rfl ?_
      refine z_iconst (v := 0) C dX8_missing_30 (by decide) ?_
      refine z_istore (lv1 := [(4, .int 0), (3, .int r107), (0, .ref (ad 0)), (1, .int x1), (2, .int x2)]) C dX8_missing_31 (by decide) rfl ?_
      refine z_aload_n C dX8_missing_33 rfl 2 rfl ?_
      refine gR_row C dX8_missing_34 ?_
      refine z_iload_n C dX8_missing_37 rfl 1 rfl ?_
      refine z_bipush (v := 9) C dX8_missing_38 (by decide) ?_
      refine z_iadd C dX8_missing_40 ?_
      obtain ⟨hi108, h⟩ := h
      refine lR_row C hi108 dX8_missing_41 ?_
      refine z_topi (fun x109 ex109 => ?_)
      have h := h x109 ex109
      refine z_istore (lv1 := [(5, .int x109), (4, .int 0), (3, .int r107), (0, .ref (ad 0)), (1, .int x1), (2, .int x2)]) C dX8_missing_42 (by decide) rfl ?_
      refine z_iconst (v := 0) C dX8_missing_44 (by decide) ?_
      refine z_istore (lv1 := [(6, .int 0), (5, .int x109), (4, .int 0), (3, .int r107), (0, .ref (ad 0)), (1, .int x1), (2, .int x2)]) C dX8_missing_45 (by decide) rfl ?_
      refine z_iconst (v := 0) C dX8_missing_47 (by decide) ?_
      refine z_istore (lv1 := [(7, .int 0), (6, .int 0), (5, .int x109), (4, .int 0), (3, .int r107), (0, .ref (ad 0)), (1, .int x1), (2, .int x2)]) C dX8_missing_48 (by decide) rfl ?_
      refine z_lv (lv1 := [(0, .ref (ad 0)), (1, .int x1), (2, .int x2), (3, .int r107), (4, .int 0), (5, .int x109), (6, .int 0), (7, .int 0)]) [5, 6, 7, 4, 3, 2, 1, 0] rfl ?_
      obtain ⟨n9, h⟩ := h
      exact l_X8_missing_50 C hr ad Q n9 u103 x1 x2 r107 0 x109 0 0 h
    · have h := h.2 hc106
      refine z_lv (lv1 := [(0, .ref (ad 0))]) [0] rfl ?_
      exact b_X8_missing_23 C hr ad Q u103 h
abbrev j_X8_entry (p : Program) (l : Launch) (e : Env) (s : State) (m : MethodId) (args : Array Value) (below : List Frame) (meth : Method) (c : Code) (g : zG) (A : Nat → Prop) (ad : Nat → Nat) (Q : Int32 → RS → Prop) (u : RS) (pc : Nat) (lv : List (Nat × Value)) (st : List Value) : Prop := zJ p l e (zR 2 0 0) s m args below meth c g A 5 (zQi below args s g A 0 0 (wR g ad) Q) (wR g ad u) 0 0 pc lv st
def wp_X8_entry_29 (Q : Int32 → RS → Prop) (u : RS) : Prop :=
  Q (-1) u
set_option maxRecDepth 20000 in
theorem b_X8_entry_29 (C : zC p s m args meth c g A cX8_entry RX8 5) (hr : meth.sig.returnType = (some .int)) (ad : Nat → Nat) (Q : Int32 → RS → Prop) (u : RS) (h : wp_X8_entry_29 Q u) : j_X8_entry p l e s m args below meth c g A ad Q u 29 [(0, .ref (ad 0))] [] := by
  unfold wp_X8_entry_29 at h
  refine z_iconst (v := (-1)) C dX8_entry_29 (by decide) ?_
  exact z_iret C hr u rfl h dX8_entry_30
def wp_X8_entry_108 (Q : Int32 → RS → Prop) (u : RS) (t0 : Int32) : Prop :=
  Q t0 u
set_option maxRecDepth 20000 in
theorem b_X8_entry_108 (C : zC p s m args meth c g A cX8_entry RX8 5) (hr : meth.sig.returnType = (some .int)) (ad : Nat → Nat) (Q : Int32 → RS → Prop) (u : RS) (t0 : Int32) (h : wp_X8_entry_108 Q u t0) : j_X8_entry p l e s m args below meth c g A ad Q u 108 [(0, .ref (ad 0))] [.int t0] := by
  unfold wp_X8_entry_108 at h
  exact z_iret C hr u rfl h dX8_entry_108
def wp_X8_entry_66 (Q : Int32 → RS → Prop) (B36 : RS → Int32 → Int32 → Int32 → Int32 → Prop) (u : RS) (x1 : Int32) (x2 : Int32) (x4 : Int32) (t0 : Int32) (t1 : Int32) : Prop :=
  ∀ x114 : Int32, x114 = t1 ||| t0 → ∀ x115 : Int32, x115 = x4 + 1 → B36 u x1 x2 x114 x115
set_option maxRecDepth 20000 in
theorem b_X8_entry_66 (C : zC p s m args meth c g A cX8_entry RX8 5) (hr : meth.sig.returnType = (some .int)) (ad : Nat → Nat) (Q : Int32 → RS → Prop) (B36 : RS → Int32 → Int32 → Int32 → Int32 → Prop) (hB36 : ∀ (u : RS) (x1 : Int32) (x2 : Int32) (x3 : Int32) (x4 : Int32), B36 u x1 x2 x3 x4 → j_X8_entry p l e s m args below meth c g A ad Q u 36 [(0, .ref (ad 0)), (1, .int x1), (2, .int x2), (3, .int x3), (4, .int x4)] []) (u : RS) (x1 : Int32) (x2 : Int32) (x4 : Int32) (t0 : Int32) (t1 : Int32) (h : wp_X8_entry_66 Q B36 u x1 x2 x4 t0 t1) : j_X8_entry p l e s m args below meth c g A ad Q u 66 [(0, .ref (ad 0)), (1, .int x1), (2, .int x2), (4, .int x4)] [.int t0, .int t1] := by
  unfold wp_X8_entry_66 at h
  refine z_ior C dX8_entry_66 ?_
  refine z_topi (fun x114 ex114 => ?_)
  have h := h x114 ex114
  refine z_istore_n (lv1 := [(3, .int x114), (0, .ref (ad 0)), (1, .int x1), (2, .int x2), (4, .int x4)]) C dX8_entry_67 rfl (by decide) rfl ?_
  obtain ⟨x115, ex115⟩ : ∃ y : Int32, y = x4 + 1 := ⟨_, rfl⟩
  have h := h x115 ex115
  refine z_iinc (v := x115) (lv1 := [(4, .int x115), (3, .int x114), (0, .ref (ad 0)), (1, .int x1), (2, .int x2)]) C dX8_entry_68 4 rfl (by rw [ex115]; rfl) (by decide) rfl ?_
  refine z_goto C dX8_entry_71 (tgt := 36) (by decide) ?_
  refine z_lv (lv1 := [(0, .ref (ad 0)), (1, .int x1), (2, .int x2), (3, .int x114), (4, .int x115)]) [2, 3, 4, 1, 0] rfl ?_
  exact hB36 u x1 x2 x114 x115 h
def wp_X8_entry_36 (Q : Int32 → RS → Prop) (B36 : RS → Int32 → Int32 → Int32 → Int32 → Prop) (u : RS) (x1 : Int32) (x2 : Int32) (x3 : Int32) (x4 : Int32) : Prop :=
  ((u.1 3 4 ≤ x4 → ((¬ x2 = 0 → ((¬ x2 = 1 → wp_X8_entry_108 Q u x3) ∧ (x2 = 1 → vp_in (39 + x1) 1065 ∧ wp_X8_entry_108 Q u (u.1 3 (zn (39 + x1)))))) ∧ (x2 = 0 → vp_in (23 + x1) 1065 ∧ wp_X8_entry_108 Q u (u.1 3 (zn (23 + x1)))))) ∧ (¬ u.1 3 4 ≤ x4 → wp_X8_entryOf u x4 (fun r111 u112 => ((¬ r111 = x1 → wp_X8_entry_66 Q B36 u112 x1 x2 x4 0 x3) ∧ (r111 = x1 → wp_X8_entry_66 Q B36 u112 x1 x2 x4 (1 <<< (x4 &&& 31)) x3)))))
set_option maxRecDepth 20000 in
theorem b_X8_entry_36 (C : zC p s m args meth c g A cX8_entry RX8 5) (hr : meth.sig.returnType = (some .int)) (ad : Nat → Nat) (Q : Int32 → RS → Prop) (B36 : RS → Int32 → Int32 → Int32 → Int32 → Prop) (hB36 : ∀ (u : RS) (x1 : Int32) (x2 : Int32) (x3 : Int32) (x4 : Int32), B36 u x1 x2 x3 x4 → j_X8_entry p l e s m args below meth c g A ad Q u 36 [(0, .ref (ad 0)), (1, .int x1), (2, .int x2), (3, .int x3), (4, .int x4)] []) (u : RS) (x1 : Int32) (x2 : Int32) (x3 : Int32) (x4 : Int32) (h : wp_X8_entry_36 Q B36 u x1 x2 x3 x4) : j_X8_entry p l e s m args below meth c g A ad Q u 36 [(0, .ref (ad 0)), (1, .int x1), (2, .int x2), (3, .int x3), (4, .int x4)] [] := by
  unfold wp_X8_entry_36 at h
  refine z_iload C dX8_entry_36 4 rfl ?_
  refine z_aload_n C dX8_entry_38 rfl 0 rfl ?_
  refine gR_row C dX8_entry_39 ?_
  refine z_iconst (v := 4) C dX8_entry_42 (by decide) ?_
  refine lRn_row C 4 (by decide +kernel) (vp_in_iff.mpr (by decide +kernel)) dX8_entry_43 ?_
  refine z_icmp_ge C dX8_entry_44 (tgt := 74) (by decide) (fun hc106 => ?_) (fun hc106 => ?_)
  · have h := h.1 hc106
    refine z_iload_n C dX8_entry_74 rfl 2 rfl ?_
    refine z_if_ne C dX8_entry_75 (tgt := 90) (by decide) (fun hc107 => ?_) (fun hc107 => ?_)
    · have h := h.1 hc107
      refine z_iload_n C dX8_entry_90 rfl 2 rfl ?_
      refine z_iconst (v := 1) C dX8_entry_91 (by decide) ?_
      refine z_icmp_ne C dX8_entry_92 (tgt := 107) (by decide) (fun hc108 => ?_) (fun hc108 => ?_)
      · have h := h.1 hc108
        refine z_iload_n C dX8_entry_107 rfl 3 rfl ?_
        refine z_lv (lv1 := [(0, .ref (ad 0))]) [0] rfl ?_
        exact b_X8_entry_108 C hr ad Q u x3 h
      · have h := h.2 hc108
        refine z_aload_n C dX8_entry_95 rfl 0 rfl ?_
        refine gR_row C dX8_entry_96 ?_
        refine z_bipush (v := 39) C dX8_entry_99 (by decide) ?_
        refine z_iload_n C dX8_entry_101 rfl 1 rfl ?_
        refine z_iadd C dX8_entry_102 ?_
        obtain ⟨hi109, h⟩ := h
        refine lR_row C hi109 dX8_entry_103 ?_
        refine z_goto C dX8_entry_104 (tgt := 108) (by decide) ?_
        refine z_lv (lv1 := [(0, .ref (ad 0))]) [0] rfl ?_
        exact b_X8_entry_108 C hr ad Q u (u.1 3 (zn (39 + x1))) h
    · have h := h.2 hc107
      refine z_aload_n C dX8_entry_78 rfl 0 rfl ?_
      refine gR_row C dX8_entry_79 ?_
      refine z_bipush (v := 23) C dX8_entry_82 (by decide) ?_
      refine z_iload_n C dX8_entry_84 rfl 1 rfl ?_
      refine z_iadd C dX8_entry_85 ?_
      obtain ⟨hi110, h⟩ := h
      refine lR_row C hi110 dX8_entry_86 ?_
      refine z_goto C dX8_entry_87 (tgt := 108) (by decide) ?_
      refine z_lv (lv1 := [(0, .ref (ad 0))]) [0] rfl ?_
      exact b_X8_entry_108 C hr ad Q u (u.1 3 (zn (23 + x1))) h
  · have h := h.2 hc106
    refine z_iload_n C dX8_entry_47 rfl 3 rfl ?_
    refine z_aload_n C dX8_entry_48 rfl 0 rfl ?_
    refine z_iload C dX8_entry_49 4 rfl ?_
    refine cRi (As := [.int x4]) C (c_X8_entryOf l g ad u x4 _ h) v_X8_entryOf ml8_122 rfl ⟨Nat.le_of_ble_eq_true rfl, Nat.le_of_ble_eq_true rfl⟩ ⟨Nat.zero_le _, Nat.zero_le _⟩ (Nat.le_of_ble_eq_true rfl) rfl dX8_entry_51 ?_
    intro r111 u112 h
    refine z_iload_n C dX8_entry_54 rfl 1 rfl ?_
    refine z_icmp_ne C dX8_entry_55 (tgt := 65) (by decide) (fun hc113 => ?_) (fun hc113 => ?_)
    · have h := h.1 hc113
      refine z_iconst (v := 0) C dX8_entry_65 (by decide) ?_
      refine z_lv (lv1 := [(0, .ref (ad 0)), (1, .int x1), (2, .int x2), (4, .int x4)]) [0, 1, 2, 4] rfl ?_
      exact b_X8_entry_66 C hr ad Q B36 hB36 u112 x1 x2 x4 0 x3 h
    · have h := h.2 hc113
      refine z_iconst (v := 1) C dX8_entry_58 (by decide) ?_
      refine z_iload C dX8_entry_59 4 rfl ?_
      refine z_ishl C dX8_entry_61 ?_
      refine z_goto C dX8_entry_62 (tgt := 66) (by decide) ?_
      refine z_lv (lv1 := [(0, .ref (ad 0)), (1, .int x1), (2, .int x2), (4, .int x4)]) [0, 1, 2, 4] rfl ?_
      exact b_X8_entry_66 C hr ad Q B36 hB36 u112 x1 x2 x4 (1 <<< (x4 &&& 31)) x3 h
theorem l_X8_entry_36 (C : zC p s m args meth c g A cX8_entry RX8 5) (hr : meth.sig.returnType = (some .int)) (ad : Nat → Nat) (Q : Int32 → RS → Prop) : ∀ (n : Nat) (u : RS) (x1 : Int32) (x2 : Int32) (x3 : Int32) (x4 : Int32), zit5 (wp_X8_entry_36 Q) n u x1 x2 x3 x4 → j_X8_entry p l e s m args below meth c g A ad Q u 36 [(0, .ref (ad 0)), (1, .int x1), (2, .int x2), (3, .int x3), (4, .int x4)] [] := by
  intro n
  induction n with
  | zero => exact fun u x1 x2 x3 x4 h => h.elim
  | succ n ih => exact fun u x1 x2 x3 x4 h => b_X8_entry_36 C hr ad Q (zit5 (wp_X8_entry_36 Q) n) ih u x1 x2 x3 x4 h
def wp_X8_entry (u : RS) (x1 : Int32) (x2 : Int32) (Q : Int32 → RS → Prop) : Prop :=
  ∀ u101 : RS, u101 = rN u 0 0 → wp_X8_in ((x1).toInt64) 0 15 (fun r102 => ((r102 = 0 → wp_X8_entry_29 Q u101) ∧ (¬ r102 = 0 → wp_X8_in ((x2).toInt64) 0 2 (fun r104 => ((¬ r104 = 0 → (∃ n, zit5 (wp_X8_entry_36 Q) n u101 x1 x2 0 0)) ∧ (r104 = 0 → wp_X8_entry_29 Q u101))))))
set_option maxRecDepth 20000 in
theorem c_X8_entry (l : Launch) (g : zG) (ad : Nat → Nat) (u : RS) (x1 : Int32) (x2 : Int32) (Q : Int32 → RS → Prop) (h : wp_X8_entry u x1 x2 Q) : zMi l yX8_entry cX8_entry 5 (some .int) 2 0 0 g [.ref (ad 0), .int x1, .int x2] (wR g ad u) (wR g ad) Q := by
  refine zMi_of RX8 (by decide) rfl [(0, .ref (ad 0)), (1, .int x1), (2, .int x2)] rfl (Nat.le_of_ble_eq_true rfl) (fun p e s m args below meth c A C hr hnm => ?_)
  unfold wp_X8_entry at h
  refine z_aload_n C dX8_entry_0 rfl 0 rfl ?_
  refine z_iconst (v := 0) C dX8_entry_1 (by decide) ?_
  refine pR_thrown C dX8_entry_2 ?_
  refine z_stR (fun u101 eu101 => ?_)
  have h := h u101 eu101
  refine z_iload_n C dX8_entry_5 rfl 1 rfl ?_
  refine z_i2l C dX8_entry_6 ?_
  refine z_lconst (v := 0) C dX8_entry_7 (by decide) ?_
  refine z_ldc2 (v := 15) C dX8_entry_8 k8_148 ?_
  refine cSi (As := [.long ((x1).toInt64), .long 0, .long 15]) C (c_X8_in l g ((x1).toInt64) 0 15 _ h) s_X8_in ml8_84 ⟨Nat.le_of_ble_eq_true rfl, Nat.le_of_ble_eq_true rfl⟩ ⟨Nat.zero_le _, Nat.zero_le _⟩ (Nat.le_of_ble_eq_true rfl) rfl dX8_entry_11 ?_
  intro r102 h
  refine z_if_eq C dX8_entry_14 (tgt := 29) (by decide) (fun hc103 => ?_) (fun hc103 => ?_)
  · have h := h.1 hc103
    refine z_lv (lv1 := [(0, .ref (ad 0))]) [0] rfl ?_
    exact b_X8_entry_29 C hr ad Q u101 h
  · have h := h.2 hc103
    refine z_iload_n C dX8_entry_17 rfl 2 rfl ?_
    refine z_i2l C dX8_entry_18 ?_
    refine z_lconst (v := 0) C dX8_entry_19 (by decide) ?_
    refine z_ldc2 (v := 2) C dX8_entry_20 k8_245 ?_
    refine cSi (As := [.long ((x2).toInt64), .long 0, .long 2]) C (c_X8_in l g ((x2).toInt64) 0 2 _ h) s_X8_in ml8_84 ⟨Nat.le_of_ble_eq_true rfl, Nat.le_of_ble_eq_true rfl⟩ ⟨Nat.zero_le _, Nat.zero_le _⟩ (Nat.le_of_ble_eq_true rfl) rfl dX8_entry_23 ?_
    intro r104 h
    refine z_if_ne C dX8_entry_26 (tgt := 31) (by decide) (fun hc105 => ?_) (fun hc105 => ?_)
    · have h := h.1 hc105
      refine z_iconst (v := 0) C dX8_entry_31 (by decide) ?_
      refine z_istore_n (lv1 := [(3, .int 0), (0, .ref (ad 0)), (1, .int x1), (2, .int x2)]) C dX8_entry_32 rfl (by decide) rfl ?_
      refine z_iconst (v := 0) C dX8_entry_33 (by decide) ?_
      refine z_istore (lv1 := [(4, .int 0), (3, .int 0), (0, .ref (ad 0)), (1, .int x1), (2, .int x2)]) C dX8_entry_34 (by decide) rfl ?_
      refine z_lv (lv1 := [(0, .ref (ad 0)), (1, .int x1), (2, .int x2), (3, .int 0), (4, .int 0)]) [2, 3, 4, 1, 0] rfl ?_
      obtain ⟨n9, h⟩ := h
      exact l_X8_entry_36 C hr ad Q n9 u101 x1 x2 0 0 h
    · have h := h.2 hc105
      refine z_lv (lv1 := [(0, .ref (ad 0))]) [0] rfl ?_
      exact b_X8_entry_29 C hr ad Q u101 h
abbrev j_X8_waits (p : Program) (l : Launch) (e : Env) (s : State) (m : MethodId) (args : Array Value) (below : List Frame) (meth : Method) (c : Code) (g : zG) (A : Nat → Prop) (ad : Nat → Nat) (Q : Int32 → RS → Prop) (u : RS) (pc : Nat) (lv : List (Nat × Value)) (st : List Value) : Prop := zJ p l e (zR 2 0 0) s m args below meth c g A 4 (zQi below args s g A 0 0 (wR g ad) Q) (wR g ad u) 0 0 pc lv st
def wp_X8_waits_61 (Q : Int32 → RS → Prop) (u : RS) (t0 : Int32) : Prop :=
  Q t0 u
set_option maxRecDepth 20000 in
theorem b_X8_waits_61 (C : zC p s m args meth c g A cX8_waits RX8 4) (hr : meth.sig.returnType = (some .int)) (ad : Nat → Nat) (Q : Int32 → RS → Prop) (u : RS) (t0 : Int32) (h : wp_X8_waits_61 Q u t0) : j_X8_waits p l e s m args below meth c g A ad Q u 61 [(0, .ref (ad 0))] [.int t0] := by
  unfold wp_X8_waits_61 at h
  exact z_iret C hr u rfl h dX8_waits_61
def wp_X8_waits_60 (Q : Int32 → RS → Prop) (u : RS) : Prop :=
  wp_X8_waits_61 Q u (-1)
set_option maxRecDepth 20000 in
theorem b_X8_waits_60 (C : zC p s m args meth c g A cX8_waits RX8 4) (hr : meth.sig.returnType = (some .int)) (ad : Nat → Nat) (Q : Int32 → RS → Prop) (u : RS) (h : wp_X8_waits_60 Q u) : j_X8_waits p l e s m args below meth c g A ad Q u 60 [(0, .ref (ad 0))] [] := by
  unfold wp_X8_waits_60 at h
  refine z_iconst (v := (-1)) C dX8_waits_60 (by decide) ?_
  exact b_X8_waits_61 C hr ad Q u (-1) h
def wp_X8_waits (u : RS) (x1 : Int32) (x2 : Int32) (x3 : Int32) (Q : Int32 → RS → Prop) : Prop :=
  ∀ u101 : RS, u101 = rN u 0 0 → wp_X8_isQueue x1 (fun r102 => ((r102 = 0 → wp_X8_waits_60 Q u101) ∧ (¬ r102 = 0 → wp_X8_queueAt x1 (fun r104 => vp_in r104 1065 ∧ wp_X8_in ((x2).toInt64) 0 (((u101.1 3 (zn r104)).toInt64) - 1) (fun r106 => ((r106 = 0 → wp_X8_waits_60 Q u101) ∧ (¬ r106 = 0 → wp_X8_in ((x3).toInt64) 0 3 (fun r108 => ((r108 = 0 → wp_X8_waits_60 Q u101) ∧ (¬ r108 = 0 → wp_X8_packetAt x1 x2 (fun r110 => vp_in (r110 + x3) 1065 ∧ wp_X8_waits_61 Q u101 (u101.1 3 (zn (r110 + x3))))))))))))))
set_option maxRecDepth 20000 in
theorem c_X8_waits (l : Launch) (g : zG) (ad : Nat → Nat) (u : RS) (x1 : Int32) (x2 : Int32) (x3 : Int32) (Q : Int32 → RS → Prop) (h : wp_X8_waits u x1 x2 x3 Q) : zMi l yX8_waits cX8_waits 4 (some .int) 2 0 0 g [.ref (ad 0), .int x1, .int x2, .int x3] (wR g ad u) (wR g ad) Q := by
  refine zMi_of RX8 (by decide) rfl [(0, .ref (ad 0)), (1, .int x1), (2, .int x2), (3, .int x3)] rfl (Nat.le_of_ble_eq_true rfl) (fun p e s m args below meth c A C hr hnm => ?_)
  unfold wp_X8_waits at h
  refine z_aload_n C dX8_waits_0 rfl 0 rfl ?_
  refine z_iconst (v := 0) C dX8_waits_1 (by decide) ?_
  refine pR_thrown C dX8_waits_2 ?_
  refine z_stR (fun u101 eu101 => ?_)
  have h := h u101 eu101
  refine z_iload_n C dX8_waits_5 rfl 1 rfl ?_
  refine cSi (As := [.int x1]) C (c_X8_isQueue l g x1 _ h) s_X8_isQueue ml8_150 ⟨Nat.le_of_ble_eq_true rfl, Nat.le_of_ble_eq_true rfl⟩ ⟨Nat.zero_le _, Nat.zero_le _⟩ (Nat.le_of_ble_eq_true rfl) rfl dX8_waits_6 ?_
  intro r102 h
  refine z_if_eq C dX8_waits_9 (tgt := 60) (by decide) (fun hc103 => ?_) (fun hc103 => ?_)
  · have h := h.1 hc103
    refine z_lv (lv1 := [(0, .ref (ad 0))]) [0] rfl ?_
    exact b_X8_waits_60 C hr ad Q u101 h
  · have h := h.2 hc103
    refine z_iload_n C dX8_waits_12 rfl 2 rfl ?_
    refine z_i2l C dX8_waits_13 ?_
    refine z_lconst (v := 0) C dX8_waits_14 (by decide) ?_
    refine z_aload_n C dX8_waits_15 rfl 0 rfl ?_
    refine gR_row C dX8_waits_16 ?_
    refine z_iload_n C dX8_waits_19 rfl 1 rfl ?_
    refine cSi (As := [.int x1]) C (c_X8_queueAt l g x1 _ h) s_X8_queueAt ml8_57 ⟨Nat.le_of_ble_eq_true rfl, Nat.le_of_ble_eq_true rfl⟩ ⟨Nat.zero_le _, Nat.zero_le _⟩ (Nat.le_of_ble_eq_true rfl) rfl dX8_waits_20 ?_
    intro r104 h
    obtain ⟨hi105, h⟩ := h
    refine lR_row C hi105 dX8_waits_23 ?_
    refine z_i2l C dX8_waits_24 ?_
    refine z_lconst (v := 1) C dX8_waits_25 (by decide) ?_
    refine z_lsub C dX8_waits_26 ?_
    refine cSi (As := [.long ((x2).toInt64), .long 0, .long (((u101.1 3 (zn r104)).toInt64) - 1)]) C (c_X8_in l g ((x2).toInt64) 0 (((u101.1 3 (zn r104)).toInt64) - 1) _ h) s_X8_in ml8_84 ⟨Nat.le_of_ble_eq_true rfl, Nat.le_of_ble_eq_true rfl⟩ ⟨Nat.zero_le _, Nat.zero_le _⟩ (Nat.le_of_ble_eq_true rfl) rfl dX8_waits_27 ?_
    intro r106 h
    refine z_if_eq C dX8_waits_30 (tgt := 60) (by decide) (fun hc107 => ?_) (fun hc107 => ?_)
    · have h := h.1 hc107
      refine z_lv (lv1 := [(0, .ref (ad 0))]) [0] rfl ?_
      exact b_X8_waits_60 C hr ad Q u101 h
    · have h := h.2 hc107
      refine z_iload_n C dX8_waits_33 rfl 3 rfl ?_
      refine z_i2l C dX8_waits_34 ?_
      refine z_lconst (v := 0) C dX8_waits_35 (by decide) ?_
      refine z_ldc2 (v := 3) C dX8_waits_36 k8_88 ?_
      refine cSi (As := [.long ((x3).toInt64), .long 0, .long 3]) C (c_X8_in l g ((x3).toInt64) 0 3 _ h) s_X8_in ml8_84 ⟨Nat.le_of_ble_eq_true rfl, Nat.le_of_ble_eq_true rfl⟩ ⟨Nat.zero_le _, Nat.zero_le _⟩ (Nat.le_of_ble_eq_true rfl) rfl dX8_waits_39 ?_
      intro r108 h
      refine z_if_eq C dX8_waits_42 (tgt := 60) (by decide) (fun hc109 => ?_) (fun hc109 => ?_)
      · have h := h.1 hc109
        refine z_lv (lv1 := [(0, .ref (ad 0))]) [0] rfl ?_
        exact b_X8_waits_60 C hr ad Q u101 h
      · have h := h.2 hc109
        refine z_aload_n C dX8_waits_45 rfl 0 rfl ?_
        refine gR_row C dX8_waits_46 ?_
        refine z_iload_n C dX8_waits_49 rfl 1 rfl ?_
        refine z_iload_n C dX8_waits_50 rfl 2 rfl ?_
        refine cSi (As := [.int x1, .int x2]) C (c_X8_packetAt l g x1 x2 _ h) s_X8_packetAt ml8_125 ⟨Nat.le_of_ble_eq_true rfl, Nat.le_of_ble_eq_true rfl⟩ ⟨Nat.zero_le _, Nat.zero_le _⟩ (Nat.le_of_ble_eq_true rfl) rfl dX8_waits_51 ?_
        intro r110 h
        refine z_iload_n C dX8_waits_54 rfl 3 rfl ?_
        refine z_iadd C dX8_waits_55 ?_
        obtain ⟨hi111, h⟩ := h
        refine lR_row C hi111 dX8_waits_56 ?_
        refine z_goto C dX8_waits_57 (tgt := 61) (by decide) ?_
        refine z_lv (lv1 := [(0, .ref (ad 0))]) [0] rfl ?_
        exact b_X8_waits_61 C hr ad Q u101 (u101.1 3 (zn (r110 + x3))) h
abbrev j_X8_window (p : Program) (l : Launch) (e : Env) (s : State) (m : MethodId) (args : Array Value) (below : List Frame) (meth : Method) (c : Code) (g : zG) (A : Nat → Prop) (ad : Nat → Nat) (Q : Int32 → RS → Prop) (u : RS) (pc : Nat) (lv : List (Nat × Value)) (st : List Value) : Prop := zJ p l e (zR 2 0 0) s m args below meth c g A 2 (zQi below args s g A 0 0 (wR g ad) Q) (wR g ad u) 0 0 pc lv st
def wp_X8_window_26 (Q : Int32 → RS → Prop) (u : RS) (t0 : Int32) : Prop :=
  Q t0 u
set_option maxRecDepth 20000 in
theorem b_X8_window_26 (C : zC p s m args meth c g A cX8_window RX8 2) (hr : meth.sig.returnType = (some .int)) (ad : Nat → Nat) (Q : Int32 → RS → Prop) (u : RS) (t0 : Int32) (h : wp_X8_window_26 Q u t0) : j_X8_window p l e s m args below meth c g A ad Q u 26 [(0, .ref (ad 0))] [.int t0] := by
  unfold wp_X8_window_26 at h
  exact z_iret C hr u rfl h dX8_window_26
def wp_X8_window (u : RS) (x1 : Int32) (Q : Int32 → RS → Prop) : Prop :=
  ∀ u101 : RS, u101 = rN u 0 0 → wp_X8_in ((x1).toInt64) 0 40 (fun r102 => ((r102 = 0 → wp_X8_window_26 Q u101 0) ∧ (¬ r102 = 0 → wp_X8_windowAt u101 x1 (fun r104 u105 => wp_X8_window_26 Q u105 r104))))
set_option maxRecDepth 20000 in
theorem c_X8_window (l : Launch) (g : zG) (ad : Nat → Nat) (u : RS) (x1 : Int32) (Q : Int32 → RS → Prop) (h : wp_X8_window u x1 Q) : zMi l yX8_window cX8_window 2 (some .int) 2 0 0 g [.ref (ad 0), .int x1] (wR g ad u) (wR g ad) Q := by
  refine zMi_of RX8 (by decide) rfl [(0, .ref (ad 0)), (1, .int x1)] rfl (Nat.le_of_ble_eq_true rfl) (fun p e s m args below meth c A C hr hnm => ?_)
  unfold wp_X8_window at h
  refine z_aload_n C dX8_window_0 rfl 0 rfl ?_
  refine z_iconst (v := 0) C dX8_window_1 (by decide) ?_
  refine pR_thrown C dX8_window_2 ?_
  refine z_stR (fun u101 eu101 => ?_)
  have h := h u101 eu101
  refine z_iload_n C dX8_window_5 rfl 1 rfl ?_
  refine z_i2l C dX8_window_6 ?_
  refine z_lconst (v := 0) C dX8_window_7 (by decide) ?_
  refine z_ldc2 (v := 40) C dX8_window_8 k8_257 ?_
  refine cSi (As := [.long ((x1).toInt64), .long 0, .long 40]) C (c_X8_in l g ((x1).toInt64) 0 40 _ h) s_X8_in ml8_84 ⟨Nat.le_of_ble_eq_true rfl, Nat.le_of_ble_eq_true rfl⟩ ⟨Nat.zero_le _, Nat.zero_le _⟩ (Nat.le_of_ble_eq_true rfl) rfl dX8_window_11 ?_
  intro r102 h
  refine z_if_eq C dX8_window_14 (tgt := 25) (by decide) (fun hc103 => ?_) (fun hc103 => ?_)
  · have h := h.1 hc103
    refine z_iconst (v := 0) C dX8_window_25 (by decide) ?_
    refine z_lv (lv1 := [(0, .ref (ad 0))]) [0] rfl ?_
    exact b_X8_window_26 C hr ad Q u101 0 h
  · have h := h.2 hc103
    refine z_aload_n C dX8_window_17 rfl 0 rfl ?_
    refine z_iload_n C dX8_window_18 rfl 1 rfl ?_
    refine cRi (As := [.int x1]) C (c_X8_windowAt l g ad u101 x1 _ h) v_X8_windowAt ml8_93 rfl ⟨Nat.le_of_ble_eq_true rfl, Nat.le_of_ble_eq_true rfl⟩ ⟨Nat.zero_le _, Nat.zero_le _⟩ (Nat.le_of_ble_eq_true rfl) rfl dX8_window_19 ?_
    intro r104 u105 h
    refine z_goto C dX8_window_22 (tgt := 26) (by decide) ?_
    refine z_lv (lv1 := [(0, .ref (ad 0))]) [0] rfl ?_
    exact b_X8_window_26 C hr ad Q u105 r104 h
abbrev j_X8_part (p : Program) (l : Launch) (e : Env) (s : State) (m : MethodId) (args : Array Value) (below : List Frame) (meth : Method) (c : Code) (g : zG) (A : Nat → Prop) (ad : Nat → Nat) (Q : Int32 → RS → Prop) (u : RS) (pc : Nat) (lv : List (Nat × Value)) (st : List Value) : Prop := zJ p l e (zR 2 0 0) s m args below meth c g A 2 (zQi below args s g A 0 0 (wR g ad) Q) (wR g ad u) 0 0 pc lv st
def wp_X8_part_26 (Q : Int32 → RS → Prop) (u : RS) (t0 : Int32) : Prop :=
  Q t0 u
set_option maxRecDepth 20000 in
theorem b_X8_part_26 (C : zC p s m args meth c g A cX8_part RX8 2) (hr : meth.sig.returnType = (some .int)) (ad : Nat → Nat) (Q : Int32 → RS → Prop) (u : RS) (t0 : Int32) (h : wp_X8_part_26 Q u t0) : j_X8_part p l e s m args below meth c g A ad Q u 26 [(0, .ref (ad 0))] [.int t0] := by
  unfold wp_X8_part_26 at h
  exact z_iret C hr u rfl h dX8_part_26
def wp_X8_part (u : RS) (x1 : Int32) (Q : Int32 → RS → Prop) : Prop :=
  ((¬ ((u.1 3 3) >>> ((x1 / 8) &&& 31)) &&& 1 = 1 → wp_X8_part_26 Q u 0) ∧ (((u.1 3 3) >>> ((x1 / 8) &&& 31)) &&& 1 = 1 → wp_X8_windowAt u x1 (fun r102 u103 => wp_X8_part_26 Q u103 r102)))
set_option maxRecDepth 20000 in
theorem c_X8_part (l : Launch) (g : zG) (ad : Nat → Nat) (u : RS) (x1 : Int32) (Q : Int32 → RS → Prop) (h : wp_X8_part u x1 Q) : zMi l yX8_part cX8_part 2 (some .int) 2 0 0 g [.ref (ad 0), .int x1] (wR g ad u) (wR g ad) Q := by
  refine zMi_of RX8 (by decide) rfl [(0, .ref (ad 0)), (1, .int x1)] rfl (Nat.le_of_ble_eq_true rfl) (fun p e s m args below meth c A C hr hnm => ?_)
  unfold wp_X8_part at h
  refine z_aload_n C dX8_part_0 rfl 0 rfl ?_
  refine gR_row C dX8_part_1 ?_
  refine z_iconst (v := 3) C dX8_part_4 (by decide) ?_
  refine lRn_row C 3 (by decide +kernel) (vp_in_iff.mpr (by decide +kernel)) dX8_part_5 ?_
  refine z_iload_n C dX8_part_6 rfl 1 rfl ?_
  refine z_bipush (v := 8) C dX8_part_7 (by decide) ?_
  refine z_idiv C dX8_part_9 (by decide) ?_
  refine z_ishr C dX8_part_10 ?_
  refine z_iconst (v := 1) C dX8_part_11 (by decide) ?_
  refine z_iand C dX8_part_12 ?_
  refine z_iconst (v := 1) C dX8_part_13 (by decide) ?_
  refine z_icmp_ne C dX8_part_14 (tgt := 25) (by decide) (fun hc101 => ?_) (fun hc101 => ?_)
  · have h := h.1 hc101
    refine z_iconst (v := 0) C dX8_part_25 (by decide) ?_
    refine z_lv (lv1 := [(0, .ref (ad 0))]) [0] rfl ?_
    exact b_X8_part_26 C hr ad Q u 0 h
  · have h := h.2 hc101
    refine z_aload_n C dX8_part_17 rfl 0 rfl ?_
    refine z_iload_n C dX8_part_18 rfl 1 rfl ?_
    refine cRi (As := [.int x1]) C (c_X8_windowAt l g ad u x1 _ h) v_X8_windowAt ml8_93 rfl ⟨Nat.le_of_ble_eq_true rfl, Nat.le_of_ble_eq_true rfl⟩ ⟨Nat.zero_le _, Nat.zero_le _⟩ (Nat.le_of_ble_eq_true rfl) rfl dX8_part_19 ?_
    intro r102 u103 h
    refine z_goto C dX8_part_22 (tgt := 26) (by decide) ?_
    refine z_lv (lv1 := [(0, .ref (ad 0))]) [0] rfl ?_
    exact b_X8_part_26 C hr ad Q u103 r102 h
abbrev j_X8_load (p : Program) (l : Launch) (e : Env) (s : State) (m : MethodId) (args : Array Value) (below : List Frame) (meth : Method) (c : Code) (g : zG) (A : Nat → Prop) (ad : Nat → Nat) (Q : Int32 → RS → Prop) (u : RS) (pc : Nat) (lv : List (Nat × Value)) (st : List Value) : Prop := zJ p l e (zR 2 0 0) s m args below meth c g A 4 (zQi below args s g A 0 0 (wR g ad) Q) (wR g ad u) 0 0 pc lv st
def wp_X8_load_27 (Q : Int32 → RS → Prop) (B27 : RS → Int32 → Int32 → Prop) (u : RS) (x2 : Int32) (x3 : Int32) : Prop :=
  ((4 ≤ x3 → Q x2 u) ∧ (¬ 4 ≤ x3 → wp_X8_hitsOf u x3 (fun r114 u115 => wp_X8_lesser x2 r114 (fun r116 => ∀ x117 : Int32, x117 = x3 + 1 → B27 u115 r116 x117))))
set_option maxRecDepth 20000 in
theorem b_X8_load_27 (C : zC p s m args meth c g A cX8_load RX8 4) (hr : meth.sig.returnType = (some .int)) (ad : Nat → Nat) (Q : Int32 → RS → Prop) (B27 : RS → Int32 → Int32 → Prop) (hB27 : ∀ (u : RS) (x2 : Int32) (x3 : Int32), B27 u x2 x3 → j_X8_load p l e s m args below meth c g A ad Q u 27 [(0, .ref (ad 0)), (2, .int x2), (3, .int x3)] []) (u : RS) (x2 : Int32) (x3 : Int32) (h : wp_X8_load_27 Q B27 u x2 x3) : j_X8_load p l e s m args below meth c g A ad Q u 27 [(0, .ref (ad 0)), (2, .int x2), (3, .int x3)] [] := by
  unfold wp_X8_load_27 at h
  refine z_iload_n C dX8_load_27 rfl 2 rfl ?_
  refine z_iconst (v := 4) C dX8_load_28 (by decide) ?_
  refine z_icmp_ge C dX8_load_29 (tgt := 48) (by decide) (fun hc113 => ?_) (fun hc113 => ?_)
  · have h := h.1 hc113
    refine z_iload_n C dX8_load_48 rfl 1 rfl ?_
    exact z_iret C hr u rfl h dX8_load_49
  · have h := h.2 hc113
    refine z_iload_n C dX8_load_32 rfl 1 rfl ?_
    refine z_aload_n C dX8_load_33 rfl 0 rfl ?_
    refine z_iload_n C dX8_load_34 rfl 2 rfl ?_
    refine cRi (As := [.int x3]) C (c_X8_hitsOf l g ad u x3 _ h) v_X8_hitsOf ml8_269 rfl ⟨Nat.le_of_ble_eq_true rfl, Nat.le_of_ble_eq_true rfl⟩ ⟨Nat.zero_le _, Nat.zero_le _⟩ (Nat.le_of_ble_eq_true rfl) rfl dX8_load_35 ?_
    intro r114 u115 h
    refine cSi (As := [.int x2, .int r114]) C (c_X8_lesser l g x2 r114 _ h) s_X8_lesser ml8_206 ⟨Nat.le_of_ble_eq_true rfl, Nat.le_of_ble_eq_true rfl⟩ ⟨Nat.zero_le _, Nat.zero_le _⟩ (Nat.le_of_ble_eq_true rfl) rfl dX8_load_38 ?_
    intro r116 h
    refine z_istore_n (lv1 := [(2, .int r116), (0, .ref (ad 0)), (3, .int x3)]) C dX8_load_41 rfl (by decide) rfl ?_
    obtain ⟨x117, ex117⟩ : ∃ y : Int32, y = x3 + 1 := ⟨_, rfl⟩
    have h := h x117 ex117
    refine z_iinc (v := x117) (lv1 := [(3, .int x117), (2, .int r116), (0, .ref (ad 0))]) C dX8_load_42 2 rfl (by rw [ex117]; rfl) (by decide) rfl ?_
    refine z_goto C dX8_load_45 (tgt := 27) (by decide) ?_
    refine z_lv (lv1 := [(0, .ref (ad 0)), (2, .int r116), (3, .int x117)]) [2, 1, 0] rfl ?_
    exact hB27 u115 r116 x117 h
theorem l_X8_load_27 (C : zC p s m args meth c g A cX8_load RX8 4) (hr : meth.sig.returnType = (some .int)) (ad : Nat → Nat) (Q : Int32 → RS → Prop) : ∀ (n : Nat) (u : RS) (x2 : Int32) (x3 : Int32), zit3 (wp_X8_load_27 Q) n u x2 x3 → j_X8_load p l e s m args below meth c g A ad Q u 27 [(0, .ref (ad 0)), (2, .int x2), (3, .int x3)] [] := by
  intro n
  induction n with
  | zero => exact fun u x2 x3 h => h.elim
  | succ n ih => exact fun u x2 x3 h => b_X8_load_27 C hr ad Q (zit3 (wp_X8_load_27 Q) n) ih u x2 x3 h
def wp_X8_load (u : RS) (x1 : Int32) (Q : Int32 → RS → Prop) : Prop :=
  ∀ u101 : RS, u101 = rN u 0 0 → ((¬ x1 = 0 → ((¬ x1 = 1 → ((x1 = 2 → wp_X8_lay_ahead u101 0 (fun u105 => wp_X8_layBalanced u105 (fun r106 u107 => wp_X8_greatestHits u107 (fun r108 u109 => wp_X8_bring_ahead u109 0 (fun u110 => Q r108 u110))))) ∧ (¬ x1 = 2 → Q (-1) u101))) ∧ (x1 = 1 → wp_X8_hitsOf u101 0 (fun r111 u112 => (∃ n, zit3 (wp_X8_load_27 Q) n u112 r111 1))))) ∧ (x1 = 0 → wp_X8_greatestHits u101 (fun r118 u119 => Q r118 u119)))
set_option maxRecDepth 20000 in
theorem c_X8_load (l : Launch) (g : zG) (ad : Nat → Nat) (u : RS) (x1 : Int32) (Q : Int32 → RS → Prop) (h : wp_X8_load u x1 Q) : zMi l yX8_load cX8_load 4 (some .int) 2 0 0 g [.ref (ad 0), .int x1] (wR g ad u) (wR g ad) Q := by
  refine zMi_of RX8 (by decide) rfl [(0, .ref (ad 0)), (1, .int x1)] rfl (Nat.le_of_ble_eq_true rfl) (fun p e s m args below meth c A C hr hnm => ?_)
  unfold wp_X8_load at h
  refine z_aload_n C dX8_load_0 rfl 0 rfl ?_
  refine z_iconst (v := 0) C dX8_load_1 (by decide) ?_
  refine pR_thrown C dX8_load_2 ?_
  refine z_stR (fun u101 eu101 => ?_)
  have h := h u101 eu101
  refine z_iload_n C dX8_load_5 rfl 1 rfl ?_
  refine z_if_ne C dX8_load_6 (tgt := 14) (by decide) (fun hc102 => ?_) (fun hc102 => ?_)
  · have h := h.1 hc102
    refine z_iload_n C dX8_load_14 rfl 1 rfl ?_
    refine z_iconst (v := 1) C dX8_load_15 (by decide) ?_
    refine z_icmp_ne C dX8_load_16 (tgt := 50) (by decide) (fun hc103 => ?_) (fun hc103 => ?_)
    · have h := h.1 hc103
      refine z_iload_n C dX8_load_50 rfl 1 rfl ?_
      refine z_iconst (v := 2) C dX8_load_51 (by decide) ?_
      refine z_icmp_eq C dX8_load_52 (tgt := 57) (by decide) (fun hc104 => ?_) (fun hc104 => ?_)
      · have h := h.1 hc104
        refine z_aload_n C dX8_load_57 rfl 0 rfl ?_
        refine z_aload_n C dX8_load_58 rfl 0 rfl ?_
        refine gR_ahead C dX8_load_59 ?_
        refine z_aload_n C dX8_load_62 rfl 0 rfl ?_
        refine gR_aheadSums C dX8_load_63 ?_
        refine z_iconst (v := 0) C dX8_load_66 (by decide) ?_
        refine cRv (As := [.ref (ad 10), .ref (ad 11), .int 0]) C (c_X8_lay_ahead l g ad u101 0 _ h) v_X8_lay ml8_71 rfl ⟨Nat.le_of_ble_eq_true rfl, Nat.le_of_ble_eq_true rfl⟩ ⟨Nat.zero_le _, Nat.zero_le _⟩ (Nat.le_of_ble_eq_true rfl) rfl dX8_load_67 ?_
        intro u105 h
        refine z_aload_n C dX8_load_70 rfl 0 rfl ?_
        refine cRi (As := []) C (c_X8_layBalanced l g ad u105 _ h) v_X8_layBalanced ml8_159 rfl ⟨Nat.le_of_ble_eq_true rfl, Nat.le_of_ble_eq_true rfl⟩ ⟨Nat.zero_le _, Nat.zero_le _⟩ (Nat.le_of_ble_eq_true rfl) rfl dX8_load_71 ?_
        intro r106 u107 h
        refine z_pop C dX8_load_74 rfl ?_
        refine z_aload_n C dX8_load_75 rfl 0 rfl ?_
        refine cRi (As := []) C (c_X8_greatestHits l g ad u107 _ h) v_X8_greatestHits ml8_272 rfl ⟨Nat.le_of_ble_eq_true rfl, Nat.le_of_ble_eq_true rfl⟩ ⟨Nat.zero_le _, Nat.zero_le _⟩ (Nat.le_of_ble_eq_true rfl) rfl dX8_load_76 ?_
        intro r108 u109 h
        refine z_istore_n (lv1 := [(2, .int r108), (0, .ref (ad 0)), (1, .int x1)]) C dX8_load_79 rfl (by decide) rfl ?_
        refine z_aload_n C dX8_load_80 rfl 1 rfl ?_
        refine z_aload_n C dX8_load_81 rfl 1 rfl ?_
        refine gR_ahead C dX8_load_82 ?_
        refine z_aload_n C dX8_load_85 rfl 1 rfl ?_
        refine gR_aheadSums C dX8_load_86 ?_
        refine z_iconst (v := 0) C dX8_load_89 (by decide) ?_
        refine cRv (As := [.ref (ad 10), .ref (ad 11), .int 0]) C (c_X8_bring_ahead l g ad u109 0 _ h) v_X8_bring ml8_78 rfl ⟨Nat.le_of_ble_eq_true rfl, Nat.le_of_ble_eq_true rfl⟩ ⟨Nat.zero_le _, Nat.zero_le _⟩ (Nat.le_of_ble_eq_true rfl) rfl dX8_load_90 ?_
        intro u110 h
        refine z_iload_n C dX8_load_93 rfl 0 rfl ?_
        exact z_iret C hr u110 rfl h dX8_load_94
      · have h := h.2 hc104
        refine z_iconst (v := (-1)) C dX8_load_55 (by decide) ?_
        exact z_iret C hr u101 rfl h dX8_load_56
    · have h := h.2 hc103
      refine z_aload_n C dX8_load_19 rfl 0 rfl ?_
      refine z_iconst (v := 0) C dX8_load_20 (by decide) ?_
      refine cRi (As := [.int 0]) C (c_X8_hitsOf l g ad u101 0 _ h) v_X8_hitsOf ml8_269 rfl ⟨Nat.le_of_ble_eq_true rfl, Nat.le_of_ble_eq_true rfl⟩ ⟨Nat.zero_le _, Nat.zero_le _⟩ (Nat.le_of_ble_eq_true rfl) rfl dX8_load_21 ?_
      intro r111 u112 h
      refine z_istore_n (lv1 := [(2, .int r111), (0, .ref (ad 0)), (1, .int x1)]) C dX8_load_24 rfl (by decide) rfl ?_
      refine z_iconst (v := 1) C dX8_load_25 (by decide) ?_
      refine z_istore_n (lv1 := [(3, .int 1), (2, .int r111), (0, .ref (ad 0)), (1, .int x1)]) C dX8_load_26 rfl (by decide) rfl ?_
      refine z_lv (lv1 := [(0, .ref (ad 0)), (2, .int r111), (3, .int 1)]) [2, 1, 0] rfl ?_
      obtain ⟨n9, h⟩ := h
      exact l_X8_load_27 C hr ad Q n9 u112 r111 1 h
  · have h := h.2 hc102
    refine z_aload_n C dX8_load_9 rfl 0 rfl ?_
    refine cRi (As := []) C (c_X8_greatestHits l g ad u101 _ h) v_X8_greatestHits ml8_272 rfl ⟨Nat.le_of_ble_eq_true rfl, Nat.le_of_ble_eq_true rfl⟩ ⟨Nat.zero_le _, Nat.zero_le _⟩ (Nat.le_of_ble_eq_true rfl) rfl dX8_load_10 ?_
    intro r118 u119 h
    exact z_iret C hr u119 rfl h dX8_load_13
abbrev j_X8_count (p : Program) (l : Launch) (e : Env) (s : State) (m : MethodId) (args : Array Value) (below : List Frame) (meth : Method) (c : Code) (g : zG) (A : Nat → Prop) (ad : Nat → Nat) (Q : Int32 → RS → Prop) (u : RS) (pc : Nat) (lv : List (Nat × Value)) (st : List Value) : Prop := zJ p l e (zR 2 0 0) s m args below meth c g A 2 (zQi below args s g A 0 0 (wR g ad) Q) (wR g ad u) 0 0 pc lv st
def wp_X8_count_265 (Q : Int32 → RS → Prop) (u : RS) (t0 : Int32) : Prop :=
  Q t0 u
set_option maxRecDepth 20000 in
theorem b_X8_count_265 (C : zC p s m args meth c g A cX8_count RX8 2) (hr : meth.sig.returnType = (some .int)) (ad : Nat → Nat) (Q : Int32 → RS → Prop) (u : RS) (t0 : Int32) (h : wp_X8_count_265 Q u t0) : j_X8_count p l e s m args below meth c g A ad Q u 265 [(0, .ref (ad 0))] [.int t0] := by
  unfold wp_X8_count_265 at h
  exact z_iret C hr u rfl h dX8_count_265
def wp_X8_count_235 (Q : Int32 → RS → Prop) (u : RS) (x1 : Int32) : Prop :=
  wp_X8_in ((x1).toInt64) 14 22 (fun r119 => ((r119 = 0 → wp_X8_count_265 Q u (-1)) ∧ (¬ r119 = 0 → vp_in ((14 + x1) - 14) 1065 ∧ wp_X8_count_265 Q u (u.1 3 (zn ((14 + x1) - 14))))))
set_option maxRecDepth 20000 in
theorem b_X8_count_235 (C : zC p s m args meth c g A cX8_count RX8 2) (hr : meth.sig.returnType = (some .int)) (ad : Nat → Nat) (Q : Int32 → RS → Prop) (u : RS) (x1 : Int32) (h : wp_X8_count_235 Q u x1) : j_X8_count p l e s m args below meth c g A ad Q u 235 [(0, .ref (ad 0)), (1, .int x1)] [] := by
  unfold wp_X8_count_235 at h
  refine z_iload_n C dX8_count_235 rfl 1 rfl ?_
  refine z_i2l C dX8_count_236 ?_
  refine z_ldc2 (v := 14) C dX8_count_237 k8_278 ?_
  refine z_ldc2 (v := 22) C dX8_count_240 k8_280 ?_
  refine cSi (As := [.long ((x1).toInt64), .long 14, .long 22]) C (c_X8_in l g ((x1).toInt64) 14 22 _ h) s_X8_in ml8_84 ⟨Nat.le_of_ble_eq_true rfl, Nat.le_of_ble_eq_true rfl⟩ ⟨Nat.zero_le _, Nat.zero_le _⟩ (Nat.le_of_ble_eq_true rfl) rfl dX8_count_243 ?_
  intro r119 h
  refine z_if_eq C dX8_count_246 (tgt := 264) (by decide) (fun hc120 => ?_) (fun hc120 => ?_)
  · have h := h.1 hc120
    refine z_iconst (v := (-1)) C dX8_count_264 (by decide) ?_
    refine z_lv (lv1 := [(0, .ref (ad 0))]) [0] rfl ?_
    exact b_X8_count_265 C hr ad Q u (-1) h
  · have h := h.2 hc120
    refine z_aload_n C dX8_count_249 rfl 0 rfl ?_
    refine gR_row C dX8_count_250 ?_
    refine z_bipush (v := 14) C dX8_count_253 (by decide) ?_
    refine z_iload_n C dX8_count_255 rfl 1 rfl ?_
    refine z_iadd C dX8_count_256 ?_
    refine z_bipush (v := 14) C dX8_count_257 (by decide) ?_
    refine z_isub C dX8_count_259 ?_
    obtain ⟨hi121, h⟩ := h
    refine lR_row C hi121 dX8_count_260 ?_
    refine z_goto C dX8_count_261 (tgt := 265) (by decide) ?_
    refine z_lv (lv1 := [(0, .ref (ad 0))]) [0] rfl ?_
    exact b_X8_count_265 C hr ad Q u (u.1 3 (zn ((14 + x1) - 14))) h
def wp_X8_count (u : RS) (x1 : Int32) (Q : Int32 → RS → Prop) : Prop :=
  ∀ u101 : RS, u101 = rN u 0 0 → ((x1 = 0 → Q (u101.1 3 6) u101) ∧ (x1 = 1 → Q (u101.1 3 4) u101) ∧ (x1 = 2 → Q (u101.1 3 5) u101) ∧ (x1 = 3 → Q (u101.1 3 3) u101) ∧ (x1 = 4 → wp_X8_packets u101 (fun r107 u108 => Q r107 u108)) ∧ (x1 = 5 → Q (u101.1 3 7) u101) ∧ (x1 = 6 → Q (u101.1 3 8) u101) ∧ (x1 = 7 → Q (u101.1 3 9) u101) ∧ (x1 = 8 → Q (u101.1 3 10) u101) ∧ (x1 = 9 → Q (u101.1 8 0) u101) ∧ (x1 = 10 → Q (u101.1 2 1) u101) ∧ (x1 = 11 → Q (u101.1 2 2) u101) ∧ (x1 = 12 → Q (u101.1 2 4) u101) ∧ (x1 = 13 → Q (u101.1 2 5) u101) ∧ (x1 = 14 → wp_X8_count_235 Q u101 x1) ∧ (x1 = 15 → wp_X8_count_235 Q u101 x1) ∧ (x1 = 16 → wp_X8_count_235 Q u101 x1) ∧ (x1 = 17 → wp_X8_count_235 Q u101 x1) ∧ (x1 = 18 → wp_X8_count_235 Q u101 x1) ∧ (x1 = 19 → wp_X8_count_235 Q u101 x1) ∧ (x1 = 20 → wp_X8_count_235 Q u101 x1) ∧ (x1 = 21 → wp_X8_count_235 Q u101 x1) ∧ (x1 = 22 → wp_X8_count_235 Q u101 x1) ∧ (x1 = 23 → Q (u101.1 3 11) u101) ∧ (x1 = 24 → Q (u101.1 3 12) u101) ∧ (¬ x1 = 0 → ¬ x1 = 1 → ¬ x1 = 2 → ¬ x1 = 3 → ¬ x1 = 4 → ¬ x1 = 5 → ¬ x1 = 6 → ¬ x1 = 7 → ¬ x1 = 8 → ¬ x1 = 9 → ¬ x1 = 10 → ¬ x1 = 11 → ¬ x1 = 12 → ¬ x1 = 13 → ¬ x1 = 14 → ¬ x1 = 15 → ¬ x1 = 16 → ¬ x1 = 17 → ¬ x1 = 18 → ¬ x1 = 19 → ¬ x1 = 20 → ¬ x1 = 21 → ¬ x1 = 22 → ¬ x1 = 23 → ¬ x1 = 24 → wp_X8_count_235 Q u101 x1))
set_option maxRecDepth 20000 in
theorem c_X8_count (l : Launch) (g : zG) (ad : Nat → Nat) (u : RS) (x1 : Int32) (Q : Int32 → RS → Prop) (h : wp_X8_count u x1 Q) : zMi l yX8_count cX8_count 2 (some .int) 2 0 0 g [.ref (ad 0), .int x1] (wR g ad u) (wR g ad) Q := by
  refine zMi_of RX8 (by decide) rfl [(0, .ref (ad 0)), (1, .int x1)] rfl (Nat.le_of_ble_eq_true rfl) (fun p e s m args below meth c A C hr hnm => ?_)
  unfold wp_X8_count at h
  refine z_aload_n C dX8_count_0 rfl 0 rfl ?_
  refine z_iconst (v := 0) C dX8_count_1 (by decide) ?_
  refine pR_thrown C dX8_count_2 ?_
  refine z_stR (fun u101 eu101 => ?_)
  have h := h u101 eu101
  refine z_iload_n C dX8_count_5 rfl 1 rfl ?_
  by_cases hx102 : x1 = 0
  · have h := h.1 hx102
    refine z_tIn C dX8_count_6 (0) (by rw [hx102]; decide) (by decide) (by decide) rfl (tgt := 120) (by decide) ?_
    refine z_aload_n C dX8_count_120 rfl 0 rfl ?_
    refine gR_row C dX8_count_121 ?_
    refine z_bipush (v := 6) C dX8_count_124 (by decide) ?_
    refine lRn_row C 6 (by decide +kernel) (vp_in_iff.mpr (by decide +kernel)) dX8_count_126 ?_
    exact z_iret C hr u101 rfl h dX8_count_127
  have h := h.2
  by_cases hx103 : x1 = 1
  · have h := h.1 hx103
    refine z_tIn C dX8_count_6 (1) (by rw [hx103]; decide) (by decide) (by decide) rfl (tgt := 128) (by decide) ?_
    refine z_aload_n C dX8_count_128 rfl 0 rfl ?_
    refine gR_row C dX8_count_129 ?_
    refine z_iconst (v := 4) C dX8_count_132 (by decide) ?_
    refine lRn_row C 4 (by decide +kernel) (vp_in_iff.mpr (by decide +kernel)) dX8_count_133 ?_
    exact z_iret C hr u101 rfl h dX8_count_134
  have h := h.2
  by_cases hx104 : x1 = 2
  · have h := h.1 hx104
    refine z_tIn C dX8_count_6 (2) (by rw [hx104]; decide) (by decide) (by decide) rfl (tgt := 135) (by decide) ?_
    refine z_aload_n C dX8_count_135 rfl 0 rfl ?_
    refine gR_row C dX8_count_136 ?_
    refine z_iconst (v := 5) C dX8_count_139 (by decide) ?_
    refine lRn_row C 5 (by decide +kernel) (vp_in_iff.mpr (by decide +kernel)) dX8_count_140 ?_
    exact z_iret C hr u101 rfl h dX8_count_141
  have h := h.2
  by_cases hx105 : x1 = 3
  · have h := h.1 hx105
    refine z_tIn C dX8_count_6 (3) (by rw [hx105]; decide) (by decide) (by decide) rfl (tgt := 142) (by decide) ?_
    refine z_aload_n C dX8_count_142 rfl 0 rfl ?_
    refine gR_row C dX8_count_143 ?_
    refine z_iconst (v := 3) C dX8_count_146 (by decide) ?_
    refine lRn_row C 3 (by decide +kernel) (vp_in_iff.mpr (by decide +kernel)) dX8_count_147 ?_
    exact z_iret C hr u101 rfl h dX8_count_148
  have h := h.2
  by_cases hx106 : x1 = 4
  · have h := h.1 hx106
    refine z_tIn C dX8_count_6 (4) (by rw [hx106]; decide) (by decide) (by decide) rfl (tgt := 149) (by decide) ?_
    refine z_aload_n C dX8_count_149 rfl 0 rfl ?_
    refine cRi (As := []) C (c_X8_packets l g ad u101 _ h) v_X8_packets ml8_275 rfl ⟨Nat.le_of_ble_eq_true rfl, Nat.le_of_ble_eq_true rfl⟩ ⟨Nat.zero_le _, Nat.zero_le _⟩ (Nat.le_of_ble_eq_true rfl) rfl dX8_count_150 ?_
    intro r107 u108 h
    exact z_iret C hr u108 rfl h dX8_count_153
  have h := h.2
  by_cases hx109 : x1 = 5
  · have h := h.1 hx109
    refine z_tIn C dX8_count_6 (5) (by rw [hx109]; decide) (by decide) (by decide) rfl (tgt := 154) (by decide) ?_
    refine z_aload_n C dX8_count_154 rfl 0 rfl ?_
    refine gR_row C dX8_count_155 ?_
    refine z_bipush (v := 7) C dX8_count_158 (by decide) ?_
    refine lRn_row C 7 (by decide +kernel) (vp_in_iff.mpr (by decide +kernel)) dX8_count_160 ?_
    exact z_iret C hr u101 rfl h dX8_count_161
  have h := h.2
  by_cases hx110 : x1 = 6
  · have h := h.1 hx110
    refine z_tIn C dX8_count_6 (6) (by rw [hx110]; decide) (by decide) (by decide) rfl (tgt := 162) (by decide) ?_
    refine z_aload_n C dX8_count_162 rfl 0 rfl ?_
    refine gR_row C dX8_count_163 ?_
    refine z_bipush (v := 8) C dX8_count_166 (by decide) ?_
    refine lRn_row C 8 (by decide +kernel) (vp_in_iff.mpr (by decide +kernel)) dX8_count_168 ?_
    exact z_iret C hr u101 rfl h dX8_count_169
  have h := h.2
  by_cases hx111 : x1 = 7
  · have h := h.1 hx111
    refine z_tIn C dX8_count_6 (7) (by rw [hx111]; decide) (by decide) (by decide) rfl (tgt := 170) (by decide) ?_
    refine z_aload_n C dX8_count_170 rfl 0 rfl ?_
    refine gR_row C dX8_count_171 ?_
    refine z_bipush (v := 9) C dX8_count_174 (by decide) ?_
    refine lRn_row C 9 (by decide +kernel) (vp_in_iff.mpr (by decide +kernel)) dX8_count_176 ?_
    exact z_iret C hr u101 rfl h dX8_count_177
  have h := h.2
  by_cases hx112 : x1 = 8
  · have h := h.1 hx112
    refine z_tIn C dX8_count_6 (8) (by rw [hx112]; decide) (by decide) (by decide) rfl (tgt := 178) (by decide) ?_
    refine z_aload_n C dX8_count_178 rfl 0 rfl ?_
    refine gR_row C dX8_count_179 ?_
    refine z_bipush (v := 10) C dX8_count_182 (by decide) ?_
    refine lRn_row C 10 (by decide +kernel) (vp_in_iff.mpr (by decide +kernel)) dX8_count_184 ?_
    exact z_iret C hr u101 rfl h dX8_count_185
  have h := h.2
  by_cases hx113 : x1 = 9
  · have h := h.1 hx113
    refine z_tIn C dX8_count_6 (9) (by rw [hx113]; decide) (by decide) (by decide) rfl (tgt := 186) (by decide) ?_
    refine z_aload_n C dX8_count_186 rfl 0 rfl ?_
    refine gR_nUndo C dX8_count_187 ?_
    exact z_iret C hr u101 rfl h dX8_count_190
  have h := h.2
  by_cases hx114 : x1 = 10
  · have h := h.1 hx114
    refine z_tIn C dX8_count_6 (10) (by rw [hx114]; decide) (by decide) (by decide) rfl (tgt := 191) (by decide) ?_
    refine z_aload_n C dX8_count_191 rfl 0 rfl ?_
    refine gR_refusals C dX8_count_192 ?_
    refine z_iconst (v := 1) C dX8_count_195 (by decide) ?_
    refine lRn_refusals C 1 (by decide +kernel) (vp_in_iff.mpr (by decide +kernel)) dX8_count_196 ?_
    exact z_iret C hr u101 rfl h dX8_count_197
  have h := h.2
  by_cases hx115 : x1 = 11
  · have h := h.1 hx115
    refine z_tIn C dX8_count_6 (11) (by rw [hx115]; decide) (by decide) (by decide) rfl (tgt := 198) (by decide) ?_
    refine z_aload_n C dX8_count_198 rfl 0 rfl ?_
    refine gR_refusals C dX8_count_199 ?_
    refine z_iconst (v := 2) C dX8_count_202 (by decide) ?_
    refine lRn_refusals C 2 (by decide +kernel) (vp_in_iff.mpr (by decide +kernel)) dX8_count_203 ?_
    exact z_iret C hr u101 rfl h dX8_count_204
  have h := h.2
  by_cases hx116 : x1 = 12
  · have h := h.1 hx116
    refine z_tIn C dX8_count_6 (12) (by rw [hx116]; decide) (by decide) (by decide) rfl (tgt := 205) (by decide) ?_
    refine z_aload_n C dX8_count_205 rfl 0 rfl ?_
    refine gR_refusals C dX8_count_206 ?_
    refine z_iconst (v := 4) C dX8_count_209 (by decide) ?_
    refine lRn_refusals C 4 (by decide +kernel) (vp_in_iff.mpr (by decide +kernel)) dX8_count_210 ?_
    exact z_iret C hr u101 rfl h dX8_count_211
  have h := h.2
  by_cases hx117 : x1 = 13
  · have h := h.1 hx117
    refine z_tIn C dX8_count_6 (13) (by rw [hx117]; decide) (by decide) (by decide) rfl (tgt := 212) (by decide) ?_
    refine z_aload_n C dX8_count_212 rfl 0 rfl ?_
    refine gR_refusals C dX8_count_213 ?_
    refine z_iconst (v := 5) C dX8_count_216 (by decide) ?_
    refine lRn_refusals C 5 (by decide +kernel) (vp_in_iff.mpr (by decide +kernel)) dX8_count_217 ?_
    exact z_iret C hr u101 rfl h dX8_count_218
  have h := h.2
  by_cases hx118 : x1 = 14
  · have h := h.1 hx118
    refine z_tIn C dX8_count_6 (14) (by rw [hx118]; decide) (by decide) (by decide) rfl (tgt := 235) (by decide) ?_
    exact b_X8_count_235 C hr ad Q u101 x1 h
  have h := h.2
  by_cases hx122 : x1 = 15
  · have h := h.1 hx122
    refine z_tIn C dX8_count_6 (15) (by rw [hx122]; decide) (by decide) (by decide) rfl (tgt := 235) (by decide) ?_
    exact b_X8_count_235 C hr ad Q u101 x1 h
  have h := h.2
  by_cases hx123 : x1 = 16
  · have h := h.1 hx123
    refine z_tIn C dX8_count_6 (16) (by rw [hx123]; decide) (by decide) (by decide) rfl (tgt := 235) (by decide) ?_
    exact b_X8_count_235 C hr ad Q u101 x1 h
  have h := h.2
  by_cases hx124 : x1 = 17
  · have h := h.1 hx124
    refine z_tIn C dX8_count_6 (17) (by rw [hx124]; decide) (by decide) (by decide) rfl (tgt := 235) (by decide) ?_
    exact b_X8_count_235 C hr ad Q u101 x1 h
  have h := h.2
  by_cases hx125 : x1 = 18
  · have h := h.1 hx125
    refine z_tIn C dX8_count_6 (18) (by rw [hx125]; decide) (by decide) (by decide) rfl (tgt := 235) (by decide) ?_
    exact b_X8_count_235 C hr ad Q u101 x1 h
  have h := h.2
  by_cases hx126 : x1 = 19
  · have h := h.1 hx126
    refine z_tIn C dX8_count_6 (19) (by rw [hx126]; decide) (by decide) (by decide) rfl (tgt := 235) (by decide) ?_
    exact b_X8_count_235 C hr ad Q u101 x1 h
  have h := h.2
  by_cases hx127 : x1 = 20
  · have h := h.1 hx127
    refine z_tIn C dX8_count_6 (20) (by rw [hx127]; decide) (by decide) (by decide) rfl (tgt := 235) (by decide) ?_
    exact b_X8_count_235 C hr ad Q u101 x1 h
  have h := h.2
  by_cases hx128 : x1 = 21
  · have h := h.1 hx128
    refine z_tIn C dX8_count_6 (21) (by rw [hx128]; decide) (by decide) (by decide) rfl (tgt := 235) (by decide) ?_
    exact b_X8_count_235 C hr ad Q u101 x1 h
  have h := h.2
  by_cases hx129 : x1 = 22
  · have h := h.1 hx129
    refine z_tIn C dX8_count_6 (22) (by rw [hx129]; decide) (by decide) (by decide) rfl (tgt := 235) (by decide) ?_
    exact b_X8_count_235 C hr ad Q u101 x1 h
  have h := h.2
  by_cases hx130 : x1 = 23
  · have h := h.1 hx130
    refine z_tIn C dX8_count_6 (23) (by rw [hx130]; decide) (by decide) (by decide) rfl (tgt := 219) (by decide) ?_
    refine z_aload_n C dX8_count_219 rfl 0 rfl ?_
    refine gR_row C dX8_count_220 ?_
    refine z_bipush (v := 11) C dX8_count_223 (by decide) ?_
    refine lRn_row C 11 (by decide +kernel) (vp_in_iff.mpr (by decide +kernel)) dX8_count_225 ?_
    exact z_iret C hr u101 rfl h dX8_count_226
  have h := h.2
  by_cases hx131 : x1 = 24
  · have h := h.1 hx131
    refine z_tIn C dX8_count_6 (24) (by rw [hx131]; decide) (by decide) (by decide) rfl (tgt := 227) (by decide) ?_
    refine z_aload_n C dX8_count_227 rfl 0 rfl ?_
    refine gR_row C dX8_count_228 ?_
    refine z_bipush (v := 12) C dX8_count_231 (by decide) ?_
    refine lRn_row C 12 (by decide +kernel) (vp_in_iff.mpr (by decide +kernel)) dX8_count_233 ?_
    exact z_iret C hr u101 rfl h dX8_count_234
  have h := h.2
  have h := h hx102 hx103 hx104 hx105 hx106 hx109 hx110 hx111 hx112 hx113 hx114 hx115 hx116 hx117 hx118 hx122 hx123 hx124 hx125 hx126 hx127 hx128 hx129 hx130 hx131
  have thx102 := lv_neT (a := 0) hx102 (by decide)
  have thx103 := lv_neT (a := 1) hx103 (by decide)
  have thx104 := lv_neT (a := 2) hx104 (by decide)
  have thx105 := lv_neT (a := 3) hx105 (by decide)
  have thx106 := lv_neT (a := 4) hx106 (by decide)
  have thx109 := lv_neT (a := 5) hx109 (by decide)
  have thx110 := lv_neT (a := 6) hx110 (by decide)
  have thx111 := lv_neT (a := 7) hx111 (by decide)
  have thx112 := lv_neT (a := 8) hx112 (by decide)
  have thx113 := lv_neT (a := 9) hx113 (by decide)
  have thx114 := lv_neT (a := 10) hx114 (by decide)
  have thx115 := lv_neT (a := 11) hx115 (by decide)
  have thx116 := lv_neT (a := 12) hx116 (by decide)
  have thx117 := lv_neT (a := 13) hx117 (by decide)
  have thx118 := lv_neT (a := 14) hx118 (by decide)
  have thx122 := lv_neT (a := 15) hx122 (by decide)
  have thx123 := lv_neT (a := 16) hx123 (by decide)
  have thx124 := lv_neT (a := 17) hx124 (by decide)
  have thx125 := lv_neT (a := 18) hx125 (by decide)
  have thx126 := lv_neT (a := 19) hx126 (by decide)
  have thx127 := lv_neT (a := 20) hx127 (by decide)
  have thx128 := lv_neT (a := 21) hx128 (by decide)
  have thx129 := lv_neT (a := 22) hx129 (by decide)
  have thx130 := lv_neT (a := 23) hx130 (by decide)
  have thx131 := lv_neT (a := 24) hx131 (by decide)
  refine z_tOut C dX8_count_6 (by omega) (tgt := 235) (by decide) ?_
  exact b_X8_count_235 C hr ad Q u101 x1 h
end WR
