section WC
variable {p : Program} {l : Launch} {e : Env} {s : State} {m : MethodId} {args : Array Value} {below : List Frame} {meth : Method} {c : Code} {g : zG} {A : Nat → Prop}
theorem sTw0 {R : Room} {nL : Nat} {Q : State → Prop} {k n pc : Nat} {lv : List (Nat × Value)} {st : List Value} {ad bd : Nat → Nat} {v u0 : RS} (h : ∀ u : RS, u = u0 → zJ p l e R s m args below meth c g A nL Q (wX0 g ad u ++ wX0 g bd v) k n pc lv st) : zJ p l e R s m args below meth c g A nL Q (wX0 g ad u0 ++ wX0 g bd v) k n pc lv st := h u0 rfl
theorem sTw2 {R : Room} {nL : Nat} {Q : State → Prop} {k n pc : Nat} {lv : List (Nat × Value)} {st : List Value} {ad bd : Nat → Nat} {v u0 : RS} (h : ∀ u : RS, u = u0 → zJ p l e R s m args below meth c g A nL Q (wX2 g ad u ++ wX2 g bd v) k n pc lv st) : zJ p l e R s m args below meth c g A nL Q (wX2 g ad u0 ++ wX2 g bd v) k n pc lv st := h u0 rfl
theorem sTw3 {R : Room} {nL : Nat} {Q : State → Prop} {k n pc : Nat} {lv : List (Nat × Value)} {st : List Value} {ad bd : Nat → Nat} {v u0 : RS} (h : ∀ u : RS, u = u0 → zJ p l e R s m args below meth c g A nL Q (wX3 g ad u ++ wX3 g bd v) k n pc lv st) : zJ p l e R s m args below meth c g A nL Q (wX3 g ad u0 ++ wX3 g bd v) k n pc lv st := h u0 rfl
theorem sTw4 {R : Room} {nL : Nat} {Q : State → Prop} {k n pc : Nat} {lv : List (Nat × Value)} {st : List Value} {ad bd : Nat → Nat} {v u0 : RS} (h : ∀ u : RS, u = u0 → zJ p l e R s m args below meth c g A nL Q (wX4 g ad u ++ wX4 g bd v) k n pc lv st) : zJ p l e R s m args below meth c g A nL Q (wX4 g ad u0 ++ wX4 g bd v) k n pc lv st := h u0 rfl
theorem sTw6 {R : Room} {nL : Nat} {Q : State → Prop} {k n pc : Nat} {lv : List (Nat × Value)} {st : List Value} {ad bd : Nat → Nat} {v u0 : RS} (h : ∀ u : RS, u = u0 → zJ p l e R s m args below meth c g A nL Q (wX6 g ad u ++ wX6 g bd v) k n pc lv st) : zJ p l e R s m args below meth c g A nL Q (wX6 g ad u0 ++ wX6 g bd v) k n pc lv st := h u0 rfl
abbrev j_X7_isQueue (p : Program) (l : Launch) (e : Env) (s : State) (m : MethodId) (args : Array Value) (below : List Frame) (meth : Method) (c : Code) (g : zG) (A : Nat → Prop) (Q : Int32 → Prop) (pc : Nat) (lv : List (Nat × Value)) (st : List Value) : Prop := zJ p l e (zR 0 0 0) s m args below meth c g A 1 (zQi below args s g A 0 0 (fun _ : Unit => []) (fun r _ => Q r)) [] 0 0 pc lv st
def wp_X7_isQueue_14 (Q : Int32 → Prop) (t0 : Int32) : Prop :=
  (zBool t0 ∧ Q t0)
set_option maxRecDepth 20000 in
theorem b_X7_isQueue_14 (C : zC p s m args meth c g A cX7_isQueue RX7 1) (hr : meth.sig.returnType = (some .boolean)) (Q : Int32 → Prop) (t0 : Int32) (h : wp_X7_isQueue_14 Q t0) : j_X7_isQueue p l e s m args below meth c g A Q 14 [] [.int t0] := by
  unfold wp_X7_isQueue_14 at h
  exact z_zret C hr () rfl h.1 h.2 dX7_isQueue_14
def wp_X7_isQueue_13 (Q : Int32 → Prop) : Prop :=
  wp_X7_isQueue_14 Q 0
set_option maxRecDepth 20000 in
theorem b_X7_isQueue_13 (C : zC p s m args meth c g A cX7_isQueue RX7 1) (hr : meth.sig.returnType = (some .boolean)) (Q : Int32 → Prop) (h : wp_X7_isQueue_13 Q) : j_X7_isQueue p l e s m args below meth c g A Q 13 [] [] := by
  unfold wp_X7_isQueue_13 at h
  refine z_iconst (v := 0) C dX7_isQueue_13 (by decide) ?_
  exact b_X7_isQueue_14 C hr Q 0 h
def wp_X7_isQueue (x0 : Int32) (Q : Int32 → Prop) : Prop :=
  ((x0 < 0 → wp_X7_isQueue_13 Q) ∧ (¬ x0 < 0 → ((4 ≤ x0 → wp_X7_isQueue_13 Q) ∧ (¬ 4 ≤ x0 → wp_X7_isQueue_14 Q 1))))
set_option maxRecDepth 20000 in
theorem c_X7_isQueue (l : Launch) (g : zG) (x0 : Int32) (Q : Int32 → Prop) (h : wp_X7_isQueue x0 Q) : zMi l yX7_isQueue cX7_isQueue 1 (some .boolean) 0 0 0 g [.int x0] [] (fun _ : Unit => []) (fun r _ => Q r) := by
  refine zMi_of RX7 (by decide) rfl [(0, .int x0)] rfl (Nat.le_of_ble_eq_true rfl) (fun p e s m args below meth c A C hr hnm => ?_)
  unfold wp_X7_isQueue at h
  refine z_iload_n C dX7_isQueue_0 rfl 0 rfl ?_
  refine z_if_lt C dX7_isQueue_1 (tgt := 13) (by decide) (fun hc101 => ?_) (fun hc101 => ?_)
  · have h := h.1 hc101
    refine z_lv (lv1 := []) [] rfl ?_
    exact b_X7_isQueue_13 C hr Q h
  · have h := h.2 hc101
    refine z_iload_n C dX7_isQueue_4 rfl 0 rfl ?_
    refine z_iconst (v := 4) C dX7_isQueue_5 (by decide) ?_
    refine z_icmp_ge C dX7_isQueue_6 (tgt := 13) (by decide) (fun hc102 => ?_) (fun hc102 => ?_)
    · have h := h.1 hc102
      refine z_lv (lv1 := []) [] rfl ?_
      exact b_X7_isQueue_13 C hr Q h
    · have h := h.2 hc102
      refine z_iconst (v := 1) C dX7_isQueue_9 (by decide) ?_
      refine z_goto C dX7_isQueue_10 (tgt := 14) (by decide) ?_
      refine z_lv (lv1 := []) [] rfl ?_
      exact b_X7_isQueue_14 C hr Q 1 h
abbrev j_X7_isEntry (p : Program) (l : Launch) (e : Env) (s : State) (m : MethodId) (args : Array Value) (below : List Frame) (meth : Method) (c : Code) (g : zG) (A : Nat → Prop) (Q : Int32 → Prop) (pc : Nat) (lv : List (Nat × Value)) (st : List Value) : Prop := zJ p l e (zR 0 0 0) s m args below meth c g A 1 (zQi below args s g A 0 0 (fun _ : Unit => []) (fun r _ => Q r)) [] 0 0 pc lv st
def wp_X7_isEntry_15 (Q : Int32 → Prop) (t0 : Int32) : Prop :=
  (zBool t0 ∧ Q t0)
set_option maxRecDepth 20000 in
theorem b_X7_isEntry_15 (C : zC p s m args meth c g A cX7_isEntry RX7 1) (hr : meth.sig.returnType = (some .boolean)) (Q : Int32 → Prop) (t0 : Int32) (h : wp_X7_isEntry_15 Q t0) : j_X7_isEntry p l e s m args below meth c g A Q 15 [] [.int t0] := by
  unfold wp_X7_isEntry_15 at h
  exact z_zret C hr () rfl h.1 h.2 dX7_isEntry_15
def wp_X7_isEntry_14 (Q : Int32 → Prop) : Prop :=
  wp_X7_isEntry_15 Q 0
set_option maxRecDepth 20000 in
theorem b_X7_isEntry_14 (C : zC p s m args meth c g A cX7_isEntry RX7 1) (hr : meth.sig.returnType = (some .boolean)) (Q : Int32 → Prop) (h : wp_X7_isEntry_14 Q) : j_X7_isEntry p l e s m args below meth c g A Q 14 [] [] := by
  unfold wp_X7_isEntry_14 at h
  refine z_iconst (v := 0) C dX7_isEntry_14 (by decide) ?_
  exact b_X7_isEntry_15 C hr Q 0 h
def wp_X7_isEntry (x0 : Int32) (Q : Int32 → Prop) : Prop :=
  ((x0 < 0 → wp_X7_isEntry_14 Q) ∧ (¬ x0 < 0 → ((16 ≤ x0 → wp_X7_isEntry_14 Q) ∧ (¬ 16 ≤ x0 → wp_X7_isEntry_15 Q 1))))
set_option maxRecDepth 20000 in
theorem c_X7_isEntry (l : Launch) (g : zG) (x0 : Int32) (Q : Int32 → Prop) (h : wp_X7_isEntry x0 Q) : zMi l yX7_isEntry cX7_isEntry 1 (some .boolean) 0 0 0 g [.int x0] [] (fun _ : Unit => []) (fun r _ => Q r) := by
  refine zMi_of RX7 (by decide) rfl [(0, .int x0)] rfl (Nat.le_of_ble_eq_true rfl) (fun p e s m args below meth c A C hr hnm => ?_)
  unfold wp_X7_isEntry at h
  refine z_iload_n C dX7_isEntry_0 rfl 0 rfl ?_
  refine z_if_lt C dX7_isEntry_1 (tgt := 14) (by decide) (fun hc101 => ?_) (fun hc101 => ?_)
  · have h := h.1 hc101
    refine z_lv (lv1 := []) [] rfl ?_
    exact b_X7_isEntry_14 C hr Q h
  · have h := h.2 hc101
    refine z_iload_n C dX7_isEntry_4 rfl 0 rfl ?_
    refine z_bipush (v := 16) C dX7_isEntry_5 (by decide) ?_
    refine z_icmp_ge C dX7_isEntry_7 (tgt := 14) (by decide) (fun hc102 => ?_) (fun hc102 => ?_)
    · have h := h.1 hc102
      refine z_lv (lv1 := []) [] rfl ?_
      exact b_X7_isEntry_14 C hr Q h
    · have h := h.2 hc102
      refine z_iconst (v := 1) C dX7_isEntry_10 (by decide) ?_
      refine z_goto C dX7_isEntry_11 (tgt := 15) (by decide) ?_
      refine z_lv (lv1 := []) [] rfl ?_
      exact b_X7_isEntry_15 C hr Q 1 h
abbrev j_X7_isByte (p : Program) (l : Launch) (e : Env) (s : State) (m : MethodId) (args : Array Value) (below : List Frame) (meth : Method) (c : Code) (g : zG) (A : Nat → Prop) (Q : Int32 → Prop) (pc : Nat) (lv : List (Nat × Value)) (st : List Value) : Prop := zJ p l e (zR 0 0 0) s m args below meth c g A 1 (zQi below args s g A 0 0 (fun _ : Unit => []) (fun r _ => Q r)) [] 0 0 pc lv st
def wp_X7_isByte_16 (Q : Int32 → Prop) (t0 : Int32) : Prop :=
  (zBool t0 ∧ Q t0)
set_option maxRecDepth 20000 in
theorem b_X7_isByte_16 (C : zC p s m args meth c g A cX7_isByte RX7 1) (hr : meth.sig.returnType = (some .boolean)) (Q : Int32 → Prop) (t0 : Int32) (h : wp_X7_isByte_16 Q t0) : j_X7_isByte p l e s m args below meth c g A Q 16 [] [.int t0] := by
  unfold wp_X7_isByte_16 at h
  exact z_zret C hr () rfl h.1 h.2 dX7_isByte_16
def wp_X7_isByte_15 (Q : Int32 → Prop) : Prop :=
  wp_X7_isByte_16 Q 0
set_option maxRecDepth 20000 in
theorem b_X7_isByte_15 (C : zC p s m args meth c g A cX7_isByte RX7 1) (hr : meth.sig.returnType = (some .boolean)) (Q : Int32 → Prop) (h : wp_X7_isByte_15 Q) : j_X7_isByte p l e s m args below meth c g A Q 15 [] [] := by
  unfold wp_X7_isByte_15 at h
  refine z_iconst (v := 0) C dX7_isByte_15 (by decide) ?_
  exact b_X7_isByte_16 C hr Q 0 h
def wp_X7_isByte (x0 : Int32) (Q : Int32 → Prop) : Prop :=
  ((x0 < 0 → wp_X7_isByte_15 Q) ∧ (¬ x0 < 0 → ((255 < x0 → wp_X7_isByte_15 Q) ∧ (¬ 255 < x0 → wp_X7_isByte_16 Q 1))))
set_option maxRecDepth 20000 in
theorem c_X7_isByte (l : Launch) (g : zG) (x0 : Int32) (Q : Int32 → Prop) (h : wp_X7_isByte x0 Q) : zMi l yX7_isByte cX7_isByte 1 (some .boolean) 0 0 0 g [.int x0] [] (fun _ : Unit => []) (fun r _ => Q r) := by
  refine zMi_of RX7 (by decide) rfl [(0, .int x0)] rfl (Nat.le_of_ble_eq_true rfl) (fun p e s m args below meth c A C hr hnm => ?_)
  unfold wp_X7_isByte at h
  refine z_iload_n C dX7_isByte_0 rfl 0 rfl ?_
  refine z_if_lt C dX7_isByte_1 (tgt := 15) (by decide) (fun hc101 => ?_) (fun hc101 => ?_)
  · have h := h.1 hc101
    refine z_lv (lv1 := []) [] rfl ?_
    exact b_X7_isByte_15 C hr Q h
  · have h := h.2 hc101
    refine z_iload_n C dX7_isByte_4 rfl 0 rfl ?_
    refine z_sipush (v := 255) C dX7_isByte_5 (by decide) ?_
    refine z_icmp_gt C dX7_isByte_8 (tgt := 15) (by decide) (fun hc102 => ?_) (fun hc102 => ?_)
    · have h := h.1 hc102
      refine z_lv (lv1 := []) [] rfl ?_
      exact b_X7_isByte_15 C hr Q h
    · have h := h.2 hc102
      refine z_iconst (v := 1) C dX7_isByte_11 (by decide) ?_
      refine z_goto C dX7_isByte_12 (tgt := 16) (by decide) ?_
      refine z_lv (lv1 := []) [] rfl ?_
      exact b_X7_isByte_16 C hr Q 1 h
abbrev j_X7_isSize (p : Program) (l : Launch) (e : Env) (s : State) (m : MethodId) (args : Array Value) (below : List Frame) (meth : Method) (c : Code) (g : zG) (A : Nat → Prop) (Q : Int32 → Prop) (pc : Nat) (lv : List (Nat × Value)) (st : List Value) : Prop := zJ p l e (zR 0 0 0) s m args below meth c g A 1 (zQi below args s g A 0 0 (fun _ : Unit => []) (fun r _ => Q r)) [] 0 0 pc lv st
def wp_X7_isSize_17 (Q : Int32 → Prop) (t0 : Int32) : Prop :=
  (zBool t0 ∧ Q t0)
set_option maxRecDepth 20000 in
theorem b_X7_isSize_17 (C : zC p s m args meth c g A cX7_isSize RX7 1) (hr : meth.sig.returnType = (some .boolean)) (Q : Int32 → Prop) (t0 : Int32) (h : wp_X7_isSize_17 Q t0) : j_X7_isSize p l e s m args below meth c g A Q 17 [] [.int t0] := by
  unfold wp_X7_isSize_17 at h
  exact z_zret C hr () rfl h.1 h.2 dX7_isSize_17
def wp_X7_isSize_16 (Q : Int32 → Prop) : Prop :=
  wp_X7_isSize_17 Q 0
set_option maxRecDepth 20000 in
theorem b_X7_isSize_16 (C : zC p s m args meth c g A cX7_isSize RX7 1) (hr : meth.sig.returnType = (some .boolean)) (Q : Int32 → Prop) (h : wp_X7_isSize_16 Q) : j_X7_isSize p l e s m args below meth c g A Q 16 [] [] := by
  unfold wp_X7_isSize_16 at h
  refine z_iconst (v := 0) C dX7_isSize_16 (by decide) ?_
  exact b_X7_isSize_17 C hr Q 0 h
def wp_X7_isSize (x0 : Int32) (Q : Int32 → Prop) : Prop :=
  ((x0 < 1 → wp_X7_isSize_16 Q) ∧ (¬ x0 < 1 → ((1500 < x0 → wp_X7_isSize_16 Q) ∧ (¬ 1500 < x0 → wp_X7_isSize_17 Q 1))))
set_option maxRecDepth 20000 in
theorem c_X7_isSize (l : Launch) (g : zG) (x0 : Int32) (Q : Int32 → Prop) (h : wp_X7_isSize x0 Q) : zMi l yX7_isSize cX7_isSize 1 (some .boolean) 0 0 0 g [.int x0] [] (fun _ : Unit => []) (fun r _ => Q r) := by
  refine zMi_of RX7 (by decide) rfl [(0, .int x0)] rfl (Nat.le_of_ble_eq_true rfl) (fun p e s m args below meth c A C hr hnm => ?_)
  unfold wp_X7_isSize at h
  refine z_iload_n C dX7_isSize_0 rfl 0 rfl ?_
  refine z_iconst (v := 1) C dX7_isSize_1 (by decide) ?_
  refine z_icmp_lt C dX7_isSize_2 (tgt := 16) (by decide) (fun hc101 => ?_) (fun hc101 => ?_)
  · have h := h.1 hc101
    refine z_lv (lv1 := []) [] rfl ?_
    exact b_X7_isSize_16 C hr Q h
  · have h := h.2 hc101
    refine z_iload_n C dX7_isSize_5 rfl 0 rfl ?_
    refine z_sipush (v := 1500) C dX7_isSize_6 (by decide) ?_
    refine z_icmp_gt C dX7_isSize_9 (tgt := 16) (by decide) (fun hc102 => ?_) (fun hc102 => ?_)
    · have h := h.1 hc102
      refine z_lv (lv1 := []) [] rfl ?_
      exact b_X7_isSize_16 C hr Q h
    · have h := h.2 hc102
      refine z_iconst (v := 1) C dX7_isSize_12 (by decide) ?_
      refine z_goto C dX7_isSize_13 (tgt := 17) (by decide) ?_
      refine z_lv (lv1 := []) [] rfl ?_
      exact b_X7_isSize_17 C hr Q 1 h
abbrev j_X7_entryOfHash (p : Program) (l : Launch) (e : Env) (s : State) (m : MethodId) (args : Array Value) (below : List Frame) (meth : Method) (c : Code) (g : zG) (A : Nat → Prop) (Q : Int32 → Prop) (pc : Nat) (lv : List (Nat × Value)) (st : List Value) : Prop := zJ p l e (zR 0 0 0) s m args below meth c g A 1 (zQi below args s g A 0 0 (fun _ : Unit => []) (fun r _ => Q r)) [] 0 0 pc lv st
def wp_X7_entryOfHash (x0 : Int32) (Q : Int32 → Prop) : Prop :=
  Q (x0 &&& 15)
set_option maxRecDepth 20000 in
theorem c_X7_entryOfHash (l : Launch) (g : zG) (x0 : Int32) (Q : Int32 → Prop) (h : wp_X7_entryOfHash x0 Q) : zMi l yX7_entryOfHash cX7_entryOfHash 1 (some .int) 0 0 0 g [.int x0] [] (fun _ : Unit => []) (fun r _ => Q r) := by
  refine zMi_of RX7 (by decide) rfl [(0, .int x0)] rfl (Nat.le_of_ble_eq_true rfl) (fun p e s m args below meth c A C hr hnm => ?_)
  unfold wp_X7_entryOfHash at h
  refine z_iload_n C dX7_entryOfHash_0 rfl 0 rfl ?_
  refine z_bipush (v := 15) C dX7_entryOfHash_1 (by decide) ?_
  refine z_iand C dX7_entryOfHash_3 ?_
  exact z_iret C hr () rfl h dX7_entryOfHash_4
abbrev j_X7_commonDivisor (p : Program) (l : Launch) (e : Env) (s : State) (m : MethodId) (args : Array Value) (below : List Frame) (meth : Method) (c : Code) (g : zG) (A : Nat → Prop) (Q : Int64 → Prop) (pc : Nat) (lv : List (Nat × Value)) (st : List Value) : Prop := zJ p l e (zR 0 0 0) s m args below meth c g A 11 (zQl below args s g A 0 0 (fun _ : Unit => []) (fun r _ => Q r)) [] 0 0 pc lv st
def wp_X7_commonDivisor_57 (Q : Int64 → Prop) (t0 : Int64) : Prop :=
  Q t0
set_option maxRecDepth 20000 in
theorem b_X7_commonDivisor_57 (C : zC p s m args meth c g A cX7_commonDivisor RX7 11) (hr : meth.sig.returnType = (some .long)) (Q : Int64 → Prop) (t0 : Int64) (h : wp_X7_commonDivisor_57 Q t0) : j_X7_commonDivisor p l e s m args below meth c g A Q 57 [] [.long t0] := by
  unfold wp_X7_commonDivisor_57 at h
  exact z_lret C hr () rfl h dX7_commonDivisor_57
def wp_X7_commonDivisor_44 (Q : Int64 → Prop) (y4 : Int64) : Prop :=
  ((lg_cmp y4 0 ≤ 0 → wp_X7_commonDivisor_57 Q 1) ∧ (¬ lg_cmp y4 0 ≤ 0 → wp_X7_commonDivisor_57 Q y4))
set_option maxRecDepth 20000 in
theorem b_X7_commonDivisor_44 (C : zC p s m args meth c g A cX7_commonDivisor RX7 11) (hr : meth.sig.returnType = (some .long)) (Q : Int64 → Prop) (y4 : Int64) (h : wp_X7_commonDivisor_44 Q y4) : j_X7_commonDivisor p l e s m args below meth c g A Q 44 [(4, .long y4)] [] := by
  unfold wp_X7_commonDivisor_44 at h
  refine z_lload C dX7_commonDivisor_44 0 rfl ?_
  refine z_lconst (v := 0) C dX7_commonDivisor_46 (by decide) ?_
  refine z_lcmp C dX7_commonDivisor_47 ?_
  refine z_if_le C dX7_commonDivisor_48 (tgt := 56) (by decide) (fun hc102 => ?_) (fun hc102 => ?_)
  · have h := h.1 hc102
    refine z_lconst (v := 1) C dX7_commonDivisor_56 (by decide) ?_
    refine z_lv (lv1 := []) [] rfl ?_
    exact b_X7_commonDivisor_57 C hr Q 1 h
  · have h := h.2 hc102
    refine z_lload C dX7_commonDivisor_51 0 rfl ?_
    refine z_goto C dX7_commonDivisor_53 (tgt := 57) (by decide) ?_
    refine z_lv (lv1 := []) [] rfl ?_
    exact b_X7_commonDivisor_57 C hr Q y4 h
def wp_X7_commonDivisor_9 (Q : Int64 → Prop) (B9 : Int64 → Int64 → Int32 → Prop) (y4 : Int64) (y6 : Int64) (x8 : Int32) : Prop :=
  ((100 ≤ x8 → wp_X7_commonDivisor_44 Q y4) ∧ (¬ 100 ≤ x8 → ((lg_cmp y6 0 = 0 → wp_X7_commonDivisor_44 Q y4) ∧ (¬ lg_cmp y6 0 = 0 → ¬ y6 = 0 ∧ ∀ y105 : Int64, y105 = y4 - y4 / y6 * y6 → ∀ x106 : Int32, x106 = x8 + 1 → B9 y6 y105 x106))))
set_option maxRecDepth 20000 in
theorem b_X7_commonDivisor_9 (C : zC p s m args meth c g A cX7_commonDivisor RX7 11) (hr : meth.sig.returnType = (some .long)) (Q : Int64 → Prop) (B9 : Int64 → Int64 → Int32 → Prop) (hB9 : ∀ (y4 : Int64) (y6 : Int64) (x8 : Int32), B9 y4 y6 x8 → j_X7_commonDivisor p l e s m args below meth c g A Q 9 [(4, .long y4), (6, .long y6), (8, .int x8)] []) (y4 : Int64) (y6 : Int64) (x8 : Int32) (h : wp_X7_commonDivisor_9 Q B9 y4 y6 x8) : j_X7_commonDivisor p l e s m args below meth c g A Q 9 [(4, .long y4), (6, .long y6), (8, .int x8)] [] := by
  unfold wp_X7_commonDivisor_9 at h
  refine z_iload C dX7_commonDivisor_9 2 rfl ?_
  refine z_bipush (v := 100) C dX7_commonDivisor_11 (by decide) ?_
  refine z_icmp_ge C dX7_commonDivisor_13 (tgt := 44) (by decide) (fun hc101 => ?_) (fun hc101 => ?_)
  · have h := h.1 hc101
    refine z_lv (lv1 := [(4, .long y4)]) [0] rfl ?_
    exact b_X7_commonDivisor_44 C hr Q y4 h
  · have h := h.2 hc101
    refine z_lload C dX7_commonDivisor_16 1 rfl ?_
    refine z_lconst (v := 0) C dX7_commonDivisor_18 (by decide) ?_
    refine z_lcmp C dX7_commonDivisor_19 ?_
    refine z_if_eq C dX7_commonDivisor_20 (tgt := 44) (by decide) (fun hc103 => ?_) (fun hc103 => ?_)
    · have h := h.1 hc103
      refine z_lv (lv1 := [(4, .long y4)]) [0] rfl ?_
      exact b_X7_commonDivisor_44 C hr Q y4 h
    · have h := h.2 hc103
      refine z_lload C dX7_commonDivisor_23 0 rfl ?_
      refine z_lload C dX7_commonDivisor_25 1 rfl ?_
      obtain ⟨hy104, h⟩ := h
      refine z_lrem C dX7_commonDivisor_27 hy104 ?_
      refine z_topl (fun y105 ey105 => ?_)
      have h := h y105 ey105
      refine z_lstore (lv1 := [(9, .long y105), (4, .long y4), (6, .long y6), (8, .int x8)]) C dX7_commonDivisor_28 (by decide) rfl ?_
      refine z_lload C dX7_commonDivisor_30 2 rfl ?_
      refine z_lstore (lv1 := [(4, .long y6), (9, .long y105), (6, .long y6), (8, .int x8)]) C dX7_commonDivisor_32 (by decide) rfl ?_
      refine z_lload C dX7_commonDivisor_34 1 rfl ?_
      refine z_lstore (lv1 := [(6, .long y105), (4, .long y6), (9, .long y105), (8, .int x8)]) C dX7_commonDivisor_36 (by decide) rfl ?_
      obtain ⟨x106, ex106⟩ : ∃ y : Int32, y = x8 + 1 := ⟨_, rfl⟩
      have h := h x106 ex106
      refine z_iinc (v := x106) (lv1 := [(8, .int x106), (6, .long y105), (4, .long y6), (9, .long y105)]) C dX7_commonDivisor_38 3 rfl (by rw [ex106]; rfl) (by decide) rfl ?_
      refine z_goto C dX7_commonDivisor_41 (tgt := 9) (by decide) ?_
      refine z_lv (lv1 := [(4, .long y6), (6, .long y105), (8, .int x106)]) [2, 1, 0] rfl ?_
      exact hB9 y6 y105 x106 h
theorem l_X7_commonDivisor_9 (C : zC p s m args meth c g A cX7_commonDivisor RX7 11) (hr : meth.sig.returnType = (some .long)) (Q : Int64 → Prop) : ∀ (n : Nat) (y4 : Int64) (y6 : Int64) (x8 : Int32), zit3 (wp_X7_commonDivisor_9 Q) n y4 y6 x8 → j_X7_commonDivisor p l e s m args below meth c g A Q 9 [(4, .long y4), (6, .long y6), (8, .int x8)] [] := by
  intro n
  induction n with
  | zero => exact fun y4 y6 x8 h => h.elim
  | succ n ih => exact fun y4 y6 x8 h => b_X7_commonDivisor_9 C hr Q (zit3 (wp_X7_commonDivisor_9 Q) n) ih y4 y6 x8 h
def wp_X7_commonDivisor (y0 : Int64) (y2 : Int64) (Q : Int64 → Prop) : Prop :=
  (∃ n, zit3 (wp_X7_commonDivisor_9 Q) n y0 y2 0)
set_option maxRecDepth 20000 in
theorem c_X7_commonDivisor (l : Launch) (g : zG) (y0 : Int64) (y2 : Int64) (Q : Int64 → Prop) (h : wp_X7_commonDivisor y0 y2 Q) : zMl l yX7_commonDivisor cX7_commonDivisor 11 (some .long) 0 0 0 g [.long y0, .long y2] [] (fun _ : Unit => []) (fun r _ => Q r) := by
  refine zMl_of RX7 (by decide) rfl [(0, .long y0), (2, .long y2)] rfl (Nat.le_of_ble_eq_true rfl) (fun p e s m args below meth c A C hr hnm => ?_)
  unfold wp_X7_commonDivisor at h
  refine z_lload_n C dX7_commonDivisor_0 rfl 0 rfl ?_
  refine z_lstore (lv1 := [(4, .long y0), (0, .long y0), (2, .long y2)]) C dX7_commonDivisor_1 (by decide) rfl ?_
  refine z_lload_n C dX7_commonDivisor_3 rfl 2 rfl ?_
  refine z_lstore (lv1 := [(6, .long y2), (4, .long y0), (0, .long y0), (2, .long y2)]) C dX7_commonDivisor_4 (by decide) rfl ?_
  refine z_iconst (v := 0) C dX7_commonDivisor_6 (by decide) ?_
  refine z_istore (lv1 := [(8, .int 0), (6, .long y2), (4, .long y0), (0, .long y0), (2, .long y2)]) C dX7_commonDivisor_7 (by decide) rfl ?_
  refine z_lv (lv1 := [(4, .long y0), (6, .long y2), (8, .int 0)]) [2, 1, 0] rfl ?_
  obtain ⟨n9, h⟩ := h
  exact l_X7_commonDivisor_9 C hr Q n9 y0 y2 0 h
abbrev j_X0_get (p : Program) (l : Launch) (e : Env) (s : State) (m : MethodId) (args : Array Value) (below : List Frame) (meth : Method) (c : Code) (g : zG) (A : Nat → Prop) (ad : Nat → Nat) (Q : Int32 → RS → Prop) (u : RS) (pc : Nat) (lv : List (Nat × Value)) (st : List Value) : Prop := zJ p l e (zR 0 0 0) s m args below meth c g A 3 (zQi below args s g A 0 0 (wX0 g ad) Q) (wX0 g ad u) 0 0 pc lv st
def wp_X0_get (u : RS) (x1 : Int32) (x2 : Int32) (Q : Int32 → RS → Prop) : Prop :=
  vp_in ((x1 * 24) + x2) 480 ∧ Q (u.1 1 (zn ((x1 * 24) + x2))) u
set_option maxRecDepth 20000 in
theorem c_X0_get (l : Launch) (g : zG) (ad : Nat → Nat) (u : RS) (x1 : Int32) (x2 : Int32) (Q : Int32 → RS → Prop) (h : wp_X0_get u x1 x2 Q) : zMi l yX0_get cX0_get 3 (some .int) 0 0 0 g [.ref (ad 0), .int x1, .int x2] (wX0 g ad u) (wX0 g ad) Q := by
  refine zMi_of RX0 (by decide) rfl [(0, .ref (ad 0)), (1, .int x1), (2, .int x2)] rfl (Nat.le_of_ble_eq_true rfl) (fun p e s m args below meth c A C hr hnm => ?_)
  unfold wp_X0_get at h
  refine z_aload_n C dX0_get_0 rfl 0 rfl ?_
  refine g0_cells C dX0_get_1 ?_
  refine z_iload_n C dX0_get_4 rfl 1 rfl ?_
  refine z_bipush (v := 24) C dX0_get_5 (by decide) ?_
  refine z_imul C dX0_get_7 ?_
  refine z_iload_n C dX0_get_8 rfl 2 rfl ?_
  refine z_iadd C dX0_get_9 ?_
  obtain ⟨hi101, h⟩ := h
  refine l0_cells C hi101 dX0_get_10 ?_
  exact z_iret C hr u rfl h dX0_get_11
abbrev j_X0_put (p : Program) (l : Launch) (e : Env) (s : State) (m : MethodId) (args : Array Value) (below : List Frame) (meth : Method) (c : Code) (g : zG) (A : Nat → Prop) (ad : Nat → Nat) (Q : RS → Prop) (u : RS) (pc : Nat) (lv : List (Nat × Value)) (st : List Value) : Prop := zJ p l e (zR 0 0 0) s m args below meth c g A 4 (zQv below args s g A 0 0 (wX0 g ad) Q) (wX0 g ad u) 0 0 pc lv st
def wp_X0_put (u : RS) (x1 : Int32) (x2 : Int32) (x3 : Int32) (Q : RS → Prop) : Prop :=
  vp_in ((x1 * 24) + x2) 480 ∧ ∀ u102 : RS, u102 = rI u 1 (upd (u.1 1) (zn ((x1 * 24) + x2)) x3) → Q u102
set_option maxRecDepth 20000 in
theorem c_X0_put (l : Launch) (g : zG) (ad : Nat → Nat) (u : RS) (x1 : Int32) (x2 : Int32) (x3 : Int32) (Q : RS → Prop) (h : wp_X0_put u x1 x2 x3 Q) : zMv l yX0_put cX0_put 4 none 0 0 0 g [.ref (ad 0), .int x1, .int x2, .int x3] (wX0 g ad u) (wX0 g ad) Q := by
  refine zMv_of RX0 (by decide) rfl [(0, .ref (ad 0)), (1, .int x1), (2, .int x2), (3, .int x3)] rfl (Nat.le_of_ble_eq_true rfl) (fun p e s m args below meth c A C hr hnm => ?_)
  unfold wp_X0_put at h
  refine z_aload_n C dX0_put_0 rfl 0 rfl ?_
  refine g0_cells C dX0_put_1 ?_
  refine z_iload_n C dX0_put_4 rfl 1 rfl ?_
  refine z_bipush (v := 24) C dX0_put_5 (by decide) ?_
  refine z_imul C dX0_put_7 ?_
  refine z_iload_n C dX0_put_8 rfl 2 rfl ?_
  refine z_iadd C dX0_put_9 ?_
  refine z_iload_n C dX0_put_10 rfl 3 rfl ?_
  obtain ⟨hi101, h⟩ := h
  refine s0_cells C hi101 dX0_put_11 ?_
  refine sT0 (fun u102 eu102 => ?_)
  have h := h u102 eu102
  exact z_vret C hr u102 rfl h dX0_put_12
abbrev j_X0_add (p : Program) (l : Launch) (e : Env) (s : State) (m : MethodId) (args : Array Value) (below : List Frame) (meth : Method) (c : Code) (g : zG) (A : Nat → Prop) (ad : Nat → Nat) (Q : RS → Prop) (u : RS) (pc : Nat) (lv : List (Nat × Value)) (st : List Value) : Prop := zJ p l e (zR 0 0 0) s m args below meth c g A 4 (zQv below args s g A 0 0 (wX0 g ad) Q) (wX0 g ad u) 0 0 pc lv st
def wp_X0_add (u : RS) (x1 : Int32) (x2 : Int32) (x3 : Int32) (Q : RS → Prop) : Prop :=
  vp_in ((x1 * 24) + x2) 480 ∧ vp_in ((x1 * 24) + x2) 480 ∧ ∀ u103 : RS, u103 = rI u 1 (upd (u.1 1) (zn ((x1 * 24) + x2)) ((u.1 1 (zn ((x1 * 24) + x2))) + x3)) → Q u103
set_option maxRecDepth 20000 in
theorem c_X0_add (l : Launch) (g : zG) (ad : Nat → Nat) (u : RS) (x1 : Int32) (x2 : Int32) (x3 : Int32) (Q : RS → Prop) (h : wp_X0_add u x1 x2 x3 Q) : zMv l yX0_add cX0_add 4 none 0 0 0 g [.ref (ad 0), .int x1, .int x2, .int x3] (wX0 g ad u) (wX0 g ad) Q := by
  refine zMv_of RX0 (by decide) rfl [(0, .ref (ad 0)), (1, .int x1), (2, .int x2), (3, .int x3)] rfl (Nat.le_of_ble_eq_true rfl) (fun p e s m args below meth c A C hr hnm => ?_)
  unfold wp_X0_add at h
  refine z_aload_n C dX0_add_0 rfl 0 rfl ?_
  refine g0_cells C dX0_add_1 ?_
  refine z_iload_n C dX0_add_4 rfl 1 rfl ?_
  refine z_bipush (v := 24) C dX0_add_5 (by decide) ?_
  refine z_imul C dX0_add_7 ?_
  refine z_iload_n C dX0_add_8 rfl 2 rfl ?_
  refine z_iadd C dX0_add_9 ?_
  refine z_dup2 C dX0_add_10 rfl rfl ?_
  obtain ⟨hi101, h⟩ := h
  refine l0_cells C hi101 dX0_add_11 ?_
  refine z_iload_n C dX0_add_12 rfl 3 rfl ?_
  refine z_iadd C dX0_add_13 ?_
  obtain ⟨hi102, h⟩ := h
  refine s0_cells C hi102 dX0_add_14 ?_
  refine sT0 (fun u103 eu103 => ?_)
  have h := h u103 eu103
  exact z_vret C hr u103 rfl h dX0_add_15
abbrev j_X2_put (p : Program) (l : Launch) (e : Env) (s : State) (m : MethodId) (args : Array Value) (below : List Frame) (meth : Method) (c : Code) (g : zG) (A : Nat → Prop) (ad : Nat → Nat) (Q : RS → Prop) (u : RS) (pc : Nat) (lv : List (Nat × Value)) (st : List Value) : Prop := zJ p l e (zR 0 0 0) s m args below meth c g A 7 (zQv below args s g A 0 0 (wX2 g ad) Q) (wX2 g ad u) 0 0 pc lv st
def wp_X2_put_50 (Q : RS → Prop) (B50 : RS → Int32 → Int32 → Int32 → Prop) (u : RS) (x2 : Int32) (x3 : Int32) (x6 : Int32) : Prop :=
  ((41 ≤ x6 → Q u) ∧ (¬ 41 ≤ x6 → vp_in x6 41 ∧ ∀ u105 : RS, u105 = rI u 1 (upd (u.1 1) (zn x6) ((x2 <<< ((x6 - 32) &&& 31)) ||| (zu x3 (40 - x6)))) → ∀ x106 : Int32, x106 = x6 + 1 → B50 u105 x2 x3 x106))
set_option maxRecDepth 20000 in
theorem b_X2_put_50 (C : zC p s m args meth c g A cX2_put RX2 7) (hr : meth.sig.returnType = none) (ad : Nat → Nat) (Q : RS → Prop) (B50 : RS → Int32 → Int32 → Int32 → Prop) (hB50 : ∀ (u : RS) (x2 : Int32) (x3 : Int32) (x6 : Int32), B50 u x2 x3 x6 → j_X2_put p l e s m args below meth c g A ad Q u 50 [(0, .ref (ad 0)), (2, .int x2), (3, .int x3), (6, .int x6)] []) (u : RS) (x2 : Int32) (x3 : Int32) (x6 : Int32) (h : wp_X2_put_50 Q B50 u x2 x3 x6) : j_X2_put p l e s m args below meth c g A ad Q u 50 [(0, .ref (ad 0)), (2, .int x2), (3, .int x3), (6, .int x6)] [] := by
  unfold wp_X2_put_50 at h
  refine z_iload C dX2_put_50 3 rfl ?_
  refine z_bipush (v := 41) C dX2_put_52 (by decide) ?_
  refine z_icmp_ge C dX2_put_54 (tgt := 85) (by decide) (fun hc103 => ?_) (fun hc103 => ?_)
  · have h := h.1 hc103
    exact z_vret C hr u rfl h dX2_put_85
  · have h := h.2 hc103
    refine z_aload_n C dX2_put_57 rfl 0 rfl ?_
    refine g2_windows C dX2_put_58 ?_
    refine z_iload C dX2_put_61 3 rfl ?_
    refine z_iload_n C dX2_put_63 rfl 1 rfl ?_
    refine z_iload C dX2_put_64 3 rfl ?_
    refine z_bipush (v := 32) C dX2_put_66 (by decide) ?_
    refine z_isub C dX2_put_68 ?_
    refine z_ishl C dX2_put_69 ?_
    refine z_iload_n C dX2_put_70 rfl 2 rfl ?_
    refine z_bipush (v := 40) C dX2_put_71 (by decide) ?_
    refine z_iload C dX2_put_73 3 rfl ?_
    refine z_isub C dX2_put_75 ?_
    refine z_iushr C dX2_put_76 ?_
    refine z_ior C dX2_put_77 ?_
    obtain ⟨hi104, h⟩ := h
    refine s2_windows C hi104 dX2_put_78 ?_
    refine sT2 (fun u105 eu105 => ?_)
    have h := h u105 eu105
    obtain ⟨x106, ex106⟩ : ∃ y : Int32, y = x6 + 1 := ⟨_, rfl⟩
    have h := h x106 ex106
    refine z_iinc (v := x106) (lv1 := [(6, .int x106), (0, .ref (ad 0)), (2, .int x2), (3, .int x3)]) C dX2_put_79 3 rfl (by rw [ex106]; rfl) (by decide) rfl ?_
    refine z_goto C dX2_put_82 (tgt := 50) (by decide) ?_
    refine z_lv (lv1 := [(0, .ref (ad 0)), (2, .int x2), (3, .int x3), (6, .int x106)]) [1, 2, 3, 0] rfl ?_
    exact hB50 u105 x2 x3 x106 h
theorem l_X2_put_50 (C : zC p s m args meth c g A cX2_put RX2 7) (hr : meth.sig.returnType = none) (ad : Nat → Nat) (Q : RS → Prop) : ∀ (n : Nat) (u : RS) (x2 : Int32) (x3 : Int32) (x6 : Int32), zit4 (wp_X2_put_50 Q) n u x2 x3 x6 → j_X2_put p l e s m args below meth c g A ad Q u 50 [(0, .ref (ad 0)), (2, .int x2), (3, .int x3), (6, .int x6)] [] := by
  intro n
  induction n with
  | zero => exact fun u x2 x3 x6 h => h.elim
  | succ n ih => exact fun u x2 x3 x6 h => b_X2_put_50 C hr ad Q (zit4 (wp_X2_put_50 Q) n) ih u x2 x3 x6 h
def wp_X2_put_17 (Q : RS → Prop) (B17 : RS → Int32 → Int32 → Int64 → Int32 → Prop) (u : RS) (x2 : Int32) (x3 : Int32) (y4 : Int64) (x6 : Int32) : Prop :=
  ((32 < x6 → (∃ n, zit4 (wp_X2_put_50 Q) n u x2 x3 33)) ∧ (¬ 32 < x6 → vp_in x6 41 ∧ ∀ u108 : RS, u108 = rI u 1 (upd (u.1 1) (zn x6) ((zul y4 (32 - x6)).toInt32)) → ∀ x109 : Int32, x109 = x6 + 1 → B17 u108 x2 x3 y4 x109))
set_option maxRecDepth 20000 in
theorem b_X2_put_17 (C : zC p s m args meth c g A cX2_put RX2 7) (hr : meth.sig.returnType = none) (ad : Nat → Nat) (Q : RS → Prop) (B17 : RS → Int32 → Int32 → Int64 → Int32 → Prop) (hB17 : ∀ (u : RS) (x2 : Int32) (x3 : Int32) (y4 : Int64) (x6 : Int32), B17 u x2 x3 y4 x6 → j_X2_put p l e s m args below meth c g A ad Q u 17 [(0, .ref (ad 0)), (2, .int x2), (3, .int x3), (4, .long y4), (6, .int x6)] []) (u : RS) (x2 : Int32) (x3 : Int32) (y4 : Int64) (x6 : Int32) (h : wp_X2_put_17 Q B17 u x2 x3 y4 x6) : j_X2_put p l e s m args below meth c g A ad Q u 17 [(0, .ref (ad 0)), (2, .int x2), (3, .int x3), (4, .long y4), (6, .int x6)] [] := by
  unfold wp_X2_put_17 at h
  refine z_iload C dX2_put_17 4 rfl ?_
  refine z_bipush (v := 32) C dX2_put_19 (by decide) ?_
  refine z_icmp_gt C dX2_put_21 (tgt := 46) (by decide) (fun hc102 => ?_) (fun hc102 => ?_)
  · have h := h.1 hc102
    refine z_bipush (v := 33) C dX2_put_46 (by decide) ?_
    refine z_istore (lv1 := [(6, .int 33), (0, .ref (ad 0)), (2, .int x2), (3, .int x3), (4, .long y4)]) C dX2_put_48 (by decide) rfl ?_
    refine z_lv (lv1 := [(0, .ref (ad 0)), (2, .int x2), (3, .int x3), (6, .int 33)]) [1, 2, 3, 0] rfl ?_
    obtain ⟨n9, h⟩ := h
    exact l_X2_put_50 C hr ad Q n9 u x2 x3 33 h
  · have h := h.2 hc102
    refine z_aload_n C dX2_put_24 rfl 0 rfl ?_
    refine g2_windows C dX2_put_25 ?_
    refine z_iload C dX2_put_28 4 rfl ?_
    refine z_lload C dX2_put_30 3 rfl ?_
    refine z_bipush (v := 32) C dX2_put_32 (by decide) ?_
    refine z_iload C dX2_put_34 4 rfl ?_
    refine z_isub C dX2_put_36 ?_
    refine z_lushr C dX2_put_37 ?_
    refine z_l2i C dX2_put_38 ?_
    obtain ⟨hi107, h⟩ := h
    refine s2_windows C hi107 dX2_put_39 ?_
    refine sT2 (fun u108 eu108 => ?_)
    have h := h u108 eu108
    obtain ⟨x109, ex109⟩ : ∃ y : Int32, y = x6 + 1 := ⟨_, rfl⟩
    have h := h x109 ex109
    refine z_iinc (v := x109) (lv1 := [(6, .int x109), (0, .ref (ad 0)), (2, .int x2), (3, .int x3), (4, .long y4)]) C dX2_put_40 4 rfl (by rw [ex109]; rfl) (by decide) rfl ?_
    refine z_goto C dX2_put_43 (tgt := 17) (by decide) ?_
    refine z_lv (lv1 := [(0, .ref (ad 0)), (2, .int x2), (3, .int x3), (4, .long y4), (6, .int x109)]) [1, 2, 3, 4, 0] rfl ?_
    exact hB17 u108 x2 x3 y4 x109 h
theorem l_X2_put_17 (C : zC p s m args meth c g A cX2_put RX2 7) (hr : meth.sig.returnType = none) (ad : Nat → Nat) (Q : RS → Prop) : ∀ (n : Nat) (u : RS) (x2 : Int32) (x3 : Int32) (y4 : Int64) (x6 : Int32), zit5 (wp_X2_put_17 Q) n u x2 x3 y4 x6 → j_X2_put p l e s m args below meth c g A ad Q u 17 [(0, .ref (ad 0)), (2, .int x2), (3, .int x3), (4, .long y4), (6, .int x6)] [] := by
  intro n
  induction n with
  | zero => exact fun u x2 x3 y4 x6 h => h.elim
  | succ n ih => exact fun u x2 x3 y4 x6 h => b_X2_put_17 C hr ad Q (zit5 (wp_X2_put_17 Q) n) ih u x2 x3 y4 x6 h
def wp_X2_put (u : RS) (x1 : Int32) (x2 : Int32) (x3 : Int32) (Q : RS → Prop) : Prop :=
  ∀ y101 : Int64, y101 = (((x1).toInt64) <<< ((32).toInt64 &&& 63)) ||| (((x2).toInt64) &&& 4294967295) → (∃ n, zit5 (wp_X2_put_17 Q) n u x2 x3 y101 0)
set_option maxRecDepth 20000 in
theorem c_X2_put (l : Launch) (g : zG) (ad : Nat → Nat) (u : RS) (x1 : Int32) (x2 : Int32) (x3 : Int32) (Q : RS → Prop) (h : wp_X2_put u x1 x2 x3 Q) : zMv l yX2_put cX2_put 7 none 0 0 0 g [.ref (ad 0), .int x1, .int x2, .int x3] (wX2 g ad u) (wX2 g ad) Q := by
  refine zMv_of RX2 (by decide) rfl [(0, .ref (ad 0)), (1, .int x1), (2, .int x2), (3, .int x3)] rfl (Nat.le_of_ble_eq_true rfl) (fun p e s m args below meth c A C hr hnm => ?_)
  unfold wp_X2_put at h
  refine z_iload_n C dX2_put_0 rfl 1 rfl ?_
  refine z_i2l C dX2_put_1 ?_
  refine z_bipush (v := 32) C dX2_put_2 (by decide) ?_
  refine z_lshl C dX2_put_4 ?_
  refine z_iload_n C dX2_put_5 rfl 2 rfl ?_
  refine z_i2l C dX2_put_6 ?_
  refine z_ldc2 (v := 4294967295) C dX2_put_7 k2_19 ?_
  refine z_land C dX2_put_10 ?_
  refine z_lor C dX2_put_11 ?_
  refine z_topl (fun y101 ey101 => ?_)
  have h := h y101 ey101
  refine z_lstore (lv1 := [(4, .long y101), (0, .ref (ad 0)), (1, .int x1), (2, .int x2), (3, .int x3)]) C dX2_put_12 (by decide) rfl ?_
  refine z_iconst (v := 0) C dX2_put_14 (by decide) ?_
  refine z_istore (lv1 := [(6, .int 0), (4, .long y101), (0, .ref (ad 0)), (1, .int x1), (2, .int x2), (3, .int x3)]) C dX2_put_15 (by decide) rfl ?_
  refine z_lv (lv1 := [(0, .ref (ad 0)), (2, .int x2), (3, .int x3), (4, .long y101), (6, .int 0)]) [2, 4, 5, 1, 0] rfl ?_
  obtain ⟨n9, h⟩ := h
  exact l_X2_put_17 C hr ad Q n9 u x2 x3 y101 0 h
abbrev j_X2_bitsFrom (p : Program) (l : Launch) (e : Env) (s : State) (m : MethodId) (args : Array Value) (below : List Frame) (meth : Method) (c : Code) (g : zG) (A : Nat → Prop) (ad : Nat → Nat) (Q : Int32 → RS → Prop) (u : RS) (pc : Nat) (lv : List (Nat × Value)) (st : List Value) : Prop := zJ p l e (zR 0 0 0) s m args below meth c g A 2 (zQi below args s g A 0 0 (wX2 g ad) Q) (wX2 g ad u) 0 0 pc lv st
def wp_X2_bitsFrom (u : RS) (x1 : Int32) (Q : Int32 → RS → Prop) : Prop :=
  vp_in x1 41 ∧ Q (u.1 1 (zn x1)) u
set_option maxRecDepth 20000 in
theorem c_X2_bitsFrom (l : Launch) (g : zG) (ad : Nat → Nat) (u : RS) (x1 : Int32) (Q : Int32 → RS → Prop) (h : wp_X2_bitsFrom u x1 Q) : zMi l yX2_bitsFrom cX2_bitsFrom 2 (some .int) 0 0 0 g [.ref (ad 0), .int x1] (wX2 g ad u) (wX2 g ad) Q := by
  refine zMi_of RX2 (by decide) rfl [(0, .ref (ad 0)), (1, .int x1)] rfl (Nat.le_of_ble_eq_true rfl) (fun p e s m args below meth c A C hr hnm => ?_)
  unfold wp_X2_bitsFrom at h
  refine z_aload_n C dX2_bitsFrom_0 rfl 0 rfl ?_
  refine g2_windows C dX2_bitsFrom_1 ?_
  refine z_iload_n C dX2_bitsFrom_4 rfl 1 rfl ?_
  obtain ⟨hi101, h⟩ := h
  refine l2_windows C hi101 dX2_bitsFrom_5 ?_
  exact z_iret C hr u rfl h dX2_bitsFrom_6
abbrev j_X2_counts (p : Program) (l : Launch) (e : Env) (s : State) (m : MethodId) (args : Array Value) (below : List Frame) (meth : Method) (c : Code) (g : zG) (A : Nat → Prop) (ad : Nat → Nat) (Q : Int32 → RS → Prop) (u : RS) (pc : Nat) (lv : List (Nat × Value)) (st : List Value) : Prop := zJ p l e (zR 0 0 0) s m args below meth c g A 2 (zQi below args s g A 0 0 (wX2 g ad) Q) (wX2 g ad u) 0 0 pc lv st
def wp_X2_counts_17 (Q : Int32 → RS → Prop) (u : RS) (t0 : Int32) : Prop :=
  (zBool t0 ∧ Q t0 u)
set_option maxRecDepth 20000 in
theorem b_X2_counts_17 (C : zC p s m args meth c g A cX2_counts RX2 2) (hr : meth.sig.returnType = (some .boolean)) (ad : Nat → Nat) (Q : Int32 → RS → Prop) (u : RS) (t0 : Int32) (h : wp_X2_counts_17 Q u t0) : j_X2_counts p l e s m args below meth c g A ad Q u 17 [(0, .ref (ad 0))] [.int t0] := by
  unfold wp_X2_counts_17 at h
  exact z_zret C hr u rfl h.1 h.2 dX2_counts_17
def wp_X2_counts (u : RS) (x1 : Int32) (Q : Int32 → RS → Prop) : Prop :=
  ((¬ ((u.1 0 0) >>> (x1 &&& 31)) &&& 1 = 1 → wp_X2_counts_17 Q u 0) ∧ (((u.1 0 0) >>> (x1 &&& 31)) &&& 1 = 1 → wp_X2_counts_17 Q u 1))
set_option maxRecDepth 20000 in
theorem c_X2_counts (l : Launch) (g : zG) (ad : Nat → Nat) (u : RS) (x1 : Int32) (Q : Int32 → RS → Prop) (h : wp_X2_counts u x1 Q) : zMi l yX2_counts cX2_counts 2 (some .boolean) 0 0 0 g [.ref (ad 0), .int x1] (wX2 g ad u) (wX2 g ad) Q := by
  refine zMi_of RX2 (by decide) rfl [(0, .ref (ad 0)), (1, .int x1)] rfl (Nat.le_of_ble_eq_true rfl) (fun p e s m args below meth c A C hr hnm => ?_)
  unfold wp_X2_counts at h
  refine z_aload_n C dX2_counts_0 rfl 0 rfl ?_
  refine g2_counting C dX2_counts_1 ?_
  refine z_iload_n C dX2_counts_4 rfl 1 rfl ?_
  refine z_ishr C dX2_counts_5 ?_
  refine z_iconst (v := 1) C dX2_counts_6 (by decide) ?_
  refine z_iand C dX2_counts_7 ?_
  refine z_iconst (v := 1) C dX2_counts_8 (by decide) ?_
  refine z_icmp_ne C dX2_counts_9 (tgt := 16) (by decide) (fun hc101 => ?_) (fun hc101 => ?_)
  · have h := h.1 hc101
    refine z_iconst (v := 0) C dX2_counts_16 (by decide) ?_
    refine z_lv (lv1 := [(0, .ref (ad 0))]) [0] rfl ?_
    exact b_X2_counts_17 C hr ad Q u 0 h
  · have h := h.2 hc101
    refine z_iconst (v := 1) C dX2_counts_12 (by decide) ?_
    refine z_goto C dX2_counts_13 (tgt := 17) (by decide) ?_
    refine z_lv (lv1 := [(0, .ref (ad 0))]) [0] rfl ?_
    exact b_X2_counts_17 C hr ad Q u 1 h
abbrev j_X2_withStep (p : Program) (l : Launch) (e : Env) (s : State) (m : MethodId) (args : Array Value) (below : List Frame) (meth : Method) (c : Code) (g : zG) (A : Nat → Prop) (Q : Int32 → Prop) (pc : Nat) (lv : List (Nat × Value)) (st : List Value) : Prop := zJ p l e (zR 0 0 0) s m args below meth c g A 4 (zQi below args s g A 0 0 (fun _ : Unit => []) (fun r _ => Q r)) [] 0 0 pc lv st
def wp_X2_withStep_27 (Q : Int32 → Prop) (B4 : Int32 → Int32 → Int32 → Int32 → Prop) (x0 : Int32) (x1 : Int32) (x2 : Int32) (x3 : Int32) : Prop :=
  ∀ x103 : Int32, x103 = x3 + 1 → B4 x0 x1 x2 x103
set_option maxRecDepth 20000 in
theorem b_X2_withStep_27 (C : zC p s m args meth c g A cX2_withStep RX2 4) (hr : meth.sig.returnType = (some .int)) (Q : Int32 → Prop) (B4 : Int32 → Int32 → Int32 → Int32 → Prop) (hB4 : ∀ (x0 : Int32) (x1 : Int32) (x2 : Int32) (x3 : Int32), B4 x0 x1 x2 x3 → j_X2_withStep p l e s m args below meth c g A Q 4 [(0, .int x0), (1, .int x1), (2, .int x2), (3, .int x3)] []) (x0 : Int32) (x1 : Int32) (x2 : Int32) (x3 : Int32) (h : wp_X2_withStep_27 Q B4 x0 x1 x2 x3) : j_X2_withStep p l e s m args below meth c g A Q 27 [(0, .int x0), (1, .int x1), (2, .int x2), (3, .int x3)] [] := by
  unfold wp_X2_withStep_27 at h
  obtain ⟨x103, ex103⟩ : ∃ y : Int32, y = x3 + 1 := ⟨_, rfl⟩
  have h := h x103 ex103
  refine z_iinc (v := x103) (lv1 := [(3, .int x103), (0, .int x0), (1, .int x1), (2, .int x2)]) C dX2_withStep_27 3 rfl (by rw [ex103]; rfl) (by decide) rfl ?_
  refine z_goto C dX2_withStep_30 (tgt := 4) (by decide) ?_
  refine z_lv (lv1 := [(0, .int x0), (1, .int x1), (2, .int x2), (3, .int x103)]) [1, 2, 3, 0] rfl ?_
  exact hB4 x0 x1 x2 x103 h
def wp_X2_withStep_4 (Q : Int32 → Prop) (B4 : Int32 → Int32 → Int32 → Int32 → Prop) (x0 : Int32) (x1 : Int32) (x2 : Int32) (x3 : Int32) : Prop :=
  ((16 ≤ x3 → Q x2) ∧ (¬ 16 ≤ x3 → ((¬ (x0 >>> (x3 &&& 31)) &&& 1 = 1 → wp_X2_withStep_27 Q B4 x0 x1 x2 x3) ∧ ((x0 >>> (x3 &&& 31)) &&& 1 = 1 → ∀ x104 : Int32, x104 = x2 ||| (1 <<< ((x3 ^^^ x1) &&& 31)) → wp_X2_withStep_27 Q B4 x0 x1 x104 x3))))
set_option maxRecDepth 20000 in
theorem b_X2_withStep_4 (C : zC p s m args meth c g A cX2_withStep RX2 4) (hr : meth.sig.returnType = (some .int)) (Q : Int32 → Prop) (B4 : Int32 → Int32 → Int32 → Int32 → Prop) (hB4 : ∀ (x0 : Int32) (x1 : Int32) (x2 : Int32) (x3 : Int32), B4 x0 x1 x2 x3 → j_X2_withStep p l e s m args below meth c g A Q 4 [(0, .int x0), (1, .int x1), (2, .int x2), (3, .int x3)] []) (x0 : Int32) (x1 : Int32) (x2 : Int32) (x3 : Int32) (h : wp_X2_withStep_4 Q B4 x0 x1 x2 x3) : j_X2_withStep p l e s m args below meth c g A Q 4 [(0, .int x0), (1, .int x1), (2, .int x2), (3, .int x3)] [] := by
  unfold wp_X2_withStep_4 at h
  refine z_iload_n C dX2_withStep_4 rfl 3 rfl ?_
  refine z_bipush (v := 16) C dX2_withStep_5 (by decide) ?_
  refine z_icmp_ge C dX2_withStep_7 (tgt := 33) (by decide) (fun hc101 => ?_) (fun hc101 => ?_)
  · have h := h.1 hc101
    refine z_iload_n C dX2_withStep_33 rfl 2 rfl ?_
    exact z_iret C hr () rfl h dX2_withStep_34
  · have h := h.2 hc101
    refine z_iload_n C dX2_withStep_10 rfl 0 rfl ?_
    refine z_iload_n C dX2_withStep_11 rfl 3 rfl ?_
    refine z_ishr C dX2_withStep_12 ?_
    refine z_iconst (v := 1) C dX2_withStep_13 (by decide) ?_
    refine z_iand C dX2_withStep_14 ?_
    refine z_iconst (v := 1) C dX2_withStep_15 (by decide) ?_
    refine z_icmp_ne C dX2_withStep_16 (tgt := 27) (by decide) (fun hc102 => ?_) (fun hc102 => ?_)
    · have h := h.1 hc102
      exact b_X2_withStep_27 C hr Q B4 hB4 x0 x1 x2 x3 h
    · have h := h.2 hc102
      refine z_iload_n C dX2_withStep_19 rfl 2 rfl ?_
      refine z_iconst (v := 1) C dX2_withStep_20 (by decide) ?_
      refine z_iload_n C dX2_withStep_21 rfl 3 rfl ?_
      refine z_iload_n C dX2_withStep_22 rfl 1 rfl ?_
      refine z_ixor C dX2_withStep_23 ?_
      refine z_ishl C dX2_withStep_24 ?_
      refine z_ior C dX2_withStep_25 ?_
      refine z_topi (fun x104 ex104 => ?_)
      have h := h x104 ex104
      refine z_istore_n (lv1 := [(2, .int x104), (0, .int x0), (1, .int x1), (3, .int x3)]) C dX2_withStep_26 rfl (by decide) rfl ?_
      refine z_lv (lv1 := [(0, .int x0), (1, .int x1), (2, .int x104), (3, .int x3)]) [1, 2, 0, 3] rfl ?_
      exact b_X2_withStep_27 C hr Q B4 hB4 x0 x1 x104 x3 h
theorem l_X2_withStep_4 (C : zC p s m args meth c g A cX2_withStep RX2 4) (hr : meth.sig.returnType = (some .int)) (Q : Int32 → Prop) : ∀ (n : Nat) (x0 : Int32) (x1 : Int32) (x2 : Int32) (x3 : Int32), zit4 (wp_X2_withStep_4 Q) n x0 x1 x2 x3 → j_X2_withStep p l e s m args below meth c g A Q 4 [(0, .int x0), (1, .int x1), (2, .int x2), (3, .int x3)] [] := by
  intro n
  induction n with
  | zero => exact fun x0 x1 x2 x3 h => h.elim
  | succ n ih => exact fun x0 x1 x2 x3 h => b_X2_withStep_4 C hr Q (zit4 (wp_X2_withStep_4 Q) n) ih x0 x1 x2 x3 h
def wp_X2_withStep (x0 : Int32) (x1 : Int32) (Q : Int32 → Prop) : Prop :=
  (∃ n, zit4 (wp_X2_withStep_4 Q) n x0 x1 x0 0)
set_option maxRecDepth 20000 in
theorem c_X2_withStep (l : Launch) (g : zG) (x0 : Int32) (x1 : Int32) (Q : Int32 → Prop) (h : wp_X2_withStep x0 x1 Q) : zMi l yX2_withStep cX2_withStep 4 (some .int) 0 0 0 g [.int x0, .int x1] [] (fun _ : Unit => []) (fun r _ => Q r) := by
  refine zMi_of RX2 (by decide) rfl [(0, .int x0), (1, .int x1)] rfl (Nat.le_of_ble_eq_true rfl) (fun p e s m args below meth c A C hr hnm => ?_)
  unfold wp_X2_withStep at h
  refine z_iload_n C dX2_withStep_0 rfl 0 rfl ?_
  refine z_istore_n (lv1 := [(2, .int x0), (0, .int x0), (1, .int x1)]) C dX2_withStep_1 rfl (by decide) rfl ?_
  refine z_iconst (v := 0) C dX2_withStep_2 (by decide) ?_
  refine z_istore_n (lv1 := [(3, .int 0), (2, .int x0), (0, .int x0), (1, .int x1)]) C dX2_withStep_3 rfl (by decide) rfl ?_
  refine z_lv (lv1 := [(0, .int x0), (1, .int x1), (2, .int x0), (3, .int 0)]) [2, 3, 1, 0] rfl ?_
  obtain ⟨n9, h⟩ := h
  exact l_X2_withStep_4 C hr Q n9 x0 x1 x0 0 h
abbrev j_X3_at (p : Program) (l : Launch) (e : Env) (s : State) (m : MethodId) (args : Array Value) (below : List Frame) (meth : Method) (c : Code) (g : zG) (A : Nat → Prop) (ad : Nat → Nat) (Q : Int32 → RS → Prop) (u : RS) (pc : Nat) (lv : List (Nat × Value)) (st : List Value) : Prop := zJ p l e (zR 0 0 0) s m args below meth c g A 3 (zQi below args s g A 0 0 (wX3 g ad) Q) (wX3 g ad u) 0 0 pc lv st
def wp_X3_at (u : RS) (x1 : Int32) (x2 : Int32) (Q : Int32 → RS → Prop) : Prop :=
  vp_in ((4 * x1) + x2) 128 ∧ Q (u.1 8 (zn ((4 * x1) + x2))) u
set_option maxRecDepth 20000 in
theorem c_X3_at (l : Launch) (g : zG) (ad : Nat → Nat) (u : RS) (x1 : Int32) (x2 : Int32) (Q : Int32 → RS → Prop) (h : wp_X3_at u x1 x2 Q) : zMi l yX3_at cX3_at 3 (some .int) 0 0 0 g [.ref (ad 0), .int x1, .int x2] (wX3 g ad u) (wX3 g ad) Q := by
  refine zMi_of RX3 (by decide) rfl [(0, .ref (ad 0)), (1, .int x1), (2, .int x2)] rfl (Nat.le_of_ble_eq_true rfl) (fun p e s m args below meth c A C hr hnm => ?_)
  unfold wp_X3_at at h
  refine z_aload_n C dX3_at_0 rfl 0 rfl ?_
  refine g3_cells C dX3_at_1 ?_
  refine z_iconst (v := 4) C dX3_at_4 (by decide) ?_
  refine z_iload_n C dX3_at_5 rfl 1 rfl ?_
  refine z_imul C dX3_at_6 ?_
  refine z_iload_n C dX3_at_7 rfl 2 rfl ?_
  refine z_iadd C dX3_at_8 ?_
  obtain ⟨hi101, h⟩ := h
  refine l3_cells C hi101 dX3_at_9 ?_
  exact z_iret C hr u rfl h dX3_at_10
abbrev j_X3_tell (p : Program) (l : Launch) (e : Env) (s : State) (m : MethodId) (args : Array Value) (below : List Frame) (meth : Method) (c : Code) (g : zG) (A : Nat → Prop) (ad : Nat → Nat) (Q : Int32 → RS → Prop) (u : RS) (pc : Nat) (lv : List (Nat × Value)) (st : List Value) : Prop := zJ p l e (zR 0 0 0) s m args below meth c g A 2 (zQi below args s g A 0 0 (wX3 g ad) Q) (wX3 g ad u) 0 0 pc lv st
def wp_X3_tell_92 (Q : Int32 → RS → Prop) (u : RS) : Prop :=
  Q (-1) u
set_option maxRecDepth 20000 in
theorem b_X3_tell_92 (C : zC p s m args meth c g A cX3_tell RX3 2) (hr : meth.sig.returnType = (some .int)) (ad : Nat → Nat) (Q : Int32 → RS → Prop) (u : RS) (h : wp_X3_tell_92 Q u) : j_X3_tell p l e s m args below meth c g A ad Q u 92 [(0, .ref (ad 0))] [] := by
  unfold wp_X3_tell_92 at h
  refine z_iconst (v := (-1)) C dX3_tell_92 (by decide) ?_
  exact z_iret C hr u rfl h dX3_tell_93
def wp_X3_tell (u : RS) (x1 : Int32) (Q : Int32 → RS → Prop) : Prop :=
  ((x1 = 0 → Q (u.1 0 0) u) ∧ (x1 = 1 → Q (u.1 3 0) u) ∧ (x1 = 2 → Q (u.1 4 0) u) ∧ (x1 = 3 → Q (u.1 1 0) u) ∧ (x1 = 4 → Q (u.1 5 0) u) ∧ (x1 = 5 → Q (u.1 2 0) u) ∧ (x1 = 6 → wp_X3_tell_92 Q u) ∧ (x1 = 7 → Q (u.1 6 0) u) ∧ (x1 = 8 → Q (u.1 7 0) u) ∧ (¬ x1 = 0 → ¬ x1 = 1 → ¬ x1 = 2 → ¬ x1 = 3 → ¬ x1 = 4 → ¬ x1 = 5 → ¬ x1 = 6 → ¬ x1 = 7 → ¬ x1 = 8 → wp_X3_tell_92 Q u))
set_option maxRecDepth 20000 in
theorem c_X3_tell (l : Launch) (g : zG) (ad : Nat → Nat) (u : RS) (x1 : Int32) (Q : Int32 → RS → Prop) (h : wp_X3_tell u x1 Q) : zMi l yX3_tell cX3_tell 2 (some .int) 0 0 0 g [.ref (ad 0), .int x1] (wX3 g ad u) (wX3 g ad) Q := by
  refine zMi_of RX3 (by decide) rfl [(0, .ref (ad 0)), (1, .int x1)] rfl (Nat.le_of_ble_eq_true rfl) (fun p e s m args below meth c A C hr hnm => ?_)
  unfold wp_X3_tell at h
  refine z_iload_n C dX3_tell_0 rfl 1 rfl ?_
  by_cases hx101 : x1 = 0
  · have h := h.1 hx101
    refine z_tIn C dX3_tell_1 (0) (by rw [hx101]; decide) (by decide) (by decide) rfl (tgt := 52) (by decide) ?_
    refine z_aload_n C dX3_tell_52 rfl 0 rfl ?_
    refine g3_number C dX3_tell_53 ?_
    exact z_iret C hr u rfl h dX3_tell_56
  have h := h.2
  by_cases hx102 : x1 = 1
  · have h := h.1 hx102
    refine z_tIn C dX3_tell_1 (1) (by rw [hx102]; decide) (by decide) (by decide) rfl (tgt := 57) (by decide) ?_
    refine z_aload_n C dX3_tell_57 rfl 0 rfl ?_
    refine g3_delay C dX3_tell_58 ?_
    exact z_iret C hr u rfl h dX3_tell_61
  have h := h.2
  by_cases hx103 : x1 = 2
  · have h := h.1 hx103
    refine z_tIn C dX3_tell_1 (2) (by rw [hx103]; decide) (by decide) (by decide) rfl (tgt := 62) (by decide) ?_
    refine z_aload_n C dX3_tell_62 rfl 0 rfl ?_
    refine g3_since C dX3_tell_63 ?_
    exact z_iret C hr u rfl h dX3_tell_66
  have h := h.2
  by_cases hx104 : x1 = 3
  · have h := h.1 hx104
    refine z_tIn C dX3_tell_1 (3) (by rw [hx104]; decide) (by decide) (by decide) rfl (tgt := 67) (by decide) ?_
    refine z_aload_n C dX3_tell_67 rfl 0 rfl ?_
    refine g3_calls C dX3_tell_68 ?_
    exact z_iret C hr u rfl h dX3_tell_71
  have h := h.2
  by_cases hx105 : x1 = 4
  · have h := h.1 hx105
    refine z_tIn C dX3_tell_1 (4) (by rw [hx105]; decide) (by decide) (by decide) rfl (tgt := 72) (by decide) ?_
    refine z_aload_n C dX3_tell_72 rfl 0 rfl ?_
    refine g3_taken C dX3_tell_73 ?_
    exact z_iret C hr u rfl h dX3_tell_76
  have h := h.2
  by_cases hx106 : x1 = 5
  · have h := h.1 hx106
    refine z_tIn C dX3_tell_1 (5) (by rw [hx106]; decide) (by decide) (by decide) rfl (tgt := 77) (by decide) ?_
    refine z_aload_n C dX3_tell_77 rfl 0 rfl ?_
    refine g3_lost C dX3_tell_78 ?_
    exact z_iret C hr u rfl h dX3_tell_81
  have h := h.2
  by_cases hx107 : x1 = 6
  · have h := h.1 hx107
    refine z_tIn C dX3_tell_1 (6) (by rw [hx107]; decide) (by decide) (by decide) rfl (tgt := 92) (by decide) ?_
    refine z_lv (lv1 := [(0, .ref (ad 0))]) [0] rfl ?_
    exact b_X3_tell_92 C hr ad Q u h
  have h := h.2
  by_cases hx108 : x1 = 7
  · have h := h.1 hx108
    refine z_tIn C dX3_tell_1 (7) (by rw [hx108]; decide) (by decide) (by decide) rfl (tgt := 82) (by decide) ?_
    refine z_aload_n C dX3_tell_82 rfl 0 rfl ?_
    refine g3_pace C dX3_tell_83 ?_
    exact z_iret C hr u rfl h dX3_tell_86
  have h := h.2
  by_cases hx109 : x1 = 8
  · have h := h.1 hx109
    refine z_tIn C dX3_tell_1 (8) (by rw [hx109]; decide) (by decide) (by decide) rfl (tgt := 87) (by decide) ?_
    refine z_aload_n C dX3_tell_87 rfl 0 rfl ?_
    refine g3_fresh C dX3_tell_88 ?_
    exact z_iret C hr u rfl h dX3_tell_91
  have h := h.2
  have h := h hx101 hx102 hx103 hx104 hx105 hx106 hx107 hx108 hx109
  have thx101 := lv_neT (a := 0) hx101 (by decide)
  have thx102 := lv_neT (a := 1) hx102 (by decide)
  have thx103 := lv_neT (a := 2) hx103 (by decide)
  have thx104 := lv_neT (a := 3) hx104 (by decide)
  have thx105 := lv_neT (a := 4) hx105 (by decide)
  have thx106 := lv_neT (a := 5) hx106 (by decide)
  have thx107 := lv_neT (a := 6) hx107 (by decide)
  have thx108 := lv_neT (a := 7) hx108 (by decide)
  have thx109 := lv_neT (a := 8) hx109 (by decide)
  refine z_tOut C dX3_tell_1 (by omega) (tgt := 92) (by decide) ?_
  refine z_lv (lv1 := [(0, .ref (ad 0))]) [0] rfl ?_
  exact b_X3_tell_92 C hr ad Q u h
abbrev j_X3_append (p : Program) (l : Launch) (e : Env) (s : State) (m : MethodId) (args : Array Value) (below : List Frame) (meth : Method) (c : Code) (g : zG) (A : Nat → Prop) (ad : Nat → Nat) (Q : RS → Prop) (u : RS) (pc : Nat) (lv : List (Nat × Value)) (st : List Value) : Prop := zJ p l e (zR 0 0 0) s m args below meth c g A 7 (zQv below args s g A 0 0 (wX3 g ad) Q) (wX3 g ad u) 0 0 pc lv st
def wp_X3_append_69 (Q : RS → Prop) (u : RS) (t0 : Int32) (t1 : Int32) : Prop :=
  vp_in t1 128 ∧ ∀ u111 : RS, u111 = rI u 8 (upd (u.1 8) (zn t1) t0) → ∀ u112 : RS, u112 = rN u111 0 ((u111.1 0 0) + 1) → ∀ u113 : RS, u113 = rN u112 7 ((u112.1 7 0) + 1) → Q u113
set_option maxRecDepth 20000 in
theorem b_X3_append_69 (C : zC p s m args meth c g A cX3_append RX3 7) (hr : meth.sig.returnType = none) (ad : Nat → Nat) (Q : RS → Prop) (u : RS) (t0 : Int32) (t1 : Int32) (h : wp_X3_append_69 Q u t0 t1) : j_X3_append p l e s m args below meth c g A ad Q u 69 [(0, .ref (ad 0))] [.int t0, .int t1, .ref (ad 1)] := by
  unfold wp_X3_append_69 at h
  obtain ⟨hi110, h⟩ := h
  refine s3_cells C hi110 dX3_append_69 ?_
  refine sT3 (fun u111 eu111 => ?_)
  have h := h u111 eu111
  refine z_aload_n C dX3_append_70 rfl 0 rfl ?_
  refine z_dup C dX3_append_71 rfl ?_
  refine g3_number C dX3_append_72 ?_
  refine z_iconst (v := 1) C dX3_append_75 (by decide) ?_
  refine z_iadd C dX3_append_76 ?_
  refine p3_number C dX3_append_77 ?_
  refine sT3 (fun u112 eu112 => ?_)
  have h := h u112 eu112
  refine z_aload_n C dX3_append_80 rfl 0 rfl ?_
  refine z_dup C dX3_append_81 rfl ?_
  refine g3_fresh C dX3_append_82 ?_
  refine z_iconst (v := 1) C dX3_append_85 (by decide) ?_
  refine z_iadd C dX3_append_86 ?_
  refine p3_fresh C dX3_append_87 ?_
  refine sT3 (fun u113 eu113 => ?_)
  have h := h u113 eu113
  exact z_vret C hr u113 rfl h dX3_append_90
def wp_X3_append_13 (Q : RS → Prop) (u : RS) (x1 : Int32) (x2 : Int32) (x3 : Int32) (x4 : Int32) : Prop :=
  ∀ x102 : Int32, x102 = 4 * (u.1 0 0) → vp_in (x102 + 0) 128 ∧ ∀ u104 : RS, u104 = rI u 8 (upd (u.1 8) (zn (x102 + 0)) x1) → vp_in (x102 + 1) 128 ∧ ∀ u106 : RS, u106 = rI u104 8 (upd (u104.1 8) (zn (x102 + 1)) x2) → vp_in (x102 + 2) 128 ∧ ∀ u108 : RS, u108 = rI u106 8 (upd (u106.1 8) (zn (x102 + 2)) x3) → ((x4 = 0 → wp_X3_append_69 Q u108 0 (x102 + 3)) ∧ (¬ x4 = 0 → wp_X3_append_69 Q u108 1 (x102 + 3)))
set_option maxRecDepth 20000 in
theorem b_X3_append_13 (C : zC p s m args meth c g A cX3_append RX3 7) (hr : meth.sig.returnType = none) (ad : Nat → Nat) (Q : RS → Prop) (u : RS) (x1 : Int32) (x2 : Int32) (x3 : Int32) (x4 : Int32) (h : wp_X3_append_13 Q u x1 x2 x3 x4) : j_X3_append p l e s m args below meth c g A ad Q u 13 [(0, .ref (ad 0)), (1, .int x1), (2, .int x2), (3, .int x3), (4, .int x4)] [] := by
  unfold wp_X3_append_13 at h
  refine z_iconst (v := 4) C dX3_append_13 (by decide) ?_
  refine z_aload_n C dX3_append_14 rfl 0 rfl ?_
  refine g3_number C dX3_append_15 ?_
  refine z_imul C dX3_append_18 ?_
  refine z_topi (fun x102 ex102 => ?_)
  have h := h x102 ex102
  refine z_istore (lv1 := [(6, .int x102), (0, .ref (ad 0)), (1, .int x1), (2, .int x2), (3, .int x3), (4, .int x4)]) C dX3_append_19 (by decide) rfl ?_
  refine z_aload_n C dX3_append_21 rfl 1 rfl ?_
  refine g3_cells C dX3_append_22 ?_
  refine z_iload C dX3_append_25 0 rfl ?_
  refine z_iconst (v := 0) C dX3_append_27 (by decide) ?_
  refine z_iadd C dX3_append_28 ?_
  refine z_iload_n C dX3_append_29 rfl 2 rfl ?_
  obtain ⟨hi103, h⟩ := h
  refine s3_cells C hi103 dX3_append_30 ?_
  refine sT3 (fun u104 eu104 => ?_)
  have h := h u104 eu104
  refine z_aload_n C dX3_append_31 rfl 1 rfl ?_
  refine g3_cells C dX3_append_32 ?_
  refine z_iload C dX3_append_35 0 rfl ?_
  refine z_iconst (v := 1) C dX3_append_37 (by decide) ?_
  refine z_iadd C dX3_append_38 ?_
  refine z_iload_n C dX3_append_39 rfl 3 rfl ?_
  obtain ⟨hi105, h⟩ := h
  refine s3_cells C hi105 dX3_append_40 ?_
  refine sT3 (fun u106 eu106 => ?_)
  have h := h u106 eu106
  refine z_aload_n C dX3_append_41 rfl 1 rfl ?_
  refine g3_cells C dX3_append_42 ?_
  refine z_iload C dX3_append_45 0 rfl ?_
  refine z_iconst (v := 2) C dX3_append_47 (by decide) ?_
  refine z_iadd C dX3_append_48 ?_
  refine z_iload_n C dX3_append_49 rfl 4 rfl ?_
  obtain ⟨hi107, h⟩ := h
  refine s3_cells C hi107 dX3_append_50 ?_
  refine sT3 (fun u108 eu108 => ?_)
  have h := h u108 eu108
  refine z_aload_n C dX3_append_51 rfl 1 rfl ?_
  refine g3_cells C dX3_append_52 ?_
  refine z_iload C dX3_append_55 0 rfl ?_
  refine z_iconst (v := 3) C dX3_append_57 (by decide) ?_
  refine z_iadd C dX3_append_58 ?_
  refine z_iload C dX3_append_59 5 rfl ?_
  refine z_if_eq C dX3_append_61 (tgt := 68) (by decide) (fun hc109 => ?_) (fun hc109 => ?_)
  · have h := h.1 hc109
    refine z_iconst (v := 0) C dX3_append_68 (by decide) ?_
    refine z_lv (lv1 := [(0, .ref (ad 0))]) [1] rfl ?_
    exact b_X3_append_69 C hr ad Q u108 0 (x102 + 3) h
  · have h := h.2 hc109
    refine z_iconst (v := 1) C dX3_append_64 (by decide) ?_
    refine z_goto C dX3_append_65 (tgt := 69) (by decide) ?_
    refine z_lv (lv1 := [(0, .ref (ad 0))]) [1] rfl ?_
    exact b_X3_append_69 C hr ad Q u108 1 (x102 + 3) h
def wp_X3_append (u : RS) (x1 : Int32) (x2 : Int32) (x3 : Int32) (x4 : Int32) (x5 : Int32) (Q : RS → Prop) : Prop :=
  ((¬ u.1 0 0 = 0 → wp_X3_append_13 Q u x1 x2 x3 x4) ∧ (u.1 0 0 = 0 → ∀ u114 : RS, u114 = rN u 4 x5 → wp_X3_append_13 Q u114 x1 x2 x3 x4))
set_option maxRecDepth 20000 in
theorem c_X3_append (l : Launch) (g : zG) (ad : Nat → Nat) (u : RS) (x1 : Int32) (x2 : Int32) (x3 : Int32) (x4 : Int32) (x5 : Int32) (Q : RS → Prop) (h : wp_X3_append u x1 x2 x3 x4 x5 Q) : zMv l yX3_append cX3_append 7 none 0 0 0 g [.ref (ad 0), .int x1, .int x2, .int x3, .int x4, .int x5] (wX3 g ad u) (wX3 g ad) Q := by
  refine zMv_of RX3 (by decide) rfl [(0, .ref (ad 0)), (1, .int x1), (2, .int x2), (3, .int x3), (4, .int x4), (5, .int x5)] rfl (Nat.le_of_ble_eq_true rfl) (fun p e s m args below meth c A C hr hnm => ?_)
  unfold wp_X3_append at h
  refine z_aload_n C dX3_append_0 rfl 0 rfl ?_
  refine g3_number C dX3_append_1 ?_
  refine z_if_ne C dX3_append_4 (tgt := 13) (by decide) (fun hc101 => ?_) (fun hc101 => ?_)
  · have h := h.1 hc101
    refine z_lv (lv1 := [(0, .ref (ad 0)), (1, .int x1), (2, .int x2), (3, .int x3), (4, .int x4)]) [0, 1, 2, 3, 4] rfl ?_
    exact b_X3_append_13 C hr ad Q u x1 x2 x3 x4 h
  · have h := h.2 hc101
    refine z_aload_n C dX3_append_7 rfl 0 rfl ?_
    refine z_iload C dX3_append_8 5 rfl ?_
    refine p3_since C dX3_append_10 ?_
    refine sT3 (fun u114 eu114 => ?_)
    have h := h u114 eu114
    refine z_lv (lv1 := [(0, .ref (ad 0)), (1, .int x1), (2, .int x2), (3, .int x3), (4, .int x4)]) [0, 1, 2, 3, 4] rfl ?_
    exact b_X3_append_13 C hr ad Q u114 x1 x2 x3 x4 h
abbrev j_X3_keepPace (p : Program) (l : Launch) (e : Env) (s : State) (m : MethodId) (args : Array Value) (below : List Frame) (meth : Method) (c : Code) (g : zG) (A : Nat → Prop) (ad : Nat → Nat) (Q : RS → Prop) (u : RS) (pc : Nat) (lv : List (Nat × Value)) (st : List Value) : Prop := zJ p l e (zR 0 0 0) s m args below meth c g A 1 (zQv below args s g A 0 0 (wX3 g ad) Q) (wX3 g ad u) 0 0 pc lv st
def wp_X3_keepPace (u : RS) (Q : RS → Prop) : Prop :=
  ∀ u101 : RS, u101 = rN u 6 ((u.1 6 0) + (((16 * (u.1 7 0)) - (u.1 6 0)) / 8)) → ∀ u102 : RS, u102 = rN u101 7 0 → Q u102
set_option maxRecDepth 20000 in
theorem c_X3_keepPace (l : Launch) (g : zG) (ad : Nat → Nat) (u : RS) (Q : RS → Prop) (h : wp_X3_keepPace u Q) : zMv l yX3_keepPace cX3_keepPace 1 none 0 0 0 g [.ref (ad 0)] (wX3 g ad u) (wX3 g ad) Q := by
  refine zMv_of RX3 (by decide) rfl [(0, .ref (ad 0))] rfl (Nat.le_of_ble_eq_true rfl) (fun p e s m args below meth c A C hr hnm => ?_)
  unfold wp_X3_keepPace at h
  refine z_aload_n C dX3_keepPace_0 rfl 0 rfl ?_
  refine z_dup C dX3_keepPace_1 rfl ?_
  refine g3_pace C dX3_keepPace_2 ?_
  refine z_bipush (v := 16) C dX3_keepPace_5 (by decide) ?_
  refine z_aload_n C dX3_keepPace_7 rfl 0 rfl ?_
  refine g3_fresh C dX3_keepPace_8 ?_
  refine z_imul C dX3_keepPace_11 ?_
  refine z_aload_n C dX3_keepPace_12 rfl 0 rfl ?_
  refine g3_pace C dX3_keepPace_13 ?_
  refine z_isub C dX3_keepPace_16 ?_
  refine z_bipush (v := 8) C dX3_keepPace_17 (by decide) ?_
  refine z_idiv C dX3_keepPace_19 (by decide) ?_
  refine z_iadd C dX3_keepPace_20 ?_
  refine p3_pace C dX3_keepPace_21 ?_
  refine sT3 (fun u101 eu101 => ?_)
  have h := h u101 eu101
  refine z_aload_n C dX3_keepPace_24 rfl 0 rfl ?_
  refine z_iconst (v := 0) C dX3_keepPace_25 (by decide) ?_
  refine p3_fresh C dX3_keepPace_26 ?_
  refine sT3 (fun u102 eu102 => ?_)
  have h := h u102 eu102
  exact z_vret C hr u102 rfl h dX3_keepPace_29
abbrev j_X3_isDue (p : Program) (l : Launch) (e : Env) (s : State) (m : MethodId) (args : Array Value) (below : List Frame) (meth : Method) (c : Code) (g : zG) (A : Nat → Prop) (ad : Nat → Nat) (Q : Int32 → RS → Prop) (u : RS) (pc : Nat) (lv : List (Nat × Value)) (st : List Value) : Prop := zJ p l e (zR 0 0 0) s m args below meth c g A 4 (zQi below args s g A 0 0 (wX3 g ad) Q) (wX3 g ad u) 0 0 pc lv st
def wp_X3_isDue_41 (Q : Int32 → RS → Prop) (u : RS) (t0 : Int32) : Prop :=
  (zBool t0 ∧ Q t0 u)
set_option maxRecDepth 20000 in
theorem b_X3_isDue_41 (C : zC p s m args meth c g A cX3_isDue RX3 4) (hr : meth.sig.returnType = (some .boolean)) (ad : Nat → Nat) (Q : Int32 → RS → Prop) (u : RS) (t0 : Int32) (h : wp_X3_isDue_41 Q u t0) : j_X3_isDue p l e s m args below meth c g A ad Q u 41 [(0, .ref (ad 0))] [.int t0] := by
  unfold wp_X3_isDue_41 at h
  exact z_zret C hr u rfl h.1 h.2 dX3_isDue_41
def wp_X3_isDue_40 (Q : Int32 → RS → Prop) (u : RS) : Prop :=
  wp_X3_isDue_41 Q u 0
set_option maxRecDepth 20000 in
theorem b_X3_isDue_40 (C : zC p s m args meth c g A cX3_isDue RX3 4) (hr : meth.sig.returnType = (some .boolean)) (ad : Nat → Nat) (Q : Int32 → RS → Prop) (u : RS) (h : wp_X3_isDue_40 Q u) : j_X3_isDue p l e s m args below meth c g A ad Q u 40 [(0, .ref (ad 0))] [] := by
  unfold wp_X3_isDue_40 at h
  refine z_iconst (v := 0) C dX3_isDue_40 (by decide) ?_
  exact b_X3_isDue_41 C hr ad Q u 0 h
def wp_X3_isDue_36 (Q : Int32 → RS → Prop) (u : RS) : Prop :=
  wp_X3_isDue_41 Q u 1
set_option maxRecDepth 20000 in
theorem b_X3_isDue_36 (C : zC p s m args meth c g A cX3_isDue RX3 4) (hr : meth.sig.returnType = (some .boolean)) (ad : Nat → Nat) (Q : Int32 → RS → Prop) (u : RS) (h : wp_X3_isDue_36 Q u) : j_X3_isDue p l e s m args below meth c g A ad Q u 36 [(0, .ref (ad 0))] [] := by
  unfold wp_X3_isDue_36 at h
  refine z_iconst (v := 1) C dX3_isDue_36 (by decide) ?_
  refine z_goto C dX3_isDue_37 (tgt := 41) (by decide) ?_
  exact b_X3_isDue_41 C hr ad Q u 1 h
def wp_X3_isDue (u : RS) (x1 : Int32) (x2 : Int32) (x3 : Int32) (Q : Int32 → RS → Prop) : Prop :=
  ((u.1 0 0 ≤ 0 → wp_X3_isDue_40 Q u) ∧ (¬ u.1 0 0 ≤ 0 → ((x2 ≤ u.1 0 0 → wp_X3_isDue_36 Q u) ∧ (¬ x2 ≤ u.1 0 0 → ((u.1 6 0 < x3 → wp_X3_isDue_36 Q u) ∧ (¬ u.1 6 0 < x3 → ((x1 - (u.1 4 0) < u.1 3 0 → wp_X3_isDue_40 Q u) ∧ (¬ x1 - (u.1 4 0) < u.1 3 0 → wp_X3_isDue_36 Q u))))))))
set_option maxRecDepth 20000 in
theorem c_X3_isDue (l : Launch) (g : zG) (ad : Nat → Nat) (u : RS) (x1 : Int32) (x2 : Int32) (x3 : Int32) (Q : Int32 → RS → Prop) (h : wp_X3_isDue u x1 x2 x3 Q) : zMi l yX3_isDue cX3_isDue 4 (some .boolean) 0 0 0 g [.ref (ad 0), .int x1, .int x2, .int x3] (wX3 g ad u) (wX3 g ad) Q := by
  refine zMi_of RX3 (by decide) rfl [(0, .ref (ad 0)), (1, .int x1), (2, .int x2), (3, .int x3)] rfl (Nat.le_of_ble_eq_true rfl) (fun p e s m args below meth c A C hr hnm => ?_)
  unfold wp_X3_isDue at h
  refine z_aload_n C dX3_isDue_0 rfl 0 rfl ?_
  refine g3_number C dX3_isDue_1 ?_
  refine z_if_le C dX3_isDue_4 (tgt := 40) (by decide) (fun hc101 => ?_) (fun hc101 => ?_)
  · have h := h.1 hc101
    refine z_lv (lv1 := [(0, .ref (ad 0))]) [0] rfl ?_
    exact b_X3_isDue_40 C hr ad Q u h
  · have h := h.2 hc101
    refine z_aload_n C dX3_isDue_7 rfl 0 rfl ?_
    refine g3_number C dX3_isDue_8 ?_
    refine z_iload_n C dX3_isDue_11 rfl 2 rfl ?_
    refine z_icmp_ge C dX3_isDue_12 (tgt := 36) (by decide) (fun hc102 => ?_) (fun hc102 => ?_)
    · have h := h.1 hc102
      refine z_lv (lv1 := [(0, .ref (ad 0))]) [0] rfl ?_
      exact b_X3_isDue_36 C hr ad Q u h
    · have h := h.2 hc102
      refine z_aload_n C dX3_isDue_15 rfl 0 rfl ?_
      refine g3_pace C dX3_isDue_16 ?_
      refine z_iload_n C dX3_isDue_19 rfl 3 rfl ?_
      refine z_icmp_lt C dX3_isDue_20 (tgt := 36) (by decide) (fun hc103 => ?_) (fun hc103 => ?_)
      · have h := h.1 hc103
        refine z_lv (lv1 := [(0, .ref (ad 0))]) [0] rfl ?_
        exact b_X3_isDue_36 C hr ad Q u h
      · have h := h.2 hc103
        refine z_iload_n C dX3_isDue_23 rfl 1 rfl ?_
        refine z_aload_n C dX3_isDue_24 rfl 0 rfl ?_
        refine g3_since C dX3_isDue_25 ?_
        refine z_isub C dX3_isDue_28 ?_
        refine z_aload_n C dX3_isDue_29 rfl 0 rfl ?_
        refine g3_delay C dX3_isDue_30 ?_
        refine z_icmp_lt C dX3_isDue_33 (tgt := 40) (by decide) (fun hc104 => ?_) (fun hc104 => ?_)
        · have h := h.1 hc104
          refine z_lv (lv1 := [(0, .ref (ad 0))]) [0] rfl ?_
          exact b_X3_isDue_40 C hr ad Q u h
        · have h := h.2 hc104
          refine z_lv (lv1 := [(0, .ref (ad 0))]) [0] rfl ?_
          exact b_X3_isDue_36 C hr ad Q u h
abbrev j_X4_lately (p : Program) (l : Launch) (e : Env) (s : State) (m : MethodId) (args : Array Value) (below : List Frame) (meth : Method) (c : Code) (g : zG) (A : Nat → Prop) (ad : Nat → Nat) (Q : Int32 → RS → Prop) (u : RS) (pc : Nat) (lv : List (Nat × Value)) (st : List Value) : Prop := zJ p l e (zR 0 0 0) s m args below meth c g A 3 (zQi below args s g A 0 0 (wX4 g ad) Q) (wX4 g ad u) 0 0 pc lv st
def wp_X4_lately (u : RS) (x1 : Int32) (x2 : Int32) (Q : Int32 → RS → Prop) : Prop :=
  vp_in ((6 * ((((u.1 2 0) + 12) - x1) - (((u.1 2 0) + 12) - x1) / 12 * 12)) + x2) 72 ∧ Q (u.1 3 (zn ((6 * ((((u.1 2 0) + 12) - x1) - (((u.1 2 0) + 12) - x1) / 12 * 12)) + x2))) u
set_option maxRecDepth 20000 in
theorem c_X4_lately (l : Launch) (g : zG) (ad : Nat → Nat) (u : RS) (x1 : Int32) (x2 : Int32) (Q : Int32 → RS → Prop) (h : wp_X4_lately u x1 x2 Q) : zMi l yX4_lately cX4_lately 3 (some .int) 0 0 0 g [.ref (ad 0), .int x1, .int x2] (wX4 g ad u) (wX4 g ad) Q := by
  refine zMi_of RX4 (by decide) rfl [(0, .ref (ad 0)), (1, .int x1), (2, .int x2)] rfl (Nat.le_of_ble_eq_true rfl) (fun p e s m args below meth c A C hr hnm => ?_)
  unfold wp_X4_lately at h
  refine z_aload_n C dX4_lately_0 rfl 0 rfl ?_
  refine g4_last C dX4_lately_1 ?_
  refine z_bipush (v := 6) C dX4_lately_4 (by decide) ?_
  refine z_aload_n C dX4_lately_6 rfl 0 rfl ?_
  refine g4_latest C dX4_lately_7 ?_
  refine z_bipush (v := 12) C dX4_lately_10 (by decide) ?_
  refine z_iadd C dX4_lately_12 ?_
  refine z_iload_n C dX4_lately_13 rfl 1 rfl ?_
  refine z_isub C dX4_lately_14 ?_
  refine z_bipush (v := 12) C dX4_lately_15 (by decide) ?_
  refine z_irem C dX4_lately_17 (by decide) ?_
  refine z_imul C dX4_lately_18 ?_
  refine z_iload_n C dX4_lately_19 rfl 2 rfl ?_
  refine z_iadd C dX4_lately_20 ?_
  obtain ⟨hi101, h⟩ := h
  refine l4_last C hi101 dX4_lately_21 ?_
  exact z_iret C hr u rfl h dX4_lately_22
abbrev j_X4_isOpen (p : Program) (l : Launch) (e : Env) (s : State) (m : MethodId) (args : Array Value) (below : List Frame) (meth : Method) (c : Code) (g : zG) (A : Nat → Prop) (ad : Nat → Nat) (Q : Int32 → RS → Prop) (u : RS) (pc : Nat) (lv : List (Nat × Value)) (st : List Value) : Prop := zJ p l e (zR 0 0 0) s m args below meth c g A 2 (zQi below args s g A 0 0 (wX4 g ad) Q) (wX4 g ad u) 0 0 pc lv st
def wp_X4_isOpen_14 (Q : Int32 → RS → Prop) (u : RS) (t0 : Int32) : Prop :=
  (zBool t0 ∧ Q t0 u)
set_option maxRecDepth 20000 in
theorem b_X4_isOpen_14 (C : zC p s m args meth c g A cX4_isOpen RX4 2) (hr : meth.sig.returnType = (some .boolean)) (ad : Nat → Nat) (Q : Int32 → RS → Prop) (u : RS) (t0 : Int32) (h : wp_X4_isOpen_14 Q u t0) : j_X4_isOpen p l e s m args below meth c g A ad Q u 14 [(0, .ref (ad 0))] [.int t0] := by
  unfold wp_X4_isOpen_14 at h
  exact z_zret C hr u rfl h.1 h.2 dX4_isOpen_14
def wp_X4_isOpen (u : RS) (x1 : Int32) (Q : Int32 → RS → Prop) : Prop :=
  vp_in x1 24 ∧ ((u.1 6 (zn x1) ≤ 0 → wp_X4_isOpen_14 Q u 0) ∧ (¬ u.1 6 (zn x1) ≤ 0 → wp_X4_isOpen_14 Q u 1))
set_option maxRecDepth 20000 in
theorem c_X4_isOpen (l : Launch) (g : zG) (ad : Nat → Nat) (u : RS) (x1 : Int32) (Q : Int32 → RS → Prop) (h : wp_X4_isOpen u x1 Q) : zMi l yX4_isOpen cX4_isOpen 2 (some .boolean) 0 0 0 g [.ref (ad 0), .int x1] (wX4 g ad u) (wX4 g ad) Q := by
  refine zMi_of RX4 (by decide) rfl [(0, .ref (ad 0)), (1, .int x1)] rfl (Nat.le_of_ble_eq_true rfl) (fun p e s m args below meth c A C hr hnm => ?_)
  unfold wp_X4_isOpen at h
  refine z_aload_n C dX4_isOpen_0 rfl 0 rfl ?_
  refine g4_packets C dX4_isOpen_1 ?_
  refine z_iload_n C dX4_isOpen_4 rfl 1 rfl ?_
  obtain ⟨hi101, h⟩ := h
  refine l4_packets C hi101 dX4_isOpen_5 ?_
  refine z_if_le C dX4_isOpen_6 (tgt := 13) (by decide) (fun hc102 => ?_) (fun hc102 => ?_)
  · have h := h.1 hc102
    refine z_iconst (v := 0) C dX4_isOpen_13 (by decide) ?_
    refine z_lv (lv1 := [(0, .ref (ad 0))]) [0] rfl ?_
    exact b_X4_isOpen_14 C hr ad Q u 0 h
  · have h := h.2 hc102
    refine z_iconst (v := 1) C dX4_isOpen_9 (by decide) ?_
    refine z_goto C dX4_isOpen_10 (tgt := 14) (by decide) ?_
    refine z_lv (lv1 := [(0, .ref (ad 0))]) [0] rfl ?_
    exact b_X4_isOpen_14 C hr ad Q u 1 h
abbrev j_X4_endOf (p : Program) (l : Launch) (e : Env) (s : State) (m : MethodId) (args : Array Value) (below : List Frame) (meth : Method) (c : Code) (g : zG) (A : Nat → Prop) (ad : Nat → Nat) (Q : Int32 → RS → Prop) (u : RS) (pc : Nat) (lv : List (Nat × Value)) (st : List Value) : Prop := zJ p l e (zR 0 0 0) s m args below meth c g A 2 (zQi below args s g A 0 0 (wX4 g ad) Q) (wX4 g ad u) 0 0 pc lv st
def wp_X4_endOf (u : RS) (x1 : Int32) (Q : Int32 → RS → Prop) : Prop :=
  vp_in x1 24 ∧ vp_in x1 24 ∧ Q ((u.1 4 (zn x1)) + (u.1 5 (zn x1))) u
set_option maxRecDepth 20000 in
theorem c_X4_endOf (l : Launch) (g : zG) (ad : Nat → Nat) (u : RS) (x1 : Int32) (Q : Int32 → RS → Prop) (h : wp_X4_endOf u x1 Q) : zMi l yX4_endOf cX4_endOf 2 (some .int) 0 0 0 g [.ref (ad 0), .int x1] (wX4 g ad u) (wX4 g ad) Q := by
  refine zMi_of RX4 (by decide) rfl [(0, .ref (ad 0)), (1, .int x1)] rfl (Nat.le_of_ble_eq_true rfl) (fun p e s m args below meth c A C hr hnm => ?_)
  unfold wp_X4_endOf at h
  refine z_aload_n C dX4_endOf_0 rfl 0 rfl ?_
  refine g4_place C dX4_endOf_1 ?_
  refine z_iload_n C dX4_endOf_4 rfl 1 rfl ?_
  obtain ⟨hi101, h⟩ := h
  refine l4_place C hi101 dX4_endOf_5 ?_
  refine z_aload_n C dX4_endOf_6 rfl 0 rfl ?_
  refine g4_size C dX4_endOf_7 ?_
  refine z_iload_n C dX4_endOf_10 rfl 1 rfl ?_
  obtain ⟨hi102, h⟩ := h
  refine l4_size C hi102 dX4_endOf_11 ?_
  refine z_iadd C dX4_endOf_12 ?_
  exact z_iret C hr u rfl h dX4_endOf_13
abbrev j_X4_sizeOf (p : Program) (l : Launch) (e : Env) (s : State) (m : MethodId) (args : Array Value) (below : List Frame) (meth : Method) (c : Code) (g : zG) (A : Nat → Prop) (ad : Nat → Nat) (Q : Int32 → RS → Prop) (u : RS) (pc : Nat) (lv : List (Nat × Value)) (st : List Value) : Prop := zJ p l e (zR 0 0 0) s m args below meth c g A 2 (zQi below args s g A 0 0 (wX4 g ad) Q) (wX4 g ad u) 0 0 pc lv st
def wp_X4_sizeOf (u : RS) (x1 : Int32) (Q : Int32 → RS → Prop) : Prop :=
  vp_in x1 24 ∧ Q (u.1 5 (zn x1)) u
set_option maxRecDepth 20000 in
theorem c_X4_sizeOf (l : Launch) (g : zG) (ad : Nat → Nat) (u : RS) (x1 : Int32) (Q : Int32 → RS → Prop) (h : wp_X4_sizeOf u x1 Q) : zMi l yX4_sizeOf cX4_sizeOf 2 (some .int) 0 0 0 g [.ref (ad 0), .int x1] (wX4 g ad u) (wX4 g ad) Q := by
  refine zMi_of RX4 (by decide) rfl [(0, .ref (ad 0)), (1, .int x1)] rfl (Nat.le_of_ble_eq_true rfl) (fun p e s m args below meth c A C hr hnm => ?_)
  unfold wp_X4_sizeOf at h
  refine z_aload_n C dX4_sizeOf_0 rfl 0 rfl ?_
  refine g4_size C dX4_sizeOf_1 ?_
  refine z_iload_n C dX4_sizeOf_4 rfl 1 rfl ?_
  obtain ⟨hi101, h⟩ := h
  refine l4_size C hi101 dX4_sizeOf_5 ?_
  exact z_iret C hr u rfl h dX4_sizeOf_6
abbrev j_X4_open (p : Program) (l : Launch) (e : Env) (s : State) (m : MethodId) (args : Array Value) (below : List Frame) (meth : Method) (c : Code) (g : zG) (A : Nat → Prop) (ad : Nat → Nat) (Q : RS → Prop) (u : RS) (pc : Nat) (lv : List (Nat × Value)) (st : List Value) : Prop := zJ p l e (zR 0 0 0) s m args below meth c g A 4 (zQv below args s g A 0 0 (wX4 g ad) Q) (wX4 g ad u) 0 0 pc lv st
def wp_X4_open (u : RS) (x1 : Int32) (x2 : Int32) (x3 : Int32) (Q : RS → Prop) : Prop :=
  vp_in x1 24 ∧ ∀ u102 : RS, u102 = rI u 4 (upd (u.1 4) (zn x1) x2) → vp_in x1 24 ∧ ∀ u104 : RS, u104 = rI u102 5 (upd (u102.1 5) (zn x1) x3) → vp_in x1 24 ∧ ∀ u106 : RS, u106 = rI u104 6 (upd (u104.1 6) (zn x1) 1) → Q u106
set_option maxRecDepth 20000 in
theorem c_X4_open (l : Launch) (g : zG) (ad : Nat → Nat) (u : RS) (x1 : Int32) (x2 : Int32) (x3 : Int32) (Q : RS → Prop) (h : wp_X4_open u x1 x2 x3 Q) : zMv l yX4_open cX4_open 4 none 0 0 0 g [.ref (ad 0), .int x1, .int x2, .int x3] (wX4 g ad u) (wX4 g ad) Q := by
  refine zMv_of RX4 (by decide) rfl [(0, .ref (ad 0)), (1, .int x1), (2, .int x2), (3, .int x3)] rfl (Nat.le_of_ble_eq_true rfl) (fun p e s m args below meth c A C hr hnm => ?_)
  unfold wp_X4_open at h
  refine z_aload_n C dX4_open_0 rfl 0 rfl ?_
  refine g4_place C dX4_open_1 ?_
  refine z_iload_n C dX4_open_4 rfl 1 rfl ?_
  refine z_iload_n C dX4_open_5 rfl 2 rfl ?_
  obtain ⟨hi101, h⟩ := h
  refine s4_place C hi101 dX4_open_6 ?_
  refine sT4 (fun u102 eu102 => ?_)
  have h := h u102 eu102
  refine z_aload_n C dX4_open_7 rfl 0 rfl ?_
  refine g4_size C dX4_open_8 ?_
  refine z_iload_n C dX4_open_11 rfl 1 rfl ?_
  refine z_iload_n C dX4_open_12 rfl 3 rfl ?_
  obtain ⟨hi103, h⟩ := h
  refine s4_size C hi103 dX4_open_13 ?_
  refine sT4 (fun u104 eu104 => ?_)
  have h := h u104 eu104
  refine z_aload_n C dX4_open_14 rfl 0 rfl ?_
  refine g4_packets C dX4_open_15 ?_
  refine z_iload_n C dX4_open_18 rfl 1 rfl ?_
  refine z_iconst (v := 1) C dX4_open_19 (by decide) ?_
  obtain ⟨hi105, h⟩ := h
  refine s4_packets C hi105 dX4_open_20 ?_
  refine sT4 (fun u106 eu106 => ?_)
  have h := h u106 eu106
  exact z_vret C hr u106 rfl h dX4_open_21
abbrev j_X4_join (p : Program) (l : Launch) (e : Env) (s : State) (m : MethodId) (args : Array Value) (below : List Frame) (meth : Method) (c : Code) (g : zG) (A : Nat → Prop) (ad : Nat → Nat) (Q : RS → Prop) (u : RS) (pc : Nat) (lv : List (Nat × Value)) (st : List Value) : Prop := zJ p l e (zR 0 0 0) s m args below meth c g A 3 (zQv below args s g A 0 0 (wX4 g ad) Q) (wX4 g ad u) 0 0 pc lv st
def wp_X4_join (u : RS) (x1 : Int32) (x2 : Int32) (Q : RS → Prop) : Prop :=
  vp_in x1 24 ∧ vp_in x1 24 ∧ ∀ u103 : RS, u103 = rI u 5 (upd (u.1 5) (zn x1) ((u.1 5 (zn x1)) + x2)) → vp_in x1 24 ∧ vp_in x1 24 ∧ ∀ u106 : RS, u106 = rI u103 6 (upd (u103.1 6) (zn x1) ((u103.1 6 (zn x1)) + 1)) → Q u106
set_option maxRecDepth 20000 in
theorem c_X4_join (l : Launch) (g : zG) (ad : Nat → Nat) (u : RS) (x1 : Int32) (x2 : Int32) (Q : RS → Prop) (h : wp_X4_join u x1 x2 Q) : zMv l yX4_join cX4_join 3 none 0 0 0 g [.ref (ad 0), .int x1, .int x2] (wX4 g ad u) (wX4 g ad) Q := by
  refine zMv_of RX4 (by decide) rfl [(0, .ref (ad 0)), (1, .int x1), (2, .int x2)] rfl (Nat.le_of_ble_eq_true rfl) (fun p e s m args below meth c A C hr hnm => ?_)
  unfold wp_X4_join at h
  refine z_aload_n C dX4_join_0 rfl 0 rfl ?_
  refine g4_size C dX4_join_1 ?_
  refine z_iload_n C dX4_join_4 rfl 1 rfl ?_
  refine z_dup2 C dX4_join_5 rfl rfl ?_
  obtain ⟨hi101, h⟩ := h
  refine l4_size C hi101 dX4_join_6 ?_
  refine z_iload_n C dX4_join_7 rfl 2 rfl ?_
  refine z_iadd C dX4_join_8 ?_
  obtain ⟨hi102, h⟩ := h
  refine s4_size C hi102 dX4_join_9 ?_
  refine sT4 (fun u103 eu103 => ?_)
  have h := h u103 eu103
  refine z_aload_n C dX4_join_10 rfl 0 rfl ?_
  refine g4_packets C dX4_join_11 ?_
  refine z_iload_n C dX4_join_14 rfl 1 rfl ?_
  refine z_dup2 C dX4_join_15 rfl rfl ?_
  obtain ⟨hi104, h⟩ := h
  refine l4_packets C hi104 dX4_join_16 ?_
  refine z_iconst (v := 1) C dX4_join_17 (by decide) ?_
  refine z_iadd C dX4_join_18 ?_
  obtain ⟨hi105, h⟩ := h
  refine s4_packets C hi105 dX4_join_19 ?_
  refine sT4 (fun u106 eu106 => ?_)
  have h := h u106 eu106
  exact z_vret C hr u106 rfl h dX4_join_20
abbrev j_X6_clearHits (p : Program) (l : Launch) (e : Env) (s : State) (m : MethodId) (args : Array Value) (below : List Frame) (meth : Method) (c : Code) (g : zG) (A : Nat → Prop) (ad : Nat → Nat) (Q : RS → Prop) (u : RS) (pc : Nat) (lv : List (Nat × Value)) (st : List Value) : Prop := zJ p l e (zR 0 0 0) s m args below meth c g A 2 (zQv below args s g A 0 0 (wX6 g ad) Q) (wX6 g ad u) 0 0 pc lv st
def wp_X6_clearHits_2 (Q : RS → Prop) (B2 : RS → Int32 → Prop) (u : RS) (x1 : Int32) : Prop :=
  ((16 ≤ x1 → Q u) ∧ (¬ 16 ≤ x1 → vp_in x1 16 ∧ ∀ u103 : RS, u103 = rI u 1 (upd (u.1 1) (zn x1) 0) → ∀ x104 : Int32, x104 = x1 + 1 → B2 u103 x104))
set_option maxRecDepth 20000 in
theorem b_X6_clearHits_2 (C : zC p s m args meth c g A cX6_clearHits RX6 2) (hr : meth.sig.returnType = none) (ad : Nat → Nat) (Q : RS → Prop) (B2 : RS → Int32 → Prop) (hB2 : ∀ (u : RS) (x1 : Int32), B2 u x1 → j_X6_clearHits p l e s m args below meth c g A ad Q u 2 [(0, .ref (ad 0)), (1, .int x1)] []) (u : RS) (x1 : Int32) (h : wp_X6_clearHits_2 Q B2 u x1) : j_X6_clearHits p l e s m args below meth c g A ad Q u 2 [(0, .ref (ad 0)), (1, .int x1)] [] := by
  unfold wp_X6_clearHits_2 at h
  refine z_iload_n C dX6_clearHits_2 rfl 1 rfl ?_
  refine z_bipush (v := 16) C dX6_clearHits_3 (by decide) ?_
  refine z_icmp_ge C dX6_clearHits_5 (tgt := 21) (by decide) (fun hc101 => ?_) (fun hc101 => ?_)
  · have h := h.1 hc101
    exact z_vret C hr u rfl h dX6_clearHits_21
  · have h := h.2 hc101
    refine z_aload_n C dX6_clearHits_8 rfl 0 rfl ?_
    refine g6_hits C dX6_clearHits_9 ?_
    refine z_iload_n C dX6_clearHits_12 rfl 1 rfl ?_
    refine z_iconst (v := 0) C dX6_clearHits_13 (by decide) ?_
    obtain ⟨hi102, h⟩ := h
    refine s6_hits C hi102 dX6_clearHits_14 ?_
    refine sT6 (fun u103 eu103 => ?_)
    have h := h u103 eu103
    obtain ⟨x104, ex104⟩ : ∃ y : Int32, y = x1 + 1 := ⟨_, rfl⟩
    have h := h x104 ex104
    refine z_iinc (v := x104) (lv1 := [(1, .int x104), (0, .ref (ad 0))]) C dX6_clearHits_15 1 rfl (by rw [ex104]; rfl) (by decide) rfl ?_
    refine z_goto C dX6_clearHits_18 (tgt := 2) (by decide) ?_
    refine z_lv (lv1 := [(0, .ref (ad 0)), (1, .int x104)]) [1, 0] rfl ?_
    exact hB2 u103 x104 h
theorem l_X6_clearHits_2 (C : zC p s m args meth c g A cX6_clearHits RX6 2) (hr : meth.sig.returnType = none) (ad : Nat → Nat) (Q : RS → Prop) : ∀ (n : Nat) (u : RS) (x1 : Int32), zit2 (wp_X6_clearHits_2 Q) n u x1 → j_X6_clearHits p l e s m args below meth c g A ad Q u 2 [(0, .ref (ad 0)), (1, .int x1)] [] := by
  intro n
  induction n with
  | zero => exact fun u x1 h => h.elim
  | succ n ih => exact fun u x1 h => b_X6_clearHits_2 C hr ad Q (zit2 (wp_X6_clearHits_2 Q) n) ih u x1 h
def wp_X6_clearHits (u : RS) (Q : RS → Prop) : Prop :=
  (∃ n, zit2 (wp_X6_clearHits_2 Q) n u 0)
set_option maxRecDepth 20000 in
theorem c_X6_clearHits (l : Launch) (g : zG) (ad : Nat → Nat) (u : RS) (Q : RS → Prop) (h : wp_X6_clearHits u Q) : zMv l yX6_clearHits cX6_clearHits 2 none 0 0 0 g [.ref (ad 0)] (wX6 g ad u) (wX6 g ad) Q := by
  refine zMv_of RX6 (by decide) rfl [(0, .ref (ad 0))] rfl (Nat.le_of_ble_eq_true rfl) (fun p e s m args below meth c A C hr hnm => ?_)
  unfold wp_X6_clearHits at h
  refine z_iconst (v := 0) C dX6_clearHits_0 (by decide) ?_
  refine z_istore_n (lv1 := [(1, .int 0), (0, .ref (ad 0))]) C dX6_clearHits_1 rfl (by decide) rfl ?_
  refine z_lv (lv1 := [(0, .ref (ad 0)), (1, .int 0)]) [1, 0] rfl ?_
  obtain ⟨n9, h⟩ := h
  exact l_X6_clearHits_2 C hr ad Q n9 u 0 h
abbrev j_X6_entriesOf (p : Program) (l : Launch) (e : Env) (s : State) (m : MethodId) (args : Array Value) (below : List Frame) (meth : Method) (c : Code) (g : zG) (A : Nat → Prop) (ad : Nat → Nat) (Q : Int32 → RS → Prop) (u : RS) (pc : Nat) (lv : List (Nat × Value)) (st : List Value) : Prop := zJ p l e (zR 0 0 0) s m args below meth c g A 4 (zQi below args s g A 0 0 (wX6 g ad) Q) (wX6 g ad u) 0 0 pc lv st
def wp_X6_entriesOf_26 (Q : Int32 → RS → Prop) (B4 : RS → Int32 → Int32 → Int32 → Prop) (u : RS) (x1 : Int32) (x2 : Int32) (x3 : Int32) : Prop :=
  ∀ x104 : Int32, x104 = x3 + 1 → B4 u x1 x2 x104
set_option maxRecDepth 20000 in
theorem b_X6_entriesOf_26 (C : zC p s m args meth c g A cX6_entriesOf RX6 4) (hr : meth.sig.returnType = (some .int)) (ad : Nat → Nat) (Q : Int32 → RS → Prop) (B4 : RS → Int32 → Int32 → Int32 → Prop) (hB4 : ∀ (u : RS) (x1 : Int32) (x2 : Int32) (x3 : Int32), B4 u x1 x2 x3 → j_X6_entriesOf p l e s m args below meth c g A ad Q u 4 [(0, .ref (ad 0)), (1, .int x1), (2, .int x2), (3, .int x3)] []) (u : RS) (x1 : Int32) (x2 : Int32) (x3 : Int32) (h : wp_X6_entriesOf_26 Q B4 u x1 x2 x3) : j_X6_entriesOf p l e s m args below meth c g A ad Q u 26 [(0, .ref (ad 0)), (1, .int x1), (2, .int x2), (3, .int x3)] [] := by
  unfold wp_X6_entriesOf_26 at h
  obtain ⟨x104, ex104⟩ : ∃ y : Int32, y = x3 + 1 := ⟨_, rfl⟩
  have h := h x104 ex104
  refine z_iinc (v := x104) (lv1 := [(3, .int x104), (0, .ref (ad 0)), (1, .int x1), (2, .int x2)]) C dX6_entriesOf_26 3 rfl (by rw [ex104]; rfl) (by decide) rfl ?_
  refine z_goto C dX6_entriesOf_29 (tgt := 4) (by decide) ?_
  refine z_lv (lv1 := [(0, .ref (ad 0)), (1, .int x1), (2, .int x2), (3, .int x104)]) [1, 2, 3, 0] rfl ?_
  exact hB4 u x1 x2 x104 h
def wp_X6_entriesOf_4 (Q : Int32 → RS → Prop) (B4 : RS → Int32 → Int32 → Int32 → Prop) (u : RS) (x1 : Int32) (x2 : Int32) (x3 : Int32) : Prop :=
  ((16 ≤ x3 → Q x2 u) ∧ (¬ 16 ≤ x3 → vp_in x3 16 ∧ ((¬ u.1 0 (zn x3) = x1 → wp_X6_entriesOf_26 Q B4 u x1 x2 x3) ∧ (u.1 0 (zn x3) = x1 → ∀ x105 : Int32, x105 = x2 ||| (1 <<< (x3 &&& 31)) → wp_X6_entriesOf_26 Q B4 u x1 x105 x3))))
set_option maxRecDepth 20000 in
theorem b_X6_entriesOf_4 (C : zC p s m args meth c g A cX6_entriesOf RX6 4) (hr : meth.sig.returnType = (some .int)) (ad : Nat → Nat) (Q : Int32 → RS → Prop) (B4 : RS → Int32 → Int32 → Int32 → Prop) (hB4 : ∀ (u : RS) (x1 : Int32) (x2 : Int32) (x3 : Int32), B4 u x1 x2 x3 → j_X6_entriesOf p l e s m args below meth c g A ad Q u 4 [(0, .ref (ad 0)), (1, .int x1), (2, .int x2), (3, .int x3)] []) (u : RS) (x1 : Int32) (x2 : Int32) (x3 : Int32) (h : wp_X6_entriesOf_4 Q B4 u x1 x2 x3) : j_X6_entriesOf p l e s m args below meth c g A ad Q u 4 [(0, .ref (ad 0)), (1, .int x1), (2, .int x2), (3, .int x3)] [] := by
  unfold wp_X6_entriesOf_4 at h
  refine z_iload_n C dX6_entriesOf_4 rfl 3 rfl ?_
  refine z_bipush (v := 16) C dX6_entriesOf_5 (by decide) ?_
  refine z_icmp_ge C dX6_entriesOf_7 (tgt := 32) (by decide) (fun hc101 => ?_) (fun hc101 => ?_)
  · have h := h.1 hc101
    refine z_iload_n C dX6_entriesOf_32 rfl 2 rfl ?_
    exact z_iret C hr u rfl h dX6_entriesOf_33
  · have h := h.2 hc101
    refine z_aload_n C dX6_entriesOf_10 rfl 0 rfl ?_
    refine g6_queueOf C dX6_entriesOf_11 ?_
    refine z_iload_n C dX6_entriesOf_14 rfl 3 rfl ?_
    obtain ⟨hi102, h⟩ := h
    refine l6_queueOf C hi102 dX6_entriesOf_15 ?_
    refine z_iload_n C dX6_entriesOf_16 rfl 1 rfl ?_
    refine z_icmp_ne C dX6_entriesOf_17 (tgt := 26) (by decide) (fun hc103 => ?_) (fun hc103 => ?_)
    · have h := h.1 hc103
      exact b_X6_entriesOf_26 C hr ad Q B4 hB4 u x1 x2 x3 h
    · have h := h.2 hc103
      refine z_iload_n C dX6_entriesOf_20 rfl 2 rfl ?_
      refine z_iconst (v := 1) C dX6_entriesOf_21 (by decide) ?_
      refine z_iload_n C dX6_entriesOf_22 rfl 3 rfl ?_
      refine z_ishl C dX6_entriesOf_23 ?_
      refine z_ior C dX6_entriesOf_24 ?_
      refine z_topi (fun x105 ex105 => ?_)
      have h := h x105 ex105
      refine z_istore_n (lv1 := [(2, .int x105), (0, .ref (ad 0)), (1, .int x1), (3, .int x3)]) C dX6_entriesOf_25 rfl (by decide) rfl ?_
      refine z_lv (lv1 := [(0, .ref (ad 0)), (1, .int x1), (2, .int x105), (3, .int x3)]) [1, 2, 0, 3] rfl ?_
      exact b_X6_entriesOf_26 C hr ad Q B4 hB4 u x1 x105 x3 h
theorem l_X6_entriesOf_4 (C : zC p s m args meth c g A cX6_entriesOf RX6 4) (hr : meth.sig.returnType = (some .int)) (ad : Nat → Nat) (Q : Int32 → RS → Prop) : ∀ (n : Nat) (u : RS) (x1 : Int32) (x2 : Int32) (x3 : Int32), zit4 (wp_X6_entriesOf_4 Q) n u x1 x2 x3 → j_X6_entriesOf p l e s m args below meth c g A ad Q u 4 [(0, .ref (ad 0)), (1, .int x1), (2, .int x2), (3, .int x3)] [] := by
  intro n
  induction n with
  | zero => exact fun u x1 x2 x3 h => h.elim
  | succ n ih => exact fun u x1 x2 x3 h => b_X6_entriesOf_4 C hr ad Q (zit4 (wp_X6_entriesOf_4 Q) n) ih u x1 x2 x3 h
def wp_X6_entriesOf (u : RS) (x1 : Int32) (Q : Int32 → RS → Prop) : Prop :=
  (∃ n, zit4 (wp_X6_entriesOf_4 Q) n u x1 0 0)
set_option maxRecDepth 20000 in
theorem c_X6_entriesOf (l : Launch) (g : zG) (ad : Nat → Nat) (u : RS) (x1 : Int32) (Q : Int32 → RS → Prop) (h : wp_X6_entriesOf u x1 Q) : zMi l yX6_entriesOf cX6_entriesOf 4 (some .int) 0 0 0 g [.ref (ad 0), .int x1] (wX6 g ad u) (wX6 g ad) Q := by
  refine zMi_of RX6 (by decide) rfl [(0, .ref (ad 0)), (1, .int x1)] rfl (Nat.le_of_ble_eq_true rfl) (fun p e s m args below meth c A C hr hnm => ?_)
  unfold wp_X6_entriesOf at h
  refine z_iconst (v := 0) C dX6_entriesOf_0 (by decide) ?_
  refine z_istore_n (lv1 := [(2, .int 0), (0, .ref (ad 0)), (1, .int x1)]) C dX6_entriesOf_1 rfl (by decide) rfl ?_
  refine z_iconst (v := 0) C dX6_entriesOf_2 (by decide) ?_
  refine z_istore_n (lv1 := [(3, .int 0), (2, .int 0), (0, .ref (ad 0)), (1, .int x1)]) C dX6_entriesOf_3 rfl (by decide) rfl ?_
  refine z_lv (lv1 := [(0, .ref (ad 0)), (1, .int x1), (2, .int 0), (3, .int 0)]) [2, 3, 1, 0] rfl ?_
  obtain ⟨n9, h⟩ := h
  exact l_X6_entriesOf_4 C hr ad Q n9 u x1 0 0 h
abbrev j_X6_orderByHits (p : Program) (l : Launch) (e : Env) (s : State) (m : MethodId) (args : Array Value) (below : List Frame) (meth : Method) (c : Code) (g : zG) (A : Nat → Prop) (ad : Nat → Nat) (Q : RS → Prop) (u : RS) (pc : Nat) (lv : List (Nat × Value)) (st : List Value) : Prop := zJ p l e (zR 0 0 0) s m args below meth c g A 3 (zQv below args s g A 0 0 (wX6 g ad) Q) (wX6 g ad u) 0 0 pc lv st
def wp_X6_orderByHits_56 (Q : RS → Prop) (B2 : RS → Int32 → Prop) (u : RS) (x1 : Int32) (x2 : Int32) : Prop :=
  vp_in x2 16 ∧ ∀ u104 : RS, u104 = rI u 2 (upd (u.1 2) (zn x2) x1) → ∀ x105 : Int32, x105 = x1 + 1 → B2 u104 x105
set_option maxRecDepth 20000 in
theorem b_X6_orderByHits_56 (C : zC p s m args meth c g A cX6_orderByHits RX6 3) (hr : meth.sig.returnType = none) (ad : Nat → Nat) (Q : RS → Prop) (B2 : RS → Int32 → Prop) (hB2 : ∀ (u : RS) (x1 : Int32), B2 u x1 → j_X6_orderByHits p l e s m args below meth c g A ad Q u 2 [(0, .ref (ad 0)), (1, .int x1)] []) (u : RS) (x1 : Int32) (x2 : Int32) (h : wp_X6_orderByHits_56 Q B2 u x1 x2) : j_X6_orderByHits p l e s m args below meth c g A ad Q u 56 [(0, .ref (ad 0)), (1, .int x1), (2, .int x2)] [] := by
  unfold wp_X6_orderByHits_56 at h
  refine z_aload_n C dX6_orderByHits_56 rfl 0 rfl ?_
  refine g6_order C dX6_orderByHits_57 ?_
  refine z_iload_n C dX6_orderByHits_60 rfl 2 rfl ?_
  refine z_iload_n C dX6_orderByHits_61 rfl 1 rfl ?_
  obtain ⟨hi103, h⟩ := h
  refine s6_order C hi103 dX6_orderByHits_62 ?_
  refine sT6 (fun u104 eu104 => ?_)
  have h := h u104 eu104
  obtain ⟨x105, ex105⟩ : ∃ y : Int32, y = x1 + 1 := ⟨_, rfl⟩
  have h := h x105 ex105
  refine z_iinc (v := x105) (lv1 := [(1, .int x105), (0, .ref (ad 0)), (2, .int x2)]) C dX6_orderByHits_63 1 rfl (by rw [ex105]; rfl) (by decide) rfl ?_
  refine z_goto C dX6_orderByHits_66 (tgt := 2) (by decide) ?_
  refine z_lv (lv1 := [(0, .ref (ad 0)), (1, .int x105)]) [1, 0] rfl ?_
  exact hB2 u104 x105 h
def wp_X6_orderByHits_10 (Q : RS → Prop) (B2 : RS → Int32 → Prop) (B10 : RS → Int32 → Int32 → Prop) (u : RS) (x1 : Int32) (x2 : Int32) : Prop :=
  ((x2 ≤ 0 → wp_X6_orderByHits_56 Q B2 u x1 x2) ∧ (¬ x2 ≤ 0 → vp_in (x2 - 1) 16 ∧ vp_in (u.1 2 (zn (x2 - 1))) 16 ∧ vp_in x1 16 ∧ ((u.1 1 (zn x1) ≤ u.1 1 (zn (u.1 2 (zn (x2 - 1)))) → wp_X6_orderByHits_56 Q B2 u x1 x2) ∧ (¬ u.1 1 (zn x1) ≤ u.1 1 (zn (u.1 2 (zn (x2 - 1)))) → vp_in (x2 - 1) 16 ∧ vp_in x2 16 ∧ ∀ u112 : RS, u112 = rI u 2 (upd (u.1 2) (zn x2) (u.1 2 (zn (x2 - 1)))) → ∀ x113 : Int32, x113 = x2 + (-1) → B10 u112 x1 x113))))
set_option maxRecDepth 20000 in
theorem b_X6_orderByHits_10 (C : zC p s m args meth c g A cX6_orderByHits RX6 3) (hr : meth.sig.returnType = none) (ad : Nat → Nat) (Q : RS → Prop) (B2 : RS → Int32 → Prop) (hB2 : ∀ (u : RS) (x1 : Int32), B2 u x1 → j_X6_orderByHits p l e s m args below meth c g A ad Q u 2 [(0, .ref (ad 0)), (1, .int x1)] []) (B10 : RS → Int32 → Int32 → Prop) (hB10 : ∀ (u : RS) (x1 : Int32) (x2 : Int32), B10 u x1 x2 → j_X6_orderByHits p l e s m args below meth c g A ad Q u 10 [(0, .ref (ad 0)), (1, .int x1), (2, .int x2)] []) (u : RS) (x1 : Int32) (x2 : Int32) (h : wp_X6_orderByHits_10 Q B2 B10 u x1 x2) : j_X6_orderByHits p l e s m args below meth c g A ad Q u 10 [(0, .ref (ad 0)), (1, .int x1), (2, .int x2)] [] := by
  unfold wp_X6_orderByHits_10 at h
  refine z_iload_n C dX6_orderByHits_10 rfl 2 rfl ?_
  refine z_if_le C dX6_orderByHits_11 (tgt := 56) (by decide) (fun hc102 => ?_) (fun hc102 => ?_)
  · have h := h.1 hc102
    exact b_X6_orderByHits_56 C hr ad Q B2 hB2 u x1 x2 h
  · have h := h.2 hc102
    refine z_aload_n C dX6_orderByHits_14 rfl 0 rfl ?_
    refine g6_hits C dX6_orderByHits_15 ?_
    refine z_aload_n C dX6_orderByHits_18 rfl 0 rfl ?_
    refine g6_order C dX6_orderByHits_19 ?_
    refine z_iload_n C dX6_orderByHits_22 rfl 2 rfl ?_
    refine z_iconst (v := 1) C dX6_orderByHits_23 (by decide) ?_
    refine z_isub C dX6_orderByHits_24 ?_
    obtain ⟨hi106, h⟩ := h
    refine l6_order C hi106 dX6_orderByHits_25 ?_
    obtain ⟨hi107, h⟩ := h
    refine l6_hits C hi107 dX6_orderByHits_26 ?_
    refine z_aload_n C dX6_orderByHits_27 rfl 0 rfl ?_
    refine g6_hits C dX6_orderByHits_28 ?_
    refine z_iload_n C dX6_orderByHits_31 rfl 1 rfl ?_
    obtain ⟨hi108, h⟩ := h
    refine l6_hits C hi108 dX6_orderByHits_32 ?_
    refine z_icmp_ge C dX6_orderByHits_33 (tgt := 56) (by decide) (fun hc109 => ?_) (fun hc109 => ?_)
    · have h := h.1 hc109
      exact b_X6_orderByHits_56 C hr ad Q B2 hB2 u x1 x2 h
    · have h := h.2 hc109
      refine z_aload_n C dX6_orderByHits_36 rfl 0 rfl ?_
      refine g6_order C dX6_orderByHits_37 ?_
      refine z_iload_n C dX6_orderByHits_40 rfl 2 rfl ?_
      refine z_aload_n C dX6_orderByHits_41 rfl 0 rfl ?_
      refine g6_order C dX6_orderByHits_42 ?_
      refine z_iload_n C dX6_orderByHits_45 rfl 2 rfl ?_
      refine z_iconst (v := 1) C dX6_orderByHits_46 (by decide) ?_
      refine z_isub C dX6_orderByHits_47 ?_
      obtain ⟨hi110, h⟩ := h
      refine l6_order C hi110 dX6_orderByHits_48 ?_
      obtain ⟨hi111, h⟩ := h
      refine s6_order C hi111 dX6_orderByHits_49 ?_
      refine sT6 (fun u112 eu112 => ?_)
      have h := h u112 eu112
      obtain ⟨x113, ex113⟩ : ∃ y : Int32, y = x2 + (-1) := ⟨_, rfl⟩
      have h := h x113 ex113
      refine z_iinc (v := x113) (lv1 := [(2, .int x113), (0, .ref (ad 0)), (1, .int x1)]) C dX6_orderByHits_50 2 rfl (by rw [ex113]; rfl) (by decide) rfl ?_
      refine z_goto C dX6_orderByHits_53 (tgt := 10) (by decide) ?_
      refine z_lv (lv1 := [(0, .ref (ad 0)), (1, .int x1), (2, .int x113)]) [1, 2, 0] rfl ?_
      exact hB10 u112 x1 x113 h
theorem l_X6_orderByHits_10 (C : zC p s m args meth c g A cX6_orderByHits RX6 3) (hr : meth.sig.returnType = none) (ad : Nat → Nat) (Q : RS → Prop) (B2 : RS → Int32 → Prop) (hB2 : ∀ (u : RS) (x1 : Int32), B2 u x1 → j_X6_orderByHits p l e s m args below meth c g A ad Q u 2 [(0, .ref (ad 0)), (1, .int x1)] []) : ∀ (n : Nat) (u : RS) (x1 : Int32) (x2 : Int32), zit3 (wp_X6_orderByHits_10 Q B2) n u x1 x2 → j_X6_orderByHits p l e s m args below meth c g A ad Q u 10 [(0, .ref (ad 0)), (1, .int x1), (2, .int x2)] [] := by
  intro n
  induction n with
  | zero => exact fun u x1 x2 h => h.elim
  | succ n ih => exact fun u x1 x2 h => b_X6_orderByHits_10 C hr ad Q B2 hB2 (zit3 (wp_X6_orderByHits_10 Q B2) n) ih u x1 x2 h
def wp_X6_orderByHits_2 (Q : RS → Prop) (B2 : RS → Int32 → Prop) (u : RS) (x1 : Int32) : Prop :=
  ((16 ≤ x1 → Q u) ∧ (¬ 16 ≤ x1 → (∃ n, zit3 (wp_X6_orderByHits_10 Q B2) n u x1 x1)))
set_option maxRecDepth 20000 in
theorem b_X6_orderByHits_2 (C : zC p s m args meth c g A cX6_orderByHits RX6 3) (hr : meth.sig.returnType = none) (ad : Nat → Nat) (Q : RS → Prop) (B2 : RS → Int32 → Prop) (hB2 : ∀ (u : RS) (x1 : Int32), B2 u x1 → j_X6_orderByHits p l e s m args below meth c g A ad Q u 2 [(0, .ref (ad 0)), (1, .int x1)] []) (u : RS) (x1 : Int32) (h : wp_X6_orderByHits_2 Q B2 u x1) : j_X6_orderByHits p l e s m args below meth c g A ad Q u 2 [(0, .ref (ad 0)), (1, .int x1)] [] := by
  unfold wp_X6_orderByHits_2 at h
  refine z_iload_n C dX6_orderByHits_2 rfl 1 rfl ?_
  refine z_bipush (v := 16) C dX6_orderByHits_3 (by decide) ?_
  refine z_icmp_ge C dX6_orderByHits_5 (tgt := 69) (by decide) (fun hc101 => ?_) (fun hc101 => ?_)
  · have h := h.1 hc101
    exact z_vret C hr u rfl h dX6_orderByHits_69
  · have h := h.2 hc101
    refine z_iload_n C dX6_orderByHits_8 rfl 1 rfl ?_
    refine z_istore_n (lv1 := [(2, .int x1), (0, .ref (ad 0)), (1, .int x1)]) C dX6_orderByHits_9 rfl (by decide) rfl ?_
    refine z_lv (lv1 := [(0, .ref (ad 0)), (1, .int x1), (2, .int x1)]) [1, 2, 0] rfl ?_
    obtain ⟨n9, h⟩ := h
    exact l_X6_orderByHits_10 C hr ad Q B2 hB2 n9 u x1 x1 h
theorem l_X6_orderByHits_2 (C : zC p s m args meth c g A cX6_orderByHits RX6 3) (hr : meth.sig.returnType = none) (ad : Nat → Nat) (Q : RS → Prop) : ∀ (n : Nat) (u : RS) (x1 : Int32), zit2 (wp_X6_orderByHits_2 Q) n u x1 → j_X6_orderByHits p l e s m args below meth c g A ad Q u 2 [(0, .ref (ad 0)), (1, .int x1)] [] := by
  intro n
  induction n with
  | zero => exact fun u x1 h => h.elim
  | succ n ih => exact fun u x1 h => b_X6_orderByHits_2 C hr ad Q (zit2 (wp_X6_orderByHits_2 Q) n) ih u x1 h
def wp_X6_orderByHits (u : RS) (Q : RS → Prop) : Prop :=
  (∃ n, zit2 (wp_X6_orderByHits_2 Q) n u 0)
set_option maxRecDepth 20000 in
theorem c_X6_orderByHits (l : Launch) (g : zG) (ad : Nat → Nat) (u : RS) (Q : RS → Prop) (h : wp_X6_orderByHits u Q) : zMv l yX6_orderByHits cX6_orderByHits 3 none 0 0 0 g [.ref (ad 0)] (wX6 g ad u) (wX6 g ad) Q := by
  refine zMv_of RX6 (by decide) rfl [(0, .ref (ad 0))] rfl (Nat.le_of_ble_eq_true rfl) (fun p e s m args below meth c A C hr hnm => ?_)
  unfold wp_X6_orderByHits at h
  refine z_iconst (v := 0) C dX6_orderByHits_0 (by decide) ?_
  refine z_istore_n (lv1 := [(1, .int 0), (0, .ref (ad 0))]) C dX6_orderByHits_1 rfl (by decide) rfl ?_
  refine z_lv (lv1 := [(0, .ref (ad 0)), (1, .int 0)]) [1, 0] rfl ?_
  obtain ⟨n9, h⟩ := h
  exact l_X6_orderByHits_2 C hr ad Q n9 u 0 h
abbrev j_X6_clearSums (p : Program) (l : Launch) (e : Env) (s : State) (m : MethodId) (args : Array Value) (below : List Frame) (meth : Method) (c : Code) (g : zG) (A : Nat → Prop) (ad : Nat → Nat) (Q : RS → Prop) (u : RS) (pc : Nat) (lv : List (Nat × Value)) (st : List Value) : Prop := zJ p l e (zR 0 0 0) s m args below meth c g A 2 (zQv below args s g A 0 0 (wX6 g ad) Q) (wX6 g ad u) 0 0 pc lv st
def wp_X6_clearSums_2 (Q : RS → Prop) (B2 : RS → Int32 → Prop) (u : RS) (x1 : Int32) : Prop :=
  ((4 ≤ x1 → Q u) ∧ (¬ 4 ≤ x1 → vp_in x1 4 ∧ ∀ u103 : RS, u103 = rI u 3 (upd (u.1 3) (zn x1) 0) → ∀ x104 : Int32, x104 = x1 + 1 → B2 u103 x104))
set_option maxRecDepth 20000 in
theorem b_X6_clearSums_2 (C : zC p s m args meth c g A cX6_clearSums RX6 2) (hr : meth.sig.returnType = none) (ad : Nat → Nat) (Q : RS → Prop) (B2 : RS → Int32 → Prop) (hB2 : ∀ (u : RS) (x1 : Int32), B2 u x1 → j_X6_clearSums p l e s m args below meth c g A ad Q u 2 [(0, .ref (ad 0)), (1, .int x1)] []) (u : RS) (x1 : Int32) (h : wp_X6_clearSums_2 Q B2 u x1) : j_X6_clearSums p l e s m args below meth c g A ad Q u 2 [(0, .ref (ad 0)), (1, .int x1)] [] := by
  unfold wp_X6_clearSums_2 at h
  refine z_iload_n C dX6_clearSums_2 rfl 1 rfl ?_
  refine z_iconst (v := 4) C dX6_clearSums_3 (by decide) ?_
  refine z_icmp_ge C dX6_clearSums_4 (tgt := 20) (by decide) (fun hc101 => ?_) (fun hc101 => ?_)
  · have h := h.1 hc101
    exact z_vret C hr u rfl h dX6_clearSums_20
  · have h := h.2 hc101
    refine z_aload_n C dX6_clearSums_7 rfl 0 rfl ?_
    refine g6_sums C dX6_clearSums_8 ?_
    refine z_iload_n C dX6_clearSums_11 rfl 1 rfl ?_
    refine z_iconst (v := 0) C dX6_clearSums_12 (by decide) ?_
    obtain ⟨hi102, h⟩ := h
    refine s6_sums C hi102 dX6_clearSums_13 ?_
    refine sT6 (fun u103 eu103 => ?_)
    have h := h u103 eu103
    obtain ⟨x104, ex104⟩ : ∃ y : Int32, y = x1 + 1 := ⟨_, rfl⟩
    have h := h x104 ex104
    refine z_iinc (v := x104) (lv1 := [(1, .int x104), (0, .ref (ad 0))]) C dX6_clearSums_14 1 rfl (by rw [ex104]; rfl) (by decide) rfl ?_
    refine z_goto C dX6_clearSums_17 (tgt := 2) (by decide) ?_
    refine z_lv (lv1 := [(0, .ref (ad 0)), (1, .int x104)]) [1, 0] rfl ?_
    exact hB2 u103 x104 h
theorem l_X6_clearSums_2 (C : zC p s m args meth c g A cX6_clearSums RX6 2) (hr : meth.sig.returnType = none) (ad : Nat → Nat) (Q : RS → Prop) : ∀ (n : Nat) (u : RS) (x1 : Int32), zit2 (wp_X6_clearSums_2 Q) n u x1 → j_X6_clearSums p l e s m args below meth c g A ad Q u 2 [(0, .ref (ad 0)), (1, .int x1)] [] := by
  intro n
  induction n with
  | zero => exact fun u x1 h => h.elim
  | succ n ih => exact fun u x1 h => b_X6_clearSums_2 C hr ad Q (zit2 (wp_X6_clearSums_2 Q) n) ih u x1 h
def wp_X6_clearSums (u : RS) (Q : RS → Prop) : Prop :=
  (∃ n, zit2 (wp_X6_clearSums_2 Q) n u 0)
set_option maxRecDepth 20000 in
theorem c_X6_clearSums (l : Launch) (g : zG) (ad : Nat → Nat) (u : RS) (Q : RS → Prop) (h : wp_X6_clearSums u Q) : zMv l yX6_clearSums cX6_clearSums 2 none 0 0 0 g [.ref (ad 0)] (wX6 g ad u) (wX6 g ad) Q := by
  refine zMv_of RX6 (by decide) rfl [(0, .ref (ad 0))] rfl (Nat.le_of_ble_eq_true rfl) (fun p e s m args below meth c A C hr hnm => ?_)
  unfold wp_X6_clearSums at h
  refine z_iconst (v := 0) C dX6_clearSums_0 (by decide) ?_
  refine z_istore_n (lv1 := [(1, .int 0), (0, .ref (ad 0))]) C dX6_clearSums_1 rfl (by decide) rfl ?_
  refine z_lv (lv1 := [(0, .ref (ad 0)), (1, .int 0)]) [1, 0] rfl ?_
  obtain ⟨n9, h⟩ := h
  exact l_X6_clearSums_2 C hr ad Q n9 u 0 h
abbrev j_X6_leastQueue (p : Program) (l : Launch) (e : Env) (s : State) (m : MethodId) (args : Array Value) (below : List Frame) (meth : Method) (c : Code) (g : zG) (A : Nat → Prop) (ad : Nat → Nat) (Q : Int32 → RS → Prop) (u : RS) (pc : Nat) (lv : List (Nat × Value)) (st : List Value) : Prop := zJ p l e (zR 0 0 0) s m args below meth c g A 4 (zQi below args s g A 0 0 (wX6 g ad) Q) (wX6 g ad u) 0 0 pc lv st
def wp_X6_leastQueue_41 (Q : Int32 → RS → Prop) (B14 : RS → Int32 → Int32 → Int32 → Prop) (u : RS) (x1 : Int32) (x2 : Int32) (x3 : Int32) : Prop :=
  ∀ x105 : Int32, x105 = x3 + 1 → B14 u x1 x2 x105
set_option maxRecDepth 20000 in
theorem b_X6_leastQueue_41 (C : zC p s m args meth c g A cX6_leastQueue RX6 4) (hr : meth.sig.returnType = (some .int)) (ad : Nat → Nat) (Q : Int32 → RS → Prop) (B14 : RS → Int32 → Int32 → Int32 → Prop) (hB14 : ∀ (u : RS) (x1 : Int32) (x2 : Int32) (x3 : Int32), B14 u x1 x2 x3 → j_X6_leastQueue p l e s m args below meth c g A ad Q u 14 [(0, .ref (ad 0)), (1, .int x1), (2, .int x2), (3, .int x3)] []) (u : RS) (x1 : Int32) (x2 : Int32) (x3 : Int32) (h : wp_X6_leastQueue_41 Q B14 u x1 x2 x3) : j_X6_leastQueue p l e s m args below meth c g A ad Q u 41 [(0, .ref (ad 0)), (1, .int x1), (2, .int x2), (3, .int x3)] [] := by
  unfold wp_X6_leastQueue_41 at h
  obtain ⟨x105, ex105⟩ : ∃ y : Int32, y = x3 + 1 := ⟨_, rfl⟩
  have h := h x105 ex105
  refine z_iinc (v := x105) (lv1 := [(3, .int x105), (0, .ref (ad 0)), (1, .int x1), (2, .int x2)]) C dX6_leastQueue_41 3 rfl (by rw [ex105]; rfl) (by decide) rfl ?_
  refine z_goto C dX6_leastQueue_44 (tgt := 14) (by decide) ?_
  refine z_lv (lv1 := [(0, .ref (ad 0)), (1, .int x1), (2, .int x2), (3, .int x105)]) [1, 2, 3, 0] rfl ?_
  exact hB14 u x1 x2 x105 h
def wp_X6_leastQueue_14 (Q : Int32 → RS → Prop) (B14 : RS → Int32 → Int32 → Int32 → Prop) (u : RS) (x1 : Int32) (x2 : Int32) (x3 : Int32) : Prop :=
  ((4 ≤ x3 → Q x2 u) ∧ (¬ 4 ≤ x3 → ((x3 = x1 → wp_X6_leastQueue_41 Q B14 u x1 x2 x3) ∧ (¬ x3 = x1 → vp_in x3 4 ∧ vp_in x2 4 ∧ ((u.1 3 (zn x2) ≤ u.1 3 (zn x3) → wp_X6_leastQueue_41 Q B14 u x1 x2 x3) ∧ (¬ u.1 3 (zn x2) ≤ u.1 3 (zn x3) → wp_X6_leastQueue_41 Q B14 u x1 x3 x3))))))
set_option maxRecDepth 20000 in
theorem b_X6_leastQueue_14 (C : zC p s m args meth c g A cX6_leastQueue RX6 4) (hr : meth.sig.returnType = (some .int)) (ad : Nat → Nat) (Q : Int32 → RS → Prop) (B14 : RS → Int32 → Int32 → Int32 → Prop) (hB14 : ∀ (u : RS) (x1 : Int32) (x2 : Int32) (x3 : Int32), B14 u x1 x2 x3 → j_X6_leastQueue p l e s m args below meth c g A ad Q u 14 [(0, .ref (ad 0)), (1, .int x1), (2, .int x2), (3, .int x3)] []) (u : RS) (x1 : Int32) (x2 : Int32) (x3 : Int32) (h : wp_X6_leastQueue_14 Q B14 u x1 x2 x3) : j_X6_leastQueue p l e s m args below meth c g A ad Q u 14 [(0, .ref (ad 0)), (1, .int x1), (2, .int x2), (3, .int x3)] [] := by
  unfold wp_X6_leastQueue_14 at h
  refine z_iload_n C dX6_leastQueue_14 rfl 3 rfl ?_
  refine z_iconst (v := 4) C dX6_leastQueue_15 (by decide) ?_
  refine z_icmp_ge C dX6_leastQueue_16 (tgt := 47) (by decide) (fun hc103 => ?_) (fun hc103 => ?_)
  · have h := h.1 hc103
    refine z_iload_n C dX6_leastQueue_47 rfl 2 rfl ?_
    exact z_iret C hr u rfl h dX6_leastQueue_48
  · have h := h.2 hc103
    refine z_iload_n C dX6_leastQueue_19 rfl 3 rfl ?_
    refine z_iload_n C dX6_leastQueue_20 rfl 1 rfl ?_
    refine z_icmp_eq C dX6_leastQueue_21 (tgt := 41) (by decide) (fun hc104 => ?_) (fun hc104 => ?_)
    · have h := h.1 hc104
      exact b_X6_leastQueue_41 C hr ad Q B14 hB14 u x1 x2 x3 h
    · have h := h.2 hc104
      refine z_aload_n C dX6_leastQueue_24 rfl 0 rfl ?_
      refine g6_sums C dX6_leastQueue_25 ?_
      refine z_iload_n C dX6_leastQueue_28 rfl 3 rfl ?_
      obtain ⟨hi106, h⟩ := h
      refine l6_sums C hi106 dX6_leastQueue_29 ?_
      refine z_aload_n C dX6_leastQueue_30 rfl 0 rfl ?_
      refine g6_sums C dX6_leastQueue_31 ?_
      refine z_iload_n C dX6_leastQueue_34 rfl 2 rfl ?_
      obtain ⟨hi107, h⟩ := h
      refine l6_sums C hi107 dX6_leastQueue_35 ?_
      refine z_icmp_ge C dX6_leastQueue_36 (tgt := 41) (by decide) (fun hc108 => ?_) (fun hc108 => ?_)
      · have h := h.1 hc108
        exact b_X6_leastQueue_41 C hr ad Q B14 hB14 u x1 x2 x3 h
      · have h := h.2 hc108
        refine z_iload_n C dX6_leastQueue_39 rfl 3 rfl ?_
        refine z_istore_n (lv1 := [(2, .int x3), (0, .ref (ad 0)), (1, .int x1), (3, .int x3)]) C dX6_leastQueue_40 rfl (by decide) rfl ?_
        refine z_lv (lv1 := [(0, .ref (ad 0)), (1, .int x1), (2, .int x3), (3, .int x3)]) [1, 2, 0, 3] rfl ?_
        exact b_X6_leastQueue_41 C hr ad Q B14 hB14 u x1 x3 x3 h
theorem l_X6_leastQueue_14 (C : zC p s m args meth c g A cX6_leastQueue RX6 4) (hr : meth.sig.returnType = (some .int)) (ad : Nat → Nat) (Q : Int32 → RS → Prop) : ∀ (n : Nat) (u : RS) (x1 : Int32) (x2 : Int32) (x3 : Int32), zit4 (wp_X6_leastQueue_14 Q) n u x1 x2 x3 → j_X6_leastQueue p l e s m args below meth c g A ad Q u 14 [(0, .ref (ad 0)), (1, .int x1), (2, .int x2), (3, .int x3)] [] := by
  intro n
  induction n with
  | zero => exact fun u x1 x2 x3 h => h.elim
  | succ n ih => exact fun u x1 x2 x3 h => b_X6_leastQueue_14 C hr ad Q (zit4 (wp_X6_leastQueue_14 Q) n) ih u x1 x2 x3 h
def wp_X6_leastQueue_9 (Q : Int32 → RS → Prop) (u : RS) (x1 : Int32) (t0 : Int32) : Prop :=
  ∀ x102 : Int32, x102 = t0 + 1 → (∃ n, zit4 (wp_X6_leastQueue_14 Q) n u x1 t0 x102)
set_option maxRecDepth 20000 in
theorem b_X6_leastQueue_9 (C : zC p s m args meth c g A cX6_leastQueue RX6 4) (hr : meth.sig.returnType = (some .int)) (ad : Nat → Nat) (Q : Int32 → RS → Prop) (u : RS) (x1 : Int32) (t0 : Int32) (h : wp_X6_leastQueue_9 Q u x1 t0) : j_X6_leastQueue p l e s m args below meth c g A ad Q u 9 [(0, .ref (ad 0)), (1, .int x1)] [.int t0] := by
  unfold wp_X6_leastQueue_9 at h
  refine z_istore_n (lv1 := [(2, .int t0), (0, .ref (ad 0)), (1, .int x1)]) C dX6_leastQueue_9 rfl (by decide) rfl ?_
  refine z_iload_n C dX6_leastQueue_10 rfl 0 rfl ?_
  refine z_iconst (v := 1) C dX6_leastQueue_11 (by decide) ?_
  refine z_iadd C dX6_leastQueue_12 ?_
  refine z_topi (fun x102 ex102 => ?_)
  have h := h x102 ex102
  refine z_istore_n (lv1 := [(3, .int x102), (2, .int t0), (0, .ref (ad 0)), (1, .int x1)]) C dX6_leastQueue_13 rfl (by decide) rfl ?_
  refine z_lv (lv1 := [(0, .ref (ad 0)), (1, .int x1), (2, .int t0), (3, .int x102)]) [2, 3, 1, 0] rfl ?_
  obtain ⟨n9, h⟩ := h
  exact l_X6_leastQueue_14 C hr ad Q n9 u x1 t0 x102 h
def wp_X6_leastQueue (u : RS) (x1 : Int32) (Q : Int32 → RS → Prop) : Prop :=
  ((¬ x1 = 0 → wp_X6_leastQueue_9 Q u x1 0) ∧ (x1 = 0 → wp_X6_leastQueue_9 Q u x1 1))
set_option maxRecDepth 20000 in
theorem c_X6_leastQueue (l : Launch) (g : zG) (ad : Nat → Nat) (u : RS) (x1 : Int32) (Q : Int32 → RS → Prop) (h : wp_X6_leastQueue u x1 Q) : zMi l yX6_leastQueue cX6_leastQueue 4 (some .int) 0 0 0 g [.ref (ad 0), .int x1] (wX6 g ad u) (wX6 g ad) Q := by
  refine zMi_of RX6 (by decide) rfl [(0, .ref (ad 0)), (1, .int x1)] rfl (Nat.le_of_ble_eq_true rfl) (fun p e s m args below meth c A C hr hnm => ?_)
  unfold wp_X6_leastQueue at h
  refine z_iload_n C dX6_leastQueue_0 rfl 1 rfl ?_
  refine z_if_ne C dX6_leastQueue_1 (tgt := 8) (by decide) (fun hc101 => ?_) (fun hc101 => ?_)
  · have h := h.1 hc101
    refine z_iconst (v := 0) C dX6_leastQueue_8 (by decide) ?_
    exact b_X6_leastQueue_9 C hr ad Q u x1 0 h
  · have h := h.2 hc101
    refine z_iconst (v := 1) C dX6_leastQueue_4 (by decide) ?_
    refine z_goto C dX6_leastQueue_5 (tgt := 9) (by decide) ?_
    exact b_X6_leastQueue_9 C hr ad Q u x1 1 h
abbrev j_X7_areFields (p : Program) (l : Launch) (e : Env) (s : State) (m : MethodId) (args : Array Value) (below : List Frame) (meth : Method) (c : Code) (g : zG) (A : Nat → Prop) (Q : Int32 → Prop) (pc : Nat) (lv : List (Nat × Value)) (st : List Value) : Prop := zJ p l e (zR 1 0 0) s m args below meth c g A 5 (zQi below args s g A 0 0 (fun _ : Unit => []) (fun r _ => Q r)) [] 0 0 pc lv st
def wp_X7_areFields_44 (Q : Int32 → Prop) (t0 : Int32) : Prop :=
  (zBool t0 ∧ Q t0)
set_option maxRecDepth 20000 in
theorem b_X7_areFields_44 (C : zC p s m args meth c g A cX7_areFields RX7 5) (hr : meth.sig.returnType = (some .boolean)) (Q : Int32 → Prop) (t0 : Int32) (h : wp_X7_areFields_44 Q t0) : j_X7_areFields p l e s m args below meth c g A Q 44 [] [.int t0] := by
  unfold wp_X7_areFields_44 at h
  exact z_zret C hr () rfl h.1 h.2 dX7_areFields_44
def wp_X7_areFields_43 (Q : Int32 → Prop) : Prop :=
  wp_X7_areFields_44 Q 0
set_option maxRecDepth 20000 in
theorem b_X7_areFields_43 (C : zC p s m args meth c g A cX7_areFields RX7 5) (hr : meth.sig.returnType = (some .boolean)) (Q : Int32 → Prop) (h : wp_X7_areFields_43 Q) : j_X7_areFields p l e s m args below meth c g A Q 43 [] [] := by
  unfold wp_X7_areFields_43 at h
  refine z_iconst (v := 0) C dX7_areFields_43 (by decide) ?_
  exact b_X7_areFields_44 C hr Q 0 h
def wp_X7_areFields_39 (Q : Int32 → Prop) : Prop :=
  wp_X7_areFields_44 Q 1
set_option maxRecDepth 20000 in
theorem b_X7_areFields_39 (C : zC p s m args meth c g A cX7_areFields RX7 5) (hr : meth.sig.returnType = (some .boolean)) (Q : Int32 → Prop) (h : wp_X7_areFields_39 Q) : j_X7_areFields p l e s m args below meth c g A Q 39 [] [] := by
  unfold wp_X7_areFields_39 at h
  refine z_iconst (v := 1) C dX7_areFields_39 (by decide) ?_
  refine z_goto C dX7_areFields_40 (tgt := 44) (by decide) ?_
  exact b_X7_areFields_44 C hr Q 1 h
def wp_X7_areFields (x0 : Int32) (x1 : Int32) (x2 : Int32) (x3 : Int32) (x4 : Int32) (Q : Int32 → Prop) : Prop :=
  wp_X7_isByte x0 (fun r101 => ((r101 = 0 → wp_X7_areFields_43 Q) ∧ (¬ r101 = 0 → wp_X7_isByte x1 (fun r103 => ((r103 = 0 → wp_X7_areFields_43 Q) ∧ (¬ r103 = 0 → wp_X7_isByte x2 (fun r105 => ((r105 = 0 → wp_X7_areFields_43 Q) ∧ (¬ r105 = 0 → wp_X7_isByte x3 (fun r107 => ((r107 = 0 → wp_X7_areFields_43 Q) ∧ (¬ r107 = 0 → ((x4 = 0 → wp_X7_areFields_39 Q) ∧ (¬ x4 = 0 → ((¬ x4 = 1 → wp_X7_areFields_43 Q) ∧ (x4 = 1 → wp_X7_areFields_39 Q))))))))))))))))
set_option maxRecDepth 20000 in
theorem c_X7_areFields (l : Launch) (g : zG) (x0 : Int32) (x1 : Int32) (x2 : Int32) (x3 : Int32) (x4 : Int32) (Q : Int32 → Prop) (h : wp_X7_areFields x0 x1 x2 x3 x4 Q) : zMi l yX7_areFields cX7_areFields 5 (some .boolean) 1 0 0 g [.int x0, .int x1, .int x2, .int x3, .int x4] [] (fun _ : Unit => []) (fun r _ => Q r) := by
  refine zMi_of RX7 (by decide) rfl [(0, .int x0), (1, .int x1), (2, .int x2), (3, .int x3), (4, .int x4)] rfl (Nat.le_of_ble_eq_true rfl) (fun p e s m args below meth c A C hr hnm => ?_)
  unfold wp_X7_areFields at h
  refine z_iload_n C dX7_areFields_0 rfl 0 rfl ?_
  refine cSi (As := [.int x0]) C (c_X7_isByte l g x0 _ h) s_X7_isByte ml7_34 ⟨Nat.le_of_ble_eq_true rfl, Nat.le_of_ble_eq_true rfl⟩ ⟨Nat.zero_le _, Nat.zero_le _⟩ (Nat.le_of_ble_eq_true rfl) rfl dX7_areFields_1 ?_
  intro r101 h
  refine z_if_eq C dX7_areFields_4 (tgt := 43) (by decide) (fun hc102 => ?_) (fun hc102 => ?_)
  · have h := h.1 hc102
    refine z_lv (lv1 := []) [] rfl ?_
    exact b_X7_areFields_43 C hr Q h
  · have h := h.2 hc102
    refine z_iload_n C dX7_areFields_7 rfl 1 rfl ?_
    refine cSi (As := [.int x1]) C (c_X7_isByte l g x1 _ h) s_X7_isByte ml7_34 ⟨Nat.le_of_ble_eq_true rfl, Nat.le_of_ble_eq_true rfl⟩ ⟨Nat.zero_le _, Nat.zero_le _⟩ (Nat.le_of_ble_eq_true rfl) rfl dX7_areFields_8 ?_
    intro r103 h
    refine z_if_eq C dX7_areFields_11 (tgt := 43) (by decide) (fun hc104 => ?_) (fun hc104 => ?_)
    · have h := h.1 hc104
      refine z_lv (lv1 := []) [] rfl ?_
      exact b_X7_areFields_43 C hr Q h
    · have h := h.2 hc104
      refine z_iload_n C dX7_areFields_14 rfl 2 rfl ?_
      refine cSi (As := [.int x2]) C (c_X7_isByte l g x2 _ h) s_X7_isByte ml7_34 ⟨Nat.le_of_ble_eq_true rfl, Nat.le_of_ble_eq_true rfl⟩ ⟨Nat.zero_le _, Nat.zero_le _⟩ (Nat.le_of_ble_eq_true rfl) rfl dX7_areFields_15 ?_
      intro r105 h
      refine z_if_eq C dX7_areFields_18 (tgt := 43) (by decide) (fun hc106 => ?_) (fun hc106 => ?_)
      · have h := h.1 hc106
        refine z_lv (lv1 := []) [] rfl ?_
        exact b_X7_areFields_43 C hr Q h
      · have h := h.2 hc106
        refine z_iload_n C dX7_areFields_21 rfl 3 rfl ?_
        refine cSi (As := [.int x3]) C (c_X7_isByte l g x3 _ h) s_X7_isByte ml7_34 ⟨Nat.le_of_ble_eq_true rfl, Nat.le_of_ble_eq_true rfl⟩ ⟨Nat.zero_le _, Nat.zero_le _⟩ (Nat.le_of_ble_eq_true rfl) rfl dX7_areFields_22 ?_
        intro r107 h
        refine z_if_eq C dX7_areFields_25 (tgt := 43) (by decide) (fun hc108 => ?_) (fun hc108 => ?_)
        · have h := h.1 hc108
          refine z_lv (lv1 := []) [] rfl ?_
          exact b_X7_areFields_43 C hr Q h
        · have h := h.2 hc108
          refine z_iload C dX7_areFields_28 4 rfl ?_
          refine z_if_eq C dX7_areFields_30 (tgt := 39) (by decide) (fun hc109 => ?_) (fun hc109 => ?_)
          · have h := h.1 hc109
            refine z_lv (lv1 := []) [] rfl ?_
            exact b_X7_areFields_39 C hr Q h
          · have h := h.2 hc109
            refine z_iload C dX7_areFields_33 4 rfl ?_
            refine z_iconst (v := 1) C dX7_areFields_35 (by decide) ?_
            refine z_icmp_ne C dX7_areFields_36 (tgt := 43) (by decide) (fun hc110 => ?_) (fun hc110 => ?_)
            · have h := h.1 hc110
              refine z_lv (lv1 := []) [] rfl ?_
              exact b_X7_areFields_43 C hr Q h
            · have h := h.2 hc110
              refine z_lv (lv1 := []) [] rfl ?_
              exact b_X7_areFields_39 C hr Q h
abbrev j_X7_entryByRepeated (p : Program) (l : Launch) (e : Env) (s : State) (m : MethodId) (args : Array Value) (below : List Frame) (meth : Method) (c : Code) (g : zG) (A : Nat → Prop) (Q : Int32 → Prop) (pc : Nat) (lv : List (Nat × Value)) (st : List Value) : Prop := zJ p l e (zR 1 0 0) s m args below meth c g A 5 (zQi below args s g A 0 0 (fun _ : Unit => []) (fun r _ => Q r)) [] 0 0 pc lv st
def wp_X7_entryByRepeated_40 (Q : Int32 → Prop) (B12 : Int32 → Int32 → Int32 → Int32 → Prop) (x1 : Int32) (x2 : Int32) (x3 : Int32) (x4 : Int32) : Prop :=
  ∀ x105 : Int32, x105 = x4 + 1 → B12 x1 x2 x3 x105
set_option maxRecDepth 20000 in
theorem b_X7_entryByRepeated_40 (C : zC p s m args meth c g A cX7_entryByRepeated RX7 5) (hr : meth.sig.returnType = (some .int)) (Q : Int32 → Prop) (B12 : Int32 → Int32 → Int32 → Int32 → Prop) (hB12 : ∀ (x1 : Int32) (x2 : Int32) (x3 : Int32) (x4 : Int32), B12 x1 x2 x3 x4 → j_X7_entryByRepeated p l e s m args below meth c g A Q 12 [(1, .int x1), (2, .int x2), (3, .int x3), (4, .int x4)] []) (x1 : Int32) (x2 : Int32) (x3 : Int32) (x4 : Int32) (h : wp_X7_entryByRepeated_40 Q B12 x1 x2 x3 x4) : j_X7_entryByRepeated p l e s m args below meth c g A Q 40 [(1, .int x1), (2, .int x2), (3, .int x3), (4, .int x4)] [] := by
  unfold wp_X7_entryByRepeated_40 at h
  obtain ⟨x105, ex105⟩ : ∃ y : Int32, y = x4 + 1 := ⟨_, rfl⟩
  have h := h x105 ex105
  refine z_iinc (v := x105) (lv1 := [(4, .int x105), (1, .int x1), (2, .int x2), (3, .int x3)]) C dX7_entryByRepeated_40 3 rfl (by rw [ex105]; rfl) (by decide) rfl ?_
  refine z_goto C dX7_entryByRepeated_43 (tgt := 12) (by decide) ?_
  refine z_lv (lv1 := [(1, .int x1), (2, .int x2), (3, .int x3), (4, .int x105)]) [1, 2, 3, 0] rfl ?_
  exact hB12 x1 x2 x3 x105 h
def wp_X7_entryByRepeated_12 (Q : Int32 → Prop) (B12 : Int32 → Int32 → Int32 → Int32 → Prop) (x1 : Int32) (x2 : Int32) (x3 : Int32) (x4 : Int32) : Prop :=
  ((8 ≤ x4 → wp_X7_entryOfHash x3 (fun r103 => Q r103)) ∧ (¬ 8 ≤ x4 → (((x1 <<< (x4 &&& 31)) &&& 128 = 0 → wp_X7_entryByRepeated_40 Q B12 x1 x2 x3 x4) ∧ (¬ (x1 <<< (x4 &&& 31)) &&& 128 = 0 → ∀ x106 : Int32, x106 = x3 ^^^ (x2 >>> ((8 - x4) &&& 31)) → wp_X7_entryByRepeated_40 Q B12 x1 x2 x106 x4))))
set_option maxRecDepth 20000 in
theorem b_X7_entryByRepeated_12 (C : zC p s m args meth c g A cX7_entryByRepeated RX7 5) (hr : meth.sig.returnType = (some .int)) (Q : Int32 → Prop) (B12 : Int32 → Int32 → Int32 → Int32 → Prop) (hB12 : ∀ (x1 : Int32) (x2 : Int32) (x3 : Int32) (x4 : Int32), B12 x1 x2 x3 x4 → j_X7_entryByRepeated p l e s m args below meth c g A Q 12 [(1, .int x1), (2, .int x2), (3, .int x3), (4, .int x4)] []) (x1 : Int32) (x2 : Int32) (x3 : Int32) (x4 : Int32) (h : wp_X7_entryByRepeated_12 Q B12 x1 x2 x3 x4) : j_X7_entryByRepeated p l e s m args below meth c g A Q 12 [(1, .int x1), (2, .int x2), (3, .int x3), (4, .int x4)] [] := by
  unfold wp_X7_entryByRepeated_12 at h
  refine z_iload C dX7_entryByRepeated_12 3 rfl ?_
  refine z_bipush (v := 8) C dX7_entryByRepeated_14 (by decide) ?_
  refine z_icmp_ge C dX7_entryByRepeated_16 (tgt := 46) (by decide) (fun hc102 => ?_) (fun hc102 => ?_)
  · have h := h.1 hc102
    refine z_iload_n C dX7_entryByRepeated_46 rfl 2 rfl ?_
    refine cSi (As := [.int x3]) C (c_X7_entryOfHash l g x3 _ h) s_X7_entryOfHash ml7_252 ⟨Nat.le_of_ble_eq_true rfl, Nat.le_of_ble_eq_true rfl⟩ ⟨Nat.zero_le _, Nat.zero_le _⟩ (Nat.le_of_ble_eq_true rfl) rfl dX7_entryByRepeated_47 ?_
    intro r103 h
    exact z_iret C hr () rfl h dX7_entryByRepeated_50
  · have h := h.2 hc102
    refine z_iload_n C dX7_entryByRepeated_19 rfl 0 rfl ?_
    refine z_iload C dX7_entryByRepeated_20 3 rfl ?_
    refine z_ishl C dX7_entryByRepeated_22 ?_
    refine z_sipush (v := 128) C dX7_entryByRepeated_23 (by decide) ?_
    refine z_iand C dX7_entryByRepeated_26 ?_
    refine z_if_eq C dX7_entryByRepeated_27 (tgt := 40) (by decide) (fun hc104 => ?_) (fun hc104 => ?_)
    · have h := h.1 hc104
      exact b_X7_entryByRepeated_40 C hr Q B12 hB12 x1 x2 x3 x4 h
    · have h := h.2 hc104
      refine z_iload_n C dX7_entryByRepeated_30 rfl 2 rfl ?_
      refine z_iload_n C dX7_entryByRepeated_31 rfl 1 rfl ?_
      refine z_bipush (v := 8) C dX7_entryByRepeated_32 (by decide) ?_
      refine z_iload C dX7_entryByRepeated_34 3 rfl ?_
      refine z_isub C dX7_entryByRepeated_36 ?_
      refine z_ishr C dX7_entryByRepeated_37 ?_
      refine z_ixor C dX7_entryByRepeated_38 ?_
      refine z_topi (fun x106 ex106 => ?_)
      have h := h x106 ex106
      refine z_istore_n (lv1 := [(3, .int x106), (1, .int x1), (2, .int x2), (4, .int x4)]) C dX7_entryByRepeated_39 rfl (by decide) rfl ?_
      refine z_lv (lv1 := [(1, .int x1), (2, .int x2), (3, .int x106), (4, .int x4)]) [1, 2, 0, 3] rfl ?_
      exact b_X7_entryByRepeated_40 C hr Q B12 hB12 x1 x2 x106 x4 h
theorem l_X7_entryByRepeated_12 (C : zC p s m args meth c g A cX7_entryByRepeated RX7 5) (hr : meth.sig.returnType = (some .int)) (Q : Int32 → Prop) : ∀ (n : Nat) (x1 : Int32) (x2 : Int32) (x3 : Int32) (x4 : Int32), zit4 (wp_X7_entryByRepeated_12 Q) n x1 x2 x3 x4 → j_X7_entryByRepeated p l e s m args below meth c g A Q 12 [(1, .int x1), (2, .int x2), (3, .int x3), (4, .int x4)] [] := by
  intro n
  induction n with
  | zero => exact fun x1 x2 x3 x4 h => h.elim
  | succ n ih => exact fun x1 x2 x3 x4 h => b_X7_entryByRepeated_12 C hr Q (zit4 (wp_X7_entryByRepeated_12 Q) n) ih x1 x2 x3 x4 h
def wp_X7_entryByRepeated (x0 : Int32) (x1 : Int32) (Q : Int32 → Prop) : Prop :=
  ∀ x101 : Int32, x101 = (x0 <<< (8 &&& 31)) ||| x0 → (∃ n, zit4 (wp_X7_entryByRepeated_12 Q) n x1 x101 0 0)
set_option maxRecDepth 20000 in
theorem c_X7_entryByRepeated (l : Launch) (g : zG) (x0 : Int32) (x1 : Int32) (Q : Int32 → Prop) (h : wp_X7_entryByRepeated x0 x1 Q) : zMi l yX7_entryByRepeated cX7_entryByRepeated 5 (some .int) 1 0 0 g [.int x0, .int x1] [] (fun _ : Unit => []) (fun r _ => Q r) := by
  refine zMi_of RX7 (by decide) rfl [(0, .int x0), (1, .int x1)] rfl (Nat.le_of_ble_eq_true rfl) (fun p e s m args below meth c A C hr hnm => ?_)
  unfold wp_X7_entryByRepeated at h
  refine z_iload_n C dX7_entryByRepeated_0 rfl 0 rfl ?_
  refine z_bipush (v := 8) C dX7_entryByRepeated_1 (by decide) ?_
  refine z_ishl C dX7_entryByRepeated_3 ?_
  refine z_iload_n C dX7_entryByRepeated_4 rfl 0 rfl ?_
  refine z_ior C dX7_entryByRepeated_5 ?_
  refine z_topi (fun x101 ex101 => ?_)
  have h := h x101 ex101
  refine z_istore_n (lv1 := [(2, .int x101), (0, .int x0), (1, .int x1)]) C dX7_entryByRepeated_6 rfl (by decide) rfl ?_
  refine z_iconst (v := 0) C dX7_entryByRepeated_7 (by decide) ?_
  refine z_istore_n (lv1 := [(3, .int 0), (2, .int x101), (0, .int x0), (1, .int x1)]) C dX7_entryByRepeated_8 rfl (by decide) rfl ?_
  refine z_iconst (v := 0) C dX7_entryByRepeated_9 (by decide) ?_
  refine z_istore (lv1 := [(4, .int 0), (3, .int 0), (2, .int x101), (0, .int x0), (1, .int x1)]) C dX7_entryByRepeated_10 (by decide) rfl ?_
  refine z_lv (lv1 := [(1, .int x1), (2, .int x101), (3, .int 0), (4, .int 0)]) [4, 2, 1, 0] rfl ?_
  obtain ⟨n9, h⟩ := h
  exact l_X7_entryByRepeated_12 C hr Q n9 x1 x101 0 0 h
abbrev j_X0_copyFrom (p : Program) (l : Launch) (e : Env) (s : State) (m : MethodId) (args : Array Value) (below : List Frame) (meth : Method) (c : Code) (g : zG) (A : Nat → Prop) (ad bd : Nat → Nat) (v : RS) (Q : RS → Prop) (u : RS) (pc : Nat) (lv : List (Nat × Value)) (st : List Value) : Prop := zJ p l e (zR 1 0 0) s m args below meth c g A 2 (zQv below args s g A 0 0 (fun u => wX0 g ad u ++ wX0 g bd v) Q) (wX0 g ad u ++ wX0 g bd v) 0 0 pc lv st
def wp_X0_copyFrom (u : RS) (v : RS) (Q : RS → Prop) : Prop :=
  ∀ u101 : RS, u101 = rN u 0 (v.1 0 0) → zcp 0 0 480 480 480 ∧ ∀ u103 : RS, u103 = rI u101 1 (va_cpy (v.1 1) (u101.1 1) (zn 0) (zn 0) (zn 480)) → Q u103
set_option maxRecDepth 20000 in
theorem c_X0_copyFrom (l : Launch) (g : zG) (ad bd : Nat → Nat) (v : RS) (u : RS) (Q : RS → Prop) (h : wp_X0_copyFrom u v Q) : zMv l yX0_copyFrom cX0_copyFrom 2 none 1 0 0 g [.ref (ad 0), .ref (bd 0)] (wX0 g ad u ++ wX0 g bd v) (fun u => wX0 g ad u ++ wX0 g bd v) Q := by
  refine zMv_of RX0 (by decide) rfl [(0, .ref (ad 0)), (1, .ref (bd 0))] rfl (Nat.le_of_ble_eq_true rfl) (fun p e s m args below meth c A C hr hnm => ?_)
  unfold wp_X0_copyFrom at h
  refine z_aload_n C dX0_copyFrom_0 rfl 0 rfl ?_
  refine z_aload_n C dX0_copyFrom_1 rfl 1 rfl ?_
  refine z_get (T := TX0) (N := 2) C inX0 (ci := 0) rfl 0 (by decide) fl0_15 2 rfl rfl dX0_copyFrom_2 ?_
  refine z_puti (T := TX0) (N := 2) C inX0 tyX0 tyX0_ok nmX0 (ci := 0) rfl 0 (by decide) fl0_15 rfl (by decide +kernel) 0 (fs := fX0 ad u) rfl (Nat.le_of_ble_eq_true rfl) dX0_copyFrom_5 (ws1 := wX0 g ad (rN u 0 (v.1 0 0)) ++ wX0 g bd v) rfl ?_
  refine sTw0 (fun u101 eu101 => ?_)
  have h := h u101 eu101
  refine z_aload_n C dX0_copyFrom_8 rfl 1 rfl ?_
  refine z_get (T := TX0) (N := 2) C inX0 (ci := 0) rfl 1 (by decide) fl0_11 2 rfl rfl dX0_copyFrom_9 ?_
  refine z_iconst (v := 0) C dX0_copyFrom_12 (by decide) ?_
  refine z_aload_n C dX0_copyFrom_13 rfl 0 rfl ?_
  refine z_get (T := TX0) (N := 2) C inX0 (ci := 0) rfl 1 (by decide) fl0_11 0 rfl rfl dX0_copyFrom_14 ?_
  refine z_iconst (v := 0) C dX0_copyFrom_17 (by decide) ?_
  refine z_aload_n C dX0_copyFrom_18 rfl 0 rfl ?_
  refine z_get (T := TX0) (N := 2) C inX0 (ci := 0) rfl 1 (by decide) fl0_11 0 rfl rfl dX0_copyFrom_19 ?_
  refine z_alen C 1 rfl (v := 480) (by decide) dX0_copyFrom_22 ?_
  obtain ⟨hz102, h⟩ := h
  refine z_copyi C mj0_19 3 1 rfl rfl hz102 (Nat.le_of_ble_eq_true rfl) (Nat.le_of_ble_eq_true rfl) dX0_copyFrom_23 (ws1 := wX0 g ad (rI u101 1 (va_cpy (v.1 1) (u101.1 1) (zn 0) (zn 0) (zn 480))) ++ wX0 g bd v) rfl ?_
  refine sTw0 (fun u103 eu103 => ?_)
  have h := h u103 eu103
  exact z_vret C hr u103 rfl h dX0_copyFrom_26
abbrev j_X0_sum (p : Program) (l : Launch) (e : Env) (s : State) (m : MethodId) (args : Array Value) (below : List Frame) (meth : Method) (c : Code) (g : zG) (A : Nat → Prop) (ad : Nat → Nat) (Q : Int32 → RS → Prop) (u : RS) (pc : Nat) (lv : List (Nat × Value)) (st : List Value) : Prop := zJ p l e (zR 1 0 0) s m args below meth c g A 4 (zQi below args s g A 0 0 (wX0 g ad) Q) (wX0 g ad u) 0 0 pc lv st
def wp_X0_sum_4 (Q : Int32 → RS → Prop) (B4 : RS → Int32 → Int32 → Int32 → Prop) (u : RS) (x1 : Int32) (x2 : Int32) (x3 : Int32) : Prop :=
  ((u.1 0 0 ≤ x3 → Q x2 u) ∧ (¬ u.1 0 0 ≤ x3 → wp_X0_get u x1 x3 (fun r102 u103 => ∀ x104 : Int32, x104 = x2 + r102 → ∀ x105 : Int32, x105 = x3 + 1 → B4 u103 x1 x104 x105)))
set_option maxRecDepth 20000 in
theorem b_X0_sum_4 (C : zC p s m args meth c g A cX0_sum RX0 4) (hr : meth.sig.returnType = (some .int)) (ad : Nat → Nat) (Q : Int32 → RS → Prop) (B4 : RS → Int32 → Int32 → Int32 → Prop) (hB4 : ∀ (u : RS) (x1 : Int32) (x2 : Int32) (x3 : Int32), B4 u x1 x2 x3 → j_X0_sum p l e s m args below meth c g A ad Q u 4 [(0, .ref (ad 0)), (1, .int x1), (2, .int x2), (3, .int x3)] []) (u : RS) (x1 : Int32) (x2 : Int32) (x3 : Int32) (h : wp_X0_sum_4 Q B4 u x1 x2 x3) : j_X0_sum p l e s m args below meth c g A ad Q u 4 [(0, .ref (ad 0)), (1, .int x1), (2, .int x2), (3, .int x3)] [] := by
  unfold wp_X0_sum_4 at h
  refine z_iload_n C dX0_sum_4 rfl 3 rfl ?_
  refine z_aload_n C dX0_sum_5 rfl 0 rfl ?_
  refine g0_number C dX0_sum_6 ?_
  refine z_icmp_ge C dX0_sum_9 (tgt := 27) (by decide) (fun hc101 => ?_) (fun hc101 => ?_)
  · have h := h.1 hc101
    refine z_iload_n C dX0_sum_27 rfl 2 rfl ?_
    exact z_iret C hr u rfl h dX0_sum_28
  · have h := h.2 hc101
    refine z_iload_n C dX0_sum_12 rfl 2 rfl ?_
    refine z_aload_n C dX0_sum_13 rfl 0 rfl ?_
    refine z_iload_n C dX0_sum_14 rfl 1 rfl ?_
    refine z_iload_n C dX0_sum_15 rfl 3 rfl ?_
    refine c0i (As := [.int x1, .int x3]) C (c_X0_get l g ad u x1 x3 _ h) v_X0_get ml0_25 rfl ⟨Nat.le_of_ble_eq_true rfl, Nat.le_of_ble_eq_true rfl⟩ ⟨Nat.zero_le _, Nat.zero_le _⟩ (Nat.le_of_ble_eq_true rfl) rfl dX0_sum_16 ?_
    intro r102 u103 h
    refine z_iadd C dX0_sum_19 ?_
    refine z_topi (fun x104 ex104 => ?_)
    have h := h x104 ex104
    refine z_istore_n (lv1 := [(2, .int x104), (0, .ref (ad 0)), (1, .int x1), (3, .int x3)]) C dX0_sum_20 rfl (by decide) rfl ?_
    obtain ⟨x105, ex105⟩ : ∃ y : Int32, y = x3 + 1 := ⟨_, rfl⟩
    have h := h x105 ex105
    refine z_iinc (v := x105) (lv1 := [(3, .int x105), (2, .int x104), (0, .ref (ad 0)), (1, .int x1)]) C dX0_sum_21 3 rfl (by rw [ex105]; rfl) (by decide) rfl ?_
    refine z_goto C dX0_sum_24 (tgt := 4) (by decide) ?_
    refine z_lv (lv1 := [(0, .ref (ad 0)), (1, .int x1), (2, .int x104), (3, .int x105)]) [2, 3, 1, 0] rfl ?_
    exact hB4 u103 x1 x104 x105 h
theorem l_X0_sum_4 (C : zC p s m args meth c g A cX0_sum RX0 4) (hr : meth.sig.returnType = (some .int)) (ad : Nat → Nat) (Q : Int32 → RS → Prop) : ∀ (n : Nat) (u : RS) (x1 : Int32) (x2 : Int32) (x3 : Int32), zit4 (wp_X0_sum_4 Q) n u x1 x2 x3 → j_X0_sum p l e s m args below meth c g A ad Q u 4 [(0, .ref (ad 0)), (1, .int x1), (2, .int x2), (3, .int x3)] [] := by
  intro n
  induction n with
  | zero => exact fun u x1 x2 x3 h => h.elim
  | succ n ih => exact fun u x1 x2 x3 h => b_X0_sum_4 C hr ad Q (zit4 (wp_X0_sum_4 Q) n) ih u x1 x2 x3 h
def wp_X0_sum (u : RS) (x1 : Int32) (Q : Int32 → RS → Prop) : Prop :=
  (∃ n, zit4 (wp_X0_sum_4 Q) n u x1 0 0)
set_option maxRecDepth 20000 in
theorem c_X0_sum (l : Launch) (g : zG) (ad : Nat → Nat) (u : RS) (x1 : Int32) (Q : Int32 → RS → Prop) (h : wp_X0_sum u x1 Q) : zMi l yX0_sum cX0_sum 4 (some .int) 1 0 0 g [.ref (ad 0), .int x1] (wX0 g ad u) (wX0 g ad) Q := by
  refine zMi_of RX0 (by decide) rfl [(0, .ref (ad 0)), (1, .int x1)] rfl (Nat.le_of_ble_eq_true rfl) (fun p e s m args below meth c A C hr hnm => ?_)
  unfold wp_X0_sum at h
  refine z_iconst (v := 0) C dX0_sum_0 (by decide) ?_
  refine z_istore_n (lv1 := [(2, .int 0), (0, .ref (ad 0)), (1, .int x1)]) C dX0_sum_1 rfl (by decide) rfl ?_
  refine z_iconst (v := 0) C dX0_sum_2 (by decide) ?_
  refine z_istore_n (lv1 := [(3, .int 0), (2, .int 0), (0, .ref (ad 0)), (1, .int x1)]) C dX0_sum_3 rfl (by decide) rfl ?_
  refine z_lv (lv1 := [(0, .ref (ad 0)), (1, .int x1), (2, .int 0), (3, .int 0)]) [2, 3, 1, 0] rfl ?_
  obtain ⟨n9, h⟩ := h
  exact l_X0_sum_4 C hr ad Q n9 u x1 0 0 h
abbrev j_X0_numberOf (p : Program) (l : Launch) (e : Env) (s : State) (m : MethodId) (args : Array Value) (below : List Frame) (meth : Method) (c : Code) (g : zG) (A : Nat → Prop) (ad : Nat → Nat) (Q : Int32 → RS → Prop) (u : RS) (pc : Nat) (lv : List (Nat × Value)) (st : List Value) : Prop := zJ p l e (zR 1 0 0) s m args below meth c g A 7 (zQi below args s g A 0 0 (wX0 g ad) Q) (wX0 g ad u) 0 0 pc lv st
def wp_X0_numberOf_72 (Q : Int32 → RS → Prop) (B3 : RS → Int32 → Int32 → Int32 → Int32 → Int32 → Int32 → Prop) (u : RS) (x1 : Int32) (x2 : Int32) (x3 : Int32) (x4 : Int32) (x5 : Int32) (x6 : Int32) : Prop :=
  ∀ x105 : Int32, x105 = x6 + 1 → B3 u x1 x2 x3 x4 x5 x105
set_option maxRecDepth 20000 in
theorem b_X0_numberOf_72 (C : zC p s m args meth c g A cX0_numberOf RX0 7) (hr : meth.sig.returnType = (some .int)) (ad : Nat → Nat) (Q : Int32 → RS → Prop) (B3 : RS → Int32 → Int32 → Int32 → Int32 → Int32 → Int32 → Prop) (hB3 : ∀ (u : RS) (x1 : Int32) (x2 : Int32) (x3 : Int32) (x4 : Int32) (x5 : Int32) (x6 : Int32), B3 u x1 x2 x3 x4 x5 x6 → j_X0_numberOf p l e s m args below meth c g A ad Q u 3 [(0, .ref (ad 0)), (1, .int x1), (2, .int x2), (3, .int x3), (4, .int x4), (5, .int x5), (6, .int x6)] []) (u : RS) (x1 : Int32) (x2 : Int32) (x3 : Int32) (x4 : Int32) (x5 : Int32) (x6 : Int32) (h : wp_X0_numberOf_72 Q B3 u x1 x2 x3 x4 x5 x6) : j_X0_numberOf p l e s m args below meth c g A ad Q u 72 [(0, .ref (ad 0)), (1, .int x1), (2, .int x2), (3, .int x3), (4, .int x4), (5, .int x5), (6, .int x6)] [] := by
  unfold wp_X0_numberOf_72 at h
  obtain ⟨x105, ex105⟩ : ∃ y : Int32, y = x6 + 1 := ⟨_, rfl⟩
  have h := h x105 ex105
  refine z_iinc (v := x105) (lv1 := [(6, .int x105), (0, .ref (ad 0)), (1, .int x1), (2, .int x2), (3, .int x3), (4, .int x4), (5, .int x5)]) C dX0_numberOf_72 6 rfl (by rw [ex105]; rfl) (by decide) rfl ?_
  refine z_goto C dX0_numberOf_75 (tgt := 3) (by decide) ?_
  refine z_lv (lv1 := [(0, .ref (ad 0)), (1, .int x1), (2, .int x2), (3, .int x3), (4, .int x4), (5, .int x5), (6, .int x105)]) [1, 2, 3, 4, 5, 6, 0] rfl ?_
  exact hB3 u x1 x2 x3 x4 x5 x105 h
def wp_X0_numberOf_3 (Q : Int32 → RS → Prop) (B3 : RS → Int32 → Int32 → Int32 → Int32 → Int32 → Int32 → Prop) (u : RS) (x1 : Int32) (x2 : Int32) (x3 : Int32) (x4 : Int32) (x5 : Int32) (x6 : Int32) : Prop :=
  ((u.1 0 0 ≤ x6 → Q (-1) u) ∧ (¬ u.1 0 0 ≤ x6 → wp_X0_get u 0 x6 (fun r102 u103 => ((¬ r102 = x1 → wp_X0_numberOf_72 Q B3 u103 x1 x2 x3 x4 x5 x6) ∧ (r102 = x1 → wp_X0_get u103 1 x6 (fun r106 u107 => ((¬ r106 = x2 → wp_X0_numberOf_72 Q B3 u107 x1 x2 x3 x4 x5 x6) ∧ (r106 = x2 → wp_X0_get u107 2 x6 (fun r109 u110 => ((¬ r109 = x3 → wp_X0_numberOf_72 Q B3 u110 x1 x2 x3 x4 x5 x6) ∧ (r109 = x3 → wp_X0_get u110 3 x6 (fun r112 u113 => ((¬ r112 = x4 → wp_X0_numberOf_72 Q B3 u113 x1 x2 x3 x4 x5 x6) ∧ (r112 = x4 → wp_X0_get u113 4 x6 (fun r115 u116 => ((¬ r115 = x5 → wp_X0_numberOf_72 Q B3 u116 x1 x2 x3 x4 x5 x6) ∧ (r115 = x5 → Q x6 u116)))))))))))))))))
set_option maxRecDepth 20000 in
theorem b_X0_numberOf_3 (C : zC p s m args meth c g A cX0_numberOf RX0 7) (hr : meth.sig.returnType = (some .int)) (ad : Nat → Nat) (Q : Int32 → RS → Prop) (B3 : RS → Int32 → Int32 → Int32 → Int32 → Int32 → Int32 → Prop) (hB3 : ∀ (u : RS) (x1 : Int32) (x2 : Int32) (x3 : Int32) (x4 : Int32) (x5 : Int32) (x6 : Int32), B3 u x1 x2 x3 x4 x5 x6 → j_X0_numberOf p l e s m args below meth c g A ad Q u 3 [(0, .ref (ad 0)), (1, .int x1), (2, .int x2), (3, .int x3), (4, .int x4), (5, .int x5), (6, .int x6)] []) (u : RS) (x1 : Int32) (x2 : Int32) (x3 : Int32) (x4 : Int32) (x5 : Int32) (x6 : Int32) (h : wp_X0_numberOf_3 Q B3 u x1 x2 x3 x4 x5 x6) : j_X0_numberOf p l e s m args below meth c g A ad Q u 3 [(0, .ref (ad 0)), (1, .int x1), (2, .int x2), (3, .int x3), (4, .int x4), (5, .int x5), (6, .int x6)] [] := by
  unfold wp_X0_numberOf_3 at h
  refine z_iload C dX0_numberOf_3 6 rfl ?_
  refine z_aload_n C dX0_numberOf_5 rfl 0 rfl ?_
  refine g0_number C dX0_numberOf_6 ?_
  refine z_icmp_ge C dX0_numberOf_9 (tgt := 78) (by decide) (fun hc101 => ?_) (fun hc101 => ?_)
  · have h := h.1 hc101
    refine z_iconst (v := (-1)) C dX0_numberOf_78 (by decide) ?_
    exact z_iret C hr u rfl h dX0_numberOf_79
  · have h := h.2 hc101
    refine z_aload_n C dX0_numberOf_12 rfl 0 rfl ?_
    refine z_iconst (v := 0) C dX0_numberOf_13 (by decide) ?_
    refine z_iload C dX0_numberOf_14 6 rfl ?_
    refine c0i (As := [.int 0, .int x6]) C (c_X0_get l g ad u 0 x6 _ h) v_X0_get ml0_25 rfl ⟨Nat.le_of_ble_eq_true rfl, Nat.le_of_ble_eq_true rfl⟩ ⟨Nat.zero_le _, Nat.zero_le _⟩ (Nat.le_of_ble_eq_true rfl) rfl dX0_numberOf_16 ?_
    intro r102 u103 h
    refine z_iload_n C dX0_numberOf_19 rfl 1 rfl ?_
    refine z_icmp_ne C dX0_numberOf_20 (tgt := 72) (by decide) (fun hc104 => ?_) (fun hc104 => ?_)
    · have h := h.1 hc104
      exact b_X0_numberOf_72 C hr ad Q B3 hB3 u103 x1 x2 x3 x4 x5 x6 h
    · have h := h.2 hc104
      refine z_aload_n C dX0_numberOf_23 rfl 0 rfl ?_
      refine z_iconst (v := 1) C dX0_numberOf_24 (by decide) ?_
      refine z_iload C dX0_numberOf_25 6 rfl ?_
      refine c0i (As := [.int 1, .int x6]) C (c_X0_get l g ad u103 1 x6 _ h) v_X0_get ml0_25 rfl ⟨Nat.le_of_ble_eq_true rfl, Nat.le_of_ble_eq_true rfl⟩ ⟨Nat.zero_le _, Nat.zero_le _⟩ (Nat.le_of_ble_eq_true rfl) rfl dX0_numberOf_27 ?_
      intro r106 u107 h
      refine z_iload_n C dX0_numberOf_30 rfl 2 rfl ?_
      refine z_icmp_ne C dX0_numberOf_31 (tgt := 72) (by decide) (fun hc108 => ?_) (fun hc108 => ?_)
      · have h := h.1 hc108
        exact b_X0_numberOf_72 C hr ad Q B3 hB3 u107 x1 x2 x3 x4 x5 x6 h
      · have h := h.2 hc108
        refine z_aload_n C dX0_numberOf_34 rfl 0 rfl ?_
        refine z_iconst (v := 2) C dX0_numberOf_35 (by decide) ?_
        refine z_iload C dX0_numberOf_36 6 rfl ?_
        refine c0i (As := [.int 2, .int x6]) C (c_X0_get l g ad u107 2 x6 _ h) v_X0_get ml0_25 rfl ⟨Nat.le_of_ble_eq_true rfl, Nat.le_of_ble_eq_true rfl⟩ ⟨Nat.zero_le _, Nat.zero_le _⟩ (Nat.le_of_ble_eq_true rfl) rfl dX0_numberOf_38 ?_
        intro r109 u110 h
        refine z_iload_n C dX0_numberOf_41 rfl 3 rfl ?_
        refine z_icmp_ne C dX0_numberOf_42 (tgt := 72) (by decide) (fun hc111 => ?_) (fun hc111 => ?_)
        · have h := h.1 hc111
          exact b_X0_numberOf_72 C hr ad Q B3 hB3 u110 x1 x2 x3 x4 x5 x6 h
        · have h := h.2 hc111
          refine z_aload_n C dX0_numberOf_45 rfl 0 rfl ?_
          refine z_iconst (v := 3) C dX0_numberOf_46 (by decide) ?_
          refine z_iload C dX0_numberOf_47 6 rfl ?_
          refine c0i (As := [.int 3, .int x6]) C (c_X0_get l g ad u110 3 x6 _ h) v_X0_get ml0_25 rfl ⟨Nat.le_of_ble_eq_true rfl, Nat.le_of_ble_eq_true rfl⟩ ⟨Nat.zero_le _, Nat.zero_le _⟩ (Nat.le_of_ble_eq_true rfl) rfl dX0_numberOf_49 ?_
          intro r112 u113 h
          refine z_iload C dX0_numberOf_52 4 rfl ?_
          refine z_icmp_ne C dX0_numberOf_54 (tgt := 72) (by decide) (fun hc114 => ?_) (fun hc114 => ?_)
          · have h := h.1 hc114
            exact b_X0_numberOf_72 C hr ad Q B3 hB3 u113 x1 x2 x3 x4 x5 x6 h
          · have h := h.2 hc114
            refine z_aload_n C dX0_numberOf_57 rfl 0 rfl ?_
            refine z_iconst (v := 4) C dX0_numberOf_58 (by decide) ?_
            refine z_iload C dX0_numberOf_59 6 rfl ?_
            refine c0i (As := [.int 4, .int x6]) C (c_X0_get l g ad u113 4 x6 _ h) v_X0_get ml0_25 rfl ⟨Nat.le_of_ble_eq_true rfl, Nat.le_of_ble_eq_true rfl⟩ ⟨Nat.zero_le _, Nat.zero_le _⟩ (Nat.le_of_ble_eq_true rfl) rfl dX0_numberOf_61 ?_
            intro r115 u116 h
            refine z_iload C dX0_numberOf_64 5 rfl ?_
            refine z_icmp_ne C dX0_numberOf_66 (tgt := 72) (by decide) (fun hc117 => ?_) (fun hc117 => ?_)
            · have h := h.1 hc117
              exact b_X0_numberOf_72 C hr ad Q B3 hB3 u116 x1 x2 x3 x4 x5 x6 h
            · have h := h.2 hc117
              refine z_iload C dX0_numberOf_69 6 rfl ?_
              exact z_iret C hr u116 rfl h dX0_numberOf_71
theorem l_X0_numberOf_3 (C : zC p s m args meth c g A cX0_numberOf RX0 7) (hr : meth.sig.returnType = (some .int)) (ad : Nat → Nat) (Q : Int32 → RS → Prop) : ∀ (n : Nat) (u : RS) (x1 : Int32) (x2 : Int32) (x3 : Int32) (x4 : Int32) (x5 : Int32) (x6 : Int32), zit7 (wp_X0_numberOf_3 Q) n u x1 x2 x3 x4 x5 x6 → j_X0_numberOf p l e s m args below meth c g A ad Q u 3 [(0, .ref (ad 0)), (1, .int x1), (2, .int x2), (3, .int x3), (4, .int x4), (5, .int x5), (6, .int x6)] [] := by
  intro n
  induction n with
  | zero => exact fun u x1 x2 x3 x4 x5 x6 h => h.elim
  | succ n ih => exact fun u x1 x2 x3 x4 x5 x6 h => b_X0_numberOf_3 C hr ad Q (zit7 (wp_X0_numberOf_3 Q) n) ih u x1 x2 x3 x4 x5 x6 h
def wp_X0_numberOf (u : RS) (x1 : Int32) (x2 : Int32) (x3 : Int32) (x4 : Int32) (x5 : Int32) (Q : Int32 → RS → Prop) : Prop :=
  (∃ n, zit7 (wp_X0_numberOf_3 Q) n u x1 x2 x3 x4 x5 0)
set_option maxRecDepth 20000 in
theorem c_X0_numberOf (l : Launch) (g : zG) (ad : Nat → Nat) (u : RS) (x1 : Int32) (x2 : Int32) (x3 : Int32) (x4 : Int32) (x5 : Int32) (Q : Int32 → RS → Prop) (h : wp_X0_numberOf u x1 x2 x3 x4 x5 Q) : zMi l yX0_numberOf cX0_numberOf 7 (some .int) 1 0 0 g [.ref (ad 0), .int x1, .int x2, .int x3, .int x4, .int x5] (wX0 g ad u) (wX0 g ad) Q := by
  refine zMi_of RX0 (by decide) rfl [(0, .ref (ad 0)), (1, .int x1), (2, .int x2), (3, .int x3), (4, .int x4), (5, .int x5)] rfl (Nat.le_of_ble_eq_true rfl) (fun p e s m args below meth c A C hr hnm => ?_)
  unfold wp_X0_numberOf at h
  refine z_iconst (v := 0) C dX0_numberOf_0 (by decide) ?_
  refine z_istore (lv1 := [(6, .int 0), (0, .ref (ad 0)), (1, .int x1), (2, .int x2), (3, .int x3), (4, .int x4), (5, .int x5)]) C dX0_numberOf_1 (by decide) rfl ?_
  refine z_lv (lv1 := [(0, .ref (ad 0)), (1, .int x1), (2, .int x2), (3, .int x3), (4, .int x4), (5, .int x5), (6, .int 0)]) [1, 2, 3, 4, 5, 6, 0] rfl ?_
  obtain ⟨n9, h⟩ := h
  exact l_X0_numberOf_3 C hr ad Q n9 u x1 x2 x3 x4 x5 0 h
abbrev j_X0_enter (p : Program) (l : Launch) (e : Env) (s : State) (m : MethodId) (args : Array Value) (below : List Frame) (meth : Method) (c : Code) (g : zG) (A : Nat → Prop) (ad : Nat → Nat) (Q : Int32 → RS → Prop) (u : RS) (pc : Nat) (lv : List (Nat × Value)) (st : List Value) : Prop := zJ p l e (zR 1 0 0) s m args below meth c g A 7 (zQi below args s g A 0 0 (wX0 g ad) Q) (wX0 g ad u) 0 0 pc lv st
def wp_X0_enter (u : RS) (x1 : Int32) (x2 : Int32) (x3 : Int32) (x4 : Int32) (x5 : Int32) (Q : Int32 → RS → Prop) : Prop :=
  ∀ x101 : Int32, x101 = u.1 0 0 → wp_X0_put u 0 x101 x1 (fun u102 => wp_X0_put u102 1 x101 x2 (fun u103 => wp_X0_put u103 2 x101 x3 (fun u104 => wp_X0_put u104 3 x101 x4 (fun u105 => wp_X0_put u105 4 x101 x5 (fun u106 => wp_X0_put u106 7 x101 (-1) (fun u107 => wp_X0_put u107 13 x101 (-1) (fun u108 => wp_X0_put u108 14 x101 (-1) (fun u109 => wp_X0_put u109 17 x101 (-1) (fun u110 => ∀ u111 : RS, u111 = rN u110 0 ((u110.1 0 0) + 1) → Q x101 u111)))))))))
set_option maxRecDepth 20000 in
theorem c_X0_enter (l : Launch) (g : zG) (ad : Nat → Nat) (u : RS) (x1 : Int32) (x2 : Int32) (x3 : Int32) (x4 : Int32) (x5 : Int32) (Q : Int32 → RS → Prop) (h : wp_X0_enter u x1 x2 x3 x4 x5 Q) : zMi l yX0_enter cX0_enter 7 (some .int) 1 0 0 g [.ref (ad 0), .int x1, .int x2, .int x3, .int x4, .int x5] (wX0 g ad u) (wX0 g ad) Q := by
  refine zMi_of RX0 (by decide) rfl [(0, .ref (ad 0)), (1, .int x1), (2, .int x2), (3, .int x3), (4, .int x4), (5, .int x5)] rfl (Nat.le_of_ble_eq_true rfl) (fun p e s m args below meth c A C hr hnm => ?_)
  unfold wp_X0_enter at h
  refine z_aload_n C dX0_enter_0 rfl 0 rfl ?_
  refine g0_number C dX0_enter_1 ?_
  refine z_topi (fun x101 ex101 => ?_)
  have h := h x101 ex101
  refine z_istore (lv1 := [(6, .int x101), (0, .ref (ad 0)), (1, .int x1), (2, .int x2), (3, .int x3), (4, .int x4), (5, .int x5)]) C dX0_enter_4 (by decide) rfl ?_
  refine z_aload_n C dX0_enter_6 rfl 1 rfl ?_
  refine z_iconst (v := 0) C dX0_enter_7 (by decide) ?_
  refine z_iload C dX0_enter_8 0 rfl ?_
  refine z_iload_n C dX0_enter_10 rfl 2 rfl ?_
  refine c0v (As := [.int 0, .int x101, .int x1]) C (c_X0_put l g ad u 0 x101 x1 _ h) v_X0_put ml0_29 rfl ⟨Nat.le_of_ble_eq_true rfl, Nat.le_of_ble_eq_true rfl⟩ ⟨Nat.zero_le _, Nat.zero_le _⟩ (Nat.le_of_ble_eq_true rfl) rfl dX0_enter_11 ?_
  intro u102 h
  refine z_aload_n C dX0_enter_14 rfl 1 rfl ?_
  refine z_iconst (v := 1) C dX0_enter_15 (by decide) ?_
  refine z_iload C dX0_enter_16 0 rfl ?_
  refine z_iload_n C dX0_enter_18 rfl 3 rfl ?_
  refine c0v (As := [.int 1, .int x101, .int x2]) C (c_X0_put l g ad u102 1 x101 x2 _ h) v_X0_put ml0_29 rfl ⟨Nat.le_of_ble_eq_true rfl, Nat.le_of_ble_eq_true rfl⟩ ⟨Nat.zero_le _, Nat.zero_le _⟩ (Nat.le_of_ble_eq_true rfl) rfl dX0_enter_19 ?_
  intro u103 h
  refine z_aload_n C dX0_enter_22 rfl 1 rfl ?_
  refine z_iconst (v := 2) C dX0_enter_23 (by decide) ?_
  refine z_iload C dX0_enter_24 0 rfl ?_
  refine z_iload_n C dX0_enter_26 rfl 4 rfl ?_
  refine c0v (As := [.int 2, .int x101, .int x3]) C (c_X0_put l g ad u103 2 x101 x3 _ h) v_X0_put ml0_29 rfl ⟨Nat.le_of_ble_eq_true rfl, Nat.le_of_ble_eq_true rfl⟩ ⟨Nat.zero_le _, Nat.zero_le _⟩ (Nat.le_of_ble_eq_true rfl) rfl dX0_enter_27 ?_
  intro u104 h
  refine z_aload_n C dX0_enter_30 rfl 1 rfl ?_
  refine z_iconst (v := 3) C dX0_enter_31 (by decide) ?_
  refine z_iload C dX0_enter_32 0 rfl ?_
  refine z_iload C dX0_enter_34 5 rfl ?_
  refine c0v (As := [.int 3, .int x101, .int x4]) C (c_X0_put l g ad u104 3 x101 x4 _ h) v_X0_put ml0_29 rfl ⟨Nat.le_of_ble_eq_true rfl, Nat.le_of_ble_eq_true rfl⟩ ⟨Nat.zero_le _, Nat.zero_le _⟩ (Nat.le_of_ble_eq_true rfl) rfl dX0_enter_36 ?_
  intro u105 h
  refine z_aload_n C dX0_enter_39 rfl 1 rfl ?_
  refine z_iconst (v := 4) C dX0_enter_40 (by decide) ?_
  refine z_iload C dX0_enter_41 0 rfl ?_
  refine z_iload C dX0_enter_43 6 rfl ?_
  refine c0v (As := [.int 4, .int x101, .int x5]) C (c_X0_put l g ad u105 4 x101 x5 _ h) v_X0_put ml0_29 rfl ⟨Nat.le_of_ble_eq_true rfl, Nat.le_of_ble_eq_true rfl⟩ ⟨Nat.zero_le _, Nat.zero_le _⟩ (Nat.le_of_ble_eq_true rfl) rfl dX0_enter_45 ?_
  intro u106 h
  refine z_aload_n C dX0_enter_48 rfl 1 rfl ?_
  refine z_bipush (v := 7) C dX0_enter_49 (by decide) ?_
  refine z_iload C dX0_enter_51 0 rfl ?_
  refine z_iconst (v := (-1)) C dX0_enter_53 (by decide) ?_
  refine c0v (As := [.int 7, .int x101, .int (-1)]) C (c_X0_put l g ad u106 7 x101 (-1) _ h) v_X0_put ml0_29 rfl ⟨Nat.le_of_ble_eq_true rfl, Nat.le_of_ble_eq_true rfl⟩ ⟨Nat.zero_le _, Nat.zero_le _⟩ (Nat.le_of_ble_eq_true rfl) rfl dX0_enter_54 ?_
  intro u107 h
  refine z_aload_n C dX0_enter_57 rfl 1 rfl ?_
  refine z_bipush (v := 13) C dX0_enter_58 (by decide) ?_
  refine z_iload C dX0_enter_60 0 rfl ?_
  refine z_iconst (v := (-1)) C dX0_enter_62 (by decide) ?_
  refine c0v (As := [.int 13, .int x101, .int (-1)]) C (c_X0_put l g ad u107 13 x101 (-1) _ h) v_X0_put ml0_29 rfl ⟨Nat.le_of_ble_eq_true rfl, Nat.le_of_ble_eq_true rfl⟩ ⟨Nat.zero_le _, Nat.zero_le _⟩ (Nat.le_of_ble_eq_true rfl) rfl dX0_enter_63 ?_
  intro u108 h
  refine z_aload_n C dX0_enter_66 rfl 1 rfl ?_
  refine z_bipush (v := 14) C dX0_enter_67 (by decide) ?_
  refine z_iload C dX0_enter_69 0 rfl ?_
  refine z_iconst (v := (-1)) C dX0_enter_71 (by decide) ?_
  refine c0v (As := [.int 14, .int x101, .int (-1)]) C (c_X0_put l g ad u108 14 x101 (-1) _ h) v_X0_put ml0_29 rfl ⟨Nat.le_of_ble_eq_true rfl, Nat.le_of_ble_eq_true rfl⟩ ⟨Nat.zero_le _, Nat.zero_le _⟩ (Nat.le_of_ble_eq_true rfl) rfl dX0_enter_72 ?_
  intro u109 h
  refine z_aload_n C dX0_enter_75 rfl 1 rfl ?_
  refine z_bipush (v := 17) C dX0_enter_76 (by decide) ?_
  refine z_iload C dX0_enter_78 0 rfl ?_
  refine z_iconst (v := (-1)) C dX0_enter_80 (by decide) ?_
  refine c0v (As := [.int 17, .int x101, .int (-1)]) C (c_X0_put l g ad u109 17 x101 (-1) _ h) v_X0_put ml0_29 rfl ⟨Nat.le_of_ble_eq_true rfl, Nat.le_of_ble_eq_true rfl⟩ ⟨Nat.zero_le _, Nat.zero_le _⟩ (Nat.le_of_ble_eq_true rfl) rfl dX0_enter_81 ?_
  intro u110 h
  refine z_aload_n C dX0_enter_84 rfl 1 rfl ?_
  refine z_dup C dX0_enter_85 rfl ?_
  refine g0_number C dX0_enter_86 ?_
  refine z_iconst (v := 1) C dX0_enter_89 (by decide) ?_
  refine z_iadd C dX0_enter_90 ?_
  refine p0_number C dX0_enter_91 ?_
  refine sT0 (fun u111 eu111 => ?_)
  have h := h u111 eu111
  refine z_iload C dX0_enter_94 0 rfl ?_
  exact z_iret C hr u111 rfl h dX0_enter_96
abbrev j_X0_nowWaits (p : Program) (l : Launch) (e : Env) (s : State) (m : MethodId) (args : Array Value) (below : List Frame) (meth : Method) (c : Code) (g : zG) (A : Nat → Prop) (ad : Nat → Nat) (Q : RS → Prop) (u : RS) (pc : Nat) (lv : List (Nat × Value)) (st : List Value) : Prop := zJ p l e (zR 1 0 0) s m args below meth c g A 3 (zQv below args s g A 0 0 (wX0 g ad) Q) (wX0 g ad u) 0 0 pc lv st
def wp_X0_nowWaits (u : RS) (x1 : Int32) (x2 : Int32) (Q : RS → Prop) : Prop :=
  wp_X0_put u 7 x1 x2 (fun u101 => wp_X0_add u101 8 x1 1 (fun u102 => Q u102))
set_option maxRecDepth 20000 in
theorem c_X0_nowWaits (l : Launch) (g : zG) (ad : Nat → Nat) (u : RS) (x1 : Int32) (x2 : Int32) (Q : RS → Prop) (h : wp_X0_nowWaits u x1 x2 Q) : zMv l yX0_nowWaits cX0_nowWaits 3 none 1 0 0 g [.ref (ad 0), .int x1, .int x2] (wX0 g ad u) (wX0 g ad) Q := by
  refine zMv_of RX0 (by decide) rfl [(0, .ref (ad 0)), (1, .int x1), (2, .int x2)] rfl (Nat.le_of_ble_eq_true rfl) (fun p e s m args below meth c A C hr hnm => ?_)
  unfold wp_X0_nowWaits at h
  refine z_aload_n C dX0_nowWaits_0 rfl 0 rfl ?_
  refine z_bipush (v := 7) C dX0_nowWaits_1 (by decide) ?_
  refine z_iload_n C dX0_nowWaits_3 rfl 1 rfl ?_
  refine z_iload_n C dX0_nowWaits_4 rfl 2 rfl ?_
  refine c0v (As := [.int 7, .int x1, .int x2]) C (c_X0_put l g ad u 7 x1 x2 _ h) v_X0_put ml0_29 rfl ⟨Nat.le_of_ble_eq_true rfl, Nat.le_of_ble_eq_true rfl⟩ ⟨Nat.zero_le _, Nat.zero_le _⟩ (Nat.le_of_ble_eq_true rfl) rfl dX0_nowWaits_5 ?_
  intro u101 h
  refine z_aload_n C dX0_nowWaits_8 rfl 0 rfl ?_
  refine z_bipush (v := 8) C dX0_nowWaits_9 (by decide) ?_
  refine z_iload_n C dX0_nowWaits_11 rfl 1 rfl ?_
  refine z_iconst (v := 1) C dX0_nowWaits_12 (by decide) ?_
  refine c0v (As := [.int 8, .int x1, .int 1]) C (c_X0_add l g ad u101 8 x1 1 _ h) v_X0_add ml0_33 rfl ⟨Nat.le_of_ble_eq_true rfl, Nat.le_of_ble_eq_true rfl⟩ ⟨Nat.zero_le _, Nat.zero_le _⟩ (Nat.le_of_ble_eq_true rfl) rfl dX0_nowWaits_13 ?_
  intro u102 h
  exact z_vret C hr u102 rfl h dX0_nowWaits_16
abbrev j_X0_nowTaken (p : Program) (l : Launch) (e : Env) (s : State) (m : MethodId) (args : Array Value) (below : List Frame) (meth : Method) (c : Code) (g : zG) (A : Nat → Prop) (ad : Nat → Nat) (Q : RS → Prop) (u : RS) (pc : Nat) (lv : List (Nat × Value)) (st : List Value) : Prop := zJ p l e (zR 1 0 0) s m args below meth c g A 2 (zQv below args s g A 0 0 (wX0 g ad) Q) (wX0 g ad u) 0 0 pc lv st
def wp_X0_nowTaken_26 (Q : RS → Prop) (u : RS) : Prop :=
  Q u
set_option maxRecDepth 20000 in
theorem b_X0_nowTaken_26 (C : zC p s m args meth c g A cX0_nowTaken RX0 2) (hr : meth.sig.returnType = none) (ad : Nat → Nat) (Q : RS → Prop) (u : RS) (h : wp_X0_nowTaken_26 Q u) : j_X0_nowTaken p l e s m args below meth c g A ad Q u 26 [(0, .ref (ad 0))] [] := by
  unfold wp_X0_nowTaken_26 at h
  exact z_vret C hr u rfl h dX0_nowTaken_26
def wp_X0_nowTaken (u : RS) (x1 : Int32) (Q : RS → Prop) : Prop :=
  wp_X0_add u 8 x1 (-1) (fun u101 => wp_X0_get u101 8 x1 (fun r102 u103 => ((¬ r102 = 0 → wp_X0_nowTaken_26 Q u103) ∧ (r102 = 0 → wp_X0_put u103 7 x1 (-1) (fun u105 => wp_X0_nowTaken_26 Q u105)))))
set_option maxRecDepth 20000 in
theorem c_X0_nowTaken (l : Launch) (g : zG) (ad : Nat → Nat) (u : RS) (x1 : Int32) (Q : RS → Prop) (h : wp_X0_nowTaken u x1 Q) : zMv l yX0_nowTaken cX0_nowTaken 2 none 1 0 0 g [.ref (ad 0), .int x1] (wX0 g ad u) (wX0 g ad) Q := by
  refine zMv_of RX0 (by decide) rfl [(0, .ref (ad 0)), (1, .int x1)] rfl (Nat.le_of_ble_eq_true rfl) (fun p e s m args below meth c A C hr hnm => ?_)
  unfold wp_X0_nowTaken at h
  refine z_aload_n C dX0_nowTaken_0 rfl 0 rfl ?_
  refine z_bipush (v := 8) C dX0_nowTaken_1 (by decide) ?_
  refine z_iload_n C dX0_nowTaken_3 rfl 1 rfl ?_
  refine z_iconst (v := (-1)) C dX0_nowTaken_4 (by decide) ?_
  refine c0v (As := [.int 8, .int x1, .int (-1)]) C (c_X0_add l g ad u 8 x1 (-1) _ h) v_X0_add ml0_33 rfl ⟨Nat.le_of_ble_eq_true rfl, Nat.le_of_ble_eq_true rfl⟩ ⟨Nat.zero_le _, Nat.zero_le _⟩ (Nat.le_of_ble_eq_true rfl) rfl dX0_nowTaken_5 ?_
  intro u101 h
  refine z_aload_n C dX0_nowTaken_8 rfl 0 rfl ?_
  refine z_bipush (v := 8) C dX0_nowTaken_9 (by decide) ?_
  refine z_iload_n C dX0_nowTaken_11 rfl 1 rfl ?_
  refine c0i (As := [.int 8, .int x1]) C (c_X0_get l g ad u101 8 x1 _ h) v_X0_get ml0_25 rfl ⟨Nat.le_of_ble_eq_true rfl, Nat.le_of_ble_eq_true rfl⟩ ⟨Nat.zero_le _, Nat.zero_le _⟩ (Nat.le_of_ble_eq_true rfl) rfl dX0_nowTaken_12 ?_
  intro r102 u103 h
  refine z_if_ne C dX0_nowTaken_15 (tgt := 26) (by decide) (fun hc104 => ?_) (fun hc104 => ?_)
  · have h := h.1 hc104
    refine z_lv (lv1 := [(0, .ref (ad 0))]) [0] rfl ?_
    exact b_X0_nowTaken_26 C hr ad Q u103 h
  · have h := h.2 hc104
    refine z_aload_n C dX0_nowTaken_18 rfl 0 rfl ?_
    refine z_bipush (v := 7) C dX0_nowTaken_19 (by decide) ?_
    refine z_iload_n C dX0_nowTaken_21 rfl 1 rfl ?_
    refine z_iconst (v := (-1)) C dX0_nowTaken_22 (by decide) ?_
    refine c0v (As := [.int 7, .int x1, .int (-1)]) C (c_X0_put l g ad u103 7 x1 (-1) _ h) v_X0_put ml0_29 rfl ⟨Nat.le_of_ble_eq_true rfl, Nat.le_of_ble_eq_true rfl⟩ ⟨Nat.zero_le _, Nat.zero_le _⟩ (Nat.le_of_ble_eq_true rfl) rfl dX0_nowTaken_23 ?_
    intro u105 h
    refine z_lv (lv1 := [(0, .ref (ad 0))]) [0] rfl ?_
    exact b_X0_nowTaken_26 C hr ad Q u105 h
abbrev j_X0_ruleNumber (p : Program) (l : Launch) (e : Env) (s : State) (m : MethodId) (args : Array Value) (below : List Frame) (meth : Method) (c : Code) (g : zG) (A : Nat → Prop) (ad : Nat → Nat) (Q : Int32 → RS → Prop) (u : RS) (pc : Nat) (lv : List (Nat × Value)) (st : List Value) : Prop := zJ p l e (zR 1 0 0) s m args below meth c g A 3 (zQi below args s g A 0 0 (wX0 g ad) Q) (wX0 g ad u) 0 0 pc lv st
def wp_X0_ruleNumber_26 (Q : Int32 → RS → Prop) (B4 : RS → Int32 → Int32 → Prop) (u : RS) (x1 : Int32) (x2 : Int32) : Prop :=
  ∀ x105 : Int32, x105 = x2 + 1 → B4 u x1 x105
set_option maxRecDepth 20000 in
theorem b_X0_ruleNumber_26 (C : zC p s m args meth c g A cX0_ruleNumber RX0 3) (hr : meth.sig.returnType = (some .int)) (ad : Nat → Nat) (Q : Int32 → RS → Prop) (B4 : RS → Int32 → Int32 → Prop) (hB4 : ∀ (u : RS) (x1 : Int32) (x2 : Int32), B4 u x1 x2 → j_X0_ruleNumber p l e s m args below meth c g A ad Q u 4 [(0, .ref (ad 0)), (1, .int x1), (2, .int x2)] []) (u : RS) (x1 : Int32) (x2 : Int32) (h : wp_X0_ruleNumber_26 Q B4 u x1 x2) : j_X0_ruleNumber p l e s m args below meth c g A ad Q u 26 [(0, .ref (ad 0)), (1, .int x1), (2, .int x2)] [] := by
  unfold wp_X0_ruleNumber_26 at h
  obtain ⟨x105, ex105⟩ : ∃ y : Int32, y = x2 + 1 := ⟨_, rfl⟩
  have h := h x105 ex105
  refine z_iinc (v := x105) (lv1 := [(2, .int x105), (0, .ref (ad 0)), (1, .int x1)]) C dX0_ruleNumber_26 2 rfl (by rw [ex105]; rfl) (by decide) rfl ?_
  refine z_goto C dX0_ruleNumber_29 (tgt := 4) (by decide) ?_
  refine z_lv (lv1 := [(0, .ref (ad 0)), (1, .int x1), (2, .int x105)]) [1, 2, 0] rfl ?_
  exact hB4 u x1 x105 h
def wp_X0_ruleNumber_4 (Q : Int32 → RS → Prop) (B4 : RS → Int32 → Int32 → Prop) (u : RS) (x1 : Int32) (x2 : Int32) : Prop :=
  ((u.1 0 0 ≤ x2 → Q x1 u) ∧ (¬ u.1 0 0 ≤ x2 → wp_X0_get u 13 x2 (fun r102 u103 => ((r102 = (-1) → wp_X0_ruleNumber_26 Q B4 u103 x1 x2) ∧ (¬ r102 = (-1) → ∀ x106 : Int32, x106 = x1 + 1 → wp_X0_ruleNumber_26 Q B4 u103 x106 x2)))))
set_option maxRecDepth 20000 in
theorem b_X0_ruleNumber_4 (C : zC p s m args meth c g A cX0_ruleNumber RX0 3) (hr : meth.sig.returnType = (some .int)) (ad : Nat → Nat) (Q : Int32 → RS → Prop) (B4 : RS → Int32 → Int32 → Prop) (hB4 : ∀ (u : RS) (x1 : Int32) (x2 : Int32), B4 u x1 x2 → j_X0_ruleNumber p l e s m args below meth c g A ad Q u 4 [(0, .ref (ad 0)), (1, .int x1), (2, .int x2)] []) (u : RS) (x1 : Int32) (x2 : Int32) (h : wp_X0_ruleNumber_4 Q B4 u x1 x2) : j_X0_ruleNumber p l e s m args below meth c g A ad Q u 4 [(0, .ref (ad 0)), (1, .int x1), (2, .int x2)] [] := by
  unfold wp_X0_ruleNumber_4 at h
  refine z_iload_n C dX0_ruleNumber_4 rfl 2 rfl ?_
  refine z_aload_n C dX0_ruleNumber_5 rfl 0 rfl ?_
  refine g0_number C dX0_ruleNumber_6 ?_
  refine z_icmp_ge C dX0_ruleNumber_9 (tgt := 32) (by decide) (fun hc101 => ?_) (fun hc101 => ?_)
  · have h := h.1 hc101
    refine z_iload_n C dX0_ruleNumber_32 rfl 1 rfl ?_
    exact z_iret C hr u rfl h dX0_ruleNumber_33
  · have h := h.2 hc101
    refine z_aload_n C dX0_ruleNumber_12 rfl 0 rfl ?_
    refine z_bipush (v := 13) C dX0_ruleNumber_13 (by decide) ?_
    refine z_iload_n C dX0_ruleNumber_15 rfl 2 rfl ?_
    refine c0i (As := [.int 13, .int x2]) C (c_X0_get l g ad u 13 x2 _ h) v_X0_get ml0_25 rfl ⟨Nat.le_of_ble_eq_true rfl, Nat.le_of_ble_eq_true rfl⟩ ⟨Nat.zero_le _, Nat.zero_le _⟩ (Nat.le_of_ble_eq_true rfl) rfl dX0_ruleNumber_16 ?_
    intro r102 u103 h
    refine z_iconst (v := (-1)) C dX0_ruleNumber_19 (by decide) ?_
    refine z_icmp_eq C dX0_ruleNumber_20 (tgt := 26) (by decide) (fun hc104 => ?_) (fun hc104 => ?_)
    · have h := h.1 hc104
      exact b_X0_ruleNumber_26 C hr ad Q B4 hB4 u103 x1 x2 h
    · have h := h.2 hc104
      obtain ⟨x106, ex106⟩ : ∃ y : Int32, y = x1 + 1 := ⟨_, rfl⟩
      have h := h x106 ex106
      refine z_iinc (v := x106) (lv1 := [(1, .int x106), (0, .ref (ad 0)), (2, .int x2)]) C dX0_ruleNumber_23 1 rfl (by rw [ex106]; rfl) (by decide) rfl ?_
      refine z_lv (lv1 := [(0, .ref (ad 0)), (1, .int x106), (2, .int x2)]) [1, 0, 2] rfl ?_
      exact b_X0_ruleNumber_26 C hr ad Q B4 hB4 u103 x106 x2 h
theorem l_X0_ruleNumber_4 (C : zC p s m args meth c g A cX0_ruleNumber RX0 3) (hr : meth.sig.returnType = (some .int)) (ad : Nat → Nat) (Q : Int32 → RS → Prop) : ∀ (n : Nat) (u : RS) (x1 : Int32) (x2 : Int32), zit3 (wp_X0_ruleNumber_4 Q) n u x1 x2 → j_X0_ruleNumber p l e s m args below meth c g A ad Q u 4 [(0, .ref (ad 0)), (1, .int x1), (2, .int x2)] [] := by
  intro n
  induction n with
  | zero => exact fun u x1 x2 h => h.elim
  | succ n ih => exact fun u x1 x2 h => b_X0_ruleNumber_4 C hr ad Q (zit3 (wp_X0_ruleNumber_4 Q) n) ih u x1 x2 h
def wp_X0_ruleNumber (u : RS) (Q : Int32 → RS → Prop) : Prop :=
  (∃ n, zit3 (wp_X0_ruleNumber_4 Q) n u 0 0)
set_option maxRecDepth 20000 in
theorem c_X0_ruleNumber (l : Launch) (g : zG) (ad : Nat → Nat) (u : RS) (Q : Int32 → RS → Prop) (h : wp_X0_ruleNumber u Q) : zMi l yX0_ruleNumber cX0_ruleNumber 3 (some .int) 1 0 0 g [.ref (ad 0)] (wX0 g ad u) (wX0 g ad) Q := by
  refine zMi_of RX0 (by decide) rfl [(0, .ref (ad 0))] rfl (Nat.le_of_ble_eq_true rfl) (fun p e s m args below meth c A C hr hnm => ?_)
  unfold wp_X0_ruleNumber at h
  refine z_iconst (v := 0) C dX0_ruleNumber_0 (by decide) ?_
  refine z_istore_n (lv1 := [(1, .int 0), (0, .ref (ad 0))]) C dX0_ruleNumber_1 rfl (by decide) rfl ?_
  refine z_iconst (v := 0) C dX0_ruleNumber_2 (by decide) ?_
  refine z_istore_n (lv1 := [(2, .int 0), (1, .int 0), (0, .ref (ad 0))]) C dX0_ruleNumber_3 rfl (by decide) rfl ?_
  refine z_lv (lv1 := [(0, .ref (ad 0)), (1, .int 0), (2, .int 0)]) [2, 1, 0] rfl ?_
  obtain ⟨n9, h⟩ := h
  exact l_X0_ruleNumber_4 C hr ad Q n9 u 0 0 h
abbrev j_X0_leastUsed (p : Program) (l : Launch) (e : Env) (s : State) (m : MethodId) (args : Array Value) (below : List Frame) (meth : Method) (c : Code) (g : zG) (A : Nat → Prop) (ad : Nat → Nat) (Q : Int32 → RS → Prop) (u : RS) (pc : Nat) (lv : List (Nat × Value)) (st : List Value) : Prop := zJ p l e (zR 1 0 0) s m args below meth c g A 3 (zQi below args s g A 0 0 (wX0 g ad) Q) (wX0 g ad u) 0 0 pc lv st
def wp_X0_leastUsed_47 (Q : Int32 → RS → Prop) (B4 : RS → Int32 → Int32 → Prop) (u : RS) (x1 : Int32) (x2 : Int32) : Prop :=
  ∀ x105 : Int32, x105 = x2 + 1 → B4 u x1 x105
set_option maxRecDepth 20000 in
theorem b_X0_leastUsed_47 (C : zC p s m args meth c g A cX0_leastUsed RX0 3) (hr : meth.sig.returnType = (some .int)) (ad : Nat → Nat) (Q : Int32 → RS → Prop) (B4 : RS → Int32 → Int32 → Prop) (hB4 : ∀ (u : RS) (x1 : Int32) (x2 : Int32), B4 u x1 x2 → j_X0_leastUsed p l e s m args below meth c g A ad Q u 4 [(0, .ref (ad 0)), (1, .int x1), (2, .int x2)] []) (u : RS) (x1 : Int32) (x2 : Int32) (h : wp_X0_leastUsed_47 Q B4 u x1 x2) : j_X0_leastUsed p l e s m args below meth c g A ad Q u 47 [(0, .ref (ad 0)), (1, .int x1), (2, .int x2)] [] := by
  unfold wp_X0_leastUsed_47 at h
  obtain ⟨x105, ex105⟩ : ∃ y : Int32, y = x2 + 1 := ⟨_, rfl⟩
  have h := h x105 ex105
  refine z_iinc (v := x105) (lv1 := [(2, .int x105), (0, .ref (ad 0)), (1, .int x1)]) C dX0_leastUsed_47 2 rfl (by rw [ex105]; rfl) (by decide) rfl ?_
  refine z_goto C dX0_leastUsed_50 (tgt := 4) (by decide) ?_
  refine z_lv (lv1 := [(0, .ref (ad 0)), (1, .int x1), (2, .int x105)]) [1, 2, 0] rfl ?_
  exact hB4 u x1 x105 h
def wp_X0_leastUsed_45 (Q : Int32 → RS → Prop) (B4 : RS → Int32 → Int32 → Prop) (u : RS) (x2 : Int32) : Prop :=
  wp_X0_leastUsed_47 Q B4 u x2 x2
set_option maxRecDepth 20000 in
theorem b_X0_leastUsed_45 (C : zC p s m args meth c g A cX0_leastUsed RX0 3) (hr : meth.sig.returnType = (some .int)) (ad : Nat → Nat) (Q : Int32 → RS → Prop) (B4 : RS → Int32 → Int32 → Prop) (hB4 : ∀ (u : RS) (x1 : Int32) (x2 : Int32), B4 u x1 x2 → j_X0_leastUsed p l e s m args below meth c g A ad Q u 4 [(0, .ref (ad 0)), (1, .int x1), (2, .int x2)] []) (u : RS) (x2 : Int32) (h : wp_X0_leastUsed_45 Q B4 u x2) : j_X0_leastUsed p l e s m args below meth c g A ad Q u 45 [(0, .ref (ad 0)), (2, .int x2)] [] := by
  unfold wp_X0_leastUsed_45 at h
  refine z_iload_n C dX0_leastUsed_45 rfl 1 rfl ?_
  refine z_istore_n (lv1 := [(1, .int x2), (0, .ref (ad 0)), (2, .int x2)]) C dX0_leastUsed_46 rfl (by decide) rfl ?_
  refine z_lv (lv1 := [(0, .ref (ad 0)), (1, .int x2), (2, .int x2)]) [1, 0, 2] rfl ?_
  exact b_X0_leastUsed_47 C hr ad Q B4 hB4 u x2 x2 h
def wp_X0_leastUsed_4 (Q : Int32 → RS → Prop) (B4 : RS → Int32 → Int32 → Prop) (u : RS) (x1 : Int32) (x2 : Int32) : Prop :=
  ((u.1 0 0 ≤ x2 → Q x1 u) ∧ (¬ u.1 0 0 ≤ x2 → wp_X0_get u 13 x2 (fun r102 u103 => ((r102 = (-1) → wp_X0_leastUsed_47 Q B4 u103 x1 x2) ∧ (¬ r102 = (-1) → ((x1 = (-1) → wp_X0_leastUsed_45 Q B4 u103 x2) ∧ (¬ x1 = (-1) → wp_X0_get u103 14 x2 (fun r107 u108 => wp_X0_get u108 14 x1 (fun r109 u110 => ((r109 ≤ r107 → wp_X0_leastUsed_47 Q B4 u110 x1 x2) ∧ (¬ r109 ≤ r107 → wp_X0_leastUsed_45 Q B4 u110 x2)))))))))))
set_option maxRecDepth 20000 in
theorem b_X0_leastUsed_4 (C : zC p s m args meth c g A cX0_leastUsed RX0 3) (hr : meth.sig.returnType = (some .int)) (ad : Nat → Nat) (Q : Int32 → RS → Prop) (B4 : RS → Int32 → Int32 → Prop) (hB4 : ∀ (u : RS) (x1 : Int32) (x2 : Int32), B4 u x1 x2 → j_X0_leastUsed p l e s m args below meth c g A ad Q u 4 [(0, .ref (ad 0)), (1, .int x1), (2, .int x2)] []) (u : RS) (x1 : Int32) (x2 : Int32) (h : wp_X0_leastUsed_4 Q B4 u x1 x2) : j_X0_leastUsed p l e s m args below meth c g A ad Q u 4 [(0, .ref (ad 0)), (1, .int x1), (2, .int x2)] [] := by
  unfold wp_X0_leastUsed_4 at h
  refine z_iload_n C dX0_leastUsed_4 rfl 2 rfl ?_
  refine z_aload_n C dX0_leastUsed_5 rfl 0 rfl ?_
  refine g0_number C dX0_leastUsed_6 ?_
  refine z_icmp_ge C dX0_leastUsed_9 (tgt := 53) (by decide) (fun hc101 => ?_) (fun hc101 => ?_)
  · have h := h.1 hc101
    refine z_iload_n C dX0_leastUsed_53 rfl 1 rfl ?_
    exact z_iret C hr u rfl h dX0_leastUsed_54
  · have h := h.2 hc101
    refine z_aload_n C dX0_leastUsed_12 rfl 0 rfl ?_
    refine z_bipush (v := 13) C dX0_leastUsed_13 (by decide) ?_
    refine z_iload_n C dX0_leastUsed_15 rfl 2 rfl ?_
    refine c0i (As := [.int 13, .int x2]) C (c_X0_get l g ad u 13 x2 _ h) v_X0_get ml0_25 rfl ⟨Nat.le_of_ble_eq_true rfl, Nat.le_of_ble_eq_true rfl⟩ ⟨Nat.zero_le _, Nat.zero_le _⟩ (Nat.le_of_ble_eq_true rfl) rfl dX0_leastUsed_16 ?_
    intro r102 u103 h
    refine z_iconst (v := (-1)) C dX0_leastUsed_19 (by decide) ?_
    refine z_icmp_eq C dX0_leastUsed_20 (tgt := 47) (by decide) (fun hc104 => ?_) (fun hc104 => ?_)
    · have h := h.1 hc104
      exact b_X0_leastUsed_47 C hr ad Q B4 hB4 u103 x1 x2 h
    · have h := h.2 hc104
      refine z_iload_n C dX0_leastUsed_23 rfl 1 rfl ?_
      refine z_iconst (v := (-1)) C dX0_leastUsed_24 (by decide) ?_
      refine z_icmp_eq C dX0_leastUsed_25 (tgt := 45) (by decide) (fun hc106 => ?_) (fun hc106 => ?_)
      · have h := h.1 hc106
        refine z_lv (lv1 := [(0, .ref (ad 0)), (2, .int x2)]) [0, 2] rfl ?_
        exact b_X0_leastUsed_45 C hr ad Q B4 hB4 u103 x2 h
      · have h := h.2 hc106
        refine z_aload_n C dX0_leastUsed_28 rfl 0 rfl ?_
        refine z_bipush (v := 14) C dX0_leastUsed_29 (by decide) ?_
        refine z_iload_n C dX0_leastUsed_31 rfl 2 rfl ?_
        refine c0i (As := [.int 14, .int x2]) C (c_X0_get l g ad u103 14 x2 _ h) v_X0_get ml0_25 rfl ⟨Nat.le_of_ble_eq_true rfl, Nat.le_of_ble_eq_true rfl⟩ ⟨Nat.zero_le _, Nat.zero_le _⟩ (Nat.le_of_ble_eq_true rfl) rfl dX0_leastUsed_32 ?_
        intro r107 u108 h
        refine z_aload_n C dX0_leastUsed_35 rfl 0 rfl ?_
        refine z_bipush (v := 14) C dX0_leastUsed_36 (by decide) ?_
        refine z_iload_n C dX0_leastUsed_38 rfl 1 rfl ?_
        refine c0i (As := [.int 14, .int x1]) C (c_X0_get l g ad u108 14 x1 _ h) v_X0_get ml0_25 rfl ⟨Nat.le_of_ble_eq_true rfl, Nat.le_of_ble_eq_true rfl⟩ ⟨Nat.zero_le _, Nat.zero_le _⟩ (Nat.le_of_ble_eq_true rfl) rfl dX0_leastUsed_39 ?_
        intro r109 u110 h
        refine z_icmp_ge C dX0_leastUsed_42 (tgt := 47) (by decide) (fun hc111 => ?_) (fun hc111 => ?_)
        · have h := h.1 hc111
          exact b_X0_leastUsed_47 C hr ad Q B4 hB4 u110 x1 x2 h
        · have h := h.2 hc111
          refine z_lv (lv1 := [(0, .ref (ad 0)), (2, .int x2)]) [0, 2] rfl ?_
          exact b_X0_leastUsed_45 C hr ad Q B4 hB4 u110 x2 h
theorem l_X0_leastUsed_4 (C : zC p s m args meth c g A cX0_leastUsed RX0 3) (hr : meth.sig.returnType = (some .int)) (ad : Nat → Nat) (Q : Int32 → RS → Prop) : ∀ (n : Nat) (u : RS) (x1 : Int32) (x2 : Int32), zit3 (wp_X0_leastUsed_4 Q) n u x1 x2 → j_X0_leastUsed p l e s m args below meth c g A ad Q u 4 [(0, .ref (ad 0)), (1, .int x1), (2, .int x2)] [] := by
  intro n
  induction n with
  | zero => exact fun u x1 x2 h => h.elim
  | succ n ih => exact fun u x1 x2 h => b_X0_leastUsed_4 C hr ad Q (zit3 (wp_X0_leastUsed_4 Q) n) ih u x1 x2 h
def wp_X0_leastUsed (u : RS) (Q : Int32 → RS → Prop) : Prop :=
  (∃ n, zit3 (wp_X0_leastUsed_4 Q) n u (-1) 0)
set_option maxRecDepth 20000 in
theorem c_X0_leastUsed (l : Launch) (g : zG) (ad : Nat → Nat) (u : RS) (Q : Int32 → RS → Prop) (h : wp_X0_leastUsed u Q) : zMi l yX0_leastUsed cX0_leastUsed 3 (some .int) 1 0 0 g [.ref (ad 0)] (wX0 g ad u) (wX0 g ad) Q := by
  refine zMi_of RX0 (by decide) rfl [(0, .ref (ad 0))] rfl (Nat.le_of_ble_eq_true rfl) (fun p e s m args below meth c A C hr hnm => ?_)
  unfold wp_X0_leastUsed at h
  refine z_iconst (v := (-1)) C dX0_leastUsed_0 (by decide) ?_
  refine z_istore_n (lv1 := [(1, .int (-1)), (0, .ref (ad 0))]) C dX0_leastUsed_1 rfl (by decide) rfl ?_
  refine z_iconst (v := 0) C dX0_leastUsed_2 (by decide) ?_
  refine z_istore_n (lv1 := [(2, .int 0), (1, .int (-1)), (0, .ref (ad 0))]) C dX0_leastUsed_3 rfl (by decide) rfl ?_
  refine z_lv (lv1 := [(0, .ref (ad 0)), (1, .int (-1)), (2, .int 0)]) [2, 1, 0] rfl ?_
  obtain ⟨n9, h⟩ := h
  exact l_X0_leastUsed_4 C hr ad Q n9 u (-1) 0 h
abbrev j_X0_dropRule (p : Program) (l : Launch) (e : Env) (s : State) (m : MethodId) (args : Array Value) (below : List Frame) (meth : Method) (c : Code) (g : zG) (A : Nat → Prop) (ad : Nat → Nat) (Q : RS → Prop) (u : RS) (pc : Nat) (lv : List (Nat × Value)) (st : List Value) : Prop := zJ p l e (zR 1 0 0) s m args below meth c g A 2 (zQv below args s g A 0 0 (wX0 g ad) Q) (wX0 g ad u) 0 0 pc lv st
def wp_X0_dropRule_21 (Q : RS → Prop) (u : RS) : Prop :=
  Q u
set_option maxRecDepth 20000 in
theorem b_X0_dropRule_21 (C : zC p s m args meth c g A cX0_dropRule RX0 2) (hr : meth.sig.returnType = none) (ad : Nat → Nat) (Q : RS → Prop) (u : RS) (h : wp_X0_dropRule_21 Q u) : j_X0_dropRule p l e s m args below meth c g A ad Q u 21 [(0, .ref (ad 0))] [] := by
  unfold wp_X0_dropRule_21 at h
  exact z_vret C hr u rfl h dX0_dropRule_21
def wp_X0_dropRule (u : RS) (x1 : Int32) (Q : RS → Prop) : Prop :=
  ((x1 = (-1) → wp_X0_dropRule_21 Q u) ∧ (¬ x1 = (-1) → wp_X0_put u 13 x1 (-1) (fun u102 => wp_X0_put u102 14 x1 (-1) (fun u103 => wp_X0_dropRule_21 Q u103))))
set_option maxRecDepth 20000 in
theorem c_X0_dropRule (l : Launch) (g : zG) (ad : Nat → Nat) (u : RS) (x1 : Int32) (Q : RS → Prop) (h : wp_X0_dropRule u x1 Q) : zMv l yX0_dropRule cX0_dropRule 2 none 1 0 0 g [.ref (ad 0), .int x1] (wX0 g ad u) (wX0 g ad) Q := by
  refine zMv_of RX0 (by decide) rfl [(0, .ref (ad 0)), (1, .int x1)] rfl (Nat.le_of_ble_eq_true rfl) (fun p e s m args below meth c A C hr hnm => ?_)
  unfold wp_X0_dropRule at h
  refine z_iload_n C dX0_dropRule_0 rfl 1 rfl ?_
  refine z_iconst (v := (-1)) C dX0_dropRule_1 (by decide) ?_
  refine z_icmp_eq C dX0_dropRule_2 (tgt := 21) (by decide) (fun hc101 => ?_) (fun hc101 => ?_)
  · have h := h.1 hc101
    refine z_lv (lv1 := [(0, .ref (ad 0))]) [0] rfl ?_
    exact b_X0_dropRule_21 C hr ad Q u h
  · have h := h.2 hc101
    refine z_aload_n C dX0_dropRule_5 rfl 0 rfl ?_
    refine z_bipush (v := 13) C dX0_dropRule_6 (by decide) ?_
    refine z_iload_n C dX0_dropRule_8 rfl 1 rfl ?_
    refine z_iconst (v := (-1)) C dX0_dropRule_9 (by decide) ?_
    refine c0v (As := [.int 13, .int x1, .int (-1)]) C (c_X0_put l g ad u 13 x1 (-1) _ h) v_X0_put ml0_29 rfl ⟨Nat.le_of_ble_eq_true rfl, Nat.le_of_ble_eq_true rfl⟩ ⟨Nat.zero_le _, Nat.zero_le _⟩ (Nat.le_of_ble_eq_true rfl) rfl dX0_dropRule_10 ?_
    intro u102 h
    refine z_aload_n C dX0_dropRule_13 rfl 0 rfl ?_
    refine z_bipush (v := 14) C dX0_dropRule_14 (by decide) ?_
    refine z_iload_n C dX0_dropRule_16 rfl 1 rfl ?_
    refine z_iconst (v := (-1)) C dX0_dropRule_17 (by decide) ?_
    refine c0v (As := [.int 14, .int x1, .int (-1)]) C (c_X0_put l g ad u102 14 x1 (-1) _ h) v_X0_put ml0_29 rfl ⟨Nat.le_of_ble_eq_true rfl, Nat.le_of_ble_eq_true rfl⟩ ⟨Nat.zero_le _, Nat.zero_le _⟩ (Nat.le_of_ble_eq_true rfl) rfl dX0_dropRule_18 ?_
    intro u103 h
    refine z_lv (lv1 := [(0, .ref (ad 0))]) [0] rfl ?_
    exact b_X0_dropRule_21 C hr ad Q u103 h
abbrev j_X2_copyFrom (p : Program) (l : Launch) (e : Env) (s : State) (m : MethodId) (args : Array Value) (below : List Frame) (meth : Method) (c : Code) (g : zG) (A : Nat → Prop) (ad bd : Nat → Nat) (v : RS) (Q : RS → Prop) (u : RS) (pc : Nat) (lv : List (Nat × Value)) (st : List Value) : Prop := zJ p l e (zR 1 0 0) s m args below meth c g A 2 (zQv below args s g A 0 0 (fun u => wX2 g ad u ++ wX2 g bd v) Q) (wX2 g ad u ++ wX2 g bd v) 0 0 pc lv st
def wp_X2_copyFrom (u : RS) (v : RS) (Q : RS → Prop) : Prop :=
  zcp 0 0 41 41 41 ∧ ∀ u102 : RS, u102 = rI u 1 (va_cpy (v.1 1) (u.1 1) (zn 0) (zn 0) (zn 41)) → ∀ u103 : RS, u103 = rN u102 0 (v.1 0 0) → Q u103
set_option maxRecDepth 20000 in
theorem c_X2_copyFrom (l : Launch) (g : zG) (ad bd : Nat → Nat) (v : RS) (u : RS) (Q : RS → Prop) (h : wp_X2_copyFrom u v Q) : zMv l yX2_copyFrom cX2_copyFrom 2 none 1 0 0 g [.ref (ad 0), .ref (bd 0)] (wX2 g ad u ++ wX2 g bd v) (fun u => wX2 g ad u ++ wX2 g bd v) Q := by
  refine zMv_of RX2 (by decide) rfl [(0, .ref (ad 0)), (1, .ref (bd 0))] rfl (Nat.le_of_ble_eq_true rfl) (fun p e s m args below meth c A C hr hnm => ?_)
  unfold wp_X2_copyFrom at h
  refine z_aload_n C dX2_copyFrom_0 rfl 1 rfl ?_
  refine z_get (T := TX2) (N := 2) C inX2 (ci := 2) rfl 1 (by decide) fl2_15 2 rfl rfl dX2_copyFrom_1 ?_
  refine z_iconst (v := 0) C dX2_copyFrom_4 (by decide) ?_
  refine z_aload_n C dX2_copyFrom_5 rfl 0 rfl ?_
  refine z_get (T := TX2) (N := 2) C inX2 (ci := 2) rfl 1 (by decide) fl2_15 0 rfl rfl dX2_copyFrom_6 ?_
  refine z_iconst (v := 0) C dX2_copyFrom_9 (by decide) ?_
  refine z_bipush (v := 41) C dX2_copyFrom_10 (by decide) ?_
  obtain ⟨hz101, h⟩ := h
  refine z_copyi C mj2_21 3 1 rfl rfl hz101 (Nat.le_of_ble_eq_true rfl) (Nat.le_of_ble_eq_true rfl) dX2_copyFrom_12 (ws1 := wX2 g ad (rI u 1 (va_cpy (v.1 1) (u.1 1) (zn 0) (zn 0) (zn 41))) ++ wX2 g bd v) rfl ?_
  refine sTw2 (fun u102 eu102 => ?_)
  have h := h u102 eu102
  refine z_aload_n C dX2_copyFrom_15 rfl 0 rfl ?_
  refine z_aload_n C dX2_copyFrom_16 rfl 1 rfl ?_
  refine z_get (T := TX2) (N := 2) C inX2 (ci := 2) rfl 0 (by decide) fl2_9 2 rfl rfl dX2_copyFrom_17 ?_
  refine z_puti (T := TX2) (N := 2) C inX2 tyX2 tyX2_ok nmX2 (ci := 2) rfl 0 (by decide) fl2_9 rfl (by decide +kernel) 0 (fs := fX2 ad u102) rfl (Nat.le_of_ble_eq_true rfl) dX2_copyFrom_20 (ws1 := wX2 g ad (rN u102 0 (v.1 0 0)) ++ wX2 g bd v) rfl ?_
  refine sTw2 (fun u103 eu103 => ?_)
  have h := h u103 eu103
  exact z_vret C hr u103 rfl h dX2_copyFrom_23
abbrev j_X2_part (p : Program) (l : Launch) (e : Env) (s : State) (m : MethodId) (args : Array Value) (below : List Frame) (meth : Method) (c : Code) (g : zG) (A : Nat → Prop) (ad : Nat → Nat) (Q : Int32 → RS → Prop) (u : RS) (pc : Nat) (lv : List (Nat × Value)) (st : List Value) : Prop := zJ p l e (zR 1 0 0) s m args below meth c g A 5 (zQi below args s g A 0 0 (wX2 g ad) Q) (wX2 g ad u) 0 0 pc lv st
def wp_X2_part_48 (Q : Int32 → RS → Prop) (B15 : RS → Int32 → Int32 → Int32 → Int32 → Prop) (u : RS) (x1 : Int32) (x2 : Int32) (x3 : Int32) (x4 : Int32) : Prop :=
  ∀ x106 : Int32, x106 = x4 + 1 → B15 u x1 x2 x3 x106
set_option maxRecDepth 20000 in
theorem b_X2_part_48 (C : zC p s m args meth c g A cX2_part RX2 5) (hr : meth.sig.returnType = (some .int)) (ad : Nat → Nat) (Q : Int32 → RS → Prop) (B15 : RS → Int32 → Int32 → Int32 → Int32 → Prop) (hB15 : ∀ (u : RS) (x1 : Int32) (x2 : Int32) (x3 : Int32) (x4 : Int32), B15 u x1 x2 x3 x4 → j_X2_part p l e s m args below meth c g A ad Q u 15 [(0, .ref (ad 0)), (1, .int x1), (2, .int x2), (3, .int x3), (4, .int x4)] []) (u : RS) (x1 : Int32) (x2 : Int32) (x3 : Int32) (x4 : Int32) (h : wp_X2_part_48 Q B15 u x1 x2 x3 x4) : j_X2_part p l e s m args below meth c g A ad Q u 48 [(0, .ref (ad 0)), (1, .int x1), (2, .int x2), (3, .int x3), (4, .int x4)] [] := by
  unfold wp_X2_part_48 at h
  obtain ⟨x106, ex106⟩ : ∃ y : Int32, y = x4 + 1 := ⟨_, rfl⟩
  have h := h x106 ex106
  refine z_iinc (v := x106) (lv1 := [(4, .int x106), (0, .ref (ad 0)), (1, .int x1), (2, .int x2), (3, .int x3)]) C dX2_part_48 4 rfl (by rw [ex106]; rfl) (by decide) rfl ?_
  refine z_goto C dX2_part_51 (tgt := 15) (by decide) ?_
  refine z_lv (lv1 := [(0, .ref (ad 0)), (1, .int x1), (2, .int x2), (3, .int x3), (4, .int x106)]) [1, 2, 3, 4, 0] rfl ?_
  exact hB15 u x1 x2 x3 x106 h
def wp_X2_part_15 (Q : Int32 → RS → Prop) (B15 : RS → Int32 → Int32 → Int32 → Int32 → Prop) (u : RS) (x1 : Int32) (x2 : Int32) (x3 : Int32) (x4 : Int32) : Prop :=
  ((8 ≤ x4 → Q x3 u) ∧ (¬ 8 ≤ x4 → (((x2 <<< (x4 &&& 31)) &&& 128 = 0 → wp_X2_part_48 Q B15 u x1 x2 x3 x4) ∧ (¬ (x2 <<< (x4 &&& 31)) &&& 128 = 0 → vp_in ((8 * x1) + x4) 41 ∧ ∀ x108 : Int32, x108 = x3 ^^^ (u.1 1 (zn ((8 * x1) + x4))) → wp_X2_part_48 Q B15 u x1 x2 x108 x4))))
set_option maxRecDepth 20000 in
theorem b_X2_part_15 (C : zC p s m args meth c g A cX2_part RX2 5) (hr : meth.sig.returnType = (some .int)) (ad : Nat → Nat) (Q : Int32 → RS → Prop) (B15 : RS → Int32 → Int32 → Int32 → Int32 → Prop) (hB15 : ∀ (u : RS) (x1 : Int32) (x2 : Int32) (x3 : Int32) (x4 : Int32), B15 u x1 x2 x3 x4 → j_X2_part p l e s m args below meth c g A ad Q u 15 [(0, .ref (ad 0)), (1, .int x1), (2, .int x2), (3, .int x3), (4, .int x4)] []) (u : RS) (x1 : Int32) (x2 : Int32) (x3 : Int32) (x4 : Int32) (h : wp_X2_part_15 Q B15 u x1 x2 x3 x4) : j_X2_part p l e s m args below meth c g A ad Q u 15 [(0, .ref (ad 0)), (1, .int x1), (2, .int x2), (3, .int x3), (4, .int x4)] [] := by
  unfold wp_X2_part_15 at h
  refine z_iload C dX2_part_15 4 rfl ?_
  refine z_bipush (v := 8) C dX2_part_17 (by decide) ?_
  refine z_icmp_ge C dX2_part_19 (tgt := 54) (by decide) (fun hc104 => ?_) (fun hc104 => ?_)
  · have h := h.1 hc104
    refine z_iload_n C dX2_part_54 rfl 3 rfl ?_
    exact z_iret C hr u rfl h dX2_part_55
  · have h := h.2 hc104
    refine z_iload_n C dX2_part_22 rfl 2 rfl ?_
    refine z_iload C dX2_part_23 4 rfl ?_
    refine z_ishl C dX2_part_25 ?_
    refine z_sipush (v := 128) C dX2_part_26 (by decide) ?_
    refine z_iand C dX2_part_29 ?_
    refine z_if_eq C dX2_part_30 (tgt := 48) (by decide) (fun hc105 => ?_) (fun hc105 => ?_)
    · have h := h.1 hc105
      exact b_X2_part_48 C hr ad Q B15 hB15 u x1 x2 x3 x4 h
    · have h := h.2 hc105
      refine z_iload_n C dX2_part_33 rfl 3 rfl ?_
      refine z_aload_n C dX2_part_34 rfl 0 rfl ?_
      refine g2_windows C dX2_part_35 ?_
      refine z_bipush (v := 8) C dX2_part_38 (by decide) ?_
      refine z_iload_n C dX2_part_40 rfl 1 rfl ?_
      refine z_imul C dX2_part_41 ?_
      refine z_iload C dX2_part_42 4 rfl ?_
      refine z_iadd C dX2_part_44 ?_
      obtain ⟨hi107, h⟩ := h
      refine l2_windows C hi107 dX2_part_45 ?_
      refine z_ixor C dX2_part_46 ?_
      refine z_topi (fun x108 ex108 => ?_)
      have h := h x108 ex108
      refine z_istore_n (lv1 := [(3, .int x108), (0, .ref (ad 0)), (1, .int x1), (2, .int x2), (4, .int x4)]) C dX2_part_47 rfl (by decide) rfl ?_
      refine z_lv (lv1 := [(0, .ref (ad 0)), (1, .int x1), (2, .int x2), (3, .int x108), (4, .int x4)]) [1, 2, 3, 0, 4] rfl ?_
      exact b_X2_part_48 C hr ad Q B15 hB15 u x1 x2 x108 x4 h
theorem l_X2_part_15 (C : zC p s m args meth c g A cX2_part RX2 5) (hr : meth.sig.returnType = (some .int)) (ad : Nat → Nat) (Q : Int32 → RS → Prop) : ∀ (n : Nat) (u : RS) (x1 : Int32) (x2 : Int32) (x3 : Int32) (x4 : Int32), zit5 (wp_X2_part_15 Q) n u x1 x2 x3 x4 → j_X2_part p l e s m args below meth c g A ad Q u 15 [(0, .ref (ad 0)), (1, .int x1), (2, .int x2), (3, .int x3), (4, .int x4)] [] := by
  intro n
  induction n with
  | zero => exact fun u x1 x2 x3 x4 h => h.elim
  | succ n ih => exact fun u x1 x2 x3 x4 h => b_X2_part_15 C hr ad Q (zit5 (wp_X2_part_15 Q) n) ih u x1 x2 x3 x4 h
def wp_X2_part (u : RS) (x1 : Int32) (x2 : Int32) (Q : Int32 → RS → Prop) : Prop :=
  wp_X2_counts u x1 (fun r101 u102 => ((¬ r101 = 0 → (∃ n, zit5 (wp_X2_part_15 Q) n u102 x1 x2 0 0)) ∧ (r101 = 0 → Q 0 u102)))
set_option maxRecDepth 20000 in
theorem c_X2_part (l : Launch) (g : zG) (ad : Nat → Nat) (u : RS) (x1 : Int32) (x2 : Int32) (Q : Int32 → RS → Prop) (h : wp_X2_part u x1 x2 Q) : zMi l yX2_part cX2_part 5 (some .int) 1 0 0 g [.ref (ad 0), .int x1, .int x2] (wX2 g ad u) (wX2 g ad) Q := by
  refine zMi_of RX2 (by decide) rfl [(0, .ref (ad 0)), (1, .int x1), (2, .int x2)] rfl (Nat.le_of_ble_eq_true rfl) (fun p e s m args below meth c A C hr hnm => ?_)
  unfold wp_X2_part at h
  refine z_aload_n C dX2_part_0 rfl 0 rfl ?_
  refine z_iload_n C dX2_part_1 rfl 1 rfl ?_
  refine c2i (As := [.int x1]) C (c_X2_counts l g ad u x1 _ h) v_X2_counts ml2_27 rfl ⟨Nat.le_of_ble_eq_true rfl, Nat.le_of_ble_eq_true rfl⟩ ⟨Nat.zero_le _, Nat.zero_le _⟩ (Nat.le_of_ble_eq_true rfl) rfl dX2_part_2 ?_
  intro r101 u102 h
  refine z_if_ne C dX2_part_5 (tgt := 10) (by decide) (fun hc103 => ?_) (fun hc103 => ?_)
  · have h := h.1 hc103
    refine z_iconst (v := 0) C dX2_part_10 (by decide) ?_
    refine z_istore_n (lv1 := [(3, .int 0), (0, .ref (ad 0)), (1, .int x1), (2, .int x2)]) C dX2_part_11 rfl (by decide) rfl ?_
    refine z_iconst (v := 0) C dX2_part_12 (by decide) ?_
    refine z_istore (lv1 := [(4, .int 0), (3, .int 0), (0, .ref (ad 0)), (1, .int x1), (2, .int x2)]) C dX2_part_13 (by decide) rfl ?_
    refine z_lv (lv1 := [(0, .ref (ad 0)), (1, .int x1), (2, .int x2), (3, .int 0), (4, .int 0)]) [2, 3, 4, 1, 0] rfl ?_
    obtain ⟨n9, h⟩ := h
    exact l_X2_part_15 C hr ad Q n9 u102 x1 x2 0 0 h
  · have h := h.2 hc103
    refine z_iconst (v := 0) C dX2_part_8 (by decide) ?_
    exact z_iret C hr u102 rfl h dX2_part_9
abbrev j_X2_entriesInReach (p : Program) (l : Launch) (e : Env) (s : State) (m : MethodId) (args : Array Value) (below : List Frame) (meth : Method) (c : Code) (g : zG) (A : Nat → Prop) (ad : Nat → Nat) (Q : Int32 → RS → Prop) (u : RS) (pc : Nat) (lv : List (Nat × Value)) (st : List Value) : Prop := zJ p l e (zR 1 0 0) s m args below meth c g A 3 (zQi below args s g A 0 0 (wX2 g ad) Q) (wX2 g ad u) 0 0 pc lv st
def wp_X2_entriesInReach_47 (Q : Int32 → RS → Prop) (B4 : RS → Int32 → Int32 → Prop) (u : RS) (x1 : Int32) (x2 : Int32) : Prop :=
  ∀ x105 : Int32, x105 = x2 + 1 → B4 u x1 x105
set_option maxRecDepth 20000 in
theorem b_X2_entriesInReach_47 (C : zC p s m args meth c g A cX2_entriesInReach RX2 3) (hr : meth.sig.returnType = (some .int)) (ad : Nat → Nat) (Q : Int32 → RS → Prop) (B4 : RS → Int32 → Int32 → Prop) (hB4 : ∀ (u : RS) (x1 : Int32) (x2 : Int32), B4 u x1 x2 → j_X2_entriesInReach p l e s m args below meth c g A ad Q u 4 [(0, .ref (ad 0)), (1, .int x1), (2, .int x2)] []) (u : RS) (x1 : Int32) (x2 : Int32) (h : wp_X2_entriesInReach_47 Q B4 u x1 x2) : j_X2_entriesInReach p l e s m args below meth c g A ad Q u 47 [(0, .ref (ad 0)), (1, .int x1), (2, .int x2)] [] := by
  unfold wp_X2_entriesInReach_47 at h
  obtain ⟨x105, ex105⟩ : ∃ y : Int32, y = x2 + 1 := ⟨_, rfl⟩
  have h := h x105 ex105
  refine z_iinc (v := x105) (lv1 := [(2, .int x105), (0, .ref (ad 0)), (1, .int x1)]) C dX2_entriesInReach_47 2 rfl (by rw [ex105]; rfl) (by decide) rfl ?_
  refine z_goto C dX2_entriesInReach_50 (tgt := 4) (by decide) ?_
  refine z_lv (lv1 := [(0, .ref (ad 0)), (1, .int x1), (2, .int x105)]) [1, 2, 0] rfl ?_
  exact hB4 u x1 x105 h
def wp_X2_entriesInReach_33 (Q : Int32 → RS → Prop) (B4 : RS → Int32 → Int32 → Prop) (u : RS) (x1 : Int32) (x2 : Int32) : Prop :=
  vp_in x2 41 ∧ wp_X7_entryOfHash (u.1 1 (zn x2)) (fun r108 => wp_X2_withStep x1 r108 (fun r109 => wp_X2_entriesInReach_47 Q B4 u r109 x2))
set_option maxRecDepth 20000 in
theorem b_X2_entriesInReach_33 (C : zC p s m args meth c g A cX2_entriesInReach RX2 3) (hr : meth.sig.returnType = (some .int)) (ad : Nat → Nat) (Q : Int32 → RS → Prop) (B4 : RS → Int32 → Int32 → Prop) (hB4 : ∀ (u : RS) (x1 : Int32) (x2 : Int32), B4 u x1 x2 → j_X2_entriesInReach p l e s m args below meth c g A ad Q u 4 [(0, .ref (ad 0)), (1, .int x1), (2, .int x2)] []) (u : RS) (x1 : Int32) (x2 : Int32) (h : wp_X2_entriesInReach_33 Q B4 u x1 x2) : j_X2_entriesInReach p l e s m args below meth c g A ad Q u 33 [(0, .ref (ad 0)), (1, .int x1), (2, .int x2)] [] := by
  unfold wp_X2_entriesInReach_33 at h
  refine z_iload_n C dX2_entriesInReach_33 rfl 1 rfl ?_
  refine z_aload_n C dX2_entriesInReach_34 rfl 0 rfl ?_
  refine g2_windows C dX2_entriesInReach_35 ?_
  refine z_iload_n C dX2_entriesInReach_38 rfl 2 rfl ?_
  obtain ⟨hi107, h⟩ := h
  refine l2_windows C hi107 dX2_entriesInReach_39 ?_
  refine cNi (As := [.int (u.1 1 (zn x2))]) C (c_X7_entryOfHash l g (u.1 1 (zn x2)) _ h) s_X7_entryOfHash mn2_37 ⟨Nat.le_of_ble_eq_true rfl, Nat.le_of_ble_eq_true rfl⟩ ⟨Nat.zero_le _, Nat.zero_le _⟩ (Nat.le_of_ble_eq_true rfl) rfl dX2_entriesInReach_40 ?_
  intro r108 h
  refine cSi (As := [.int x1, .int r108]) C (c_X2_withStep l g x1 r108 _ h) s_X2_withStep ml2_41 ⟨Nat.le_of_ble_eq_true rfl, Nat.le_of_ble_eq_true rfl⟩ ⟨Nat.zero_le _, Nat.zero_le _⟩ (Nat.le_of_ble_eq_true rfl) rfl dX2_entriesInReach_43 ?_
  intro r109 h
  refine z_istore_n (lv1 := [(1, .int r109), (0, .ref (ad 0)), (2, .int x2)]) C dX2_entriesInReach_46 rfl (by decide) rfl ?_
  refine z_lv (lv1 := [(0, .ref (ad 0)), (1, .int r109), (2, .int x2)]) [1, 0, 2] rfl ?_
  exact b_X2_entriesInReach_47 C hr ad Q B4 hB4 u r109 x2 h
def wp_X2_entriesInReach_4 (Q : Int32 → RS → Prop) (B4 : RS → Int32 → Int32 → Prop) (u : RS) (x1 : Int32) (x2 : Int32) : Prop :=
  ((40 ≤ x2 → Q x1 u) ∧ (¬ 40 ≤ x2 → wp_X2_counts u (x2 / 8) (fun r102 u103 => ((r102 = 0 → wp_X2_entriesInReach_47 Q B4 u103 x1 x2) ∧ (¬ r102 = 0 → ((x2 < 32 → wp_X2_entriesInReach_33 Q B4 u103 x1 x2) ∧ (¬ x2 < 32 → ((¬ x2 = 39 → wp_X2_entriesInReach_47 Q B4 u103 x1 x2) ∧ (x2 = 39 → wp_X2_entriesInReach_33 Q B4 u103 x1 x2)))))))))
set_option maxRecDepth 20000 in
theorem b_X2_entriesInReach_4 (C : zC p s m args meth c g A cX2_entriesInReach RX2 3) (hr : meth.sig.returnType = (some .int)) (ad : Nat → Nat) (Q : Int32 → RS → Prop) (B4 : RS → Int32 → Int32 → Prop) (hB4 : ∀ (u : RS) (x1 : Int32) (x2 : Int32), B4 u x1 x2 → j_X2_entriesInReach p l e s m args below meth c g A ad Q u 4 [(0, .ref (ad 0)), (1, .int x1), (2, .int x2)] []) (u : RS) (x1 : Int32) (x2 : Int32) (h : wp_X2_entriesInReach_4 Q B4 u x1 x2) : j_X2_entriesInReach p l e s m args below meth c g A ad Q u 4 [(0, .ref (ad 0)), (1, .int x1), (2, .int x2)] [] := by
  unfold wp_X2_entriesInReach_4 at h
  refine z_iload_n C dX2_entriesInReach_4 rfl 2 rfl ?_
  refine z_bipush (v := 40) C dX2_entriesInReach_5 (by decide) ?_
  refine z_icmp_ge C dX2_entriesInReach_7 (tgt := 53) (by decide) (fun hc101 => ?_) (fun hc101 => ?_)
  · have h := h.1 hc101
    refine z_iload_n C dX2_entriesInReach_53 rfl 1 rfl ?_
    exact z_iret C hr u rfl h dX2_entriesInReach_54
  · have h := h.2 hc101
    refine z_aload_n C dX2_entriesInReach_10 rfl 0 rfl ?_
    refine z_iload_n C dX2_entriesInReach_11 rfl 2 rfl ?_
    refine z_bipush (v := 8) C dX2_entriesInReach_12 (by decide) ?_
    refine z_idiv C dX2_entriesInReach_14 (by decide) ?_
    refine c2i (As := [.int (x2 / 8)]) C (c_X2_counts l g ad u (x2 / 8) _ h) v_X2_counts ml2_27 rfl ⟨Nat.le_of_ble_eq_true rfl, Nat.le_of_ble_eq_true rfl⟩ ⟨Nat.zero_le _, Nat.zero_le _⟩ (Nat.le_of_ble_eq_true rfl) rfl dX2_entriesInReach_15 ?_
    intro r102 u103 h
    refine z_if_eq C dX2_entriesInReach_18 (tgt := 47) (by decide) (fun hc104 => ?_) (fun hc104 => ?_)
    · have h := h.1 hc104
      exact b_X2_entriesInReach_47 C hr ad Q B4 hB4 u103 x1 x2 h
    · have h := h.2 hc104
      refine z_iload_n C dX2_entriesInReach_21 rfl 2 rfl ?_
      refine z_bipush (v := 32) C dX2_entriesInReach_22 (by decide) ?_
      refine z_icmp_lt C dX2_entriesInReach_24 (tgt := 33) (by decide) (fun hc106 => ?_) (fun hc106 => ?_)
      · have h := h.1 hc106
        exact b_X2_entriesInReach_33 C hr ad Q B4 hB4 u103 x1 x2 h
      · have h := h.2 hc106
        refine z_iload_n C dX2_entriesInReach_27 rfl 2 rfl ?_
        refine z_bipush (v := 39) C dX2_entriesInReach_28 (by decide) ?_
        refine z_icmp_ne C dX2_entriesInReach_30 (tgt := 47) (by decide) (fun hc110 => ?_) (fun hc110 => ?_)
        · have h := h.1 hc110
          exact b_X2_entriesInReach_47 C hr ad Q B4 hB4 u103 x1 x2 h
        · have h := h.2 hc110
          exact b_X2_entriesInReach_33 C hr ad Q B4 hB4 u103 x1 x2 h
theorem l_X2_entriesInReach_4 (C : zC p s m args meth c g A cX2_entriesInReach RX2 3) (hr : meth.sig.returnType = (some .int)) (ad : Nat → Nat) (Q : Int32 → RS → Prop) : ∀ (n : Nat) (u : RS) (x1 : Int32) (x2 : Int32), zit3 (wp_X2_entriesInReach_4 Q) n u x1 x2 → j_X2_entriesInReach p l e s m args below meth c g A ad Q u 4 [(0, .ref (ad 0)), (1, .int x1), (2, .int x2)] [] := by
  intro n
  induction n with
  | zero => exact fun u x1 x2 h => h.elim
  | succ n ih => exact fun u x1 x2 h => b_X2_entriesInReach_4 C hr ad Q (zit3 (wp_X2_entriesInReach_4 Q) n) ih u x1 x2 h
def wp_X2_entriesInReach (u : RS) (Q : Int32 → RS → Prop) : Prop :=
  (∃ n, zit3 (wp_X2_entriesInReach_4 Q) n u 1 0)
set_option maxRecDepth 20000 in
theorem c_X2_entriesInReach (l : Launch) (g : zG) (ad : Nat → Nat) (u : RS) (Q : Int32 → RS → Prop) (h : wp_X2_entriesInReach u Q) : zMi l yX2_entriesInReach cX2_entriesInReach 3 (some .int) 1 0 0 g [.ref (ad 0)] (wX2 g ad u) (wX2 g ad) Q := by
  refine zMi_of RX2 (by decide) rfl [(0, .ref (ad 0))] rfl (Nat.le_of_ble_eq_true rfl) (fun p e s m args below meth c A C hr hnm => ?_)
  unfold wp_X2_entriesInReach at h
  refine z_iconst (v := 1) C dX2_entriesInReach_0 (by decide) ?_
  refine z_istore_n (lv1 := [(1, .int 1), (0, .ref (ad 0))]) C dX2_entriesInReach_1 rfl (by decide) rfl ?_
  refine z_iconst (v := 0) C dX2_entriesInReach_2 (by decide) ?_
  refine z_istore_n (lv1 := [(2, .int 0), (1, .int 1), (0, .ref (ad 0))]) C dX2_entriesInReach_3 rfl (by decide) rfl ?_
  refine z_lv (lv1 := [(0, .ref (ad 0)), (1, .int 1), (2, .int 0)]) [2, 1, 0] rfl ?_
  obtain ⟨n9, h⟩ := h
  exact l_X2_entriesInReach_4 C hr ad Q n9 u 1 0 h
abbrev j_X3_copyFrom (p : Program) (l : Launch) (e : Env) (s : State) (m : MethodId) (args : Array Value) (below : List Frame) (meth : Method) (c : Code) (g : zG) (A : Nat → Prop) (ad bd : Nat → Nat) (v : RS) (Q : RS → Prop) (u : RS) (pc : Nat) (lv : List (Nat × Value)) (st : List Value) : Prop := zJ p l e (zR 1 0 0) s m args below meth c g A 2 (zQv below args s g A 0 0 (fun u => wX3 g ad u ++ wX3 g bd v) Q) (wX3 g ad u ++ wX3 g bd v) 0 0 pc lv st
def wp_X3_copyFrom (u : RS) (v : RS) (Q : RS → Prop) : Prop :=
  ∀ u101 : RS, u101 = rN u 0 (v.1 0 0) → ∀ u102 : RS, u102 = rN u101 1 (v.1 1 0) → ∀ u103 : RS, u103 = rN u102 2 (v.1 2 0) → ∀ u104 : RS, u104 = rN u103 3 (v.1 3 0) → ∀ u105 : RS, u105 = rN u104 4 (v.1 4 0) → ∀ u106 : RS, u106 = rN u105 5 (v.1 5 0) → ∀ u107 : RS, u107 = rN u106 6 (v.1 6 0) → ∀ u108 : RS, u108 = rN u107 7 (v.1 7 0) → zcp 0 0 (4 * (u108.1 0 0)) 128 128 ∧ ∀ u110 : RS, u110 = rI u108 8 (va_cpy (v.1 8) (u108.1 8) (zn 0) (zn 0) (zn (4 * (u108.1 0 0)))) → Q u110
set_option maxRecDepth 20000 in
theorem c_X3_copyFrom (l : Launch) (g : zG) (ad bd : Nat → Nat) (v : RS) (u : RS) (Q : RS → Prop) (h : wp_X3_copyFrom u v Q) : zMv l yX3_copyFrom cX3_copyFrom 2 none 1 0 0 g [.ref (ad 0), .ref (bd 0)] (wX3 g ad u ++ wX3 g bd v) (fun u => wX3 g ad u ++ wX3 g bd v) Q := by
  refine zMv_of RX3 (by decide) rfl [(0, .ref (ad 0)), (1, .ref (bd 0))] rfl (Nat.le_of_ble_eq_true rfl) (fun p e s m args below meth c A C hr hnm => ?_)
  unfold wp_X3_copyFrom at h
  refine z_aload_n C dX3_copyFrom_0 rfl 0 rfl ?_
  refine z_aload_n C dX3_copyFrom_1 rfl 1 rfl ?_
  refine z_get (T := TX3) (N := 9) C inX3 (ci := 3) rfl 0 (by decide) fl3_22 2 rfl rfl dX3_copyFrom_2 ?_
  refine z_puti (T := TX3) (N := 9) C inX3 tyX3 tyX3_ok nmX3 (ci := 3) rfl 0 (by decide) fl3_22 rfl (by decide +kernel) 0 (fs := fX3 ad u) rfl (Nat.le_of_ble_eq_true rfl) dX3_copyFrom_5 (ws1 := wX3 g ad (rN u 0 (v.1 0 0)) ++ wX3 g bd v) rfl ?_
  refine sTw3 (fun u101 eu101 => ?_)
  have h := h u101 eu101
  refine z_aload_n C dX3_copyFrom_8 rfl 0 rfl ?_
  refine z_aload_n C dX3_copyFrom_9 rfl 1 rfl ?_
  refine z_get (T := TX3) (N := 9) C inX3 (ci := 3) rfl 1 (by decide) fl3_25 2 rfl rfl dX3_copyFrom_10 ?_
  refine z_puti (T := TX3) (N := 9) C inX3 tyX3 tyX3_ok nmX3 (ci := 3) rfl 1 (by decide) fl3_25 rfl (by decide +kernel) 0 (fs := fX3 ad u101) rfl (Nat.le_of_ble_eq_true rfl) dX3_copyFrom_13 (ws1 := wX3 g ad (rN u101 1 (v.1 1 0)) ++ wX3 g bd v) rfl ?_
  refine sTw3 (fun u102 eu102 => ?_)
  have h := h u102 eu102
  refine z_aload_n C dX3_copyFrom_16 rfl 0 rfl ?_
  refine z_aload_n C dX3_copyFrom_17 rfl 1 rfl ?_
  refine z_get (T := TX3) (N := 9) C inX3 (ci := 3) rfl 2 (by decide) fl3_28 2 rfl rfl dX3_copyFrom_18 ?_
  refine z_puti (T := TX3) (N := 9) C inX3 tyX3 tyX3_ok nmX3 (ci := 3) rfl 2 (by decide) fl3_28 rfl (by decide +kernel) 0 (fs := fX3 ad u102) rfl (Nat.le_of_ble_eq_true rfl) dX3_copyFrom_21 (ws1 := wX3 g ad (rN u102 2 (v.1 2 0)) ++ wX3 g bd v) rfl ?_
  refine sTw3 (fun u103 eu103 => ?_)
  have h := h u103 eu103
  refine z_aload_n C dX3_copyFrom_24 rfl 0 rfl ?_
  refine z_aload_n C dX3_copyFrom_25 rfl 1 rfl ?_
  refine z_get (T := TX3) (N := 9) C inX3 (ci := 3) rfl 3 (by decide) fl3_9 2 rfl rfl dX3_copyFrom_26 ?_
  refine z_puti (T := TX3) (N := 9) C inX3 tyX3 tyX3_ok nmX3 (ci := 3) rfl 3 (by decide) fl3_9 rfl (by decide +kernel) 0 (fs := fX3 ad u103) rfl (Nat.le_of_ble_eq_true rfl) dX3_copyFrom_29 (ws1 := wX3 g ad (rN u103 3 (v.1 3 0)) ++ wX3 g bd v) rfl ?_
  refine sTw3 (fun u104 eu104 => ?_)
  have h := h u104 eu104
  refine z_aload_n C dX3_copyFrom_32 rfl 0 rfl ?_
  refine z_aload_n C dX3_copyFrom_33 rfl 1 rfl ?_
  refine z_get (T := TX3) (N := 9) C inX3 (ci := 3) rfl 4 (by decide) fl3_15 2 rfl rfl dX3_copyFrom_34 ?_
  refine z_puti (T := TX3) (N := 9) C inX3 tyX3 tyX3_ok nmX3 (ci := 3) rfl 4 (by decide) fl3_15 rfl (by decide +kernel) 0 (fs := fX3 ad u104) rfl (Nat.le_of_ble_eq_true rfl) dX3_copyFrom_37 (ws1 := wX3 g ad (rN u104 4 (v.1 4 0)) ++ wX3 g bd v) rfl ?_
  refine sTw3 (fun u105 eu105 => ?_)
  have h := h u105 eu105
  refine z_aload_n C dX3_copyFrom_40 rfl 0 rfl ?_
  refine z_aload_n C dX3_copyFrom_41 rfl 1 rfl ?_
  refine z_get (T := TX3) (N := 9) C inX3 (ci := 3) rfl 5 (by decide) fl3_31 2 rfl rfl dX3_copyFrom_42 ?_
  refine z_puti (T := TX3) (N := 9) C inX3 tyX3 tyX3_ok nmX3 (ci := 3) rfl 5 (by decide) fl3_31 rfl (by decide +kernel) 0 (fs := fX3 ad u105) rfl (Nat.le_of_ble_eq_true rfl) dX3_copyFrom_45 (ws1 := wX3 g ad (rN u105 5 (v.1 5 0)) ++ wX3 g bd v) rfl ?_
  refine sTw3 (fun u106 eu106 => ?_)
  have h := h u106 eu106
  refine z_aload_n C dX3_copyFrom_48 rfl 0 rfl ?_
  refine z_aload_n C dX3_copyFrom_49 rfl 1 rfl ?_
  refine z_get (T := TX3) (N := 9) C inX3 (ci := 3) rfl 6 (by decide) fl3_34 2 rfl rfl dX3_copyFrom_50 ?_
  refine z_puti (T := TX3) (N := 9) C inX3 tyX3 tyX3_ok nmX3 (ci := 3) rfl 6 (by decide) fl3_34 rfl (by decide +kernel) 0 (fs := fX3 ad u106) rfl (Nat.le_of_ble_eq_true rfl) dX3_copyFrom_53 (ws1 := wX3 g ad (rN u106 6 (v.1 6 0)) ++ wX3 g bd v) rfl ?_
  refine sTw3 (fun u107 eu107 => ?_)
  have h := h u107 eu107
  refine z_aload_n C dX3_copyFrom_56 rfl 0 rfl ?_
  refine z_aload_n C dX3_copyFrom_57 rfl 1 rfl ?_
  refine z_get (T := TX3) (N := 9) C inX3 (ci := 3) rfl 7 (by decide) fl3_37 2 rfl rfl dX3_copyFrom_58 ?_
  refine z_puti (T := TX3) (N := 9) C inX3 tyX3 tyX3_ok nmX3 (ci := 3) rfl 7 (by decide) fl3_37 rfl (by decide +kernel) 0 (fs := fX3 ad u107) rfl (Nat.le_of_ble_eq_true rfl) dX3_copyFrom_61 (ws1 := wX3 g ad (rN u107 7 (v.1 7 0)) ++ wX3 g bd v) rfl ?_
  refine sTw3 (fun u108 eu108 => ?_)
  have h := h u108 eu108
  refine z_aload_n C dX3_copyFrom_64 rfl 1 rfl ?_
  refine z_get (T := TX3) (N := 9) C inX3 (ci := 3) rfl 8 (by decide) fl3_18 2 rfl rfl dX3_copyFrom_65 ?_
  refine z_iconst (v := 0) C dX3_copyFrom_68 (by decide) ?_
  refine z_aload_n C dX3_copyFrom_69 rfl 0 rfl ?_
  refine z_get (T := TX3) (N := 9) C inX3 (ci := 3) rfl 8 (by decide) fl3_18 0 rfl rfl dX3_copyFrom_70 ?_
  refine z_iconst (v := 0) C dX3_copyFrom_73 (by decide) ?_
  refine z_iconst (v := 4) C dX3_copyFrom_74 (by decide) ?_
  refine z_aload_n C dX3_copyFrom_75 rfl 0 rfl ?_
  refine z_get (T := TX3) (N := 9) C inX3 (ci := 3) rfl 0 (by decide) fl3_22 0 rfl rfl dX3_copyFrom_76 ?_
  refine z_imul C dX3_copyFrom_79 ?_
  obtain ⟨hz109, h⟩ := h
  refine z_copyi C mj3_40 3 1 rfl rfl hz109 (Nat.le_of_ble_eq_true rfl) (Nat.le_of_ble_eq_true rfl) dX3_copyFrom_80 (ws1 := wX3 g ad (rI u108 8 (va_cpy (v.1 8) (u108.1 8) (zn 0) (zn 0) (zn (4 * (u108.1 0 0))))) ++ wX3 g bd v) rfl ?_
  refine sTw3 (fun u110 eu110 => ?_)
  have h := h u110 eu110
  exact z_vret C hr u110 rfl h dX3_copyFrom_83
abbrev j_X3_takeAway (p : Program) (l : Launch) (e : Env) (s : State) (m : MethodId) (args : Array Value) (below : List Frame) (meth : Method) (c : Code) (g : zG) (A : Nat → Prop) (ad : Nat → Nat) (Q : RS → Prop) (u : RS) (pc : Nat) (lv : List (Nat × Value)) (st : List Value) : Prop := zJ p l e (zR 1 0 0) s m args below meth c g A 3 (zQv below args s g A 0 0 (wX3 g ad) Q) (wX3 g ad u) 0 0 pc lv st
def wp_X3_takeAway_64 (Q : RS → Prop) (u : RS) (t0 : Int32) : Prop :=
  ∀ u107 : RS, u107 = rN u 4 t0 → Q u107
set_option maxRecDepth 20000 in
theorem b_X3_takeAway_64 (C : zC p s m args meth c g A cX3_takeAway RX3 3) (hr : meth.sig.returnType = none) (ad : Nat → Nat) (Q : RS → Prop) (u : RS) (t0 : Int32) (h : wp_X3_takeAway_64 Q u t0) : j_X3_takeAway p l e s m args below meth c g A ad Q u 64 [(0, .ref (ad 0))] [.int t0, .ref (ad 0)] := by
  unfold wp_X3_takeAway_64 at h
  refine p3_since C dX3_takeAway_64 ?_
  refine sT3 (fun u107 eu107 => ?_)
  have h := h u107 eu107
  exact z_vret C hr u107 rfl h dX3_takeAway_67
def wp_X3_takeAway (u : RS) (x1 : Int32) (x2 : Int32) (Q : RS → Prop) : Prop :=
  ∀ u101 : RS, u101 = rN u 1 ((u.1 1 0) + 1) → ∀ u102 : RS, u102 = rN u101 5 ((u101.1 5 0) + x1) → ∀ u103 : RS, u103 = rN u102 0 ((u102.1 0 0) - x1) → zcp (4 * x1) 0 (4 * (u103.1 0 0)) 128 128 ∧ ∀ u105 : RS, u105 = rI u103 8 (va_cpy (u103.1 8) (u103.1 8) (zn (4 * x1)) (zn 0) (zn (4 * (u103.1 0 0)))) → ((u105.1 0 0 ≤ 0 → wp_X3_takeAway_64 Q u105 (-1)) ∧ (¬ u105.1 0 0 ≤ 0 → wp_X3_takeAway_64 Q u105 x2))
set_option maxRecDepth 20000 in
theorem c_X3_takeAway (l : Launch) (g : zG) (ad : Nat → Nat) (u : RS) (x1 : Int32) (x2 : Int32) (Q : RS → Prop) (h : wp_X3_takeAway u x1 x2 Q) : zMv l yX3_takeAway cX3_takeAway 3 none 1 0 0 g [.ref (ad 0), .int x1, .int x2] (wX3 g ad u) (wX3 g ad) Q := by
  refine zMv_of RX3 (by decide) rfl [(0, .ref (ad 0)), (1, .int x1), (2, .int x2)] rfl (Nat.le_of_ble_eq_true rfl) (fun p e s m args below meth c A C hr hnm => ?_)
  unfold wp_X3_takeAway at h
  refine z_aload_n C dX3_takeAway_0 rfl 0 rfl ?_
  refine z_dup C dX3_takeAway_1 rfl ?_
  refine g3_calls C dX3_takeAway_2 ?_
  refine z_iconst (v := 1) C dX3_takeAway_5 (by decide) ?_
  refine z_iadd C dX3_takeAway_6 ?_
  refine p3_calls C dX3_takeAway_7 ?_
  refine sT3 (fun u101 eu101 => ?_)
  have h := h u101 eu101
  refine z_aload_n C dX3_takeAway_10 rfl 0 rfl ?_
  refine z_dup C dX3_takeAway_11 rfl ?_
  refine g3_taken C dX3_takeAway_12 ?_
  refine z_iload_n C dX3_takeAway_15 rfl 1 rfl ?_
  refine z_iadd C dX3_takeAway_16 ?_
  refine p3_taken C dX3_takeAway_17 ?_
  refine sT3 (fun u102 eu102 => ?_)
  have h := h u102 eu102
  refine z_aload_n C dX3_takeAway_20 rfl 0 rfl ?_
  refine z_dup C dX3_takeAway_21 rfl ?_
  refine g3_number C dX3_takeAway_22 ?_
  refine z_iload_n C dX3_takeAway_25 rfl 1 rfl ?_
  refine z_isub C dX3_takeAway_26 ?_
  refine p3_number C dX3_takeAway_27 ?_
  refine sT3 (fun u103 eu103 => ?_)
  have h := h u103 eu103
  refine z_aload_n C dX3_takeAway_30 rfl 0 rfl ?_
  refine g3_cells C dX3_takeAway_31 ?_
  refine z_iconst (v := 4) C dX3_takeAway_34 (by decide) ?_
  refine z_iload_n C dX3_takeAway_35 rfl 1 rfl ?_
  refine z_imul C dX3_takeAway_36 ?_
  refine z_aload_n C dX3_takeAway_37 rfl 0 rfl ?_
  refine g3_cells C dX3_takeAway_38 ?_
  refine z_iconst (v := 0) C dX3_takeAway_41 (by decide) ?_
  refine z_iconst (v := 4) C dX3_takeAway_42 (by decide) ?_
  refine z_aload_n C dX3_takeAway_43 rfl 0 rfl ?_
  refine g3_number C dX3_takeAway_44 ?_
  refine z_imul C dX3_takeAway_47 ?_
  obtain ⟨hz104, h⟩ := h
  refine z_copyi C mj3_40 1 1 rfl rfl hz104 (Nat.le_of_ble_eq_true rfl) (Nat.le_of_ble_eq_true rfl) dX3_takeAway_48 (ws1 := wX3 g ad (rI u103 8 (va_cpy (u103.1 8) (u103.1 8) (zn (4 * x1)) (zn 0) (zn (4 * (u103.1 0 0)))))) rfl ?_
  refine sT3 (fun u105 eu105 => ?_)
  have h := h u105 eu105
  refine z_aload_n C dX3_takeAway_51 rfl 0 rfl ?_
  refine z_aload_n C dX3_takeAway_52 rfl 0 rfl ?_
  refine g3_number C dX3_takeAway_53 ?_
  refine z_if_le C dX3_takeAway_56 (tgt := 63) (by decide) (fun hc106 => ?_) (fun hc106 => ?_)
  · have h := h.1 hc106
    refine z_iconst (v := (-1)) C dX3_takeAway_63 (by decide) ?_
    refine z_lv (lv1 := [(0, .ref (ad 0))]) [0] rfl ?_
    exact b_X3_takeAway_64 C hr ad Q u105 (-1) h
  · have h := h.2 hc106
    refine z_iload_n C dX3_takeAway_59 rfl 2 rfl ?_
    refine z_goto C dX3_takeAway_60 (tgt := 64) (by decide) ?_
    refine z_lv (lv1 := [(0, .ref (ad 0))]) [0] rfl ?_
    exact b_X3_takeAway_64 C hr ad Q u105 x2 h
abbrev j_X3_learn (p : Program) (l : Launch) (e : Env) (s : State) (m : MethodId) (args : Array Value) (below : List Frame) (meth : Method) (c : Code) (g : zG) (A : Nat → Prop) (ad : Nat → Nat) (Q : RS → Prop) (u : RS) (pc : Nat) (lv : List (Nat × Value)) (st : List Value) : Prop := zJ p l e (zR 1 0 0) s m args below meth c g A 3 (zQv below args s g A 0 0 (wX3 g ad) Q) (wX3 g ad u) 0 0 pc lv st
def wp_X3_learn_42 (Q : RS → Prop) (u : RS) : Prop :=
  Q u
set_option maxRecDepth 20000 in
theorem b_X3_learn_42 (C : zC p s m args meth c g A cX3_learn RX3 3) (hr : meth.sig.returnType = none) (ad : Nat → Nat) (Q : RS → Prop) (u : RS) (h : wp_X3_learn_42 Q u) : j_X3_learn p l e s m args below meth c g A ad Q u 42 [(0, .ref (ad 0))] [] := by
  unfold wp_X3_learn_42 at h
  exact z_vret C hr u rfl h dX3_learn_42
def wp_X3_learn (u : RS) (x1 : Int32) (x2 : Int32) (Q : RS → Prop) : Prop :=
  ((x1 < x2 → ((2 < x1 → wp_X3_learn_42 Q u) ∧ (¬ 2 < x1 → ∀ u103 : RS, u103 = rN u 3 (zmax 1 ((u.1 3 0) / 2)) → wp_X3_learn_42 Q u103))) ∧ (¬ x1 < x2 → ∀ u104 : RS, u104 = rN u 3 (zmin 16 (2 * (u.1 3 0))) → wp_X3_learn_42 Q u104))
set_option maxRecDepth 20000 in
theorem c_X3_learn (l : Launch) (g : zG) (ad : Nat → Nat) (u : RS) (x1 : Int32) (x2 : Int32) (Q : RS → Prop) (h : wp_X3_learn u x1 x2 Q) : zMv l yX3_learn cX3_learn 3 none 1 0 0 g [.ref (ad 0), .int x1, .int x2] (wX3 g ad u) (wX3 g ad) Q := by
  refine zMv_of RX3 (by decide) rfl [(0, .ref (ad 0)), (1, .int x1), (2, .int x2)] rfl (Nat.le_of_ble_eq_true rfl) (fun p e s m args below meth c A C hr hnm => ?_)
  unfold wp_X3_learn at h
  refine z_iload_n C dX3_learn_0 rfl 1 rfl ?_
  refine z_iload_n C dX3_learn_1 rfl 2 rfl ?_
  refine z_icmp_lt C dX3_learn_2 (tgt := 23) (by decide) (fun hc101 => ?_) (fun hc101 => ?_)
  · have h := h.1 hc101
    refine z_iload_n C dX3_learn_23 rfl 1 rfl ?_
    refine z_iconst (v := 2) C dX3_learn_24 (by decide) ?_
    refine z_icmp_gt C dX3_learn_25 (tgt := 42) (by decide) (fun hc102 => ?_) (fun hc102 => ?_)
    · have h := h.1 hc102
      refine z_lv (lv1 := [(0, .ref (ad 0))]) [0] rfl ?_
      exact b_X3_learn_42 C hr ad Q u h
    · have h := h.2 hc102
      refine z_aload_n C dX3_learn_28 rfl 0 rfl ?_
      refine z_iconst (v := 1) C dX3_learn_29 (by decide) ?_
      refine z_aload_n C dX3_learn_30 rfl 0 rfl ?_
      refine g3_delay C dX3_learn_31 ?_
      refine z_iconst (v := 2) C dX3_learn_34 (by decide) ?_
      refine z_idiv C dX3_learn_35 (by decide) ?_
      refine z_mmax C mj3_52 (Nat.le_of_ble_eq_true rfl) (Nat.le_of_ble_eq_true rfl) ⟨Nat.zero_le _, Nat.zero_le _⟩ dX3_learn_36 ?_
      refine p3_delay C dX3_learn_39 ?_
      refine sT3 (fun u103 eu103 => ?_)
      have h := h u103 eu103
      refine z_lv (lv1 := [(0, .ref (ad 0))]) [0] rfl ?_
      exact b_X3_learn_42 C hr ad Q u103 h
  · have h := h.2 hc101
    refine z_aload_n C dX3_learn_5 rfl 0 rfl ?_
    refine z_bipush (v := 16) C dX3_learn_6 (by decide) ?_
    refine z_iconst (v := 2) C dX3_learn_8 (by decide) ?_
    refine z_aload_n C dX3_learn_9 rfl 0 rfl ?_
    refine g3_delay C dX3_learn_10 ?_
    refine z_imul C dX3_learn_13 ?_
    refine z_mmin C mj3_46 (Nat.le_of_ble_eq_true rfl) (Nat.le_of_ble_eq_true rfl) ⟨Nat.zero_le _, Nat.zero_le _⟩ dX3_learn_14 ?_
    refine p3_delay C dX3_learn_17 ?_
    refine sT3 (fun u104 eu104 => ?_)
    have h := h u104 eu104
    refine z_goto C dX3_learn_20 (tgt := 42) (by decide) ?_
    refine z_lv (lv1 := [(0, .ref (ad 0))]) [0] rfl ?_
    exact b_X3_learn_42 C hr ad Q u104 h
abbrev j_X4_copyFrom (p : Program) (l : Launch) (e : Env) (s : State) (m : MethodId) (args : Array Value) (below : List Frame) (meth : Method) (c : Code) (g : zG) (A : Nat → Prop) (ad bd : Nat → Nat) (v : RS) (Q : RS → Prop) (u : RS) (pc : Nat) (lv : List (Nat × Value)) (st : List Value) : Prop := zJ p l e (zR 1 0 0) s m args below meth c g A 2 (zQv below args s g A 0 0 (fun u => wX4 g ad u ++ wX4 g bd v) Q) (wX4 g ad u ++ wX4 g bd v) 0 0 pc lv st
def wp_X4_copyFrom (u : RS) (v : RS) (Q : RS → Prop) : Prop :=
  ∀ u101 : RS, u101 = rN u 0 (v.1 0 0) → ∀ u102 : RS, u102 = rN u101 2 (v.1 2 0) → zcp 0 0 7 7 7 ∧ ∀ u104 : RS, u104 = rL u102 1 (va_cpy (v.2 1) (u102.2 1) (zn 0) (zn 0) (zn 7)) → zcp 0 0 72 72 72 ∧ ∀ u106 : RS, u106 = rI u104 3 (va_cpy (v.1 3) (u104.1 3) (zn 0) (zn 0) (zn 72)) → Q u106
set_option maxRecDepth 20000 in
theorem c_X4_copyFrom (l : Launch) (g : zG) (ad bd : Nat → Nat) (v : RS) (u : RS) (Q : RS → Prop) (h : wp_X4_copyFrom u v Q) : zMv l yX4_copyFrom cX4_copyFrom 2 none 1 0 0 g [.ref (ad 0), .ref (bd 0)] (wX4 g ad u ++ wX4 g bd v) (fun u => wX4 g ad u ++ wX4 g bd v) Q := by
  refine zMv_of RX4 (by decide) rfl [(0, .ref (ad 0)), (1, .ref (bd 0))] rfl (Nat.le_of_ble_eq_true rfl) (fun p e s m args below meth c A C hr hnm => ?_)
  unfold wp_X4_copyFrom at h
  refine z_aload_n C dX4_copyFrom_0 rfl 0 rfl ?_
  refine z_aload_n C dX4_copyFrom_1 rfl 1 rfl ?_
  refine z_get (T := TX4) (N := 7) C inX4 (ci := 4) rfl 0 (by decide) fl4_28 6 rfl rfl dX4_copyFrom_2 ?_
  refine z_puti (T := TX4) (N := 7) C inX4 tyX4 tyX4_ok nmX4 (ci := 4) rfl 0 (by decide) fl4_28 rfl (by decide +kernel) 0 (fs := fX4 ad u) rfl (Nat.le_of_ble_eq_true rfl) dX4_copyFrom_5 (ws1 := wX4 g ad (rN u 0 (v.1 0 0)) ++ wX4 g bd v) rfl ?_
  refine sTw4 (fun u101 eu101 => ?_)
  have h := h u101 eu101
  refine z_aload_n C dX4_copyFrom_8 rfl 0 rfl ?_
  refine z_aload_n C dX4_copyFrom_9 rfl 1 rfl ?_
  refine z_get (T := TX4) (N := 7) C inX4 (ci := 4) rfl 2 (by decide) fl4_32 6 rfl rfl dX4_copyFrom_10 ?_
  refine z_puti (T := TX4) (N := 7) C inX4 tyX4 tyX4_ok nmX4 (ci := 4) rfl 2 (by decide) fl4_32 rfl (by decide +kernel) 0 (fs := fX4 ad u101) rfl (Nat.le_of_ble_eq_true rfl) dX4_copyFrom_13 (ws1 := wX4 g ad (rN u101 2 (v.1 2 0)) ++ wX4 g bd v) rfl ?_
  refine sTw4 (fun u102 eu102 => ?_)
  have h := h u102 eu102
  refine z_aload_n C dX4_copyFrom_16 rfl 1 rfl ?_
  refine z_get (T := TX4) (N := 7) C inX4 (ci := 4) rfl 1 (by decide) fl4_11 6 rfl rfl dX4_copyFrom_17 ?_
  refine z_iconst (v := 0) C dX4_copyFrom_20 (by decide) ?_
  refine z_aload_n C dX4_copyFrom_21 rfl 0 rfl ?_
  refine z_get (T := TX4) (N := 7) C inX4 (ci := 4) rfl 1 (by decide) fl4_11 0 rfl rfl dX4_copyFrom_22 ?_
  refine z_iconst (v := 0) C dX4_copyFrom_25 (by decide) ?_
  refine z_bipush (v := 7) C dX4_copyFrom_26 (by decide) ?_
  obtain ⟨hz103, h⟩ := h
  refine z_copyl C mj4_35 7 1 rfl rfl hz103 (Nat.le_of_ble_eq_true rfl) (Nat.le_of_ble_eq_true rfl) dX4_copyFrom_28 (ws1 := wX4 g ad (rL u102 1 (va_cpy (v.2 1) (u102.2 1) (zn 0) (zn 0) (zn 7))) ++ wX4 g bd v) rfl ?_
  refine sTw4 (fun u104 eu104 => ?_)
  have h := h u104 eu104
  refine z_aload_n C dX4_copyFrom_31 rfl 1 rfl ?_
  refine z_get (T := TX4) (N := 7) C inX4 (ci := 4) rfl 3 (by decide) fl4_15 6 rfl rfl dX4_copyFrom_32 ?_
  refine z_iconst (v := 0) C dX4_copyFrom_35 (by decide) ?_
  refine z_aload_n C dX4_copyFrom_36 rfl 0 rfl ?_
  refine z_get (T := TX4) (N := 7) C inX4 (ci := 4) rfl 3 (by decide) fl4_15 0 rfl rfl dX4_copyFrom_37 ?_
  refine z_iconst (v := 0) C dX4_copyFrom_40 (by decide) ?_
  refine z_aload_n C dX4_copyFrom_41 rfl 0 rfl ?_
  refine z_get (T := TX4) (N := 7) C inX4 (ci := 4) rfl 3 (by decide) fl4_15 0 rfl rfl dX4_copyFrom_42 ?_
  refine z_alen C 2 rfl (v := 72) (by decide) dX4_copyFrom_45 ?_
  obtain ⟨hz105, h⟩ := h
  refine z_copyi C mj4_35 8 2 rfl rfl hz105 (Nat.le_of_ble_eq_true rfl) (Nat.le_of_ble_eq_true rfl) dX4_copyFrom_46 (ws1 := wX4 g ad (rI u104 3 (va_cpy (v.1 3) (u104.1 3) (zn 0) (zn 0) (zn 72))) ++ wX4 g bd v) rfl ?_
  refine sTw4 (fun u106 eu106 => ?_)
  have h := h u106 eu106
  exact z_vret C hr u106 rfl h dX4_copyFrom_49
abbrev j_X4_fits (p : Program) (l : Launch) (e : Env) (s : State) (m : MethodId) (args : Array Value) (below : List Frame) (meth : Method) (c : Code) (g : zG) (A : Nat → Prop) (ad : Nat → Nat) (Q : Int32 → RS → Prop) (u : RS) (pc : Nat) (lv : List (Nat × Value)) (st : List Value) : Prop := zJ p l e (zR 1 0 0) s m args below meth c g A 5 (zQi below args s g A 0 0 (wX4 g ad) Q) (wX4 g ad u) 0 0 pc lv st
def wp_X4_fits_35 (Q : Int32 → RS → Prop) (u : RS) (t0 : Int32) : Prop :=
  (zBool t0 ∧ Q t0 u)
set_option maxRecDepth 20000 in
theorem b_X4_fits_35 (C : zC p s m args meth c g A cX4_fits RX4 5) (hr : meth.sig.returnType = (some .boolean)) (ad : Nat → Nat) (Q : Int32 → RS → Prop) (u : RS) (t0 : Int32) (h : wp_X4_fits_35 Q u t0) : j_X4_fits p l e s m args below meth c g A ad Q u 35 [(0, .ref (ad 0))] [.int t0] := by
  unfold wp_X4_fits_35 at h
  exact z_zret C hr u rfl h.1 h.2 dX4_fits_35
def wp_X4_fits_34 (Q : Int32 → RS → Prop) (u : RS) : Prop :=
  wp_X4_fits_35 Q u 0
set_option maxRecDepth 20000 in
theorem b_X4_fits_34 (C : zC p s m args meth c g A cX4_fits RX4 5) (hr : meth.sig.returnType = (some .boolean)) (ad : Nat → Nat) (Q : Int32 → RS → Prop) (u : RS) (h : wp_X4_fits_34 Q u) : j_X4_fits p l e s m args below meth c g A ad Q u 34 [(0, .ref (ad 0))] [] := by
  unfold wp_X4_fits_34 at h
  refine z_iconst (v := 0) C dX4_fits_34 (by decide) ?_
  exact b_X4_fits_35 C hr ad Q u 0 h
def wp_X4_fits (u : RS) (x1 : Int32) (x2 : Int32) (x3 : Int32) (x4 : Int32) (Q : Int32 → RS → Prop) : Prop :=
  wp_X4_isOpen u x1 (fun r101 u102 => ((r101 = 0 → wp_X4_fits_34 Q u102) ∧ (¬ r101 = 0 → wp_X4_endOf u102 x1 (fun r104 u105 => ((¬ r104 = x2 → wp_X4_fits_34 Q u105) ∧ (r104 = x2 → vp_in x1 24 ∧ ((x4 < (u105.1 5 (zn x1)) + x3 → wp_X4_fits_34 Q u105) ∧ (¬ x4 < (u105.1 5 (zn x1)) + x3 → wp_X4_fits_35 Q u105 1))))))))
set_option maxRecDepth 20000 in
theorem c_X4_fits (l : Launch) (g : zG) (ad : Nat → Nat) (u : RS) (x1 : Int32) (x2 : Int32) (x3 : Int32) (x4 : Int32) (Q : Int32 → RS → Prop) (h : wp_X4_fits u x1 x2 x3 x4 Q) : zMi l yX4_fits cX4_fits 5 (some .boolean) 1 0 0 g [.ref (ad 0), .int x1, .int x2, .int x3, .int x4] (wX4 g ad u) (wX4 g ad) Q := by
  refine zMi_of RX4 (by decide) rfl [(0, .ref (ad 0)), (1, .int x1), (2, .int x2), (3, .int x3), (4, .int x4)] rfl (Nat.le_of_ble_eq_true rfl) (fun p e s m args below meth c A C hr hnm => ?_)
  unfold wp_X4_fits at h
  refine z_aload_n C dX4_fits_0 rfl 0 rfl ?_
  refine z_iload_n C dX4_fits_1 rfl 1 rfl ?_
  refine c4i (As := [.int x1]) C (c_X4_isOpen l g ad u x1 _ h) v_X4_isOpen ml4_41 rfl ⟨Nat.le_of_ble_eq_true rfl, Nat.le_of_ble_eq_true rfl⟩ ⟨Nat.zero_le _, Nat.zero_le _⟩ (Nat.le_of_ble_eq_true rfl) rfl dX4_fits_2 ?_
  intro r101 u102 h
  refine z_if_eq C dX4_fits_5 (tgt := 34) (by decide) (fun hc103 => ?_) (fun hc103 => ?_)
  · have h := h.1 hc103
    refine z_lv (lv1 := [(0, .ref (ad 0))]) [0] rfl ?_
    exact b_X4_fits_34 C hr ad Q u102 h
  · have h := h.2 hc103
    refine z_aload_n C dX4_fits_8 rfl 0 rfl ?_
    refine z_iload_n C dX4_fits_9 rfl 1 rfl ?_
    refine c4i (As := [.int x1]) C (c_X4_endOf l g ad u102 x1 _ h) v_X4_endOf ml4_45 rfl ⟨Nat.le_of_ble_eq_true rfl, Nat.le_of_ble_eq_true rfl⟩ ⟨Nat.zero_le _, Nat.zero_le _⟩ (Nat.le_of_ble_eq_true rfl) rfl dX4_fits_10 ?_
    intro r104 u105 h
    refine z_iload_n C dX4_fits_13 rfl 2 rfl ?_
    refine z_icmp_ne C dX4_fits_14 (tgt := 34) (by decide) (fun hc106 => ?_) (fun hc106 => ?_)
    · have h := h.1 hc106
      refine z_lv (lv1 := [(0, .ref (ad 0))]) [0] rfl ?_
      exact b_X4_fits_34 C hr ad Q u105 h
    · have h := h.2 hc106
      refine z_aload_n C dX4_fits_17 rfl 0 rfl ?_
      refine g4_size C dX4_fits_18 ?_
      refine z_iload_n C dX4_fits_21 rfl 1 rfl ?_
      obtain ⟨hi107, h⟩ := h
      refine l4_size C hi107 dX4_fits_22 ?_
      refine z_iload_n C dX4_fits_23 rfl 3 rfl ?_
      refine z_iadd C dX4_fits_24 ?_
      refine z_iload C dX4_fits_25 4 rfl ?_
      refine z_icmp_gt C dX4_fits_27 (tgt := 34) (by decide) (fun hc108 => ?_) (fun hc108 => ?_)
      · have h := h.1 hc108
        refine z_lv (lv1 := [(0, .ref (ad 0))]) [0] rfl ?_
        exact b_X4_fits_34 C hr ad Q u105 h
      · have h := h.2 hc108
        refine z_iconst (v := 1) C dX4_fits_30 (by decide) ?_
        refine z_goto C dX4_fits_31 (tgt := 35) (by decide) ?_
        refine z_lv (lv1 := [(0, .ref (ad 0))]) [0] rfl ?_
        exact b_X4_fits_35 C hr ad Q u105 1 h
abbrev j_X4_close (p : Program) (l : Launch) (e : Env) (s : State) (m : MethodId) (args : Array Value) (below : List Frame) (meth : Method) (c : Code) (g : zG) (A : Nat → Prop) (ad : Nat → Nat) (Q : RS → Prop) (u : RS) (pc : Nat) (lv : List (Nat × Value)) (st : List Value) : Prop := zJ p l e (zR 1 0 0) s m args below meth c g A 8 (zQv below args s g A 0 0 (wX4 g ad) Q) (wX4 g ad u) 0 0 pc lv st
def wp_X4_close_212 (Q : RS → Prop) (u : RS) (x1 : Int32) (x4 : Int32) (x5 : Int32) (x6 : Int32) (t0 : Int64) (t1 : Int64) (t2 : Int32) : Prop :=
  vp_in t2 7 ∧ ∀ u131 : RS, u131 = rL u 1 (vp_updL (u.2 1) (zn t2) (t1 + t0)) → ∀ u132 : RS, u132 = rL u131 1 (vp_updL (u131.2 1) 4 ((u131.2 1 4) + ((x4).toInt64))) → ∀ u133 : RS, u133 = rL u132 1 (vp_updL (u132.2 1) 5 ((u132.2 1 5) + ((x5).toInt64))) → ∀ u134 : RS, u134 = rL u133 1 (vp_updL (u133.2 1) 6 ((u133.2 1 6) + ((x6).toInt64))) → vp_in x1 24 ∧ ∀ u136 : RS, u136 = rI u134 6 (upd (u134.1 6) (zn x1) 0) → Q u136
set_option maxRecDepth 20000 in
theorem b_X4_close_212 (C : zC p s m args meth c g A cX4_close RX4 8) (hr : meth.sig.returnType = none) (ad : Nat → Nat) (Q : RS → Prop) (u : RS) (x1 : Int32) (x4 : Int32) (x5 : Int32) (x6 : Int32) (t0 : Int64) (t1 : Int64) (t2 : Int32) (h : wp_X4_close_212 Q u x1 x4 x5 x6 t0 t1 t2) : j_X4_close p l e s m args below meth c g A ad Q u 212 [(0, .ref (ad 0)), (1, .int x1), (4, .int x4), (5, .int x5), (6, .int x6)] [.long t0, .long t1, .int t2, .ref (ad 1)] := by
  unfold wp_X4_close_212 at h
  refine z_ladd C dX4_close_212 ?_
  obtain ⟨hi130, h⟩ := h
  refine s4_totals C hi130 dX4_close_213 ?_
  refine sT4 (fun u131 eu131 => ?_)
  have h := h u131 eu131
  refine z_aload_n C dX4_close_214 rfl 0 rfl ?_
  refine g4_totals C dX4_close_215 ?_
  refine z_iconst (v := 4) C dX4_close_218 (by decide) ?_
  refine z_dup2 C dX4_close_219 rfl rfl ?_
  refine ln4_totals C 4 (by decide +kernel) (vp_in_iff.mpr (by decide +kernel)) dX4_close_220 ?_
  refine z_iload C dX4_close_221 2 rfl ?_
  refine z_i2l C dX4_close_223 ?_
  refine z_ladd C dX4_close_224 ?_
  refine sn4_totals C 4 (by decide +kernel) (vp_in_iff.mpr (by decide +kernel)) dX4_close_225 ?_
  refine sT4 (fun u132 eu132 => ?_)
  have h := h u132 eu132
  refine z_aload_n C dX4_close_226 rfl 0 rfl ?_
  refine g4_totals C dX4_close_227 ?_
  refine z_iconst (v := 5) C dX4_close_230 (by decide) ?_
  refine z_dup2 C dX4_close_231 rfl rfl ?_
  refine ln4_totals C 5 (by decide +kernel) (vp_in_iff.mpr (by decide +kernel)) dX4_close_232 ?_
  refine z_iload C dX4_close_233 3 rfl ?_
  refine z_i2l C dX4_close_235 ?_
  refine z_ladd C dX4_close_236 ?_
  refine sn4_totals C 5 (by decide +kernel) (vp_in_iff.mpr (by decide +kernel)) dX4_close_237 ?_
  refine sT4 (fun u133 eu133 => ?_)
  have h := h u133 eu133
  refine z_aload_n C dX4_close_238 rfl 0 rfl ?_
  refine g4_totals C dX4_close_239 ?_
  refine z_bipush (v := 6) C dX4_close_242 (by decide) ?_
  refine z_dup2 C dX4_close_244 rfl rfl ?_
  refine ln4_totals C 6 (by decide +kernel) (vp_in_iff.mpr (by decide +kernel)) dX4_close_245 ?_
  refine z_iload C dX4_close_246 4 rfl ?_
  refine z_i2l C dX4_close_248 ?_
  refine z_ladd C dX4_close_249 ?_
  refine sn4_totals C 6 (by decide +kernel) (vp_in_iff.mpr (by decide +kernel)) dX4_close_250 ?_
  refine sT4 (fun u134 eu134 => ?_)
  have h := h u134 eu134
  refine z_aload_n C dX4_close_251 rfl 0 rfl ?_
  refine g4_packets C dX4_close_252 ?_
  refine z_iload_n C dX4_close_255 rfl 1 rfl ?_
  refine z_iconst (v := 0) C dX4_close_256 (by decide) ?_
  obtain ⟨hi135, h⟩ := h
  refine s4_packets C hi135 dX4_close_257 ?_
  refine sT4 (fun u136 eu136 => ?_)
  have h := h u136 eu136
  exact z_vret C hr u136 rfl h dX4_close_258
def wp_X4_close_39 (Q : RS → Prop) (u : RS) (x1 : Int32) (x4 : Int32) (x5 : Int32) (t0 : Int32) : Prop :=
  ∀ u106 : RS, u106 = rN u 2 (((u.1 2 0) + 1) - ((u.1 2 0) + 1) / 12 * 12) → ∀ u107 : RS, u107 = rN u106 0 (zmin 12 ((u106.1 0 0) + 1)) → ∀ x108 : Int32, x108 = 6 * (u107.1 2 0) → vp_in x108 72 ∧ ∀ u110 : RS, u110 = rI u107 3 (upd (u107.1 3) (zn x108) x1) → vp_in x1 24 ∧ vp_in (x108 + 1) 72 ∧ ∀ u113 : RS, u113 = rI u110 3 (upd (u110.1 3) (zn (x108 + 1)) (u110.1 4 (zn x1))) → vp_in x1 24 ∧ vp_in (x108 + 2) 72 ∧ ∀ u116 : RS, u116 = rI u113 3 (upd (u113.1 3) (zn (x108 + 2)) (u113.1 5 (zn x1))) → vp_in x1 24 ∧ vp_in (x108 + 3) 72 ∧ ∀ u119 : RS, u119 = rI u116 3 (upd (u116.1 3) (zn (x108 + 3)) (u116.1 6 (zn x1))) → vp_in (x108 + 4) 72 ∧ ∀ u121 : RS, u121 = rI u119 3 (upd (u119.1 3) (zn (x108 + 4)) t0) → vp_in (x108 + 5) 72 ∧ ∀ u123 : RS, u123 = rI u121 3 (upd (u121.1 3) (zn (x108 + 5)) x4) → ∀ u124 : RS, u124 = rL u123 1 (vp_updL (u123.2 1) 0 ((u123.2 1 0) + 1)) → vp_in x1 24 ∧ ∀ u126 : RS, u126 = rL u124 1 (vp_updL (u124.2 1) 1 ((u124.2 1 1) + ((u124.1 6 (zn x1)).toInt64))) → vp_in x1 24 ∧ ∀ u128 : RS, u128 = rL u126 1 (vp_updL (u126.2 1) 2 ((u126.2 1 2) + ((u126.1 5 (zn x1)).toInt64))) → ((x4 ≤ 0 → wp_X4_close_212 Q u128 x1 x4 x5 t0 0 (u128.2 1 3) 3) ∧ (¬ x4 ≤ 0 → wp_X4_close_212 Q u128 x1 x4 x5 t0 1 (u128.2 1 3) 3))
set_option maxRecDepth 20000 in
theorem b_X4_close_39 (C : zC p s m args meth c g A cX4_close RX4 8) (hr : meth.sig.returnType = none) (ad : Nat → Nat) (Q : RS → Prop) (u : RS) (x1 : Int32) (x4 : Int32) (x5 : Int32) (t0 : Int32) (h : wp_X4_close_39 Q u x1 x4 x5 t0) : j_X4_close p l e s m args below meth c g A ad Q u 39 [(0, .ref (ad 0)), (1, .int x1), (4, .int x4), (5, .int x5)] [.int t0] := by
  unfold wp_X4_close_39 at h
  refine z_istore (lv1 := [(6, .int t0), (0, .ref (ad 0)), (1, .int x1), (4, .int x4), (5, .int x5)]) C dX4_close_39 (by decide) rfl ?_
  refine z_aload_n C dX4_close_41 rfl 1 rfl ?_
  refine z_aload_n C dX4_close_42 rfl 1 rfl ?_
  refine g4_latest C dX4_close_43 ?_
  refine z_iconst (v := 1) C dX4_close_46 (by decide) ?_
  refine z_iadd C dX4_close_47 ?_
  refine z_bipush (v := 12) C dX4_close_48 (by decide) ?_
  refine z_irem C dX4_close_50 (by decide) ?_
  refine p4_latest C dX4_close_51 ?_
  refine sT4 (fun u106 eu106 => ?_)
  have h := h u106 eu106
  refine z_aload_n C dX4_close_54 rfl 1 rfl ?_
  refine z_bipush (v := 12) C dX4_close_55 (by decide) ?_
  refine z_aload_n C dX4_close_57 rfl 1 rfl ?_
  refine g4_kept C dX4_close_58 ?_
  refine z_iconst (v := 1) C dX4_close_61 (by decide) ?_
  refine z_iadd C dX4_close_62 ?_
  refine z_mmin C mj4_49 (Nat.le_of_ble_eq_true rfl) (Nat.le_of_ble_eq_true rfl) ⟨Nat.zero_le _, Nat.zero_le _⟩ dX4_close_63 ?_
  refine p4_kept C dX4_close_66 ?_
  refine sT4 (fun u107 eu107 => ?_)
  have h := h u107 eu107
  refine z_bipush (v := 6) C dX4_close_69 (by decide) ?_
  refine z_aload_n C dX4_close_71 rfl 1 rfl ?_
  refine g4_latest C dX4_close_72 ?_
  refine z_imul C dX4_close_75 ?_
  refine z_topi (fun x108 ex108 => ?_)
  have h := h x108 ex108
  refine z_istore (lv1 := [(7, .int x108), (6, .int t0), (0, .ref (ad 0)), (1, .int x1), (4, .int x4), (5, .int x5)]) C dX4_close_76 (by decide) rfl ?_
  refine z_aload_n C dX4_close_78 rfl 2 rfl ?_
  refine g4_last C dX4_close_79 ?_
  refine z_iload C dX4_close_82 0 rfl ?_
  refine z_iload_n C dX4_close_84 rfl 3 rfl ?_
  obtain ⟨hi109, h⟩ := h
  refine s4_last C hi109 dX4_close_85 ?_
  refine sT4 (fun u110 eu110 => ?_)
  have h := h u110 eu110
  refine z_aload_n C dX4_close_86 rfl 2 rfl ?_
  refine g4_last C dX4_close_87 ?_
  refine z_iload C dX4_close_90 0 rfl ?_
  refine z_iconst (v := 1) C dX4_close_92 (by decide) ?_
  refine z_iadd C dX4_close_93 ?_
  refine z_aload_n C dX4_close_94 rfl 2 rfl ?_
  refine g4_place C dX4_close_95 ?_
  refine z_iload_n C dX4_close_98 rfl 3 rfl ?_
  obtain ⟨hi111, h⟩ := h
  refine l4_place C hi111 dX4_close_99 ?_
  obtain ⟨hi112, h⟩ := h
  refine s4_last C hi112 dX4_close_100 ?_
  refine sT4 (fun u113 eu113 => ?_)
  have h := h u113 eu113
  refine z_aload_n C dX4_close_101 rfl 2 rfl ?_
  refine g4_last C dX4_close_102 ?_
  refine z_iload C dX4_close_105 0 rfl ?_
  refine z_iconst (v := 2) C dX4_close_107 (by decide) ?_
  refine z_iadd C dX4_close_108 ?_
  refine z_aload_n C dX4_close_109 rfl 2 rfl ?_
  refine g4_size C dX4_close_110 ?_
  refine z_iload_n C dX4_close_113 rfl 3 rfl ?_
  obtain ⟨hi114, h⟩ := h
  refine l4_size C hi114 dX4_close_114 ?_
  obtain ⟨hi115, h⟩ := h
  refine s4_last C hi115 dX4_close_115 ?_
  refine sT4 (fun u116 eu116 => ?_)
  have h := h u116 eu116
  refine z_aload_n C dX4_close_116 rfl 2 rfl ?_
  refine g4_last C dX4_close_117 ?_
  refine z_iload C dX4_close_120 0 rfl ?_
  refine z_iconst (v := 3) C dX4_close_122 (by decide) ?_
  refine z_iadd C dX4_close_123 ?_
  refine z_aload_n C dX4_close_124 rfl 2 rfl ?_
  refine g4_packets C dX4_close_125 ?_
  refine z_iload_n C dX4_close_128 rfl 3 rfl ?_
  obtain ⟨hi117, h⟩ := h
  refine l4_packets C hi117 dX4_close_129 ?_
  obtain ⟨hi118, h⟩ := h
  refine s4_last C hi118 dX4_close_130 ?_
  refine sT4 (fun u119 eu119 => ?_)
  have h := h u119 eu119
  refine z_aload_n C dX4_close_131 rfl 2 rfl ?_
  refine g4_last C dX4_close_132 ?_
  refine z_iload C dX4_close_135 0 rfl ?_
  refine z_iconst (v := 4) C dX4_close_137 (by decide) ?_
  refine z_iadd C dX4_close_138 ?_
  refine z_iload C dX4_close_139 1 rfl ?_
  obtain ⟨hi120, h⟩ := h
  refine s4_last C hi120 dX4_close_141 ?_
  refine sT4 (fun u121 eu121 => ?_)
  have h := h u121 eu121
  refine z_aload_n C dX4_close_142 rfl 2 rfl ?_
  refine g4_last C dX4_close_143 ?_
  refine z_iload C dX4_close_146 0 rfl ?_
  refine z_iconst (v := 5) C dX4_close_148 (by decide) ?_
  refine z_iadd C dX4_close_149 ?_
  refine z_iload C dX4_close_150 4 rfl ?_
  obtain ⟨hi122, h⟩ := h
  refine s4_last C hi122 dX4_close_152 ?_
  refine sT4 (fun u123 eu123 => ?_)
  have h := h u123 eu123
  refine z_aload_n C dX4_close_153 rfl 2 rfl ?_
  refine g4_totals C dX4_close_154 ?_
  refine z_iconst (v := 0) C dX4_close_157 (by decide) ?_
  refine z_dup2 C dX4_close_158 rfl rfl ?_
  refine ln4_totals C 0 (by decide +kernel) (vp_in_iff.mpr (by decide +kernel)) dX4_close_159 ?_
  refine z_lconst (v := 1) C dX4_close_160 (by decide) ?_
  refine z_ladd C dX4_close_161 ?_
  refine sn4_totals C 0 (by decide +kernel) (vp_in_iff.mpr (by decide +kernel)) dX4_close_162 ?_
  refine sT4 (fun u124 eu124 => ?_)
  have h := h u124 eu124
  refine z_aload_n C dX4_close_163 rfl 2 rfl ?_
  refine g4_totals C dX4_close_164 ?_
  refine z_iconst (v := 1) C dX4_close_167 (by decide) ?_
  refine z_dup2 C dX4_close_168 rfl rfl ?_
  refine ln4_totals C 1 (by decide +kernel) (vp_in_iff.mpr (by decide +kernel)) dX4_close_169 ?_
  refine z_aload_n C dX4_close_170 rfl 2 rfl ?_
  refine g4_packets C dX4_close_171 ?_
  refine z_iload_n C dX4_close_174 rfl 3 rfl ?_
  obtain ⟨hi125, h⟩ := h
  refine l4_packets C hi125 dX4_close_175 ?_
  refine z_i2l C dX4_close_176 ?_
  refine z_ladd C dX4_close_177 ?_
  refine sn4_totals C 1 (by decide +kernel) (vp_in_iff.mpr (by decide +kernel)) dX4_close_178 ?_
  refine sT4 (fun u126 eu126 => ?_)
  have h := h u126 eu126
  refine z_aload_n C dX4_close_179 rfl 2 rfl ?_
  refine g4_totals C dX4_close_180 ?_
  refine z_iconst (v := 2) C dX4_close_183 (by decide) ?_
  refine z_dup2 C dX4_close_184 rfl rfl ?_
  refine ln4_totals C 2 (by decide +kernel) (vp_in_iff.mpr (by decide +kernel)) dX4_close_185 ?_
  refine z_aload_n C dX4_close_186 rfl 2 rfl ?_
  refine g4_size C dX4_close_187 ?_
  refine z_iload_n C dX4_close_190 rfl 3 rfl ?_
  obtain ⟨hi127, h⟩ := h
  refine l4_size C hi127 dX4_close_191 ?_
  refine z_i2l C dX4_close_192 ?_
  refine z_ladd C dX4_close_193 ?_
  refine sn4_totals C 2 (by decide +kernel) (vp_in_iff.mpr (by decide +kernel)) dX4_close_194 ?_
  refine sT4 (fun u128 eu128 => ?_)
  have h := h u128 eu128
  refine z_aload_n C dX4_close_195 rfl 2 rfl ?_
  refine g4_totals C dX4_close_196 ?_
  refine z_iconst (v := 3) C dX4_close_199 (by decide) ?_
  refine z_dup2 C dX4_close_200 rfl rfl ?_
  refine ln4_totals C 3 (by decide +kernel) (vp_in_iff.mpr (by decide +kernel)) dX4_close_201 ?_
  refine z_iload C dX4_close_202 4 rfl ?_
  refine z_if_le C dX4_close_204 (tgt := 211) (by decide) (fun hc129 => ?_) (fun hc129 => ?_)
  · have h := h.1 hc129
    refine z_lconst (v := 0) C dX4_close_211 (by decide) ?_
    refine z_lv (lv1 := [(0, .ref (ad 0)), (1, .int x1), (4, .int x4), (5, .int x5), (6, .int t0)]) [2, 3, 4, 5, 1] rfl ?_
    exact b_X4_close_212 C hr ad Q u128 x1 x4 x5 t0 0 (u128.2 1 3) 3 h
  · have h := h.2 hc129
    refine z_lconst (v := 1) C dX4_close_207 (by decide) ?_
    refine z_goto C dX4_close_208 (tgt := 212) (by decide) ?_
    refine z_lv (lv1 := [(0, .ref (ad 0)), (1, .int x1), (4, .int x4), (5, .int x5), (6, .int t0)]) [2, 3, 4, 5, 1] rfl ?_
    exact b_X4_close_212 C hr ad Q u128 x1 x4 x5 t0 1 (u128.2 1 3) 3 h
def wp_X4_close (u : RS) (x1 : Int32) (x2 : Int32) (x3 : Int32) (Q : RS → Prop) : Prop :=
  vp_in x1 24 ∧ ∀ x102 : Int32, x102 = zmin x2 (u.1 5 (zn x1)) → vp_in x1 24 ∧ ∀ x104 : Int32, x104 = (u.1 5 (zn x1)) - x102 → ((x3 ≤ 0 → wp_X4_close_39 Q u x1 x102 x104 0) ∧ (¬ x3 ≤ 0 → ¬ x3 = 0 ∧ wp_X4_close_39 Q u x1 x102 x104 (((x104 + x3) - 1) / x3)))
set_option maxRecDepth 20000 in
theorem c_X4_close (l : Launch) (g : zG) (ad : Nat → Nat) (u : RS) (x1 : Int32) (x2 : Int32) (x3 : Int32) (Q : RS → Prop) (h : wp_X4_close u x1 x2 x3 Q) : zMv l yX4_close cX4_close 8 none 1 0 0 g [.ref (ad 0), .int x1, .int x2, .int x3] (wX4 g ad u) (wX4 g ad) Q := by
  refine zMv_of RX4 (by decide) rfl [(0, .ref (ad 0)), (1, .int x1), (2, .int x2), (3, .int x3)] rfl (Nat.le_of_ble_eq_true rfl) (fun p e s m args below meth c A C hr hnm => ?_)
  unfold wp_X4_close at h
  refine z_iload_n C dX4_close_0 rfl 2 rfl ?_
  refine z_aload_n C dX4_close_1 rfl 0 rfl ?_
  refine g4_size C dX4_close_2 ?_
  refine z_iload_n C dX4_close_5 rfl 1 rfl ?_
  obtain ⟨hi101, h⟩ := h
  refine l4_size C hi101 dX4_close_6 ?_
  refine z_mmin C mj4_49 (Nat.le_of_ble_eq_true rfl) (Nat.le_of_ble_eq_true rfl) ⟨Nat.zero_le _, Nat.zero_le _⟩ dX4_close_7 ?_
  refine z_topi (fun x102 ex102 => ?_)
  have h := h x102 ex102
  refine z_istore (lv1 := [(4, .int x102), (0, .ref (ad 0)), (1, .int x1), (2, .int x2), (3, .int x3)]) C dX4_close_10 (by decide) rfl ?_
  refine z_aload_n C dX4_close_12 rfl 1 rfl ?_
  refine g4_size C dX4_close_13 ?_
  refine z_iload_n C dX4_close_16 rfl 2 rfl ?_
  obtain ⟨hi103, h⟩ := h
  refine l4_size C hi103 dX4_close_17 ?_
  refine z_iload C dX4_close_18 0 rfl ?_
  refine z_isub C dX4_close_20 ?_
  refine z_topi (fun x104 ex104 => ?_)
  have h := h x104 ex104
  refine z_istore (lv1 := [(5, .int x104), (4, .int x102), (0, .ref (ad 0)), (1, .int x1), (2, .int x2), (3, .int x3)]) C dX4_close_21 (by decide) rfl ?_
  refine z_iload_n C dX4_close_23 rfl 5 rfl ?_
  refine z_if_le C dX4_close_24 (tgt := 38) (by decide) (fun hc105 => ?_) (fun hc105 => ?_)
  · have h := h.1 hc105
    refine z_iconst (v := 0) C dX4_close_38 (by decide) ?_
    refine z_lv (lv1 := [(0, .ref (ad 0)), (1, .int x1), (4, .int x102), (5, .int x104)]) [2, 3, 1, 0] rfl ?_
    exact b_X4_close_39 C hr ad Q u x1 x102 x104 0 h
  · have h := h.2 hc105
    refine z_iload C dX4_close_27 0 rfl ?_
    refine z_iload_n C dX4_close_29 rfl 5 rfl ?_
    refine z_iadd C dX4_close_30 ?_
    refine z_iconst (v := 1) C dX4_close_31 (by decide) ?_
    refine z_isub C dX4_close_32 ?_
    refine z_iload_n C dX4_close_33 rfl 5 rfl ?_
    obtain ⟨hy137, h⟩ := h
    refine z_idiv C dX4_close_34 hy137 ?_
    refine z_goto C dX4_close_35 (tgt := 39) (by decide) ?_
    refine z_lv (lv1 := [(0, .ref (ad 0)), (1, .int x1), (4, .int x102), (5, .int x104)]) [2, 3, 1, 0] rfl ?_
    exact b_X4_close_39 C hr ad Q u x1 x102 x104 (((x104 + x3) - 1) / x3) h
abbrev j_X6_copyFrom (p : Program) (l : Launch) (e : Env) (s : State) (m : MethodId) (args : Array Value) (below : List Frame) (meth : Method) (c : Code) (g : zG) (A : Nat → Prop) (ad bd : Nat → Nat) (v : RS) (Q : RS → Prop) (u : RS) (pc : Nat) (lv : List (Nat × Value)) (st : List Value) : Prop := zJ p l e (zR 1 0 0) s m args below meth c g A 2 (zQv below args s g A 0 0 (fun u => wX6 g ad u ++ wX6 g bd v) Q) (wX6 g ad u ++ wX6 g bd v) 0 0 pc lv st
def wp_X6_copyFrom (u : RS) (v : RS) (Q : RS → Prop) : Prop :=
  zcp 0 0 16 16 16 ∧ ∀ u102 : RS, u102 = rI u 0 (va_cpy (v.1 0) (u.1 0) (zn 0) (zn 0) (zn 16)) → zcp 0 0 16 16 16 ∧ ∀ u104 : RS, u104 = rI u102 1 (va_cpy (v.1 1) (u102.1 1) (zn 0) (zn 0) (zn 16)) → Q u104
set_option maxRecDepth 20000 in
theorem c_X6_copyFrom (l : Launch) (g : zG) (ad bd : Nat → Nat) (v : RS) (u : RS) (Q : RS → Prop) (h : wp_X6_copyFrom u v Q) : zMv l yX6_copyFrom cX6_copyFrom 2 none 1 0 0 g [.ref (ad 0), .ref (bd 0)] (wX6 g ad u ++ wX6 g bd v) (fun u => wX6 g ad u ++ wX6 g bd v) Q := by
  refine zMv_of RX6 (by decide) rfl [(0, .ref (ad 0)), (1, .ref (bd 0))] rfl (Nat.le_of_ble_eq_true rfl) (fun p e s m args below meth c A C hr hnm => ?_)
  unfold wp_X6_copyFrom at h
  refine z_aload_n C dX6_copyFrom_0 rfl 1 rfl ?_
  refine z_get (T := TX6) (N := 4) C inX6 (ci := 6) rfl 0 (by decide) fl6_9 5 rfl rfl dX6_copyFrom_1 ?_
  refine z_iconst (v := 0) C dX6_copyFrom_4 (by decide) ?_
  refine z_aload_n C dX6_copyFrom_5 rfl 0 rfl ?_
  refine z_get (T := TX6) (N := 4) C inX6 (ci := 6) rfl 0 (by decide) fl6_9 0 rfl rfl dX6_copyFrom_6 ?_
  refine z_iconst (v := 0) C dX6_copyFrom_9 (by decide) ?_
  refine z_bipush (v := 16) C dX6_copyFrom_10 (by decide) ?_
  obtain ⟨hz101, h⟩ := h
  refine z_copyi C mj6_24 6 1 rfl rfl hz101 (Nat.le_of_ble_eq_true rfl) (Nat.le_of_ble_eq_true rfl) dX6_copyFrom_12 (ws1 := wX6 g ad (rI u 0 (va_cpy (v.1 0) (u.1 0) (zn 0) (zn 0) (zn 16))) ++ wX6 g bd v) rfl ?_
  refine sTw6 (fun u102 eu102 => ?_)
  have h := h u102 eu102
  refine z_aload_n C dX6_copyFrom_15 rfl 1 rfl ?_
  refine z_get (T := TX6) (N := 4) C inX6 (ci := 6) rfl 1 (by decide) fl6_15 5 rfl rfl dX6_copyFrom_16 ?_
  refine z_iconst (v := 0) C dX6_copyFrom_19 (by decide) ?_
  refine z_aload_n C dX6_copyFrom_20 rfl 0 rfl ?_
  refine z_get (T := TX6) (N := 4) C inX6 (ci := 6) rfl 1 (by decide) fl6_15 0 rfl rfl dX6_copyFrom_21 ?_
  refine z_iconst (v := 0) C dX6_copyFrom_24 (by decide) ?_
  refine z_bipush (v := 16) C dX6_copyFrom_25 (by decide) ?_
  obtain ⟨hz103, h⟩ := h
  refine z_copyi C mj6_24 7 2 rfl rfl hz103 (Nat.le_of_ble_eq_true rfl) (Nat.le_of_ble_eq_true rfl) dX6_copyFrom_27 (ws1 := wX6 g ad (rI u102 1 (va_cpy (v.1 1) (u102.1 1) (zn 0) (zn 0) (zn 16))) ++ wX6 g bd v) rfl ?_
  refine sTw6 (fun u104 eu104 => ?_)
  have h := h u104 eu104
  exact z_vret C hr u104 rfl h dX6_copyFrom_30
abbrev j_X6_deal (p : Program) (l : Launch) (e : Env) (s : State) (m : MethodId) (args : Array Value) (below : List Frame) (meth : Method) (c : Code) (g : zG) (A : Nat → Prop) (ad : Nat → Nat) (Q : Int32 → RS → Prop) (u : RS) (pc : Nat) (lv : List (Nat × Value)) (st : List Value) : Prop := zJ p l e (zR 1 0 0) s m args below meth c g A 5 (zQi below args s g A 0 0 (wX6 g ad) Q) (wX6 g ad u) 0 0 pc lv st
def wp_X6_deal_46 (Q : Int32 → RS → Prop) (B12 : RS → Int32 → Int32 → Prop) (u : RS) (x1 : Int32) (x2 : Int32) (x3 : Int32) (x4 : Int32) : Prop :=
  vp_in x3 16 ∧ ∀ u111 : RS, u111 = rI u 0 (upd (u.1 0) (zn x3) x4) → vp_in x4 4 ∧ vp_in x3 16 ∧ vp_in x4 4 ∧ ∀ u115 : RS, u115 = rI u111 3 (upd (u111.1 3) (zn x4) ((u111.1 3 (zn x4)) + (u111.1 1 (zn x3)))) → ∀ x116 : Int32, x116 = x2 + 1 → B12 u115 x1 x116
set_option maxRecDepth 20000 in
theorem b_X6_deal_46 (C : zC p s m args meth c g A cX6_deal RX6 5) (hr : meth.sig.returnType = (some .int)) (ad : Nat → Nat) (Q : Int32 → RS → Prop) (B12 : RS → Int32 → Int32 → Prop) (hB12 : ∀ (u : RS) (x1 : Int32) (x2 : Int32), B12 u x1 x2 → j_X6_deal p l e s m args below meth c g A ad Q u 12 [(0, .ref (ad 0)), (1, .int x1), (2, .int x2)] []) (u : RS) (x1 : Int32) (x2 : Int32) (x3 : Int32) (x4 : Int32) (h : wp_X6_deal_46 Q B12 u x1 x2 x3 x4) : j_X6_deal p l e s m args below meth c g A ad Q u 46 [(0, .ref (ad 0)), (1, .int x1), (2, .int x2), (3, .int x3), (4, .int x4)] [] := by
  unfold wp_X6_deal_46 at h
  refine z_aload_n C dX6_deal_46 rfl 0 rfl ?_
  refine g6_queueOf C dX6_deal_47 ?_
  refine z_iload_n C dX6_deal_50 rfl 3 rfl ?_
  refine z_iload C dX6_deal_51 4 rfl ?_
  obtain ⟨hi110, h⟩ := h
  refine s6_queueOf C hi110 dX6_deal_53 ?_
  refine sT6 (fun u111 eu111 => ?_)
  have h := h u111 eu111
  refine z_aload_n C dX6_deal_54 rfl 0 rfl ?_
  refine g6_sums C dX6_deal_55 ?_
  refine z_iload C dX6_deal_58 4 rfl ?_
  refine z_dup2 C dX6_deal_60 rfl rfl ?_
  obtain ⟨hi112, h⟩ := h
  refine l6_sums C hi112 dX6_deal_61 ?_
  refine z_aload_n C dX6_deal_62 rfl 0 rfl ?_
  refine g6_hits C dX6_deal_63 ?_
  refine z_iload_n C dX6_deal_66 rfl 3 rfl ?_
  obtain ⟨hi113, h⟩ := h
  refine l6_hits C hi113 dX6_deal_67 ?_
  refine z_iadd C dX6_deal_68 ?_
  obtain ⟨hi114, h⟩ := h
  refine s6_sums C hi114 dX6_deal_69 ?_
  refine sT6 (fun u115 eu115 => ?_)
  have h := h u115 eu115
  obtain ⟨x116, ex116⟩ : ∃ y : Int32, y = x2 + 1 := ⟨_, rfl⟩
  have h := h x116 ex116
  refine z_iinc (v := x116) (lv1 := [(2, .int x116), (0, .ref (ad 0)), (1, .int x1), (3, .int x3), (4, .int x4)]) C dX6_deal_70 2 rfl (by rw [ex116]; rfl) (by decide) rfl ?_
  refine z_goto C dX6_deal_73 (tgt := 12) (by decide) ?_
  refine z_lv (lv1 := [(0, .ref (ad 0)), (1, .int x1), (2, .int x116)]) [1, 2, 0] rfl ?_
  exact hB12 u115 x1 x116 h
def wp_X6_deal_12 (Q : Int32 → RS → Prop) (B12 : RS → Int32 → Int32 → Prop) (u : RS) (x1 : Int32) (x2 : Int32) : Prop :=
  ((16 ≤ x2 → Q x1 u) ∧ (¬ 16 ≤ x2 → vp_in x2 16 ∧ ∀ x105 : Int32, x105 = u.1 2 (zn x2) → wp_X6_leastQueue u (-1) (fun r106 u107 => vp_in x105 16 ∧ ((u107.1 0 (zn x105) = r106 → wp_X6_deal_46 Q B12 u107 x1 x2 x105 r106) ∧ (¬ u107.1 0 (zn x105) = r106 → ∀ x117 : Int32, x117 = x1 + 1 → wp_X6_deal_46 Q B12 u107 x117 x2 x105 r106)))))
set_option maxRecDepth 20000 in
theorem b_X6_deal_12 (C : zC p s m args meth c g A cX6_deal RX6 5) (hr : meth.sig.returnType = (some .int)) (ad : Nat → Nat) (Q : Int32 → RS → Prop) (B12 : RS → Int32 → Int32 → Prop) (hB12 : ∀ (u : RS) (x1 : Int32) (x2 : Int32), B12 u x1 x2 → j_X6_deal p l e s m args below meth c g A ad Q u 12 [(0, .ref (ad 0)), (1, .int x1), (2, .int x2)] []) (u : RS) (x1 : Int32) (x2 : Int32) (h : wp_X6_deal_12 Q B12 u x1 x2) : j_X6_deal p l e s m args below meth c g A ad Q u 12 [(0, .ref (ad 0)), (1, .int x1), (2, .int x2)] [] := by
  unfold wp_X6_deal_12 at h
  refine z_iload_n C dX6_deal_12 rfl 2 rfl ?_
  refine z_bipush (v := 16) C dX6_deal_13 (by decide) ?_
  refine z_icmp_ge C dX6_deal_15 (tgt := 76) (by decide) (fun hc103 => ?_) (fun hc103 => ?_)
  · have h := h.1 hc103
    refine z_iload_n C dX6_deal_76 rfl 1 rfl ?_
    exact z_iret C hr u rfl h dX6_deal_77
  · have h := h.2 hc103
    refine z_aload_n C dX6_deal_18 rfl 0 rfl ?_
    refine g6_order C dX6_deal_19 ?_
    refine z_iload_n C dX6_deal_22 rfl 2 rfl ?_
    obtain ⟨hi104, h⟩ := h
    refine l6_order C hi104 dX6_deal_23 ?_
    refine z_topi (fun x105 ex105 => ?_)
    have h := h x105 ex105
    refine z_istore_n (lv1 := [(3, .int x105), (0, .ref (ad 0)), (1, .int x1), (2, .int x2)]) C dX6_deal_24 rfl (by decide) rfl ?_
    refine z_aload_n C dX6_deal_25 rfl 1 rfl ?_
    refine z_iconst (v := (-1)) C dX6_deal_26 (by decide) ?_
    refine c6i (As := [.int (-1)]) C (c_X6_leastQueue l g ad u (-1) _ h) v_X6_leastQueue ml6_39 rfl ⟨Nat.le_of_ble_eq_true rfl, Nat.le_of_ble_eq_true rfl⟩ ⟨Nat.zero_le _, Nat.zero_le _⟩ (Nat.le_of_ble_eq_true rfl) rfl dX6_deal_27 ?_
    intro r106 u107 h
    refine z_istore (lv1 := [(4, .int r106), (3, .int x105), (0, .ref (ad 0)), (1, .int x1), (2, .int x2)]) C dX6_deal_30 (by decide) rfl ?_
    refine z_aload_n C dX6_deal_32 rfl 2 rfl ?_
    refine g6_queueOf C dX6_deal_33 ?_
    refine z_iload_n C dX6_deal_36 rfl 1 rfl ?_
    obtain ⟨hi108, h⟩ := h
    refine l6_queueOf C hi108 dX6_deal_37 ?_
    refine z_iload C dX6_deal_38 0 rfl ?_
    refine z_icmp_eq C dX6_deal_40 (tgt := 46) (by decide) (fun hc109 => ?_) (fun hc109 => ?_)
    · have h := h.1 hc109
      refine z_lv (lv1 := [(0, .ref (ad 0)), (1, .int x1), (2, .int x2), (3, .int x105), (4, .int r106)]) [2, 3, 4, 1, 0] rfl ?_
      exact b_X6_deal_46 C hr ad Q B12 hB12 u107 x1 x2 x105 r106 h
    · have h := h.2 hc109
      obtain ⟨x117, ex117⟩ : ∃ y : Int32, y = x1 + 1 := ⟨_, rfl⟩
      have h := h x117 ex117
      refine z_iinc (v := x117) (lv1 := [(1, .int x117), (4, .int r106), (3, .int x105), (0, .ref (ad 0)), (2, .int x2)]) C dX6_deal_43 3 rfl (by rw [ex117]; rfl) (by decide) rfl ?_
      refine z_lv (lv1 := [(0, .ref (ad 0)), (1, .int x117), (2, .int x2), (3, .int x105), (4, .int r106)]) [3, 0, 4, 2, 1] rfl ?_
      exact b_X6_deal_46 C hr ad Q B12 hB12 u107 x117 x2 x105 r106 h
theorem l_X6_deal_12 (C : zC p s m args meth c g A cX6_deal RX6 5) (hr : meth.sig.returnType = (some .int)) (ad : Nat → Nat) (Q : Int32 → RS → Prop) : ∀ (n : Nat) (u : RS) (x1 : Int32) (x2 : Int32), zit3 (wp_X6_deal_12 Q) n u x1 x2 → j_X6_deal p l e s m args below meth c g A ad Q u 12 [(0, .ref (ad 0)), (1, .int x1), (2, .int x2)] [] := by
  intro n
  induction n with
  | zero => exact fun u x1 x2 h => h.elim
  | succ n ih => exact fun u x1 x2 h => b_X6_deal_12 C hr ad Q (zit3 (wp_X6_deal_12 Q) n) ih u x1 x2 h
def wp_X6_deal (u : RS) (Q : Int32 → RS → Prop) : Prop :=
  wp_X6_orderByHits u (fun u101 => wp_X6_clearSums u101 (fun u102 => (∃ n, zit3 (wp_X6_deal_12 Q) n u102 0 0)))
set_option maxRecDepth 20000 in
theorem c_X6_deal (l : Launch) (g : zG) (ad : Nat → Nat) (u : RS) (Q : Int32 → RS → Prop) (h : wp_X6_deal u Q) : zMi l yX6_deal cX6_deal 5 (some .int) 1 0 0 g [.ref (ad 0)] (wX6 g ad u) (wX6 g ad) Q := by
  refine zMi_of RX6 (by decide) rfl [(0, .ref (ad 0))] rfl (Nat.le_of_ble_eq_true rfl) (fun p e s m args below meth c A C hr hnm => ?_)
  unfold wp_X6_deal at h
  refine z_aload_n C dX6_deal_0 rfl 0 rfl ?_
  refine c6v (As := []) C (c_X6_orderByHits l g ad u _ h) v_X6_orderByHits ml6_43 rfl ⟨Nat.le_of_ble_eq_true rfl, Nat.le_of_ble_eq_true rfl⟩ ⟨Nat.zero_le _, Nat.zero_le _⟩ (Nat.le_of_ble_eq_true rfl) rfl dX6_deal_1 ?_
  intro u101 h
  refine z_aload_n C dX6_deal_4 rfl 0 rfl ?_
  refine c6v (As := []) C (c_X6_clearSums l g ad u101 _ h) v_X6_clearSums ml6_46 rfl ⟨Nat.le_of_ble_eq_true rfl, Nat.le_of_ble_eq_true rfl⟩ ⟨Nat.zero_le _, Nat.zero_le _⟩ (Nat.le_of_ble_eq_true rfl) rfl dX6_deal_5 ?_
  intro u102 h
  refine z_iconst (v := 0) C dX6_deal_8 (by decide) ?_
  refine z_istore_n (lv1 := [(1, .int 0), (0, .ref (ad 0))]) C dX6_deal_9 rfl (by decide) rfl ?_
  refine z_iconst (v := 0) C dX6_deal_10 (by decide) ?_
  refine z_istore_n (lv1 := [(2, .int 0), (1, .int 0), (0, .ref (ad 0))]) C dX6_deal_11 rfl (by decide) rfl ?_
  refine z_lv (lv1 := [(0, .ref (ad 0)), (1, .int 0), (2, .int 0)]) [2, 1, 0] rfl ?_
  obtain ⟨n9, h⟩ := h
  exact l_X6_deal_12 C hr ad Q n9 u102 0 0 h
abbrev j_X6_sumHits (p : Program) (l : Launch) (e : Env) (s : State) (m : MethodId) (args : Array Value) (below : List Frame) (meth : Method) (c : Code) (g : zG) (A : Nat → Prop) (ad : Nat → Nat) (Q : RS → Prop) (u : RS) (pc : Nat) (lv : List (Nat × Value)) (st : List Value) : Prop := zJ p l e (zR 1 0 0) s m args below meth c g A 2 (zQv below args s g A 0 0 (wX6 g ad) Q) (wX6 g ad u) 0 0 pc lv st
def wp_X6_sumHits_6 (Q : RS → Prop) (B6 : RS → Int32 → Prop) (u : RS) (x1 : Int32) : Prop :=
  ((16 ≤ x1 → Q u) ∧ (¬ 16 ≤ x1 → vp_in x1 16 ∧ vp_in (u.1 0 (zn x1)) 4 ∧ vp_in x1 16 ∧ vp_in (u.1 0 (zn x1)) 4 ∧ ∀ u107 : RS, u107 = rI u 3 (upd (u.1 3) (zn (u.1 0 (zn x1))) ((u.1 3 (zn (u.1 0 (zn x1)))) + (u.1 1 (zn x1)))) → ∀ x108 : Int32, x108 = x1 + 1 → B6 u107 x108))
set_option maxRecDepth 20000 in
theorem b_X6_sumHits_6 (C : zC p s m args meth c g A cX6_sumHits RX6 2) (hr : meth.sig.returnType = none) (ad : Nat → Nat) (Q : RS → Prop) (B6 : RS → Int32 → Prop) (hB6 : ∀ (u : RS) (x1 : Int32), B6 u x1 → j_X6_sumHits p l e s m args below meth c g A ad Q u 6 [(0, .ref (ad 0)), (1, .int x1)] []) (u : RS) (x1 : Int32) (h : wp_X6_sumHits_6 Q B6 u x1) : j_X6_sumHits p l e s m args below meth c g A ad Q u 6 [(0, .ref (ad 0)), (1, .int x1)] [] := by
  unfold wp_X6_sumHits_6 at h
  refine z_iload_n C dX6_sumHits_6 rfl 1 rfl ?_
  refine z_bipush (v := 16) C dX6_sumHits_7 (by decide) ?_
  refine z_icmp_ge C dX6_sumHits_9 (tgt := 38) (by decide) (fun hc102 => ?_) (fun hc102 => ?_)
  · have h := h.1 hc102
    exact z_vret C hr u rfl h dX6_sumHits_38
  · have h := h.2 hc102
    refine z_aload_n C dX6_sumHits_12 rfl 0 rfl ?_
    refine g6_sums C dX6_sumHits_13 ?_
    refine z_aload_n C dX6_sumHits_16 rfl 0 rfl ?_
    refine g6_queueOf C dX6_sumHits_17 ?_
    refine z_iload_n C dX6_sumHits_20 rfl 1 rfl ?_
    obtain ⟨hi103, h⟩ := h
    refine l6_queueOf C hi103 dX6_sumHits_21 ?_
    refine z_dup2 C dX6_sumHits_22 rfl rfl ?_
    obtain ⟨hi104, h⟩ := h
    refine l6_sums C hi104 dX6_sumHits_23 ?_
    refine z_aload_n C dX6_sumHits_24 rfl 0 rfl ?_
    refine g6_hits C dX6_sumHits_25 ?_
    refine z_iload_n C dX6_sumHits_28 rfl 1 rfl ?_
    obtain ⟨hi105, h⟩ := h
    refine l6_hits C hi105 dX6_sumHits_29 ?_
    refine z_iadd C dX6_sumHits_30 ?_
    obtain ⟨hi106, h⟩ := h
    refine s6_sums C hi106 dX6_sumHits_31 ?_
    refine sT6 (fun u107 eu107 => ?_)
    have h := h u107 eu107
    obtain ⟨x108, ex108⟩ : ∃ y : Int32, y = x1 + 1 := ⟨_, rfl⟩
    have h := h x108 ex108
    refine z_iinc (v := x108) (lv1 := [(1, .int x108), (0, .ref (ad 0))]) C dX6_sumHits_32 1 rfl (by rw [ex108]; rfl) (by decide) rfl ?_
    refine z_goto C dX6_sumHits_35 (tgt := 6) (by decide) ?_
    refine z_lv (lv1 := [(0, .ref (ad 0)), (1, .int x108)]) [1, 0] rfl ?_
    exact hB6 u107 x108 h
theorem l_X6_sumHits_6 (C : zC p s m args meth c g A cX6_sumHits RX6 2) (hr : meth.sig.returnType = none) (ad : Nat → Nat) (Q : RS → Prop) : ∀ (n : Nat) (u : RS) (x1 : Int32), zit2 (wp_X6_sumHits_6 Q) n u x1 → j_X6_sumHits p l e s m args below meth c g A ad Q u 6 [(0, .ref (ad 0)), (1, .int x1)] [] := by
  intro n
  induction n with
  | zero => exact fun u x1 h => h.elim
  | succ n ih => exact fun u x1 h => b_X6_sumHits_6 C hr ad Q (zit2 (wp_X6_sumHits_6 Q) n) ih u x1 h
def wp_X6_sumHits (u : RS) (Q : RS → Prop) : Prop :=
  wp_X6_clearSums u (fun u101 => (∃ n, zit2 (wp_X6_sumHits_6 Q) n u101 0))
set_option maxRecDepth 20000 in
theorem c_X6_sumHits (l : Launch) (g : zG) (ad : Nat → Nat) (u : RS) (Q : RS → Prop) (h : wp_X6_sumHits u Q) : zMv l yX6_sumHits cX6_sumHits 2 none 1 0 0 g [.ref (ad 0)] (wX6 g ad u) (wX6 g ad) Q := by
  refine zMv_of RX6 (by decide) rfl [(0, .ref (ad 0))] rfl (Nat.le_of_ble_eq_true rfl) (fun p e s m args below meth c A C hr hnm => ?_)
  unfold wp_X6_sumHits at h
  refine z_aload_n C dX6_sumHits_0 rfl 0 rfl ?_
  refine c6v (As := []) C (c_X6_clearSums l g ad u _ h) v_X6_clearSums ml6_46 rfl ⟨Nat.le_of_ble_eq_true rfl, Nat.le_of_ble_eq_true rfl⟩ ⟨Nat.zero_le _, Nat.zero_le _⟩ (Nat.le_of_ble_eq_true rfl) rfl dX6_sumHits_1 ?_
  intro u101 h
  refine z_iconst (v := 0) C dX6_sumHits_4 (by decide) ?_
  refine z_istore_n (lv1 := [(1, .int 0), (0, .ref (ad 0))]) C dX6_sumHits_5 rfl (by decide) rfl ?_
  refine z_lv (lv1 := [(0, .ref (ad 0)), (1, .int 0)]) [1, 0] rfl ?_
  obtain ⟨n9, h⟩ := h
  exact l_X6_sumHits_6 C hr ad Q n9 u101 0 h
abbrev j_X0_putRule (p : Program) (l : Launch) (e : Env) (s : State) (m : MethodId) (args : Array Value) (below : List Frame) (meth : Method) (c : Code) (g : zG) (A : Nat → Prop) (ad : Nat → Nat) (Q : Int32 → RS → Prop) (u : RS) (pc : Nat) (lv : List (Nat × Value)) (st : List Value) : Prop := zJ p l e (zR 2 0 0) s m args below meth c g A 5 (zQi below args s g A 0 0 (wX0 g ad) Q) (wX0 g ad u) 0 0 pc lv st
def wp_X0_putRule_35 (Q : Int32 → RS → Prop) (u : RS) (x1 : Int32) (x2 : Int32) (x3 : Int32) (x4 : Int32) : Prop :=
  wp_X0_put u 13 x1 x2 (fun u104 => wp_X0_put u104 14 x1 x3 (fun u105 => Q x4 u105))
set_option maxRecDepth 20000 in
theorem b_X0_putRule_35 (C : zC p s m args meth c g A cX0_putRule RX0 5) (hr : meth.sig.returnType = (some .int)) (ad : Nat → Nat) (Q : Int32 → RS → Prop) (u : RS) (x1 : Int32) (x2 : Int32) (x3 : Int32) (x4 : Int32) (h : wp_X0_putRule_35 Q u x1 x2 x3 x4) : j_X0_putRule p l e s m args below meth c g A ad Q u 35 [(0, .ref (ad 0)), (1, .int x1), (2, .int x2), (3, .int x3), (4, .int x4)] [] := by
  unfold wp_X0_putRule_35 at h
  refine z_aload_n C dX0_putRule_35 rfl 0 rfl ?_
  refine z_bipush (v := 13) C dX0_putRule_36 (by decide) ?_
  refine z_iload_n C dX0_putRule_38 rfl 1 rfl ?_
  refine z_iload_n C dX0_putRule_39 rfl 2 rfl ?_
  refine c0v (As := [.int 13, .int x1, .int x2]) C (c_X0_put l g ad u 13 x1 x2 _ h) v_X0_put ml0_29 rfl ⟨Nat.le_of_ble_eq_true rfl, Nat.le_of_ble_eq_true rfl⟩ ⟨Nat.zero_le _, Nat.zero_le _⟩ (Nat.le_of_ble_eq_true rfl) rfl dX0_putRule_40 ?_
  intro u104 h
  refine z_aload_n C dX0_putRule_43 rfl 0 rfl ?_
  refine z_bipush (v := 14) C dX0_putRule_44 (by decide) ?_
  refine z_iload_n C dX0_putRule_46 rfl 1 rfl ?_
  refine z_iload_n C dX0_putRule_47 rfl 3 rfl ?_
  refine c0v (As := [.int 14, .int x1, .int x3]) C (c_X0_put l g ad u104 14 x1 x3 _ h) v_X0_put ml0_29 rfl ⟨Nat.le_of_ble_eq_true rfl, Nat.le_of_ble_eq_true rfl⟩ ⟨Nat.zero_le _, Nat.zero_le _⟩ (Nat.le_of_ble_eq_true rfl) rfl dX0_putRule_48 ?_
  intro u105 h
  refine z_iload C dX0_putRule_51 4 rfl ?_
  exact z_iret C hr u105 rfl h dX0_putRule_53
def wp_X0_putRule (u : RS) (x1 : Int32) (x2 : Int32) (x3 : Int32) (Q : Int32 → RS → Prop) : Prop :=
  wp_X0_get u 13 x1 (fun r101 u102 => ((¬ r101 = (-1) → wp_X0_putRule_35 Q u102 x1 x2 x3 (-1)) ∧ (r101 = (-1) → wp_X0_ruleNumber u102 (fun r106 u107 => ((r106 < 6 → wp_X0_putRule_35 Q u107 x1 x2 x3 (-1)) ∧ (¬ r106 < 6 → wp_X0_leastUsed u107 (fun r109 u110 => wp_X0_dropRule u110 r109 (fun u111 => wp_X0_putRule_35 Q u111 x1 x2 x3 r109))))))))
set_option maxRecDepth 20000 in
theorem c_X0_putRule (l : Launch) (g : zG) (ad : Nat → Nat) (u : RS) (x1 : Int32) (x2 : Int32) (x3 : Int32) (Q : Int32 → RS → Prop) (h : wp_X0_putRule u x1 x2 x3 Q) : zMi l yX0_putRule cX0_putRule 5 (some .int) 2 0 0 g [.ref (ad 0), .int x1, .int x2, .int x3] (wX0 g ad u) (wX0 g ad) Q := by
  refine zMi_of RX0 (by decide) rfl [(0, .ref (ad 0)), (1, .int x1), (2, .int x2), (3, .int x3)] rfl (Nat.le_of_ble_eq_true rfl) (fun p e s m args below meth c A C hr hnm => ?_)
  unfold wp_X0_putRule at h
  refine z_iconst (v := (-1)) C dX0_putRule_0 (by decide) ?_
  refine z_istore (lv1 := [(4, .int (-1)), (0, .ref (ad 0)), (1, .int x1), (2, .int x2), (3, .int x3)]) C dX0_putRule_1 (by decide) rfl ?_
  refine z_aload_n C dX0_putRule_3 rfl 1 rfl ?_
  refine z_bipush (v := 13) C dX0_putRule_4 (by decide) ?_
  refine z_iload_n C dX0_putRule_6 rfl 2 rfl ?_
  refine c0i (As := [.int 13, .int x1]) C (c_X0_get l g ad u 13 x1 _ h) v_X0_get ml0_25 rfl ⟨Nat.le_of_ble_eq_true rfl, Nat.le_of_ble_eq_true rfl⟩ ⟨Nat.zero_le _, Nat.zero_le _⟩ (Nat.le_of_ble_eq_true rfl) rfl dX0_putRule_7 ?_
  intro r101 u102 h
  refine z_iconst (v := (-1)) C dX0_putRule_10 (by decide) ?_
  refine z_icmp_ne C dX0_putRule_11 (tgt := 35) (by decide) (fun hc103 => ?_) (fun hc103 => ?_)
  · have h := h.1 hc103
    refine z_lv (lv1 := [(0, .ref (ad 0)), (1, .int x1), (2, .int x2), (3, .int x3), (4, .int (-1))]) [1, 2, 3, 4, 0] rfl ?_
    exact b_X0_putRule_35 C hr ad Q u102 x1 x2 x3 (-1) h
  · have h := h.2 hc103
    refine z_aload_n C dX0_putRule_14 rfl 1 rfl ?_
    refine c0i (As := []) C (c_X0_ruleNumber l g ad u102 _ h) v_X0_ruleNumber ml0_36 rfl ⟨Nat.le_of_ble_eq_true rfl, Nat.le_of_ble_eq_true rfl⟩ ⟨Nat.zero_le _, Nat.zero_le _⟩ (Nat.le_of_ble_eq_true rfl) rfl dX0_putRule_15 ?_
    intro r106 u107 h
    refine z_bipush (v := 6) C dX0_putRule_18 (by decide) ?_
    refine z_icmp_lt C dX0_putRule_20 (tgt := 35) (by decide) (fun hc108 => ?_) (fun hc108 => ?_)
    · have h := h.1 hc108
      refine z_lv (lv1 := [(0, .ref (ad 0)), (1, .int x1), (2, .int x2), (3, .int x3), (4, .int (-1))]) [1, 2, 3, 4, 0] rfl ?_
      exact b_X0_putRule_35 C hr ad Q u107 x1 x2 x3 (-1) h
    · have h := h.2 hc108
      refine z_aload_n C dX0_putRule_23 rfl 1 rfl ?_
      refine c0i (As := []) C (c_X0_leastUsed l g ad u107 _ h) v_X0_leastUsed ml0_40 rfl ⟨Nat.le_of_ble_eq_true rfl, Nat.le_of_ble_eq_true rfl⟩ ⟨Nat.zero_le _, Nat.zero_le _⟩ (Nat.le_of_ble_eq_true rfl) rfl dX0_putRule_24 ?_
      intro r109 u110 h
      refine z_istore (lv1 := [(4, .int r109), (0, .ref (ad 0)), (1, .int x1), (2, .int x2), (3, .int x3)]) C dX0_putRule_27 (by decide) rfl ?_
      refine z_aload_n C dX0_putRule_29 rfl 1 rfl ?_
      refine z_iload C dX0_putRule_30 0 rfl ?_
      refine c0v (As := [.int r109]) C (c_X0_dropRule l g ad u110 r109 _ h) v_X0_dropRule ml0_43 rfl ⟨Nat.le_of_ble_eq_true rfl, Nat.le_of_ble_eq_true rfl⟩ ⟨Nat.zero_le _, Nat.zero_le _⟩ (Nat.le_of_ble_eq_true rfl) rfl dX0_putRule_32 ?_
      intro u111 h
      refine z_lv (lv1 := [(0, .ref (ad 0)), (1, .int x1), (2, .int x2), (3, .int x3), (4, .int r109)]) [1, 2, 3, 4, 0] rfl ?_
      exact b_X0_putRule_35 C hr ad Q u111 x1 x2 x3 r109 h
abbrev j_X0_dropRulesTo (p : Program) (l : Launch) (e : Env) (s : State) (m : MethodId) (args : Array Value) (below : List Frame) (meth : Method) (c : Code) (g : zG) (A : Nat → Prop) (ad : Nat → Nat) (Q : RS → Prop) (u : RS) (pc : Nat) (lv : List (Nat × Value)) (st : List Value) : Prop := zJ p l e (zR 2 0 0) s m args below meth c g A 3 (zQv below args s g A 0 0 (wX0 g ad) Q) (wX0 g ad u) 0 0 pc lv st
def wp_X0_dropRulesTo_26 (Q : RS → Prop) (B2 : RS → Int32 → Int32 → Prop) (u : RS) (x1 : Int32) (x2 : Int32) : Prop :=
  ∀ x105 : Int32, x105 = x2 + 1 → B2 u x1 x105
set_option maxRecDepth 20000 in
theorem b_X0_dropRulesTo_26 (C : zC p s m args meth c g A cX0_dropRulesTo RX0 3) (hr : meth.sig.returnType = none) (ad : Nat → Nat) (Q : RS → Prop) (B2 : RS → Int32 → Int32 → Prop) (hB2 : ∀ (u : RS) (x1 : Int32) (x2 : Int32), B2 u x1 x2 → j_X0_dropRulesTo p l e s m args below meth c g A ad Q u 2 [(0, .ref (ad 0)), (1, .int x1), (2, .int x2)] []) (u : RS) (x1 : Int32) (x2 : Int32) (h : wp_X0_dropRulesTo_26 Q B2 u x1 x2) : j_X0_dropRulesTo p l e s m args below meth c g A ad Q u 26 [(0, .ref (ad 0)), (1, .int x1), (2, .int x2)] [] := by
  unfold wp_X0_dropRulesTo_26 at h
  obtain ⟨x105, ex105⟩ : ∃ y : Int32, y = x2 + 1 := ⟨_, rfl⟩
  have h := h x105 ex105
  refine z_iinc (v := x105) (lv1 := [(2, .int x105), (0, .ref (ad 0)), (1, .int x1)]) C dX0_dropRulesTo_26 2 rfl (by rw [ex105]; rfl) (by decide) rfl ?_
  refine z_goto C dX0_dropRulesTo_29 (tgt := 2) (by decide) ?_
  refine z_lv (lv1 := [(0, .ref (ad 0)), (1, .int x1), (2, .int x105)]) [1, 2, 0] rfl ?_
  exact hB2 u x1 x105 h
def wp_X0_dropRulesTo_2 (Q : RS → Prop) (B2 : RS → Int32 → Int32 → Prop) (u : RS) (x1 : Int32) (x2 : Int32) : Prop :=
  ((u.1 0 0 ≤ x2 → Q u) ∧ (¬ u.1 0 0 ≤ x2 → wp_X0_get u 13 x2 (fun r102 u103 => ((¬ r102 = x1 → wp_X0_dropRulesTo_26 Q B2 u103 x1 x2) ∧ (r102 = x1 → wp_X0_dropRule u103 x2 (fun u106 => wp_X0_dropRulesTo_26 Q B2 u106 x1 x2))))))
set_option maxRecDepth 20000 in
theorem b_X0_dropRulesTo_2 (C : zC p s m args meth c g A cX0_dropRulesTo RX0 3) (hr : meth.sig.returnType = none) (ad : Nat → Nat) (Q : RS → Prop) (B2 : RS → Int32 → Int32 → Prop) (hB2 : ∀ (u : RS) (x1 : Int32) (x2 : Int32), B2 u x1 x2 → j_X0_dropRulesTo p l e s m args below meth c g A ad Q u 2 [(0, .ref (ad 0)), (1, .int x1), (2, .int x2)] []) (u : RS) (x1 : Int32) (x2 : Int32) (h : wp_X0_dropRulesTo_2 Q B2 u x1 x2) : j_X0_dropRulesTo p l e s m args below meth c g A ad Q u 2 [(0, .ref (ad 0)), (1, .int x1), (2, .int x2)] [] := by
  unfold wp_X0_dropRulesTo_2 at h
  refine z_iload_n C dX0_dropRulesTo_2 rfl 2 rfl ?_
  refine z_aload_n C dX0_dropRulesTo_3 rfl 0 rfl ?_
  refine g0_number C dX0_dropRulesTo_4 ?_
  refine z_icmp_ge C dX0_dropRulesTo_7 (tgt := 32) (by decide) (fun hc101 => ?_) (fun hc101 => ?_)
  · have h := h.1 hc101
    exact z_vret C hr u rfl h dX0_dropRulesTo_32
  · have h := h.2 hc101
    refine z_aload_n C dX0_dropRulesTo_10 rfl 0 rfl ?_
    refine z_bipush (v := 13) C dX0_dropRulesTo_11 (by decide) ?_
    refine z_iload_n C dX0_dropRulesTo_13 rfl 2 rfl ?_
    refine c0i (As := [.int 13, .int x2]) C (c_X0_get l g ad u 13 x2 _ h) v_X0_get ml0_25 rfl ⟨Nat.le_of_ble_eq_true rfl, Nat.le_of_ble_eq_true rfl⟩ ⟨Nat.zero_le _, Nat.zero_le _⟩ (Nat.le_of_ble_eq_true rfl) rfl dX0_dropRulesTo_14 ?_
    intro r102 u103 h
    refine z_iload_n C dX0_dropRulesTo_17 rfl 1 rfl ?_
    refine z_icmp_ne C dX0_dropRulesTo_18 (tgt := 26) (by decide) (fun hc104 => ?_) (fun hc104 => ?_)
    · have h := h.1 hc104
      exact b_X0_dropRulesTo_26 C hr ad Q B2 hB2 u103 x1 x2 h
    · have h := h.2 hc104
      refine z_aload_n C dX0_dropRulesTo_21 rfl 0 rfl ?_
      refine z_iload_n C dX0_dropRulesTo_22 rfl 2 rfl ?_
      refine c0v (As := [.int x2]) C (c_X0_dropRule l g ad u103 x2 _ h) v_X0_dropRule ml0_43 rfl ⟨Nat.le_of_ble_eq_true rfl, Nat.le_of_ble_eq_true rfl⟩ ⟨Nat.zero_le _, Nat.zero_le _⟩ (Nat.le_of_ble_eq_true rfl) rfl dX0_dropRulesTo_23 ?_
      intro u106 h
      exact b_X0_dropRulesTo_26 C hr ad Q B2 hB2 u106 x1 x2 h
theorem l_X0_dropRulesTo_2 (C : zC p s m args meth c g A cX0_dropRulesTo RX0 3) (hr : meth.sig.returnType = none) (ad : Nat → Nat) (Q : RS → Prop) : ∀ (n : Nat) (u : RS) (x1 : Int32) (x2 : Int32), zit3 (wp_X0_dropRulesTo_2 Q) n u x1 x2 → j_X0_dropRulesTo p l e s m args below meth c g A ad Q u 2 [(0, .ref (ad 0)), (1, .int x1), (2, .int x2)] [] := by
  intro n
  induction n with
  | zero => exact fun u x1 x2 h => h.elim
  | succ n ih => exact fun u x1 x2 h => b_X0_dropRulesTo_2 C hr ad Q (zit3 (wp_X0_dropRulesTo_2 Q) n) ih u x1 x2 h
def wp_X0_dropRulesTo (u : RS) (x1 : Int32) (Q : RS → Prop) : Prop :=
  (∃ n, zit3 (wp_X0_dropRulesTo_2 Q) n u x1 0)
set_option maxRecDepth 20000 in
theorem c_X0_dropRulesTo (l : Launch) (g : zG) (ad : Nat → Nat) (u : RS) (x1 : Int32) (Q : RS → Prop) (h : wp_X0_dropRulesTo u x1 Q) : zMv l yX0_dropRulesTo cX0_dropRulesTo 3 none 2 0 0 g [.ref (ad 0), .int x1] (wX0 g ad u) (wX0 g ad) Q := by
  refine zMv_of RX0 (by decide) rfl [(0, .ref (ad 0)), (1, .int x1)] rfl (Nat.le_of_ble_eq_true rfl) (fun p e s m args below meth c A C hr hnm => ?_)
  unfold wp_X0_dropRulesTo at h
  refine z_iconst (v := 0) C dX0_dropRulesTo_0 (by decide) ?_
  refine z_istore_n (lv1 := [(2, .int 0), (0, .ref (ad 0)), (1, .int x1)]) C dX0_dropRulesTo_1 rfl (by decide) rfl ?_
  refine z_lv (lv1 := [(0, .ref (ad 0)), (1, .int x1), (2, .int 0)]) [1, 2, 0] rfl ?_
  obtain ⟨n9, h⟩ := h
  exact l_X0_dropRulesTo_2 C hr ad Q n9 u x1 0 h
abbrev j_X0_dropOldRules (p : Program) (l : Launch) (e : Env) (s : State) (m : MethodId) (args : Array Value) (below : List Frame) (meth : Method) (c : Code) (g : zG) (A : Nat → Prop) (ad : Nat → Nat) (Q : RS → Prop) (u : RS) (pc : Nat) (lv : List (Nat × Value)) (st : List Value) : Prop := zJ p l e (zR 2 0 0) s m args below meth c g A 4 (zQv below args s g A 0 0 (wX0 g ad) Q) (wX0 g ad u) 0 0 pc lv st
def wp_X0_dropOldRules_39 (Q : RS → Prop) (B2 : RS → Int32 → Int32 → Int32 → Prop) (u : RS) (x1 : Int32) (x2 : Int32) (x3 : Int32) : Prop :=
  ∀ x105 : Int32, x105 = x3 + 1 → B2 u x1 x2 x105
set_option maxRecDepth 20000 in
theorem b_X0_dropOldRules_39 (C : zC p s m args meth c g A cX0_dropOldRules RX0 4) (hr : meth.sig.returnType = none) (ad : Nat → Nat) (Q : RS → Prop) (B2 : RS → Int32 → Int32 → Int32 → Prop) (hB2 : ∀ (u : RS) (x1 : Int32) (x2 : Int32) (x3 : Int32), B2 u x1 x2 x3 → j_X0_dropOldRules p l e s m args below meth c g A ad Q u 2 [(0, .ref (ad 0)), (1, .int x1), (2, .int x2), (3, .int x3)] []) (u : RS) (x1 : Int32) (x2 : Int32) (x3 : Int32) (h : wp_X0_dropOldRules_39 Q B2 u x1 x2 x3) : j_X0_dropOldRules p l e s m args below meth c g A ad Q u 39 [(0, .ref (ad 0)), (1, .int x1), (2, .int x2), (3, .int x3)] [] := by
  unfold wp_X0_dropOldRules_39 at h
  obtain ⟨x105, ex105⟩ : ∃ y : Int32, y = x3 + 1 := ⟨_, rfl⟩
  have h := h x105 ex105
  refine z_iinc (v := x105) (lv1 := [(3, .int x105), (0, .ref (ad 0)), (1, .int x1), (2, .int x2)]) C dX0_dropOldRules_39 3 rfl (by rw [ex105]; rfl) (by decide) rfl ?_
  refine z_goto C dX0_dropOldRules_42 (tgt := 2) (by decide) ?_
  refine z_lv (lv1 := [(0, .ref (ad 0)), (1, .int x1), (2, .int x2), (3, .int x105)]) [1, 2, 3, 0] rfl ?_
  exact hB2 u x1 x2 x105 h
def wp_X0_dropOldRules_2 (Q : RS → Prop) (B2 : RS → Int32 → Int32 → Int32 → Prop) (u : RS) (x1 : Int32) (x2 : Int32) (x3 : Int32) : Prop :=
  ((u.1 0 0 ≤ x3 → Q u) ∧ (¬ u.1 0 0 ≤ x3 → wp_X0_get u 13 x3 (fun r102 u103 => ((r102 = (-1) → wp_X0_dropOldRules_39 Q B2 u103 x1 x2 x3) ∧ (¬ r102 = (-1) → wp_X0_get u103 14 x3 (fun r106 u107 => ((x1 ≤ r106 + x2 → wp_X0_dropOldRules_39 Q B2 u107 x1 x2 x3) ∧ (¬ x1 ≤ r106 + x2 → wp_X0_dropRule u107 x3 (fun u109 => wp_X0_dropOldRules_39 Q B2 u109 x1 x2 x3)))))))))
set_option maxRecDepth 20000 in
theorem b_X0_dropOldRules_2 (C : zC p s m args meth c g A cX0_dropOldRules RX0 4) (hr : meth.sig.returnType = none) (ad : Nat → Nat) (Q : RS → Prop) (B2 : RS → Int32 → Int32 → Int32 → Prop) (hB2 : ∀ (u : RS) (x1 : Int32) (x2 : Int32) (x3 : Int32), B2 u x1 x2 x3 → j_X0_dropOldRules p l e s m args below meth c g A ad Q u 2 [(0, .ref (ad 0)), (1, .int x1), (2, .int x2), (3, .int x3)] []) (u : RS) (x1 : Int32) (x2 : Int32) (x3 : Int32) (h : wp_X0_dropOldRules_2 Q B2 u x1 x2 x3) : j_X0_dropOldRules p l e s m args below meth c g A ad Q u 2 [(0, .ref (ad 0)), (1, .int x1), (2, .int x2), (3, .int x3)] [] := by
  unfold wp_X0_dropOldRules_2 at h
  refine z_iload_n C dX0_dropOldRules_2 rfl 3 rfl ?_
  refine z_aload_n C dX0_dropOldRules_3 rfl 0 rfl ?_
  refine g0_number C dX0_dropOldRules_4 ?_
  refine z_icmp_ge C dX0_dropOldRules_7 (tgt := 45) (by decide) (fun hc101 => ?_) (fun hc101 => ?_)
  · have h := h.1 hc101
    exact z_vret C hr u rfl h dX0_dropOldRules_45
  · have h := h.2 hc101
    refine z_aload_n C dX0_dropOldRules_10 rfl 0 rfl ?_
    refine z_bipush (v := 13) C dX0_dropOldRules_11 (by decide) ?_
    refine z_iload_n C dX0_dropOldRules_13 rfl 3 rfl ?_
    refine c0i (As := [.int 13, .int x3]) C (c_X0_get l g ad u 13 x3 _ h) v_X0_get ml0_25 rfl ⟨Nat.le_of_ble_eq_true rfl, Nat.le_of_ble_eq_true rfl⟩ ⟨Nat.zero_le _, Nat.zero_le _⟩ (Nat.le_of_ble_eq_true rfl) rfl dX0_dropOldRules_14 ?_
    intro r102 u103 h
    refine z_iconst (v := (-1)) C dX0_dropOldRules_17 (by decide) ?_
    refine z_icmp_eq C dX0_dropOldRules_18 (tgt := 39) (by decide) (fun hc104 => ?_) (fun hc104 => ?_)
    · have h := h.1 hc104
      exact b_X0_dropOldRules_39 C hr ad Q B2 hB2 u103 x1 x2 x3 h
    · have h := h.2 hc104
      refine z_aload_n C dX0_dropOldRules_21 rfl 0 rfl ?_
      refine z_bipush (v := 14) C dX0_dropOldRules_22 (by decide) ?_
      refine z_iload_n C dX0_dropOldRules_24 rfl 3 rfl ?_
      refine c0i (As := [.int 14, .int x3]) C (c_X0_get l g ad u103 14 x3 _ h) v_X0_get ml0_25 rfl ⟨Nat.le_of_ble_eq_true rfl, Nat.le_of_ble_eq_true rfl⟩ ⟨Nat.zero_le _, Nat.zero_le _⟩ (Nat.le_of_ble_eq_true rfl) rfl dX0_dropOldRules_25 ?_
      intro r106 u107 h
      refine z_iload_n C dX0_dropOldRules_28 rfl 2 rfl ?_
      refine z_iadd C dX0_dropOldRules_29 ?_
      refine z_iload_n C dX0_dropOldRules_30 rfl 1 rfl ?_
      refine z_icmp_ge C dX0_dropOldRules_31 (tgt := 39) (by decide) (fun hc108 => ?_) (fun hc108 => ?_)
      · have h := h.1 hc108
        exact b_X0_dropOldRules_39 C hr ad Q B2 hB2 u107 x1 x2 x3 h
      · have h := h.2 hc108
        refine z_aload_n C dX0_dropOldRules_34 rfl 0 rfl ?_
        refine z_iload_n C dX0_dropOldRules_35 rfl 3 rfl ?_
        refine c0v (As := [.int x3]) C (c_X0_dropRule l g ad u107 x3 _ h) v_X0_dropRule ml0_43 rfl ⟨Nat.le_of_ble_eq_true rfl, Nat.le_of_ble_eq_true rfl⟩ ⟨Nat.zero_le _, Nat.zero_le _⟩ (Nat.le_of_ble_eq_true rfl) rfl dX0_dropOldRules_36 ?_
        intro u109 h
        exact b_X0_dropOldRules_39 C hr ad Q B2 hB2 u109 x1 x2 x3 h
theorem l_X0_dropOldRules_2 (C : zC p s m args meth c g A cX0_dropOldRules RX0 4) (hr : meth.sig.returnType = none) (ad : Nat → Nat) (Q : RS → Prop) : ∀ (n : Nat) (u : RS) (x1 : Int32) (x2 : Int32) (x3 : Int32), zit4 (wp_X0_dropOldRules_2 Q) n u x1 x2 x3 → j_X0_dropOldRules p l e s m args below meth c g A ad Q u 2 [(0, .ref (ad 0)), (1, .int x1), (2, .int x2), (3, .int x3)] [] := by
  intro n
  induction n with
  | zero => exact fun u x1 x2 x3 h => h.elim
  | succ n ih => exact fun u x1 x2 x3 h => b_X0_dropOldRules_2 C hr ad Q (zit4 (wp_X0_dropOldRules_2 Q) n) ih u x1 x2 x3 h
def wp_X0_dropOldRules (u : RS) (x1 : Int32) (x2 : Int32) (Q : RS → Prop) : Prop :=
  (∃ n, zit4 (wp_X0_dropOldRules_2 Q) n u x1 x2 0)
set_option maxRecDepth 20000 in
theorem c_X0_dropOldRules (l : Launch) (g : zG) (ad : Nat → Nat) (u : RS) (x1 : Int32) (x2 : Int32) (Q : RS → Prop) (h : wp_X0_dropOldRules u x1 x2 Q) : zMv l yX0_dropOldRules cX0_dropOldRules 4 none 2 0 0 g [.ref (ad 0), .int x1, .int x2] (wX0 g ad u) (wX0 g ad) Q := by
  refine zMv_of RX0 (by decide) rfl [(0, .ref (ad 0)), (1, .int x1), (2, .int x2)] rfl (Nat.le_of_ble_eq_true rfl) (fun p e s m args below meth c A C hr hnm => ?_)
  unfold wp_X0_dropOldRules at h
  refine z_iconst (v := 0) C dX0_dropOldRules_0 (by decide) ?_
  refine z_istore_n (lv1 := [(3, .int 0), (0, .ref (ad 0)), (1, .int x1), (2, .int x2)]) C dX0_dropOldRules_1 rfl (by decide) rfl ?_
  refine z_lv (lv1 := [(0, .ref (ad 0)), (1, .int x1), (2, .int x2), (3, .int 0)]) [1, 2, 3, 0] rfl ?_
  obtain ⟨n9, h⟩ := h
  exact l_X0_dropOldRules_2 C hr ad Q n9 u x1 x2 0 h
abbrev j_X2_hashFields (p : Program) (l : Launch) (e : Env) (s : State) (m : MethodId) (args : Array Value) (below : List Frame) (meth : Method) (c : Code) (g : zG) (A : Nat → Prop) (ad : Nat → Nat) (Q : Int32 → RS → Prop) (u : RS) (pc : Nat) (lv : List (Nat × Value)) (st : List Value) : Prop := zJ p l e (zR 2 0 0) s m args below meth c g A 6 (zQi below args s g A 0 0 (wX2 g ad) Q) (wX2 g ad u) 0 0 pc lv st
def wp_X2_hashFields (u : RS) (x1 : Int32) (x2 : Int32) (x3 : Int32) (x4 : Int32) (x5 : Int32) (Q : Int32 → RS → Prop) : Prop :=
  wp_X2_part u 0 x1 (fun r101 u102 => wp_X2_part u102 1 x2 (fun r103 u104 => wp_X2_part u104 2 x3 (fun r105 u106 => wp_X2_part u106 3 x4 (fun r107 u108 => wp_X2_part u108 4 x5 (fun r109 u110 => Q ((((r101 ^^^ r103) ^^^ r105) ^^^ r107) ^^^ r109) u110)))))
set_option maxRecDepth 20000 in
theorem c_X2_hashFields (l : Launch) (g : zG) (ad : Nat → Nat) (u : RS) (x1 : Int32) (x2 : Int32) (x3 : Int32) (x4 : Int32) (x5 : Int32) (Q : Int32 → RS → Prop) (h : wp_X2_hashFields u x1 x2 x3 x4 x5 Q) : zMi l yX2_hashFields cX2_hashFields 6 (some .int) 2 0 0 g [.ref (ad 0), .int x1, .int x2, .int x3, .int x4, .int x5] (wX2 g ad u) (wX2 g ad) Q := by
  refine zMi_of RX2 (by decide) rfl [(0, .ref (ad 0)), (1, .int x1), (2, .int x2), (3, .int x3), (4, .int x4), (5, .int x5)] rfl (Nat.le_of_ble_eq_true rfl) (fun p e s m args below meth c A C hr hnm => ?_)
  unfold wp_X2_hashFields at h
  refine z_aload_n C dX2_hashFields_0 rfl 0 rfl ?_
  refine z_iconst (v := 0) C dX2_hashFields_1 (by decide) ?_
  refine z_iload_n C dX2_hashFields_2 rfl 1 rfl ?_
  refine c2i (As := [.int 0, .int x1]) C (c_X2_part l g ad u 0 x1 _ h) v_X2_part ml2_33 rfl ⟨Nat.le_of_ble_eq_true rfl, Nat.le_of_ble_eq_true rfl⟩ ⟨Nat.zero_le _, Nat.zero_le _⟩ (Nat.le_of_ble_eq_true rfl) rfl dX2_hashFields_3 ?_
  intro r101 u102 h
  refine z_aload_n C dX2_hashFields_6 rfl 0 rfl ?_
  refine z_iconst (v := 1) C dX2_hashFields_7 (by decide) ?_
  refine z_iload_n C dX2_hashFields_8 rfl 2 rfl ?_
  refine c2i (As := [.int 1, .int x2]) C (c_X2_part l g ad u102 1 x2 _ h) v_X2_part ml2_33 rfl ⟨Nat.le_of_ble_eq_true rfl, Nat.le_of_ble_eq_true rfl⟩ ⟨Nat.zero_le _, Nat.zero_le _⟩ (Nat.le_of_ble_eq_true rfl) rfl dX2_hashFields_9 ?_
  intro r103 u104 h
  refine z_ixor C dX2_hashFields_12 ?_
  refine z_aload_n C dX2_hashFields_13 rfl 0 rfl ?_
  refine z_iconst (v := 2) C dX2_hashFields_14 (by decide) ?_
  refine z_iload_n C dX2_hashFields_15 rfl 3 rfl ?_
  refine c2i (As := [.int 2, .int x3]) C (c_X2_part l g ad u104 2 x3 _ h) v_X2_part ml2_33 rfl ⟨Nat.le_of_ble_eq_true rfl, Nat.le_of_ble_eq_true rfl⟩ ⟨Nat.zero_le _, Nat.zero_le _⟩ (Nat.le_of_ble_eq_true rfl) rfl dX2_hashFields_16 ?_
  intro r105 u106 h
  refine z_ixor C dX2_hashFields_19 ?_
  refine z_aload_n C dX2_hashFields_20 rfl 0 rfl ?_
  refine z_iconst (v := 3) C dX2_hashFields_21 (by decide) ?_
  refine z_iload C dX2_hashFields_22 4 rfl ?_
  refine c2i (As := [.int 3, .int x4]) C (c_X2_part l g ad u106 3 x4 _ h) v_X2_part ml2_33 rfl ⟨Nat.le_of_ble_eq_true rfl, Nat.le_of_ble_eq_true rfl⟩ ⟨Nat.zero_le _, Nat.zero_le _⟩ (Nat.le_of_ble_eq_true rfl) rfl dX2_hashFields_24 ?_
  intro r107 u108 h
  refine z_ixor C dX2_hashFields_27 ?_
  refine z_aload_n C dX2_hashFields_28 rfl 0 rfl ?_
  refine z_iconst (v := 4) C dX2_hashFields_29 (by decide) ?_
  refine z_iload C dX2_hashFields_30 5 rfl ?_
  refine c2i (As := [.int 4, .int x5]) C (c_X2_part l g ad u108 4 x5 _ h) v_X2_part ml2_33 rfl ⟨Nat.le_of_ble_eq_true rfl, Nat.le_of_ble_eq_true rfl⟩ ⟨Nat.zero_le _, Nat.zero_le _⟩ (Nat.le_of_ble_eq_true rfl) rfl dX2_hashFields_32 ?_
  intro r109 u110 h
  refine z_ixor C dX2_hashFields_35 ?_
  exact z_iret C hr u110 rfl h dX2_hashFields_36
abbrev j_X2_hashesBothWaysAlike (p : Program) (l : Launch) (e : Env) (s : State) (m : MethodId) (args : Array Value) (below : List Frame) (meth : Method) (c : Code) (g : zG) (A : Nat → Prop) (ad : Nat → Nat) (Q : Int32 → RS → Prop) (u : RS) (pc : Nat) (lv : List (Nat × Value)) (st : List Value) : Prop := zJ p l e (zR 2 0 0) s m args below meth c g A 2 (zQi below args s g A 0 0 (wX2 g ad) Q) (wX2 g ad u) 0 0 pc lv st
def wp_X2_hashesBothWaysAlike_39 (Q : Int32 → RS → Prop) (u : RS) : Prop :=
  Q 0 u
set_option maxRecDepth 20000 in
theorem b_X2_hashesBothWaysAlike_39 (C : zC p s m args meth c g A cX2_hashesBothWaysAlike RX2 2) (hr : meth.sig.returnType = (some .boolean)) (ad : Nat → Nat) (Q : Int32 → RS → Prop) (u : RS) (h : wp_X2_hashesBothWaysAlike_39 Q u) : j_X2_hashesBothWaysAlike p l e s m args below meth c g A ad Q u 39 [(0, .ref (ad 0))] [] := by
  unfold wp_X2_hashesBothWaysAlike_39 at h
  refine z_iconst (v := 0) C dX2_hashesBothWaysAlike_39 (by decide) ?_
  exact z_zret C hr u rfl (Or.inl rfl) h dX2_hashesBothWaysAlike_40
def wp_X2_hashesBothWaysAlike_2 (Q : Int32 → RS → Prop) (B2 : RS → Int32 → Prop) (u : RS) (x1 : Int32) : Prop :=
  ((256 ≤ x1 → Q 1 u) ∧ (¬ 256 ≤ x1 → wp_X2_part u 0 x1 (fun r102 u103 => wp_X2_part u103 1 x1 (fun r104 u105 => ((¬ r102 = r104 → wp_X2_hashesBothWaysAlike_39 Q u105) ∧ (r102 = r104 → wp_X2_part u105 2 x1 (fun r107 u108 => wp_X2_part u108 3 x1 (fun r109 u110 => ((r107 = r109 → ∀ x112 : Int32, x112 = x1 <<< (1 &&& 31) → B2 u110 x112) ∧ (¬ r107 = r109 → wp_X2_hashesBothWaysAlike_39 Q u110))))))))))
set_option maxRecDepth 20000 in
theorem b_X2_hashesBothWaysAlike_2 (C : zC p s m args meth c g A cX2_hashesBothWaysAlike RX2 2) (hr : meth.sig.returnType = (some .boolean)) (ad : Nat → Nat) (Q : Int32 → RS → Prop) (B2 : RS → Int32 → Prop) (hB2 : ∀ (u : RS) (x1 : Int32), B2 u x1 → j_X2_hashesBothWaysAlike p l e s m args below meth c g A ad Q u 2 [(0, .ref (ad 0)), (1, .int x1)] []) (u : RS) (x1 : Int32) (h : wp_X2_hashesBothWaysAlike_2 Q B2 u x1) : j_X2_hashesBothWaysAlike p l e s m args below meth c g A ad Q u 2 [(0, .ref (ad 0)), (1, .int x1)] [] := by
  unfold wp_X2_hashesBothWaysAlike_2 at h
  refine z_iload_n C dX2_hashesBothWaysAlike_2 rfl 1 rfl ?_
  refine z_sipush (v := 256) C dX2_hashesBothWaysAlike_3 (by decide) ?_
  refine z_icmp_ge C dX2_hashesBothWaysAlike_6 (tgt := 48) (by decide) (fun hc101 => ?_) (fun hc101 => ?_)
  · have h := h.1 hc101
    refine z_iconst (v := 1) C dX2_hashesBothWaysAlike_48 (by decide) ?_
    exact z_zret C hr u rfl (Or.inr rfl) h dX2_hashesBothWaysAlike_49
  · have h := h.2 hc101
    refine z_aload_n C dX2_hashesBothWaysAlike_9 rfl 0 rfl ?_
    refine z_iconst (v := 0) C dX2_hashesBothWaysAlike_10 (by decide) ?_
    refine z_iload_n C dX2_hashesBothWaysAlike_11 rfl 1 rfl ?_
    refine c2i (As := [.int 0, .int x1]) C (c_X2_part l g ad u 0 x1 _ h) v_X2_part ml2_33 rfl ⟨Nat.le_of_ble_eq_true rfl, Nat.le_of_ble_eq_true rfl⟩ ⟨Nat.zero_le _, Nat.zero_le _⟩ (Nat.le_of_ble_eq_true rfl) rfl dX2_hashesBothWaysAlike_12 ?_
    intro r102 u103 h
    refine z_aload_n C dX2_hashesBothWaysAlike_15 rfl 0 rfl ?_
    refine z_iconst (v := 1) C dX2_hashesBothWaysAlike_16 (by decide) ?_
    refine z_iload_n C dX2_hashesBothWaysAlike_17 rfl 1 rfl ?_
    refine c2i (As := [.int 1, .int x1]) C (c_X2_part l g ad u103 1 x1 _ h) v_X2_part ml2_33 rfl ⟨Nat.le_of_ble_eq_true rfl, Nat.le_of_ble_eq_true rfl⟩ ⟨Nat.zero_le _, Nat.zero_le _⟩ (Nat.le_of_ble_eq_true rfl) rfl dX2_hashesBothWaysAlike_18 ?_
    intro r104 u105 h
    refine z_icmp_ne C dX2_hashesBothWaysAlike_21 (tgt := 39) (by decide) (fun hc106 => ?_) (fun hc106 => ?_)
    · have h := h.1 hc106
      refine z_lv (lv1 := [(0, .ref (ad 0))]) [0] rfl ?_
      exact b_X2_hashesBothWaysAlike_39 C hr ad Q u105 h
    · have h := h.2 hc106
      refine z_aload_n C dX2_hashesBothWaysAlike_24 rfl 0 rfl ?_
      refine z_iconst (v := 2) C dX2_hashesBothWaysAlike_25 (by decide) ?_
      refine z_iload_n C dX2_hashesBothWaysAlike_26 rfl 1 rfl ?_
      refine c2i (As := [.int 2, .int x1]) C (c_X2_part l g ad u105 2 x1 _ h) v_X2_part ml2_33 rfl ⟨Nat.le_of_ble_eq_true rfl, Nat.le_of_ble_eq_true rfl⟩ ⟨Nat.zero_le _, Nat.zero_le _⟩ (Nat.le_of_ble_eq_true rfl) rfl dX2_hashesBothWaysAlike_27 ?_
      intro r107 u108 h
      refine z_aload_n C dX2_hashesBothWaysAlike_30 rfl 0 rfl ?_
      refine z_iconst (v := 3) C dX2_hashesBothWaysAlike_31 (by decide) ?_
      refine z_iload_n C dX2_hashesBothWaysAlike_32 rfl 1 rfl ?_
      refine c2i (As := [.int 3, .int x1]) C (c_X2_part l g ad u108 3 x1 _ h) v_X2_part ml2_33 rfl ⟨Nat.le_of_ble_eq_true rfl, Nat.le_of_ble_eq_true rfl⟩ ⟨Nat.zero_le _, Nat.zero_le _⟩ (Nat.le_of_ble_eq_true rfl) rfl dX2_hashesBothWaysAlike_33 ?_
      intro r109 u110 h
      refine z_icmp_eq C dX2_hashesBothWaysAlike_36 (tgt := 41) (by decide) (fun hc111 => ?_) (fun hc111 => ?_)
      · have h := h.1 hc111
        refine z_iload_n C dX2_hashesBothWaysAlike_41 rfl 1 rfl ?_
        refine z_iconst (v := 1) C dX2_hashesBothWaysAlike_42 (by decide) ?_
        refine z_ishl C dX2_hashesBothWaysAlike_43 ?_
        refine z_topi (fun x112 ex112 => ?_)
        have h := h x112 ex112
        refine z_istore_n (lv1 := [(1, .int x112), (0, .ref (ad 0))]) C dX2_hashesBothWaysAlike_44 rfl (by decide) rfl ?_
        refine z_goto C dX2_hashesBothWaysAlike_45 (tgt := 2) (by decide) ?_
        refine z_lv (lv1 := [(0, .ref (ad 0)), (1, .int x112)]) [1, 0] rfl ?_
        exact hB2 u110 x112 h
      · have h := h.2 hc111
        refine z_lv (lv1 := [(0, .ref (ad 0))]) [0] rfl ?_
        exact b_X2_hashesBothWaysAlike_39 C hr ad Q u110 h
theorem l_X2_hashesBothWaysAlike_2 (C : zC p s m args meth c g A cX2_hashesBothWaysAlike RX2 2) (hr : meth.sig.returnType = (some .boolean)) (ad : Nat → Nat) (Q : Int32 → RS → Prop) : ∀ (n : Nat) (u : RS) (x1 : Int32), zit2 (wp_X2_hashesBothWaysAlike_2 Q) n u x1 → j_X2_hashesBothWaysAlike p l e s m args below meth c g A ad Q u 2 [(0, .ref (ad 0)), (1, .int x1)] [] := by
  intro n
  induction n with
  | zero => exact fun u x1 h => h.elim
  | succ n ih => exact fun u x1 h => b_X2_hashesBothWaysAlike_2 C hr ad Q (zit2 (wp_X2_hashesBothWaysAlike_2 Q) n) ih u x1 h
def wp_X2_hashesBothWaysAlike (u : RS) (Q : Int32 → RS → Prop) : Prop :=
  (∃ n, zit2 (wp_X2_hashesBothWaysAlike_2 Q) n u 1)
set_option maxRecDepth 20000 in
theorem c_X2_hashesBothWaysAlike (l : Launch) (g : zG) (ad : Nat → Nat) (u : RS) (Q : Int32 → RS → Prop) (h : wp_X2_hashesBothWaysAlike u Q) : zMi l yX2_hashesBothWaysAlike cX2_hashesBothWaysAlike 2 (some .boolean) 2 0 0 g [.ref (ad 0)] (wX2 g ad u) (wX2 g ad) Q := by
  refine zMi_of RX2 (by decide) rfl [(0, .ref (ad 0))] rfl (Nat.le_of_ble_eq_true rfl) (fun p e s m args below meth c A C hr hnm => ?_)
  unfold wp_X2_hashesBothWaysAlike at h
  refine z_iconst (v := 1) C dX2_hashesBothWaysAlike_0 (by decide) ?_
  refine z_istore_n (lv1 := [(1, .int 1), (0, .ref (ad 0))]) C dX2_hashesBothWaysAlike_1 rfl (by decide) rfl ?_
  refine z_lv (lv1 := [(0, .ref (ad 0)), (1, .int 1)]) [1, 0] rfl ?_
  obtain ⟨n9, h⟩ := h
  exact l_X2_hashesBothWaysAlike_2 C hr ad Q n9 u 1 h
abbrev j_X6_mostHits (p : Program) (l : Launch) (e : Env) (s : State) (m : MethodId) (args : Array Value) (below : List Frame) (meth : Method) (c : Code) (g : zG) (A : Nat → Prop) (ad : Nat → Nat) (Q : Int32 → RS → Prop) (u : RS) (pc : Nat) (lv : List (Nat × Value)) (st : List Value) : Prop := zJ p l e (zR 2 0 0) s m args below meth c g A 3 (zQi below args s g A 0 0 (wX6 g ad) Q) (wX6 g ad u) 0 0 pc lv st
def wp_X6_mostHits_13 (Q : Int32 → RS → Prop) (B13 : RS → Int32 → Int32 → Prop) (u : RS) (x1 : Int32) (x2 : Int32) : Prop :=
  ((4 ≤ x2 → Q x1 u) ∧ (¬ 4 ≤ x2 → vp_in x2 4 ∧ ∀ x105 : Int32, x105 = zmax x1 (u.1 3 (zn x2)) → ∀ x106 : Int32, x106 = x2 + 1 → B13 u x105 x106))
set_option maxRecDepth 20000 in
theorem b_X6_mostHits_13 (C : zC p s m args meth c g A cX6_mostHits RX6 3) (hr : meth.sig.returnType = (some .int)) (ad : Nat → Nat) (Q : Int32 → RS → Prop) (B13 : RS → Int32 → Int32 → Prop) (hB13 : ∀ (u : RS) (x1 : Int32) (x2 : Int32), B13 u x1 x2 → j_X6_mostHits p l e s m args below meth c g A ad Q u 13 [(0, .ref (ad 0)), (1, .int x1), (2, .int x2)] []) (u : RS) (x1 : Int32) (x2 : Int32) (h : wp_X6_mostHits_13 Q B13 u x1 x2) : j_X6_mostHits p l e s m args below meth c g A ad Q u 13 [(0, .ref (ad 0)), (1, .int x1), (2, .int x2)] [] := by
  unfold wp_X6_mostHits_13 at h
  refine z_iload_n C dX6_mostHits_13 rfl 2 rfl ?_
  refine z_iconst (v := 4) C dX6_mostHits_14 (by decide) ?_
  refine z_icmp_ge C dX6_mostHits_15 (tgt := 35) (by decide) (fun hc103 => ?_) (fun hc103 => ?_)
  · have h := h.1 hc103
    refine z_iload_n C dX6_mostHits_35 rfl 1 rfl ?_
    exact z_iret C hr u rfl h dX6_mostHits_36
  · have h := h.2 hc103
    refine z_iload_n C dX6_mostHits_18 rfl 1 rfl ?_
    refine z_aload_n C dX6_mostHits_19 rfl 0 rfl ?_
    refine g6_sums C dX6_mostHits_20 ?_
    refine z_iload_n C dX6_mostHits_23 rfl 2 rfl ?_
    obtain ⟨hi104, h⟩ := h
    refine l6_sums C hi104 dX6_mostHits_24 ?_
    refine z_mmax C mj6_33 (Nat.le_of_ble_eq_true rfl) (Nat.le_of_ble_eq_true rfl) ⟨Nat.zero_le _, Nat.zero_le _⟩ dX6_mostHits_25 ?_
    refine z_topi (fun x105 ex105 => ?_)
    have h := h x105 ex105
    refine z_istore_n (lv1 := [(1, .int x105), (0, .ref (ad 0)), (2, .int x2)]) C dX6_mostHits_28 rfl (by decide) rfl ?_
    obtain ⟨x106, ex106⟩ : ∃ y : Int32, y = x2 + 1 := ⟨_, rfl⟩
    have h := h x106 ex106
    refine z_iinc (v := x106) (lv1 := [(2, .int x106), (1, .int x105), (0, .ref (ad 0))]) C dX6_mostHits_29 2 rfl (by rw [ex106]; rfl) (by decide) rfl ?_
    refine z_goto C dX6_mostHits_32 (tgt := 13) (by decide) ?_
    refine z_lv (lv1 := [(0, .ref (ad 0)), (1, .int x105), (2, .int x106)]) [2, 1, 0] rfl ?_
    exact hB13 u x105 x106 h
theorem l_X6_mostHits_13 (C : zC p s m args meth c g A cX6_mostHits RX6 3) (hr : meth.sig.returnType = (some .int)) (ad : Nat → Nat) (Q : Int32 → RS → Prop) : ∀ (n : Nat) (u : RS) (x1 : Int32) (x2 : Int32), zit3 (wp_X6_mostHits_13 Q) n u x1 x2 → j_X6_mostHits p l e s m args below meth c g A ad Q u 13 [(0, .ref (ad 0)), (1, .int x1), (2, .int x2)] [] := by
  intro n
  induction n with
  | zero => exact fun u x1 x2 h => h.elim
  | succ n ih => exact fun u x1 x2 h => b_X6_mostHits_13 C hr ad Q (zit3 (wp_X6_mostHits_13 Q) n) ih u x1 x2 h
def wp_X6_mostHits (u : RS) (Q : Int32 → RS → Prop) : Prop :=
  wp_X6_sumHits u (fun u101 => ∀ x102 : Int32, x102 = u101.1 3 0 → (∃ n, zit3 (wp_X6_mostHits_13 Q) n u101 x102 1))
set_option maxRecDepth 20000 in
theorem c_X6_mostHits (l : Launch) (g : zG) (ad : Nat → Nat) (u : RS) (Q : Int32 → RS → Prop) (h : wp_X6_mostHits u Q) : zMi l yX6_mostHits cX6_mostHits 3 (some .int) 2 0 0 g [.ref (ad 0)] (wX6 g ad u) (wX6 g ad) Q := by
  refine zMi_of RX6 (by decide) rfl [(0, .ref (ad 0))] rfl (Nat.le_of_ble_eq_true rfl) (fun p e s m args below meth c A C hr hnm => ?_)
  unfold wp_X6_mostHits at h
  refine z_aload_n C dX6_mostHits_0 rfl 0 rfl ?_
  refine c6v (As := []) C (c_X6_sumHits l g ad u _ h) v_X6_sumHits ml6_30 rfl ⟨Nat.le_of_ble_eq_true rfl, Nat.le_of_ble_eq_true rfl⟩ ⟨Nat.zero_le _, Nat.zero_le _⟩ (Nat.le_of_ble_eq_true rfl) rfl dX6_mostHits_1 ?_
  intro u101 h
  refine z_aload_n C dX6_mostHits_4 rfl 0 rfl ?_
  refine g6_sums C dX6_mostHits_5 ?_
  refine z_iconst (v := 0) C dX6_mostHits_8 (by decide) ?_
  refine ln6_sums C 0 (by decide +kernel) (vp_in_iff.mpr (by decide +kernel)) dX6_mostHits_9 ?_
  refine z_topi (fun x102 ex102 => ?_)
  have h := h x102 ex102
  refine z_istore_n (lv1 := [(1, .int x102), (0, .ref (ad 0))]) C dX6_mostHits_10 rfl (by decide) rfl ?_
  refine z_iconst (v := 1) C dX6_mostHits_11 (by decide) ?_
  refine z_istore_n (lv1 := [(2, .int 1), (1, .int x102), (0, .ref (ad 0))]) C dX6_mostHits_12 rfl (by decide) rfl ?_
  refine z_lv (lv1 := [(0, .ref (ad 0)), (1, .int x102), (2, .int 1)]) [2, 1, 0] rfl ?_
  obtain ⟨n9, h⟩ := h
  exact l_X6_mostHits_13 C hr ad Q n9 u101 x102 1 h
abbrev j_X6_leastHits (p : Program) (l : Launch) (e : Env) (s : State) (m : MethodId) (args : Array Value) (below : List Frame) (meth : Method) (c : Code) (g : zG) (A : Nat → Prop) (ad : Nat → Nat) (Q : Int32 → RS → Prop) (u : RS) (pc : Nat) (lv : List (Nat × Value)) (st : List Value) : Prop := zJ p l e (zR 2 0 0) s m args below meth c g A 1 (zQi below args s g A 0 0 (wX6 g ad) Q) (wX6 g ad u) 0 0 pc lv st
def wp_X6_leastHits (u : RS) (Q : Int32 → RS → Prop) : Prop :=
  wp_X6_sumHits u (fun u101 => wp_X6_leastQueue u101 (-1) (fun r102 u103 => vp_in r102 4 ∧ Q (u103.1 3 (zn r102)) u103))
set_option maxRecDepth 20000 in
theorem c_X6_leastHits (l : Launch) (g : zG) (ad : Nat → Nat) (u : RS) (Q : Int32 → RS → Prop) (h : wp_X6_leastHits u Q) : zMi l yX6_leastHits cX6_leastHits 1 (some .int) 2 0 0 g [.ref (ad 0)] (wX6 g ad u) (wX6 g ad) Q := by
  refine zMi_of RX6 (by decide) rfl [(0, .ref (ad 0))] rfl (Nat.le_of_ble_eq_true rfl) (fun p e s m args below meth c A C hr hnm => ?_)
  unfold wp_X6_leastHits at h
  refine z_aload_n C dX6_leastHits_0 rfl 0 rfl ?_
  refine c6v (As := []) C (c_X6_sumHits l g ad u _ h) v_X6_sumHits ml6_30 rfl ⟨Nat.le_of_ble_eq_true rfl, Nat.le_of_ble_eq_true rfl⟩ ⟨Nat.zero_le _, Nat.zero_le _⟩ (Nat.le_of_ble_eq_true rfl) rfl dX6_leastHits_1 ?_
  intro u101 h
  refine z_aload_n C dX6_leastHits_4 rfl 0 rfl ?_
  refine g6_sums C dX6_leastHits_5 ?_
  refine z_aload_n C dX6_leastHits_8 rfl 0 rfl ?_
  refine z_iconst (v := (-1)) C dX6_leastHits_9 (by decide) ?_
  refine c6i (As := [.int (-1)]) C (c_X6_leastQueue l g ad u101 (-1) _ h) v_X6_leastQueue ml6_39 rfl ⟨Nat.le_of_ble_eq_true rfl, Nat.le_of_ble_eq_true rfl⟩ ⟨Nat.zero_le _, Nat.zero_le _⟩ (Nat.le_of_ble_eq_true rfl) rfl dX6_leastHits_10 ?_
  intro r102 u103 h
  obtain ⟨hi104, h⟩ := h
  refine l6_sums C hi104 dX6_leastHits_13 ?_
  exact z_iret C hr u103 rfl h dX6_leastHits_14
abbrev j_X6_emptyOut (p : Program) (l : Launch) (e : Env) (s : State) (m : MethodId) (args : Array Value) (below : List Frame) (meth : Method) (c : Code) (g : zG) (A : Nat → Prop) (ad : Nat → Nat) (Q : Int32 → RS → Prop) (u : RS) (pc : Nat) (lv : List (Nat × Value)) (st : List Value) : Prop := zJ p l e (zR 2 0 0) s m args below meth c g A 6 (zQi below args s g A 0 0 (wX6 g ad) Q) (wX6 g ad u) 0 0 pc lv st
def wp_X6_emptyOut_73 (Q : Int32 → RS → Prop) (B12 : RS → Int32 → Int32 → Int32 → Prop) (u : RS) (x1 : Int32) (x2 : Int32) (x3 : Int32) : Prop :=
  ∀ x108 : Int32, x108 = x3 + 1 → B12 u x1 x2 x108
set_option maxRecDepth 20000 in
theorem b_X6_emptyOut_73 (C : zC p s m args meth c g A cX6_emptyOut RX6 6) (hr : meth.sig.returnType = (some .int)) (ad : Nat → Nat) (Q : Int32 → RS → Prop) (B12 : RS → Int32 → Int32 → Int32 → Prop) (hB12 : ∀ (u : RS) (x1 : Int32) (x2 : Int32) (x3 : Int32), B12 u x1 x2 x3 → j_X6_emptyOut p l e s m args below meth c g A ad Q u 12 [(0, .ref (ad 0)), (1, .int x1), (2, .int x2), (3, .int x3)] []) (u : RS) (x1 : Int32) (x2 : Int32) (x3 : Int32) (h : wp_X6_emptyOut_73 Q B12 u x1 x2 x3) : j_X6_emptyOut p l e s m args below meth c g A ad Q u 73 [(0, .ref (ad 0)), (1, .int x1), (2, .int x2), (3, .int x3)] [] := by
  unfold wp_X6_emptyOut_73 at h
  obtain ⟨x108, ex108⟩ : ∃ y : Int32, y = x3 + 1 := ⟨_, rfl⟩
  have h := h x108 ex108
  refine z_iinc (v := x108) (lv1 := [(3, .int x108), (0, .ref (ad 0)), (1, .int x1), (2, .int x2)]) C dX6_emptyOut_73 3 rfl (by rw [ex108]; rfl) (by decide) rfl ?_
  refine z_goto C dX6_emptyOut_76 (tgt := 12) (by decide) ?_
  refine z_lv (lv1 := [(0, .ref (ad 0)), (1, .int x1), (2, .int x2), (3, .int x108)]) [1, 2, 3, 0] rfl ?_
  exact hB12 u x1 x2 x108 h
def wp_X6_emptyOut_12 (Q : Int32 → RS → Prop) (B12 : RS → Int32 → Int32 → Int32 → Prop) (u : RS) (x1 : Int32) (x2 : Int32) (x3 : Int32) : Prop :=
  ((16 ≤ x3 → Q x2 u) ∧ (¬ 16 ≤ x3 → vp_in x3 16 ∧ ∀ x105 : Int32, x105 = u.1 2 (zn x3) → vp_in x105 16 ∧ ((¬ u.1 0 (zn x105) = x1 → wp_X6_emptyOut_73 Q B12 u x1 x2 x3) ∧ (u.1 0 (zn x105) = x1 → wp_X6_leastQueue u x1 (fun r109 u110 => vp_in x105 16 ∧ ∀ u112 : RS, u112 = rI u110 0 (upd (u110.1 0) (zn x105) r109) → vp_in r109 4 ∧ vp_in x105 16 ∧ vp_in r109 4 ∧ ∀ u116 : RS, u116 = rI u112 3 (upd (u112.1 3) (zn r109) ((u112.1 3 (zn r109)) + (u112.1 1 (zn x105)))) → ∀ x117 : Int32, x117 = x2 + 1 → wp_X6_emptyOut_73 Q B12 u116 x1 x117 x3)))))
set_option maxRecDepth 20000 in
theorem b_X6_emptyOut_12 (C : zC p s m args meth c g A cX6_emptyOut RX6 6) (hr : meth.sig.returnType = (some .int)) (ad : Nat → Nat) (Q : Int32 → RS → Prop) (B12 : RS → Int32 → Int32 → Int32 → Prop) (hB12 : ∀ (u : RS) (x1 : Int32) (x2 : Int32) (x3 : Int32), B12 u x1 x2 x3 → j_X6_emptyOut p l e s m args below meth c g A ad Q u 12 [(0, .ref (ad 0)), (1, .int x1), (2, .int x2), (3, .int x3)] []) (u : RS) (x1 : Int32) (x2 : Int32) (x3 : Int32) (h : wp_X6_emptyOut_12 Q B12 u x1 x2 x3) : j_X6_emptyOut p l e s m args below meth c g A ad Q u 12 [(0, .ref (ad 0)), (1, .int x1), (2, .int x2), (3, .int x3)] [] := by
  unfold wp_X6_emptyOut_12 at h
  refine z_iload_n C dX6_emptyOut_12 rfl 3 rfl ?_
  refine z_bipush (v := 16) C dX6_emptyOut_13 (by decide) ?_
  refine z_icmp_ge C dX6_emptyOut_15 (tgt := 79) (by decide) (fun hc103 => ?_) (fun hc103 => ?_)
  · have h := h.1 hc103
    refine z_iload_n C dX6_emptyOut_79 rfl 2 rfl ?_
    exact z_iret C hr u rfl h dX6_emptyOut_80
  · have h := h.2 hc103
    refine z_aload_n C dX6_emptyOut_18 rfl 0 rfl ?_
    refine g6_order C dX6_emptyOut_19 ?_
    refine z_iload_n C dX6_emptyOut_22 rfl 3 rfl ?_
    obtain ⟨hi104, h⟩ := h
    refine l6_order C hi104 dX6_emptyOut_23 ?_
    refine z_topi (fun x105 ex105 => ?_)
    have h := h x105 ex105
    refine z_istore (lv1 := [(4, .int x105), (0, .ref (ad 0)), (1, .int x1), (2, .int x2), (3, .int x3)]) C dX6_emptyOut_24 (by decide) rfl ?_
    refine z_aload_n C dX6_emptyOut_26 rfl 1 rfl ?_
    refine g6_queueOf C dX6_emptyOut_27 ?_
    refine z_iload C dX6_emptyOut_30 0 rfl ?_
    obtain ⟨hi106, h⟩ := h
    refine l6_queueOf C hi106 dX6_emptyOut_32 ?_
    refine z_iload_n C dX6_emptyOut_33 rfl 2 rfl ?_
    refine z_icmp_ne C dX6_emptyOut_34 (tgt := 73) (by decide) (fun hc107 => ?_) (fun hc107 => ?_)
    · have h := h.1 hc107
      refine z_lv (lv1 := [(0, .ref (ad 0)), (1, .int x1), (2, .int x2), (3, .int x3)]) [1, 2, 3, 4] rfl ?_
      exact b_X6_emptyOut_73 C hr ad Q B12 hB12 u x1 x2 x3 h
    · have h := h.2 hc107
      refine z_aload_n C dX6_emptyOut_37 rfl 1 rfl ?_
      refine z_iload_n C dX6_emptyOut_38 rfl 2 rfl ?_
      refine c6i (As := [.int x1]) C (c_X6_leastQueue l g ad u x1 _ h) v_X6_leastQueue ml6_39 rfl ⟨Nat.le_of_ble_eq_true rfl, Nat.le_of_ble_eq_true rfl⟩ ⟨Nat.zero_le _, Nat.zero_le _⟩ (Nat.le_of_ble_eq_true rfl) rfl dX6_emptyOut_39 ?_
      intro r109 u110 h
      refine z_istore (lv1 := [(5, .int r109), (4, .int x105), (0, .ref (ad 0)), (1, .int x1), (2, .int x2), (3, .int x3)]) C dX6_emptyOut_42 (by decide) rfl ?_
      refine z_aload_n C dX6_emptyOut_44 rfl 2 rfl ?_
      refine g6_queueOf C dX6_emptyOut_45 ?_
      refine z_iload C dX6_emptyOut_48 1 rfl ?_
      refine z_iload C dX6_emptyOut_50 0 rfl ?_
      obtain ⟨hi111, h⟩ := h
      refine s6_queueOf C hi111 dX6_emptyOut_52 ?_
      refine sT6 (fun u112 eu112 => ?_)
      have h := h u112 eu112
      refine z_aload_n C dX6_emptyOut_53 rfl 2 rfl ?_
      refine g6_sums C dX6_emptyOut_54 ?_
      refine z_iload C dX6_emptyOut_57 0 rfl ?_
      refine z_dup2 C dX6_emptyOut_59 rfl rfl ?_
      obtain ⟨hi113, h⟩ := h
      refine l6_sums C hi113 dX6_emptyOut_60 ?_
      refine z_aload_n C dX6_emptyOut_61 rfl 2 rfl ?_
      refine g6_hits C dX6_emptyOut_62 ?_
      refine z_iload C dX6_emptyOut_65 1 rfl ?_
      obtain ⟨hi114, h⟩ := h
      refine l6_hits C hi114 dX6_emptyOut_67 ?_
      refine z_iadd C dX6_emptyOut_68 ?_
      obtain ⟨hi115, h⟩ := h
      refine s6_sums C hi115 dX6_emptyOut_69 ?_
      refine sT6 (fun u116 eu116 => ?_)
      have h := h u116 eu116
      obtain ⟨x117, ex117⟩ : ∃ y : Int32, y = x2 + 1 := ⟨_, rfl⟩
      have h := h x117 ex117
      refine z_iinc (v := x117) (lv1 := [(2, .int x117), (5, .int r109), (4, .int x105), (0, .ref (ad 0)), (1, .int x1), (3, .int x3)]) C dX6_emptyOut_70 4 rfl (by rw [ex117]; rfl) (by decide) rfl ?_
      refine z_lv (lv1 := [(0, .ref (ad 0)), (1, .int x1), (2, .int x117), (3, .int x3)]) [3, 4, 0, 5] rfl ?_
      exact b_X6_emptyOut_73 C hr ad Q B12 hB12 u116 x1 x117 x3 h
theorem l_X6_emptyOut_12 (C : zC p s m args meth c g A cX6_emptyOut RX6 6) (hr : meth.sig.returnType = (some .int)) (ad : Nat → Nat) (Q : Int32 → RS → Prop) : ∀ (n : Nat) (u : RS) (x1 : Int32) (x2 : Int32) (x3 : Int32), zit4 (wp_X6_emptyOut_12 Q) n u x1 x2 x3 → j_X6_emptyOut p l e s m args below meth c g A ad Q u 12 [(0, .ref (ad 0)), (1, .int x1), (2, .int x2), (3, .int x3)] [] := by
  intro n
  induction n with
  | zero => exact fun u x1 x2 x3 h => h.elim
  | succ n ih => exact fun u x1 x2 x3 h => b_X6_emptyOut_12 C hr ad Q (zit4 (wp_X6_emptyOut_12 Q) n) ih u x1 x2 x3 h
def wp_X6_emptyOut (u : RS) (x1 : Int32) (Q : Int32 → RS → Prop) : Prop :=
  wp_X6_orderByHits u (fun u101 => wp_X6_sumHits u101 (fun u102 => (∃ n, zit4 (wp_X6_emptyOut_12 Q) n u102 x1 0 0)))
set_option maxRecDepth 20000 in
theorem c_X6_emptyOut (l : Launch) (g : zG) (ad : Nat → Nat) (u : RS) (x1 : Int32) (Q : Int32 → RS → Prop) (h : wp_X6_emptyOut u x1 Q) : zMi l yX6_emptyOut cX6_emptyOut 6 (some .int) 2 0 0 g [.ref (ad 0), .int x1] (wX6 g ad u) (wX6 g ad) Q := by
  refine zMi_of RX6 (by decide) rfl [(0, .ref (ad 0)), (1, .int x1)] rfl (Nat.le_of_ble_eq_true rfl) (fun p e s m args below meth c A C hr hnm => ?_)
  unfold wp_X6_emptyOut at h
  refine z_aload_n C dX6_emptyOut_0 rfl 0 rfl ?_
  refine c6v (As := []) C (c_X6_orderByHits l g ad u _ h) v_X6_orderByHits ml6_43 rfl ⟨Nat.le_of_ble_eq_true rfl, Nat.le_of_ble_eq_true rfl⟩ ⟨Nat.zero_le _, Nat.zero_le _⟩ (Nat.le_of_ble_eq_true rfl) rfl dX6_emptyOut_1 ?_
  intro u101 h
  refine z_aload_n C dX6_emptyOut_4 rfl 0 rfl ?_
  refine c6v (As := []) C (c_X6_sumHits l g ad u101 _ h) v_X6_sumHits ml6_30 rfl ⟨Nat.le_of_ble_eq_true rfl, Nat.le_of_ble_eq_true rfl⟩ ⟨Nat.zero_le _, Nat.zero_le _⟩ (Nat.le_of_ble_eq_true rfl) rfl dX6_emptyOut_5 ?_
  intro u102 h
  refine z_iconst (v := 0) C dX6_emptyOut_8 (by decide) ?_
  refine z_istore_n (lv1 := [(2, .int 0), (0, .ref (ad 0)), (1, .int x1)]) C dX6_emptyOut_9 rfl (by decide) rfl ?_
  refine z_iconst (v := 0) C dX6_emptyOut_10 (by decide) ?_
  refine z_istore_n (lv1 := [(3, .int 0), (2, .int 0), (0, .ref (ad 0)), (1, .int x1)]) C dX6_emptyOut_11 rfl (by decide) rfl ?_
  refine z_lv (lv1 := [(0, .ref (ad 0)), (1, .int x1), (2, .int 0), (3, .int 0)]) [2, 3, 1, 0] rfl ?_
  obtain ⟨n9, h⟩ := h
  exact l_X6_emptyOut_12 C hr ad Q n9 u102 x1 0 0 h
end WC
