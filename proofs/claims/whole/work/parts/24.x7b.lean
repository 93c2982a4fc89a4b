section WC
variable {p : Program} {l : Launch} {e : Env} {s : State} {m : MethodId} {args : Array Value} {below : List Frame} {meth : Method} {c : Code} {g : zG} {A : Nat → Prop}
abbrev j_X7_flow (p : Program) (l : Launch) (e : Env) (s : State) (m : MethodId) (args : Array Value) (below : List Frame) (meth : Method) (c : Code) (g : zG) (A : Nat → Prop) (ma ha : Nat → Nat) (bd : Nat → Nat → Nat) (Q : Int32 → TS → Prop) (u : TS) (k n : Nat) (pc : Nat) (lv : List (Nat × Value)) (st : List Value) : Prop := zJ p l e (zR 6 26 1308) s m args below meth c g A 7 (zQi below args s g A 26 1308 (wT g ma ha bd) Q) (wT g ma ha bd u) k n pc lv st
def wp_X7_flow (u : TS) (x1 : Int32) (x2 : Int32) (x3 : Int32) (x4 : Int32) (x5 : Int32) (Q : Int32 → TS → Prop) : Prop :=
  wp_X7_areFields x1 x2 x3 x4 x5 (fun r101 => ((¬ r101 = 0 → wp_X0_numberOf (u.2.2.1 2) x1 x2 x3 x4 x5 (fun r103 v104 => ∀ u105 : TS, u105 = tN u (va_up u.2.2.1 2 v104) → ((r103 = (-1) → (((u105.2.2.1 2).1 0 0 < 24 → wp_X7_begin u105 2 (fun u108 => wp_X0_enter (u108.2.2.1 2) x1 x2 x3 x4 x5 (fun r109 v110 => ∀ u111 : TS, u111 = tN u108 (va_up u108.2.2.1 2 v110) → Q r109 u111))) ∧ (¬ (u105.2.2.1 2).1 0 0 < 24 → wp_X7_refuse u105 (-5) (fun r112 u113 => Q r112 u113)))) ∧ (¬ r103 = (-1) → ∀ u114 : TS, u114 = tM u105 (rN u105.1 4 0) → Q r103 u114)))) ∧ (r101 = 0 → wp_X7_refuse u (-1) (fun r115 u116 => Q r115 u116))))
set_option maxRecDepth 20000 in
theorem c_X7_flow (l : Launch) (g : zG) (ma ha : Nat → Nat) (bd : Nat → Nat → Nat) (u : TS) (x1 : Int32) (x2 : Int32) (x3 : Int32) (x4 : Int32) (x5 : Int32) (Q : Int32 → TS → Prop) (h : wp_X7_flow u x1 x2 x3 x4 x5 Q) : zMi l yX7_flow cX7_flow 7 (some .int) 6 26 1308 g [.ref (ma 0), .int x1, .int x2, .int x3, .int x4, .int x5] (wT g ma ha bd u) (wT g ma ha bd) Q := by
  refine zMi_of RX7 (by decide) rfl [(0, .ref (ma 0)), (1, .int x1), (2, .int x2), (3, .int x3), (4, .int x4), (5, .int x5)] rfl (Nat.le_of_ble_eq_true rfl) (fun p e s m args below meth c A C hr hnm => ?_)
  unfold wp_X7_flow at h
  refine z_iload_n C dX7_flow_0 rfl 1 rfl ?_
  refine z_iload_n C dX7_flow_1 rfl 2 rfl ?_
  refine z_iload_n C dX7_flow_2 rfl 3 rfl ?_
  refine z_iload C dX7_flow_3 4 rfl ?_
  refine z_iload C dX7_flow_5 5 rfl ?_
  refine cSi (As := [.int x1, .int x2, .int x3, .int x4, .int x5]) C (c_X7_areFields l g x1 x2 x3 x4 x5 _ h) s_X7_areFields ml7_60 ⟨Nat.le_of_ble_eq_true rfl, Nat.le_of_ble_eq_true rfl⟩ ⟨Nat.le_of_ble_eq_true rfl, Nat.le_of_ble_eq_true rfl⟩ (Nat.le_of_ble_eq_true rfl) rfl dX7_flow_7 ?_
  intro r101 h
  refine z_if_ne C dX7_flow_10 (tgt := 19) (by decide) (fun hc102 => ?_) (fun hc102 => ?_)
  · have h := h.1 hc102
    refine z_aload_n C dX7_flow_19 rfl 0 rfl ?_
    refine g7_now C fl7_10 dX7_flow_20 ?_
    refine Tg5_flows C fl7_64 dX7_flow_23 ?_
    refine z_iload_n C dX7_flow_26 rfl 1 rfl ?_
    refine z_iload_n C dX7_flow_27 rfl 2 rfl ?_
    refine z_iload_n C dX7_flow_28 rfl 3 rfl ?_
    refine z_iload C dX7_flow_29 4 rfl ?_
    refine z_iload C dX7_flow_31 5 rfl ?_
    refine Tc0i (As := [.int x1, .int x2, .int x3, .int x4, .int x5]) C (c_X0_numberOf l g (bd 2) (u.2.2.1 2) x1 x2 x3 x4 x5 _ h) v_X0_numberOf ml7_68 rfl ⟨Nat.le_of_ble_eq_true rfl, Nat.le_of_ble_eq_true rfl⟩ ⟨Nat.le_of_ble_eq_true rfl, Nat.le_of_ble_eq_true rfl⟩ (Nat.le_of_ble_eq_true rfl) rfl dX7_flow_33 ?_
    intro r103 v104 h
    refine stT (tN u (va_up u.2.2.1 2 v104)) (fun u105 eu105 => ?_)
    have h := h u105 eu105
    refine z_istore (lv1 := [(6, .int r103), (0, .ref (ma 0)), (1, .int x1), (2, .int x2), (3, .int x3), (4, .int x4), (5, .int x5)]) C dX7_flow_36 (by decide) rfl ?_
    refine z_iload C dX7_flow_38 0 rfl ?_
    refine z_iconst (v := (-1)) C dX7_flow_40 (by decide) ?_
    refine z_icmp_eq C dX7_flow_41 (tgt := 52) (by decide) (fun hc106 => ?_) (fun hc106 => ?_)
    · have h := h.1 hc106
      refine z_aload_n C dX7_flow_52 rfl 1 rfl ?_
      refine g7_now C fl7_10 dX7_flow_53 ?_
      refine Tg5_flows C fl7_64 dX7_flow_56 ?_
      refine Tg0_number C fl7_77 dX7_flow_59 ?_
      refine z_bipush (v := 24) C dX7_flow_62 (by decide) ?_
      refine z_icmp_lt C dX7_flow_64 (tgt := 74) (by decide) (fun hc107 => ?_) (fun hc107 => ?_)
      · have h := h.1 hc107
        refine z_aload_n C dX7_flow_74 rfl 1 rfl ?_
        refine z_iconst (v := 2) C dX7_flow_75 (by decide) ?_
        refine c7v (As := [.int 2]) C (c_X7_begin l g ma ha bd u105 2 _ h) v_X7_begin ml7_42 rfl ⟨Nat.le_of_ble_eq_true rfl, Nat.le_of_ble_eq_true rfl⟩ ⟨Nat.le_of_ble_eq_true rfl, Nat.le_of_ble_eq_true rfl⟩ (Nat.le_of_ble_eq_true rfl) rfl dX7_flow_76 ?_
        intro u108 h
        refine z_aload_n C dX7_flow_79 rfl 1 rfl ?_
        refine g7_now C fl7_10 dX7_flow_80 ?_
        refine Tg5_flows C fl7_64 dX7_flow_83 ?_
        refine z_iload_n C dX7_flow_86 rfl 2 rfl ?_
        refine z_iload_n C dX7_flow_87 rfl 3 rfl ?_
        refine z_iload_n C dX7_flow_88 rfl 4 rfl ?_
        refine z_iload C dX7_flow_89 5 rfl ?_
        refine z_iload C dX7_flow_91 6 rfl ?_
        refine Tc0i (As := [.int x1, .int x2, .int x3, .int x4, .int x5]) C (c_X0_enter l g (bd 2) (u108.2.2.1 2) x1 x2 x3 x4 x5 _ h) v_X0_enter ml7_80 rfl ⟨Nat.le_of_ble_eq_true rfl, Nat.le_of_ble_eq_true rfl⟩ ⟨Nat.le_of_ble_eq_true rfl, Nat.le_of_ble_eq_true rfl⟩ (Nat.le_of_ble_eq_true rfl) rfl dX7_flow_93 ?_
        intro r109 v110 h
        refine stT (tN u108 (va_up u108.2.2.1 2 v110)) (fun u111 eu111 => ?_)
        have h := h u111 eu111
        exact z_iret C hr u111 rfl h dX7_flow_96
      · have h := h.2 hc107
        refine z_aload_n C dX7_flow_67 rfl 1 rfl ?_
        refine z_bipush (v := (-5)) C dX7_flow_68 (by decide) ?_
        refine c7i (As := [.int (-5)]) C (c_X7_refuse l g ma ha bd u105 (-5) _ h) v_X7_refuse ml7_38 rfl ⟨Nat.le_of_ble_eq_true rfl, Nat.le_of_ble_eq_true rfl⟩ ⟨Nat.le_of_ble_eq_true rfl, Nat.le_of_ble_eq_true rfl⟩ (Nat.le_of_ble_eq_true rfl) rfl dX7_flow_70 ?_
        intro r112 u113 h
        refine z_wide (k1 := 26) (n1 := 1308) (Nat.le_of_ble_eq_true rfl) (Nat.le_of_ble_eq_true rfl) ?_
        exact z_iret C hr u113 rfl h dX7_flow_73
    · have h := h.2 hc106
      refine z_aload_n C dX7_flow_44 rfl 1 rfl ?_
      refine z_iconst (v := 0) C dX7_flow_45 (by decide) ?_
      refine p7_latestRefusal C fl7_74 dX7_flow_46 ?_
      refine stT (tM u105 (rN u105.1 4 0)) (fun u114 eu114 => ?_)
      have h := h u114 eu114
      refine z_iload C dX7_flow_49 0 rfl ?_
      refine z_wide (k1 := 26) (n1 := 1308) (Nat.le_of_ble_eq_true rfl) (Nat.le_of_ble_eq_true rfl) ?_
      exact z_iret C hr u114 rfl h dX7_flow_51
  · have h := h.2 hc102
    refine z_aload_n C dX7_flow_13 rfl 0 rfl ?_
    refine z_iconst (v := (-1)) C dX7_flow_14 (by decide) ?_
    refine c7i (As := [.int (-1)]) C (c_X7_refuse l g ma ha bd u (-1) _ h) v_X7_refuse ml7_38 rfl ⟨Nat.le_of_ble_eq_true rfl, Nat.le_of_ble_eq_true rfl⟩ ⟨Nat.le_of_ble_eq_true rfl, Nat.le_of_ble_eq_true rfl⟩ (Nat.le_of_ble_eq_true rfl) rfl dX7_flow_15 ?_
    intro r115 u116 h
    refine z_wide (k1 := 26) (n1 := 1308) (Nat.le_of_ble_eq_true rfl) (Nat.le_of_ble_eq_true rfl) ?_
    exact z_iret C hr u116 rfl h dX7_flow_18
abbrev j_X7_table (p : Program) (l : Launch) (e : Env) (s : State) (m : MethodId) (args : Array Value) (below : List Frame) (meth : Method) (c : Code) (g : zG) (A : Nat → Prop) (ma ha : Nat → Nat) (bd : Nat → Nat → Nat) (Q : Int32 → TS → Prop) (u : TS) (k n : Nat) (pc : Nat) (lv : List (Nat × Value)) (st : List Value) : Prop := zJ p l e (zR 6 26 1308) s m args below meth c g A 4 (zQi below args s g A 26 1308 (wT g ma ha bd) Q) (wT g ma ha bd u) k n pc lv st
def wp_X7_table_14 (Q : Int32 → TS → Prop) (u : TS) : Prop :=
  wp_X7_refuse u (-1) (fun r103 u104 => Q r103 u104)
set_option maxRecDepth 20000 in
theorem b_X7_table_14 (C : zC p s m args meth c g A cX7_table RX7 4) (hr : meth.sig.returnType = (some .int)) (ma ha : Nat → Nat) (bd : Nat → Nat → Nat) (Q : Int32 → TS → Prop) (u : TS) (h : wp_X7_table_14 Q u) : j_X7_table p l e s m args below meth c g A ma ha bd Q u 0 0 14 [(0, .ref (ma 0))] [] := by
  unfold wp_X7_table_14 at h
  refine z_aload_n C dX7_table_14 rfl 0 rfl ?_
  refine z_iconst (v := (-1)) C dX7_table_15 (by decide) ?_
  refine c7i (As := [.int (-1)]) C (c_X7_refuse l g ma ha bd u (-1) _ h) v_X7_refuse ml7_38 rfl ⟨Nat.le_of_ble_eq_true rfl, Nat.le_of_ble_eq_true rfl⟩ ⟨Nat.le_of_ble_eq_true rfl, Nat.le_of_ble_eq_true rfl⟩ (Nat.le_of_ble_eq_true rfl) rfl dX7_table_16 ?_
  intro r103 u104 h
  refine z_wide (k1 := 26) (n1 := 1308) (Nat.le_of_ble_eq_true rfl) (Nat.le_of_ble_eq_true rfl) ?_
  exact z_iret C hr u104 rfl h dX7_table_19
def wp_X7_table (u : TS) (x1 : Int32) (x2 : Int32) (Q : Int32 → TS → Prop) : Prop :=
  wp_X7_isEntry x1 (fun r101 => ((r101 = 0 → wp_X7_table_14 Q u) ∧ (¬ r101 = 0 → wp_X7_isQueue x2 (fun r105 => ((¬ r105 = 0 → wp_X7_begin u 3 (fun u107 => vp_in x1 16 ∧ ∀ x109 : Int32, x109 = (u107.2.2.1 3).1 0 (zn x1) → vp_in x1 16 ∧ ∀ u111 : TS, u111 = tN u107 (va_up u107.2.2.1 3 (rI (u107.2.2.1 3) 0 (upd ((u107.2.2.1 3).1 0) (zn x1) x2))) → Q x109 u111)) ∧ (r105 = 0 → wp_X7_table_14 Q u))))))
set_option maxRecDepth 20000 in
theorem c_X7_table (l : Launch) (g : zG) (ma ha : Nat → Nat) (bd : Nat → Nat → Nat) (u : TS) (x1 : Int32) (x2 : Int32) (Q : Int32 → TS → Prop) (h : wp_X7_table u x1 x2 Q) : zMi l yX7_table cX7_table 4 (some .int) 6 26 1308 g [.ref (ma 0), .int x1, .int x2] (wT g ma ha bd u) (wT g ma ha bd) Q := by
  refine zMi_of RX7 (by decide) rfl [(0, .ref (ma 0)), (1, .int x1), (2, .int x2)] rfl (Nat.le_of_ble_eq_true rfl) (fun p e s m args below meth c A C hr hnm => ?_)
  unfold wp_X7_table at h
  refine z_iload_n C dX7_table_0 rfl 1 rfl ?_
  refine cSi (As := [.int x1]) C (c_X7_isEntry l g x1 _ h) s_X7_isEntry ml7_83 ⟨Nat.le_of_ble_eq_true rfl, Nat.le_of_ble_eq_true rfl⟩ ⟨Nat.le_of_ble_eq_true rfl, Nat.le_of_ble_eq_true rfl⟩ (Nat.le_of_ble_eq_true rfl) rfl dX7_table_1 ?_
  intro r101 h
  refine z_if_eq C dX7_table_4 (tgt := 14) (by decide) (fun hc102 => ?_) (fun hc102 => ?_)
  · have h := h.1 hc102
    refine z_lv (lv1 := [(0, .ref (ma 0))]) [0] rfl ?_
    exact b_X7_table_14 C hr ma ha bd Q u h
  · have h := h.2 hc102
    refine z_iload_n C dX7_table_7 rfl 2 rfl ?_
    refine cSi (As := [.int x2]) C (c_X7_isQueue l g x2 _ h) s_X7_isQueue ml7_86 ⟨Nat.le_of_ble_eq_true rfl, Nat.le_of_ble_eq_true rfl⟩ ⟨Nat.le_of_ble_eq_true rfl, Nat.le_of_ble_eq_true rfl⟩ (Nat.le_of_ble_eq_true rfl) rfl dX7_table_8 ?_
    intro r105 h
    refine z_if_ne C dX7_table_11 (tgt := 20) (by decide) (fun hc106 => ?_) (fun hc106 => ?_)
    · have h := h.1 hc106
      refine z_aload_n C dX7_table_20 rfl 0 rfl ?_
      refine z_iconst (v := 3) C dX7_table_21 (by decide) ?_
      refine c7v (As := [.int 3]) C (c_X7_begin l g ma ha bd u 3 _ h) v_X7_begin ml7_42 rfl ⟨Nat.le_of_ble_eq_true rfl, Nat.le_of_ble_eq_true rfl⟩ ⟨Nat.le_of_ble_eq_true rfl, Nat.le_of_ble_eq_true rfl⟩ (Nat.le_of_ble_eq_true rfl) rfl dX7_table_22 ?_
      intro u107 h
      refine z_aload_n C dX7_table_25 rfl 0 rfl ?_
      refine g7_now C fl7_10 dX7_table_26 ?_
      refine Tg5_table C fl7_89 dX7_table_29 ?_
      refine Tg6_queueOf C fl7_93 dX7_table_32 ?_
      refine z_iload_n C dX7_table_35 rfl 1 rfl ?_
      obtain ⟨hi108, h⟩ := h
      refine Tl6_queueOf C hi108 dX7_table_36 ?_
      refine z_topi (fun x109 ex109 => ?_)
      have h := h x109 ex109
      refine z_istore_n (lv1 := [(3, .int x109), (0, .ref (ma 0)), (1, .int x1), (2, .int x2)]) C dX7_table_37 rfl (by decide) rfl ?_
      refine z_aload_n C dX7_table_38 rfl 1 rfl ?_
      refine g7_now C fl7_10 dX7_table_39 ?_
      refine Tg5_table C fl7_89 dX7_table_42 ?_
      refine Tg6_queueOf C fl7_93 dX7_table_45 ?_
      refine z_iload_n C dX7_table_48 rfl 2 rfl ?_
      refine z_iload_n C dX7_table_49 rfl 3 rfl ?_
      obtain ⟨hi110, h⟩ := h
      refine Ts6_queueOf C hi110 dX7_table_50 ?_
      refine stT (tN u107 (va_up u107.2.2.1 3 (rI (u107.2.2.1 3) 0 (upd ((u107.2.2.1 3).1 0) (zn x1) x2)))) (fun u111 eu111 => ?_)
      have h := h u111 eu111
      refine z_iload_n C dX7_table_51 rfl 0 rfl ?_
      exact z_iret C hr u111 rfl h dX7_table_52
    · have h := h.2 hc106
      refine z_lv (lv1 := [(0, .ref (ma 0))]) [0] rfl ?_
      exact b_X7_table_14 C hr ma ha bd Q u h
abbrev j_X7_balance (p : Program) (l : Launch) (e : Env) (s : State) (m : MethodId) (args : Array Value) (below : List Frame) (meth : Method) (c : Code) (g : zG) (A : Nat → Prop) (ma ha : Nat → Nat) (bd : Nat → Nat → Nat) (Q : Int32 → TS → Prop) (u : TS) (k n : Nat) (pc : Nat) (lv : List (Nat × Value)) (st : List Value) : Prop := zJ p l e (zR 6 26 1308) s m args below meth c g A 2 (zQi below args s g A 26 1308 (wT g ma ha bd) Q) (wT g ma ha bd u) k n pc lv st
def wp_X7_balance (u : TS) (Q : Int32 → TS → Prop) : Prop :=
  wp_X7_begin u 4 (fun u101 => wp_X6_deal (u101.2.2.1 3) (fun r102 v103 => ∀ u104 : TS, u104 = tN u101 (va_up u101.2.2.1 3 v103) → wp_X6_clearHits (u104.2.2.1 3) (fun v105 => ∀ u106 : TS, u106 = tN u104 (va_up u104.2.2.1 3 v105) → Q r102 u106)))
set_option maxRecDepth 20000 in
theorem c_X7_balance (l : Launch) (g : zG) (ma ha : Nat → Nat) (bd : Nat → Nat → Nat) (u : TS) (Q : Int32 → TS → Prop) (h : wp_X7_balance u Q) : zMi l yX7_balance cX7_balance 2 (some .int) 6 26 1308 g [.ref (ma 0)] (wT g ma ha bd u) (wT g ma ha bd) Q := by
  refine zMi_of RX7 (by decide) rfl [(0, .ref (ma 0))] rfl (Nat.le_of_ble_eq_true rfl) (fun p e s m args below meth c A C hr hnm => ?_)
  unfold wp_X7_balance at h
  refine z_aload_n C dX7_balance_0 rfl 0 rfl ?_
  refine z_iconst (v := 4) C dX7_balance_1 (by decide) ?_
  refine c7v (As := [.int 4]) C (c_X7_begin l g ma ha bd u 4 _ h) v_X7_begin ml7_42 rfl ⟨Nat.le_of_ble_eq_true rfl, Nat.le_of_ble_eq_true rfl⟩ ⟨Nat.le_of_ble_eq_true rfl, Nat.le_of_ble_eq_true rfl⟩ (Nat.le_of_ble_eq_true rfl) rfl dX7_balance_2 ?_
  intro u101 h
  refine z_aload_n C dX7_balance_5 rfl 0 rfl ?_
  refine g7_now C fl7_10 dX7_balance_6 ?_
  refine Tg5_table C fl7_89 dX7_balance_9 ?_
  refine Tc6i (As := []) C (c_X6_deal l g (bd 3) (u101.2.2.1 3) _ h) v_X6_deal ml7_98 rfl ⟨Nat.le_of_ble_eq_true rfl, Nat.le_of_ble_eq_true rfl⟩ ⟨Nat.le_of_ble_eq_true rfl, Nat.le_of_ble_eq_true rfl⟩ (Nat.le_of_ble_eq_true rfl) rfl dX7_balance_12 ?_
  intro r102 v103 h
  refine stT (tN u101 (va_up u101.2.2.1 3 v103)) (fun u104 eu104 => ?_)
  have h := h u104 eu104
  refine z_istore_n (lv1 := [(1, .int r102), (0, .ref (ma 0))]) C dX7_balance_15 rfl (by decide) rfl ?_
  refine z_aload_n C dX7_balance_16 rfl 1 rfl ?_
  refine g7_now C fl7_10 dX7_balance_17 ?_
  refine Tg5_table C fl7_89 dX7_balance_20 ?_
  refine Tc6v (As := []) C (c_X6_clearHits l g (bd 3) (u104.2.2.1 3) _ h) v_X6_clearHits ml7_102 rfl ⟨Nat.le_of_ble_eq_true rfl, Nat.le_of_ble_eq_true rfl⟩ ⟨Nat.le_of_ble_eq_true rfl, Nat.le_of_ble_eq_true rfl⟩ (Nat.le_of_ble_eq_true rfl) rfl dX7_balance_23 ?_
  intro v105 h
  refine stT (tN u104 (va_up u104.2.2.1 3 v105)) (fun u106 eu106 => ?_)
  have h := h u106 eu106
  refine z_iload_n C dX7_balance_26 rfl 0 rfl ?_
  exact z_iret C hr u106 rfl h dX7_balance_27
abbrev j_X7_reads (p : Program) (l : Launch) (e : Env) (s : State) (m : MethodId) (args : Array Value) (below : List Frame) (meth : Method) (c : Code) (g : zG) (A : Nat → Prop) (ma ha : Nat → Nat) (bd : Nat → Nat → Nat) (Q : Int32 → TS → Prop) (u : TS) (k n : Nat) (pc : Nat) (lv : List (Nat × Value)) (st : List Value) : Prop := zJ p l e (zR 6 26 1308) s m args below meth c g A 4 (zQi below args s g A 26 1308 (wT g ma ha bd) Q) (wT g ma ha bd u) k n pc lv st
def wp_X7_reads_18 (Q : Int32 → TS → Prop) (u : TS) (x1 : Int32) (x2 : Int32) : Prop :=
  wp_X7_isFlow u x1 (fun r102 u103 => ((¬ r102 = 0 → wp_X7_begin u103 13 (fun u105 => wp_X0_get (u105.2.2.1 2) 17 x1 (fun r106 v107 => ∀ u108 : TS, u108 = tN u105 (va_up u105.2.2.1 2 v107) → wp_X0_put (u108.2.2.1 2) 17 x1 x2 (fun v109 => ∀ u110 : TS, u110 = tN u108 (va_up u108.2.2.1 2 v109) → Q r106 u110)))) ∧ (r102 = 0 → wp_X7_refuse u103 (-2) (fun r111 u112 => Q r111 u112))))
set_option maxRecDepth 20000 in
theorem b_X7_reads_18 (C : zC p s m args meth c g A cX7_reads RX7 4) (hr : meth.sig.returnType = (some .int)) (ma ha : Nat → Nat) (bd : Nat → Nat → Nat) (Q : Int32 → TS → Prop) (u : TS) (x1 : Int32) (x2 : Int32) (h : wp_X7_reads_18 Q u x1 x2) : j_X7_reads p l e s m args below meth c g A ma ha bd Q u 0 0 18 [(0, .ref (ma 0)), (1, .int x1), (2, .int x2)] [] := by
  unfold wp_X7_reads_18 at h
  refine z_aload_n C dX7_reads_18 rfl 0 rfl ?_
  refine z_iload_n C dX7_reads_19 rfl 1 rfl ?_
  refine c7i (As := [.int x1]) C (c_X7_isFlow l g ma ha bd u x1 _ h) v_X7_isFlow ml7_105 rfl ⟨Nat.le_of_ble_eq_true rfl, Nat.le_of_ble_eq_true rfl⟩ ⟨Nat.le_of_ble_eq_true rfl, Nat.le_of_ble_eq_true rfl⟩ (Nat.le_of_ble_eq_true rfl) rfl dX7_reads_20 ?_
  intro r102 u103 h
  refine z_if_ne C dX7_reads_23 (tgt := 33) (by decide) (fun hc104 => ?_) (fun hc104 => ?_)
  · have h := h.1 hc104
    refine z_aload_n C dX7_reads_33 rfl 0 rfl ?_
    refine z_bipush (v := 13) C dX7_reads_34 (by decide) ?_
    refine c7v (As := [.int 13]) C (c_X7_begin l g ma ha bd u103 13 _ h) v_X7_begin ml7_42 rfl ⟨Nat.le_of_ble_eq_true rfl, Nat.le_of_ble_eq_true rfl⟩ ⟨Nat.le_of_ble_eq_true rfl, Nat.le_of_ble_eq_true rfl⟩ (Nat.le_of_ble_eq_true rfl) rfl dX7_reads_36 ?_
    intro u105 h
    refine z_aload_n C dX7_reads_39 rfl 0 rfl ?_
    refine g7_now C fl7_10 dX7_reads_40 ?_
    refine Tg5_flows C fl7_64 dX7_reads_43 ?_
    refine z_bipush (v := 17) C dX7_reads_46 (by decide) ?_
    refine z_iload_n C dX7_reads_48 rfl 1 rfl ?_
    refine Tc0i (As := [.int 17, .int x1]) C (c_X0_get l g (bd 2) (u105.2.2.1 2) 17 x1 _ h) v_X0_get ml7_108 rfl ⟨Nat.le_of_ble_eq_true rfl, Nat.le_of_ble_eq_true rfl⟩ ⟨Nat.le_of_ble_eq_true rfl, Nat.le_of_ble_eq_true rfl⟩ (Nat.le_of_ble_eq_true rfl) rfl dX7_reads_49 ?_
    intro r106 v107 h
    refine stT (tN u105 (va_up u105.2.2.1 2 v107)) (fun u108 eu108 => ?_)
    have h := h u108 eu108
    refine z_istore_n (lv1 := [(3, .int r106), (0, .ref (ma 0)), (1, .int x1), (2, .int x2)]) C dX7_reads_52 rfl (by decide) rfl ?_
    refine z_aload_n C dX7_reads_53 rfl 1 rfl ?_
    refine g7_now C fl7_10 dX7_reads_54 ?_
    refine Tg5_flows C fl7_64 dX7_reads_57 ?_
    refine z_bipush (v := 17) C dX7_reads_60 (by decide) ?_
    refine z_iload_n C dX7_reads_62 rfl 2 rfl ?_
    refine z_iload_n C dX7_reads_63 rfl 3 rfl ?_
    refine Tc0v (As := [.int 17, .int x1, .int x2]) C (c_X0_put l g (bd 2) (u108.2.2.1 2) 17 x1 x2 _ h) v_X0_put ml7_112 rfl ⟨Nat.le_of_ble_eq_true rfl, Nat.le_of_ble_eq_true rfl⟩ ⟨Nat.le_of_ble_eq_true rfl, Nat.le_of_ble_eq_true rfl⟩ (Nat.le_of_ble_eq_true rfl) rfl dX7_reads_64 ?_
    intro v109 h
    refine stT (tN u108 (va_up u108.2.2.1 2 v109)) (fun u110 eu110 => ?_)
    have h := h u110 eu110
    refine z_iload_n C dX7_reads_67 rfl 0 rfl ?_
    exact z_iret C hr u110 rfl h dX7_reads_68
  · have h := h.2 hc104
    refine z_aload_n C dX7_reads_26 rfl 0 rfl ?_
    refine z_bipush (v := (-2)) C dX7_reads_27 (by decide) ?_
    refine c7i (As := [.int (-2)]) C (c_X7_refuse l g ma ha bd u103 (-2) _ h) v_X7_refuse ml7_38 rfl ⟨Nat.le_of_ble_eq_true rfl, Nat.le_of_ble_eq_true rfl⟩ ⟨Nat.le_of_ble_eq_true rfl, Nat.le_of_ble_eq_true rfl⟩ (Nat.le_of_ble_eq_true rfl) rfl dX7_reads_29 ?_
    intro r111 u112 h
    refine z_wide (k1 := 26) (n1 := 1308) (Nat.le_of_ble_eq_true rfl) (Nat.le_of_ble_eq_true rfl) ?_
    exact z_iret C hr u112 rfl h dX7_reads_32
def wp_X7_reads (u : TS) (x1 : Int32) (x2 : Int32) (Q : Int32 → TS → Prop) : Prop :=
  ((x2 = (-1) → wp_X7_reads_18 Q u x1 x2) ∧ (¬ x2 = (-1) → wp_X7_isQueue x2 (fun r113 => ((¬ r113 = 0 → wp_X7_reads_18 Q u x1 x2) ∧ (r113 = 0 → wp_X7_refuse u (-1) (fun r115 u116 => Q r115 u116))))))
set_option maxRecDepth 20000 in
theorem c_X7_reads (l : Launch) (g : zG) (ma ha : Nat → Nat) (bd : Nat → Nat → Nat) (u : TS) (x1 : Int32) (x2 : Int32) (Q : Int32 → TS → Prop) (h : wp_X7_reads u x1 x2 Q) : zMi l yX7_reads cX7_reads 4 (some .int) 6 26 1308 g [.ref (ma 0), .int x1, .int x2] (wT g ma ha bd u) (wT g ma ha bd) Q := by
  refine zMi_of RX7 (by decide) rfl [(0, .ref (ma 0)), (1, .int x1), (2, .int x2)] rfl (Nat.le_of_ble_eq_true rfl) (fun p e s m args below meth c A C hr hnm => ?_)
  unfold wp_X7_reads at h
  refine z_iload_n C dX7_reads_0 rfl 2 rfl ?_
  refine z_iconst (v := (-1)) C dX7_reads_1 (by decide) ?_
  refine z_icmp_eq C dX7_reads_2 (tgt := 18) (by decide) (fun hc101 => ?_) (fun hc101 => ?_)
  · have h := h.1 hc101
    exact b_X7_reads_18 C hr ma ha bd Q u x1 x2 h
  · have h := h.2 hc101
    refine z_iload_n C dX7_reads_5 rfl 2 rfl ?_
    refine cSi (As := [.int x2]) C (c_X7_isQueue l g x2 _ h) s_X7_isQueue ml7_86 ⟨Nat.le_of_ble_eq_true rfl, Nat.le_of_ble_eq_true rfl⟩ ⟨Nat.le_of_ble_eq_true rfl, Nat.le_of_ble_eq_true rfl⟩ (Nat.le_of_ble_eq_true rfl) rfl dX7_reads_6 ?_
    intro r113 h
    refine z_if_ne C dX7_reads_9 (tgt := 18) (by decide) (fun hc114 => ?_) (fun hc114 => ?_)
    · have h := h.1 hc114
      exact b_X7_reads_18 C hr ma ha bd Q u x1 x2 h
    · have h := h.2 hc114
      refine z_aload_n C dX7_reads_12 rfl 0 rfl ?_
      refine z_iconst (v := (-1)) C dX7_reads_13 (by decide) ?_
      refine c7i (As := [.int (-1)]) C (c_X7_refuse l g ma ha bd u (-1) _ h) v_X7_refuse ml7_38 rfl ⟨Nat.le_of_ble_eq_true rfl, Nat.le_of_ble_eq_true rfl⟩ ⟨Nat.le_of_ble_eq_true rfl, Nat.le_of_ble_eq_true rfl⟩ (Nat.le_of_ble_eq_true rfl) rfl dX7_reads_14 ?_
      intro r115 u116 h
      refine z_wide (k1 := 26) (n1 := 1308) (Nat.le_of_ble_eq_true rfl) (Nat.le_of_ble_eq_true rfl) ?_
      exact z_iret C hr u116 rfl h dX7_reads_17
abbrev j_X7_retire (p : Program) (l : Launch) (e : Env) (s : State) (m : MethodId) (args : Array Value) (below : List Frame) (meth : Method) (c : Code) (g : zG) (A : Nat → Prop) (ma ha : Nat → Nat) (bd : Nat → Nat → Nat) (Q : Int32 → TS → Prop) (u : TS) (k n : Nat) (pc : Nat) (lv : List (Nat × Value)) (st : List Value) : Prop := zJ p l e (zR 6 26 1308) s m args below meth c g A 2 (zQi below args s g A 26 1308 (wT g ma ha bd) Q) (wT g ma ha bd u) k n pc lv st
def wp_X7_retire (u : TS) (x1 : Int32) (Q : Int32 → TS → Prop) : Prop :=
  wp_X7_isQueue x1 (fun r101 => ((¬ r101 = 0 → wp_X7_begin u 14 (fun u103 => wp_X0_dropRulesTo (u103.2.2.1 2) x1 (fun v104 => ∀ u105 : TS, u105 = tN u103 (va_up u103.2.2.1 2 v104) → wp_X6_emptyOut (u105.2.2.1 3) x1 (fun r106 v107 => ∀ u108 : TS, u108 = tN u105 (va_up u105.2.2.1 3 v107) → Q r106 u108)))) ∧ (r101 = 0 → wp_X7_refuse u (-1) (fun r109 u110 => Q r109 u110))))
set_option maxRecDepth 20000 in
theorem c_X7_retire (l : Launch) (g : zG) (ma ha : Nat → Nat) (bd : Nat → Nat → Nat) (u : TS) (x1 : Int32) (Q : Int32 → TS → Prop) (h : wp_X7_retire u x1 Q) : zMi l yX7_retire cX7_retire 2 (some .int) 6 26 1308 g [.ref (ma 0), .int x1] (wT g ma ha bd u) (wT g ma ha bd) Q := by
  refine zMi_of RX7 (by decide) rfl [(0, .ref (ma 0)), (1, .int x1)] rfl (Nat.le_of_ble_eq_true rfl) (fun p e s m args below meth c A C hr hnm => ?_)
  unfold wp_X7_retire at h
  refine z_iload_n C dX7_retire_0 rfl 1 rfl ?_
  refine cSi (As := [.int x1]) C (c_X7_isQueue l g x1 _ h) s_X7_isQueue ml7_86 ⟨Nat.le_of_ble_eq_true rfl, Nat.le_of_ble_eq_true rfl⟩ ⟨Nat.le_of_ble_eq_true rfl, Nat.le_of_ble_eq_true rfl⟩ (Nat.le_of_ble_eq_true rfl) rfl dX7_retire_1 ?_
  intro r101 h
  refine z_if_ne C dX7_retire_4 (tgt := 13) (by decide) (fun hc102 => ?_) (fun hc102 => ?_)
  · have h := h.1 hc102
    refine z_aload_n C dX7_retire_13 rfl 0 rfl ?_
    refine z_bipush (v := 14) C dX7_retire_14 (by decide) ?_
    refine c7v (As := [.int 14]) C (c_X7_begin l g ma ha bd u 14 _ h) v_X7_begin ml7_42 rfl ⟨Nat.le_of_ble_eq_true rfl, Nat.le_of_ble_eq_true rfl⟩ ⟨Nat.le_of_ble_eq_true rfl, Nat.le_of_ble_eq_true rfl⟩ (Nat.le_of_ble_eq_true rfl) rfl dX7_retire_16 ?_
    intro u103 h
    refine z_aload_n C dX7_retire_19 rfl 0 rfl ?_
    refine g7_now C fl7_10 dX7_retire_20 ?_
    refine Tg5_flows C fl7_64 dX7_retire_23 ?_
    refine z_iload_n C dX7_retire_26 rfl 1 rfl ?_
    refine Tc0v (As := [.int x1]) C (c_X0_dropRulesTo l g (bd 2) (u103.2.2.1 2) x1 _ h) v_X0_dropRulesTo ml7_113 rfl ⟨Nat.le_of_ble_eq_true rfl, Nat.le_of_ble_eq_true rfl⟩ ⟨Nat.le_of_ble_eq_true rfl, Nat.le_of_ble_eq_true rfl⟩ (Nat.le_of_ble_eq_true rfl) rfl dX7_retire_27 ?_
    intro v104 h
    refine stT (tN u103 (va_up u103.2.2.1 2 v104)) (fun u105 eu105 => ?_)
    have h := h u105 eu105
    refine z_aload_n C dX7_retire_30 rfl 0 rfl ?_
    refine g7_now C fl7_10 dX7_retire_31 ?_
    refine Tg5_table C fl7_89 dX7_retire_34 ?_
    refine z_iload_n C dX7_retire_37 rfl 1 rfl ?_
    refine Tc6i (As := [.int x1]) C (c_X6_emptyOut l g (bd 3) (u105.2.2.1 3) x1 _ h) v_X6_emptyOut ml7_116 rfl ⟨Nat.le_of_ble_eq_true rfl, Nat.le_of_ble_eq_true rfl⟩ ⟨Nat.le_of_ble_eq_true rfl, Nat.le_of_ble_eq_true rfl⟩ (Nat.le_of_ble_eq_true rfl) rfl dX7_retire_38 ?_
    intro r106 v107 h
    refine stT (tN u105 (va_up u105.2.2.1 3 v107)) (fun u108 eu108 => ?_)
    have h := h u108 eu108
    exact z_iret C hr u108 rfl h dX7_retire_41
  · have h := h.2 hc102
    refine z_aload_n C dX7_retire_7 rfl 0 rfl ?_
    refine z_iconst (v := (-1)) C dX7_retire_8 (by decide) ?_
    refine c7i (As := [.int (-1)]) C (c_X7_refuse l g ma ha bd u (-1) _ h) v_X7_refuse ml7_38 rfl ⟨Nat.le_of_ble_eq_true rfl, Nat.le_of_ble_eq_true rfl⟩ ⟨Nat.le_of_ble_eq_true rfl, Nat.le_of_ble_eq_true rfl⟩ (Nat.le_of_ble_eq_true rfl) rfl dX7_retire_9 ?_
    intro r109 u110 h
    refine z_wide (k1 := 26) (n1 := 1308) (Nat.le_of_ble_eq_true rfl) (Nat.le_of_ble_eq_true rfl) ?_
    exact z_iret C hr u110 rfl h dX7_retire_12
abbrev j_X7_steer (p : Program) (l : Launch) (e : Env) (s : State) (m : MethodId) (args : Array Value) (below : List Frame) (meth : Method) (c : Code) (g : zG) (A : Nat → Prop) (ma ha : Nat → Nat) (bd : Nat → Nat → Nat) (Q : Int32 → TS → Prop) (u : TS) (k n : Nat) (pc : Nat) (lv : List (Nat × Value)) (st : List Value) : Prop := zJ p l e (zR 6 26 1308) s m args below meth c g A 3 (zQi below args s g A 26 1308 (wT g ma ha bd) Q) (wT g ma ha bd u) k n pc lv st
def wp_X7_steer (u : TS) (x1 : Int32) (x2 : Int32) (Q : Int32 → TS → Prop) : Prop :=
  wp_X7_isQueue x2 (fun r101 => ((¬ r101 = 0 → wp_X7_isFlow u x1 (fun r103 u104 => ((¬ r103 = 0 → wp_X7_begin u104 5 (fun u106 => wp_X0_putRule (u106.2.2.1 2) x1 x2 ((u106.2.2.1 0).1 6 0) (fun r107 v108 => ∀ u109 : TS, u109 = tN u106 (va_up u106.2.2.1 2 v108) → Q r107 u109))) ∧ (r103 = 0 → wp_X7_refuse u104 (-2) (fun r110 u111 => Q r110 u111))))) ∧ (r101 = 0 → wp_X7_refuse u (-1) (fun r112 u113 => Q r112 u113))))
set_option maxRecDepth 20000 in
theorem c_X7_steer (l : Launch) (g : zG) (ma ha : Nat → Nat) (bd : Nat → Nat → Nat) (u : TS) (x1 : Int32) (x2 : Int32) (Q : Int32 → TS → Prop) (h : wp_X7_steer u x1 x2 Q) : zMi l yX7_steer cX7_steer 3 (some .int) 6 26 1308 g [.ref (ma 0), .int x1, .int x2] (wT g ma ha bd u) (wT g ma ha bd) Q := by
  refine zMi_of RX7 (by decide) rfl [(0, .ref (ma 0)), (1, .int x1), (2, .int x2)] rfl (Nat.le_of_ble_eq_true rfl) (fun p e s m args below meth c A C hr hnm => ?_)
  unfold wp_X7_steer at h
  refine z_iload_n C dX7_steer_0 rfl 2 rfl ?_
  refine cSi (As := [.int x2]) C (c_X7_isQueue l g x2 _ h) s_X7_isQueue ml7_86 ⟨Nat.le_of_ble_eq_true rfl, Nat.le_of_ble_eq_true rfl⟩ ⟨Nat.le_of_ble_eq_true rfl, Nat.le_of_ble_eq_true rfl⟩ (Nat.le_of_ble_eq_true rfl) rfl dX7_steer_1 ?_
  intro r101 h
  refine z_if_ne C dX7_steer_4 (tgt := 13) (by decide) (fun hc102 => ?_) (fun hc102 => ?_)
  · have h := h.1 hc102
    refine z_aload_n C dX7_steer_13 rfl 0 rfl ?_
    refine z_iload_n C dX7_steer_14 rfl 1 rfl ?_
    refine c7i (As := [.int x1]) C (c_X7_isFlow l g ma ha bd u x1 _ h) v_X7_isFlow ml7_105 rfl ⟨Nat.le_of_ble_eq_true rfl, Nat.le_of_ble_eq_true rfl⟩ ⟨Nat.le_of_ble_eq_true rfl, Nat.le_of_ble_eq_true rfl⟩ (Nat.le_of_ble_eq_true rfl) rfl dX7_steer_15 ?_
    intro r103 u104 h
    refine z_if_ne C dX7_steer_18 (tgt := 28) (by decide) (fun hc105 => ?_) (fun hc105 => ?_)
    · have h := h.1 hc105
      refine z_aload_n C dX7_steer_28 rfl 0 rfl ?_
      refine z_iconst (v := 5) C dX7_steer_29 (by decide) ?_
      refine c7v (As := [.int 5]) C (c_X7_begin l g ma ha bd u104 5 _ h) v_X7_begin ml7_42 rfl ⟨Nat.le_of_ble_eq_true rfl, Nat.le_of_ble_eq_true rfl⟩ ⟨Nat.le_of_ble_eq_true rfl, Nat.le_of_ble_eq_true rfl⟩ (Nat.le_of_ble_eq_true rfl) rfl dX7_steer_30 ?_
      intro u106 h
      refine z_aload_n C dX7_steer_33 rfl 0 rfl ?_
      refine g7_now C fl7_10 dX7_steer_34 ?_
      refine Tg5_flows C fl7_64 dX7_steer_37 ?_
      refine z_iload_n C dX7_steer_40 rfl 1 rfl ?_
      refine z_iload_n C dX7_steer_41 rfl 2 rfl ?_
      refine z_aload_n C dX7_steer_42 rfl 0 rfl ?_
      refine g7_now C fl7_10 dX7_steer_43 ?_
      refine Tg5_time C fl7_119 dX7_steer_46 ?_
      refine Tc0i (As := [.int x1, .int x2, .int ((u106.2.2.1 0).1 6 0)]) C (c_X0_putRule l g (bd 2) (u106.2.2.1 2) x1 x2 ((u106.2.2.1 0).1 6 0) _ h) v_X0_putRule ml7_122 rfl ⟨Nat.le_of_ble_eq_true rfl, Nat.le_of_ble_eq_true rfl⟩ ⟨Nat.le_of_ble_eq_true rfl, Nat.le_of_ble_eq_true rfl⟩ (Nat.le_of_ble_eq_true rfl) rfl dX7_steer_49 ?_
      intro r107 v108 h
      refine stT (tN u106 (va_up u106.2.2.1 2 v108)) (fun u109 eu109 => ?_)
      have h := h u109 eu109
      exact z_iret C hr u109 rfl h dX7_steer_52
    · have h := h.2 hc105
      refine z_aload_n C dX7_steer_21 rfl 0 rfl ?_
      refine z_bipush (v := (-2)) C dX7_steer_22 (by decide) ?_
      refine c7i (As := [.int (-2)]) C (c_X7_refuse l g ma ha bd u104 (-2) _ h) v_X7_refuse ml7_38 rfl ⟨Nat.le_of_ble_eq_true rfl, Nat.le_of_ble_eq_true rfl⟩ ⟨Nat.le_of_ble_eq_true rfl, Nat.le_of_ble_eq_true rfl⟩ (Nat.le_of_ble_eq_true rfl) rfl dX7_steer_24 ?_
      intro r110 u111 h
      refine z_wide (k1 := 26) (n1 := 1308) (Nat.le_of_ble_eq_true rfl) (Nat.le_of_ble_eq_true rfl) ?_
      exact z_iret C hr u111 rfl h dX7_steer_27
  · have h := h.2 hc102
    refine z_aload_n C dX7_steer_7 rfl 0 rfl ?_
    refine z_iconst (v := (-1)) C dX7_steer_8 (by decide) ?_
    refine c7i (As := [.int (-1)]) C (c_X7_refuse l g ma ha bd u (-1) _ h) v_X7_refuse ml7_38 rfl ⟨Nat.le_of_ble_eq_true rfl, Nat.le_of_ble_eq_true rfl⟩ ⟨Nat.le_of_ble_eq_true rfl, Nat.le_of_ble_eq_true rfl⟩ (Nat.le_of_ble_eq_true rfl) rfl dX7_steer_9 ?_
    intro r112 u113 h
    refine z_wide (k1 := 26) (n1 := 1308) (Nat.le_of_ble_eq_true rfl) (Nat.le_of_ble_eq_true rfl) ?_
    exact z_iret C hr u113 rfl h dX7_steer_12
abbrev j_X7_free (p : Program) (l : Launch) (e : Env) (s : State) (m : MethodId) (args : Array Value) (below : List Frame) (meth : Method) (c : Code) (g : zG) (A : Nat → Prop) (ma ha : Nat → Nat) (bd : Nat → Nat → Nat) (Q : Int32 → TS → Prop) (u : TS) (k n : Nat) (pc : Nat) (lv : List (Nat × Value)) (st : List Value) : Prop := zJ p l e (zR 6 26 1308) s m args below meth c g A 3 (zQi below args s g A 26 1308 (wT g ma ha bd) Q) (wT g ma ha bd u) k n pc lv st
def wp_X7_free_25 (Q : Int32 → TS → Prop) (u : TS) : Prop :=
  wp_X7_refuse u (-2) (fun r104 u105 => Q r104 u105)
set_option maxRecDepth 20000 in
theorem b_X7_free_25 (C : zC p s m args meth c g A cX7_free RX7 3) (hr : meth.sig.returnType = (some .int)) (ma ha : Nat → Nat) (bd : Nat → Nat → Nat) (Q : Int32 → TS → Prop) (u : TS) (h : wp_X7_free_25 Q u) : j_X7_free p l e s m args below meth c g A ma ha bd Q u 0 0 25 [(0, .ref (ma 0))] [] := by
  unfold wp_X7_free_25 at h
  refine z_aload_n C dX7_free_25 rfl 0 rfl ?_
  refine z_bipush (v := (-2)) C dX7_free_26 (by decide) ?_
  refine c7i (As := [.int (-2)]) C (c_X7_refuse l g ma ha bd u (-2) _ h) v_X7_refuse ml7_38 rfl ⟨Nat.le_of_ble_eq_true rfl, Nat.le_of_ble_eq_true rfl⟩ ⟨Nat.le_of_ble_eq_true rfl, Nat.le_of_ble_eq_true rfl⟩ (Nat.le_of_ble_eq_true rfl) rfl dX7_free_28 ?_
  intro r104 u105 h
  refine z_wide (k1 := 26) (n1 := 1308) (Nat.le_of_ble_eq_true rfl) (Nat.le_of_ble_eq_true rfl) ?_
  exact z_iret C hr u105 rfl h dX7_free_31
def wp_X7_free (u : TS) (x1 : Int32) (Q : Int32 → TS → Prop) : Prop :=
  wp_X7_isFlow u x1 (fun r101 u102 => ((r101 = 0 → wp_X7_free_25 Q u102) ∧ (¬ r101 = 0 → wp_X0_get (u102.2.2.1 2) 13 x1 (fun r106 v107 => ∀ u108 : TS, u108 = tN u102 (va_up u102.2.2.1 2 v107) → ((¬ r106 = (-1) → wp_X7_begin u108 6 (fun u110 => wp_X0_get (u110.2.2.1 2) 13 x1 (fun r111 v112 => ∀ u113 : TS, u113 = tN u110 (va_up u110.2.2.1 2 v112) → wp_X0_dropRule (u113.2.2.1 2) x1 (fun v114 => ∀ u115 : TS, u115 = tN u113 (va_up u113.2.2.1 2 v114) → Q r111 u115)))) ∧ (r106 = (-1) → wp_X7_free_25 Q u108))))))
set_option maxRecDepth 20000 in
theorem c_X7_free (l : Launch) (g : zG) (ma ha : Nat → Nat) (bd : Nat → Nat → Nat) (u : TS) (x1 : Int32) (Q : Int32 → TS → Prop) (h : wp_X7_free u x1 Q) : zMi l yX7_free cX7_free 3 (some .int) 6 26 1308 g [.ref (ma 0), .int x1] (wT g ma ha bd u) (wT g ma ha bd) Q := by
  refine zMi_of RX7 (by decide) rfl [(0, .ref (ma 0)), (1, .int x1)] rfl (Nat.le_of_ble_eq_true rfl) (fun p e s m args below meth c A C hr hnm => ?_)
  unfold wp_X7_free at h
  refine z_aload_n C dX7_free_0 rfl 0 rfl ?_
  refine z_iload_n C dX7_free_1 rfl 1 rfl ?_
  refine c7i (As := [.int x1]) C (c_X7_isFlow l g ma ha bd u x1 _ h) v_X7_isFlow ml7_105 rfl ⟨Nat.le_of_ble_eq_true rfl, Nat.le_of_ble_eq_true rfl⟩ ⟨Nat.le_of_ble_eq_true rfl, Nat.le_of_ble_eq_true rfl⟩ (Nat.le_of_ble_eq_true rfl) rfl dX7_free_2 ?_
  intro r101 u102 h
  refine z_if_eq C dX7_free_5 (tgt := 25) (by decide) (fun hc103 => ?_) (fun hc103 => ?_)
  · have h := h.1 hc103
    refine z_lv (lv1 := [(0, .ref (ma 0))]) [0] rfl ?_
    exact b_X7_free_25 C hr ma ha bd Q u102 h
  · have h := h.2 hc103
    refine z_aload_n C dX7_free_8 rfl 0 rfl ?_
    refine g7_now C fl7_10 dX7_free_9 ?_
    refine Tg5_flows C fl7_64 dX7_free_12 ?_
    refine z_bipush (v := 13) C dX7_free_15 (by decide) ?_
    refine z_iload_n C dX7_free_17 rfl 1 rfl ?_
    refine Tc0i (As := [.int 13, .int x1]) C (c_X0_get l g (bd 2) (u102.2.2.1 2) 13 x1 _ h) v_X0_get ml7_108 rfl ⟨Nat.le_of_ble_eq_true rfl, Nat.le_of_ble_eq_true rfl⟩ ⟨Nat.le_of_ble_eq_true rfl, Nat.le_of_ble_eq_true rfl⟩ (Nat.le_of_ble_eq_true rfl) rfl dX7_free_18 ?_
    intro r106 v107 h
    refine stT (tN u102 (va_up u102.2.2.1 2 v107)) (fun u108 eu108 => ?_)
    have h := h u108 eu108
    refine z_iconst (v := (-1)) C dX7_free_21 (by decide) ?_
    refine z_icmp_ne C dX7_free_22 (tgt := 32) (by decide) (fun hc109 => ?_) (fun hc109 => ?_)
    · have h := h.1 hc109
      refine z_aload_n C dX7_free_32 rfl 0 rfl ?_
      refine z_bipush (v := 6) C dX7_free_33 (by decide) ?_
      refine c7v (As := [.int 6]) C (c_X7_begin l g ma ha bd u108 6 _ h) v_X7_begin ml7_42 rfl ⟨Nat.le_of_ble_eq_true rfl, Nat.le_of_ble_eq_true rfl⟩ ⟨Nat.le_of_ble_eq_true rfl, Nat.le_of_ble_eq_true rfl⟩ (Nat.le_of_ble_eq_true rfl) rfl dX7_free_35 ?_
      intro u110 h
      refine z_aload_n C dX7_free_38 rfl 0 rfl ?_
      refine g7_now C fl7_10 dX7_free_39 ?_
      refine Tg5_flows C fl7_64 dX7_free_42 ?_
      refine z_bipush (v := 13) C dX7_free_45 (by decide) ?_
      refine z_iload_n C dX7_free_47 rfl 1 rfl ?_
      refine Tc0i (As := [.int 13, .int x1]) C (c_X0_get l g (bd 2) (u110.2.2.1 2) 13 x1 _ h) v_X0_get ml7_108 rfl ⟨Nat.le_of_ble_eq_true rfl, Nat.le_of_ble_eq_true rfl⟩ ⟨Nat.le_of_ble_eq_true rfl, Nat.le_of_ble_eq_true rfl⟩ (Nat.le_of_ble_eq_true rfl) rfl dX7_free_48 ?_
      intro r111 v112 h
      refine stT (tN u110 (va_up u110.2.2.1 2 v112)) (fun u113 eu113 => ?_)
      have h := h u113 eu113
      refine z_istore_n (lv1 := [(2, .int r111), (0, .ref (ma 0)), (1, .int x1)]) C dX7_free_51 rfl (by decide) rfl ?_
      refine z_aload_n C dX7_free_52 rfl 1 rfl ?_
      refine g7_now C fl7_10 dX7_free_53 ?_
      refine Tg5_flows C fl7_64 dX7_free_56 ?_
      refine z_iload_n C dX7_free_59 rfl 2 rfl ?_
      refine Tc0v (As := [.int x1]) C (c_X0_dropRule l g (bd 2) (u113.2.2.1 2) x1 _ h) v_X0_dropRule ml7_126 rfl ⟨Nat.le_of_ble_eq_true rfl, Nat.le_of_ble_eq_true rfl⟩ ⟨Nat.le_of_ble_eq_true rfl, Nat.le_of_ble_eq_true rfl⟩ (Nat.le_of_ble_eq_true rfl) rfl dX7_free_60 ?_
      intro v114 h
      refine stT (tN u113 (va_up u113.2.2.1 2 v114)) (fun u115 eu115 => ?_)
      have h := h u115 eu115
      refine z_iload_n C dX7_free_63 rfl 0 rfl ?_
      exact z_iret C hr u115 rfl h dX7_free_64
    · have h := h.2 hc109
      refine z_lv (lv1 := [(0, .ref (ma 0))]) [0] rfl ?_
      exact b_X7_free_25 C hr ma ha bd Q u108 h
abbrev j_X7_terms (p : Program) (l : Launch) (e : Env) (s : State) (m : MethodId) (args : Array Value) (below : List Frame) (meth : Method) (c : Code) (g : zG) (A : Nat → Prop) (ma ha : Nat → Nat) (bd : Nat → Nat → Nat) (Q : Int32 → TS → Prop) (u : TS) (k n : Nat) (pc : Nat) (lv : List (Nat × Value)) (st : List Value) : Prop := zJ p l e (zR 6 26 1308) s m args below meth c g A 4 (zQi below args s g A 26 1308 (wT g ma ha bd) Q) (wT g ma ha bd u) k n pc lv st
def wp_X7_terms_28 (Q : Int32 → TS → Prop) (u : TS) : Prop :=
  wp_X7_refuse u (-1) (fun r102 u103 => Q r102 u103)
set_option maxRecDepth 20000 in
theorem b_X7_terms_28 (C : zC p s m args meth c g A cX7_terms RX7 4) (hr : meth.sig.returnType = (some .int)) (ma ha : Nat → Nat) (bd : Nat → Nat → Nat) (Q : Int32 → TS → Prop) (u : TS) (h : wp_X7_terms_28 Q u) : j_X7_terms p l e s m args below meth c g A ma ha bd Q u 0 0 28 [(0, .ref (ma 0))] [] := by
  unfold wp_X7_terms_28 at h
  refine z_aload_n C dX7_terms_28 rfl 0 rfl ?_
  refine z_iconst (v := (-1)) C dX7_terms_29 (by decide) ?_
  refine c7i (As := [.int (-1)]) C (c_X7_refuse l g ma ha bd u (-1) _ h) v_X7_refuse ml7_38 rfl ⟨Nat.le_of_ble_eq_true rfl, Nat.le_of_ble_eq_true rfl⟩ ⟨Nat.le_of_ble_eq_true rfl, Nat.le_of_ble_eq_true rfl⟩ (Nat.le_of_ble_eq_true rfl) rfl dX7_terms_30 ?_
  intro r102 u103 h
  refine z_wide (k1 := 26) (n1 := 1308) (Nat.le_of_ble_eq_true rfl) (Nat.le_of_ble_eq_true rfl) ?_
  exact z_iret C hr u103 rfl h dX7_terms_33
def wp_X7_terms (u : TS) (x1 : Int32) (x2 : Int32) (Q : Int32 → TS → Prop) : Prop :=
  ((x1 < 0 → wp_X7_terms_28 Q u) ∧ (¬ x1 < 0 → ((9 ≤ x1 → wp_X7_terms_28 Q u) ∧ (¬ 9 ≤ x1 → vp_in x1 9 ∧ ((x2 < zLeast (zn x1) → wp_X7_terms_28 Q u) ∧ (¬ x2 < zLeast (zn x1) → vp_in x1 9 ∧ ((x2 ≤ zMost (zn x1) → wp_X7_begin u 7 (fun u109 => vp_in x1 9 ∧ ∀ x111 : Int32, x111 = (u109.2.2.1 0).1 5 (zn x1) → vp_in x1 9 ∧ ∀ u113 : TS, u113 = tN u109 (va_up u109.2.2.1 0 (rI (u109.2.2.1 0) 5 (upd ((u109.2.2.1 0).1 5) (zn x1) x2))) → Q x111 u113)) ∧ (¬ x2 ≤ zMost (zn x1) → wp_X7_terms_28 Q u))))))))
set_option maxRecDepth 20000 in
theorem c_X7_terms (l : Launch) (g : zG) (ma ha : Nat → Nat) (bd : Nat → Nat → Nat) (u : TS) (x1 : Int32) (x2 : Int32) (Q : Int32 → TS → Prop) (h : wp_X7_terms u x1 x2 Q) : zMi l yX7_terms cX7_terms 4 (some .int) 6 26 1308 g [.ref (ma 0), .int x1, .int x2] (wT g ma ha bd u) (wT g ma ha bd) Q := by
  refine zMi_of RX7 (by decide) rfl [(0, .ref (ma 0)), (1, .int x1), (2, .int x2)] rfl (Nat.le_of_ble_eq_true rfl) (fun p e s m args below meth c A C hr hnm => ?_)
  unfold wp_X7_terms at h
  refine z_iload_n C dX7_terms_0 rfl 1 rfl ?_
  refine z_if_lt C dX7_terms_1 (tgt := 28) (by decide) (fun hc101 => ?_) (fun hc101 => ?_)
  · have h := h.1 hc101
    refine z_lv (lv1 := [(0, .ref (ma 0))]) [0] rfl ?_
    exact b_X7_terms_28 C hr ma ha bd Q u h
  · have h := h.2 hc101
    refine z_iload_n C dX7_terms_4 rfl 1 rfl ?_
    refine z_bipush (v := 9) C dX7_terms_5 (by decide) ?_
    refine z_icmp_ge C dX7_terms_7 (tgt := 28) (by decide) (fun hc104 => ?_) (fun hc104 => ?_)
    · have h := h.1 hc104
      refine z_lv (lv1 := [(0, .ref (ma 0))]) [0] rfl ?_
      exact b_X7_terms_28 C hr ma ha bd Q u h
    · have h := h.2 hc104
      refine z_iload_n C dX7_terms_10 rfl 2 rfl ?_
      refine z_gets C C.2.2.2.2.2.2.2.1.1 fl7_129 dX7_terms_11 ?_
      refine z_iload_n C dX7_terms_14 rfl 1 rfl ?_
      obtain ⟨hi105, h⟩ := h
      refine z_tld C C.2.2.2.2.2.2.2.1.2.2.2.1 hi105 dX7_terms_15 ?_
      refine z_icmp_lt C dX7_terms_16 (tgt := 28) (by decide) (fun hc106 => ?_) (fun hc106 => ?_)
      · have h := h.1 hc106
        refine z_lv (lv1 := [(0, .ref (ma 0))]) [0] rfl ?_
        exact b_X7_terms_28 C hr ma ha bd Q u h
      · have h := h.2 hc106
        refine z_iload_n C dX7_terms_19 rfl 2 rfl ?_
        refine z_gets C C.2.2.2.2.2.2.2.1.2.2.1 fl7_132 dX7_terms_20 ?_
        refine z_iload_n C dX7_terms_23 rfl 1 rfl ?_
        obtain ⟨hi107, h⟩ := h
        refine z_tld C C.2.2.2.2.2.2.2.1.2.2.2.2.2.1 hi107 dX7_terms_24 ?_
        refine z_icmp_le C dX7_terms_25 (tgt := 34) (by decide) (fun hc108 => ?_) (fun hc108 => ?_)
        · have h := h.1 hc108
          refine z_aload_n C dX7_terms_34 rfl 0 rfl ?_
          refine z_bipush (v := 7) C dX7_terms_35 (by decide) ?_
          refine c7v (As := [.int 7]) C (c_X7_begin l g ma ha bd u 7 _ h) v_X7_begin ml7_42 rfl ⟨Nat.le_of_ble_eq_true rfl, Nat.le_of_ble_eq_true rfl⟩ ⟨Nat.le_of_ble_eq_true rfl, Nat.le_of_ble_eq_true rfl⟩ (Nat.le_of_ble_eq_true rfl) rfl dX7_terms_37 ?_
          intro u109 h
          refine z_aload_n C dX7_terms_40 rfl 0 rfl ?_
          refine g7_now C fl7_10 dX7_terms_41 ?_
          refine Tg5_terms C fl7_135 dX7_terms_44 ?_
          refine z_iload_n C dX7_terms_47 rfl 1 rfl ?_
          obtain ⟨hi110, h⟩ := h
          refine Tl5_terms C hi110 dX7_terms_48 ?_
          refine z_topi (fun x111 ex111 => ?_)
          have h := h x111 ex111
          refine z_istore_n (lv1 := [(3, .int x111), (0, .ref (ma 0)), (1, .int x1), (2, .int x2)]) C dX7_terms_49 rfl (by decide) rfl ?_
          refine z_aload_n C dX7_terms_50 rfl 1 rfl ?_
          refine g7_now C fl7_10 dX7_terms_51 ?_
          refine Tg5_terms C fl7_135 dX7_terms_54 ?_
          refine z_iload_n C dX7_terms_57 rfl 2 rfl ?_
          refine z_iload_n C dX7_terms_58 rfl 3 rfl ?_
          obtain ⟨hi112, h⟩ := h
          refine Ts5_terms C hi112 dX7_terms_59 ?_
          refine stT (tN u109 (va_up u109.2.2.1 0 (rI (u109.2.2.1 0) 5 (upd ((u109.2.2.1 0).1 5) (zn x1) x2)))) (fun u113 eu113 => ?_)
          have h := h u113 eu113
          refine z_iload_n C dX7_terms_60 rfl 0 rfl ?_
          exact z_iret C hr u113 rfl h dX7_terms_61
        · have h := h.2 hc108
          refine z_lv (lv1 := [(0, .ref (ma 0))]) [0] rfl ?_
          exact b_X7_terms_28 C hr ma ha bd Q u h
abbrev j_X7_packet (p : Program) (l : Launch) (e : Env) (s : State) (m : MethodId) (args : Array Value) (below : List Frame) (meth : Method) (c : Code) (g : zG) (A : Nat → Prop) (ma ha : Nat → Nat) (bd : Nat → Nat → Nat) (Q : Int32 → TS → Prop) (u : TS) (k n : Nat) (pc : Nat) (lv : List (Nat × Value)) (st : List Value) : Prop := zJ p l e (zR 6 26 1308) s m args below meth c g A 4 (zQi below args s g A 26 1308 (wT g ma ha bd) Q) (wT g ma ha bd u) k n pc lv st
def wp_X7_packet (u : TS) (x1 : Int32) (x2 : Int32) (x3 : Int32) (Q : Int32 → TS → Prop) : Prop :=
  wp_X7_isSize x2 (fun r101 => ((¬ r101 = 0 → wp_X7_isFlow u x1 (fun r103 u104 => ((¬ r103 = 0 → wp_X0_get (u104.2.2.1 2) 9 x1 (fun r106 v107 => ∀ u108 : TS, u108 = tN u104 (va_up u104.2.2.1 2 v107) → ((r106 + x2 ≤ 1000000000 → wp_X7_begin u108 8 (fun u110 => wp_X5_arrive u110.2.2.1 x1 x2 x3 (fun r111 v112 => ∀ u113 : TS, u113 = tN u110 (v112) → Q r111 u113))) ∧ (¬ r106 + x2 ≤ 1000000000 → wp_X7_refuse u108 (-4) (fun r114 u115 => Q r114 u115))))) ∧ (r103 = 0 → wp_X7_refuse u104 (-2) (fun r116 u117 => Q r116 u117))))) ∧ (r101 = 0 → wp_X7_refuse u (-1) (fun r118 u119 => Q r118 u119))))
set_option maxRecDepth 20000 in
theorem c_X7_packet (l : Launch) (g : zG) (ma ha : Nat → Nat) (bd : Nat → Nat → Nat) (u : TS) (x1 : Int32) (x2 : Int32) (x3 : Int32) (Q : Int32 → TS → Prop) (h : wp_X7_packet u x1 x2 x3 Q) : zMi l yX7_packet cX7_packet 4 (some .int) 6 26 1308 g [.ref (ma 0), .int x1, .int x2, .int x3] (wT g ma ha bd u) (wT g ma ha bd) Q := by
  refine zMi_of RX7 (by decide) rfl [(0, .ref (ma 0)), (1, .int x1), (2, .int x2), (3, .int x3)] rfl (Nat.le_of_ble_eq_true rfl) (fun p e s m args below meth c A C hr hnm => ?_)
  unfold wp_X7_packet at h
  refine z_iload_n C dX7_packet_0 rfl 2 rfl ?_
  refine cSi (As := [.int x2]) C (c_X7_isSize l g x2 _ h) s_X7_isSize ml7_138 ⟨Nat.le_of_ble_eq_true rfl, Nat.le_of_ble_eq_true rfl⟩ ⟨Nat.le_of_ble_eq_true rfl, Nat.le_of_ble_eq_true rfl⟩ (Nat.le_of_ble_eq_true rfl) rfl dX7_packet_1 ?_
  intro r101 h
  refine z_if_ne C dX7_packet_4 (tgt := 13) (by decide) (fun hc102 => ?_) (fun hc102 => ?_)
  · have h := h.1 hc102
    refine z_aload_n C dX7_packet_13 rfl 0 rfl ?_
    refine z_iload_n C dX7_packet_14 rfl 1 rfl ?_
    refine c7i (As := [.int x1]) C (c_X7_isFlow l g ma ha bd u x1 _ h) v_X7_isFlow ml7_105 rfl ⟨Nat.le_of_ble_eq_true rfl, Nat.le_of_ble_eq_true rfl⟩ ⟨Nat.le_of_ble_eq_true rfl, Nat.le_of_ble_eq_true rfl⟩ (Nat.le_of_ble_eq_true rfl) rfl dX7_packet_15 ?_
    intro r103 u104 h
    refine z_if_ne C dX7_packet_18 (tgt := 28) (by decide) (fun hc105 => ?_) (fun hc105 => ?_)
    · have h := h.1 hc105
      refine z_aload_n C dX7_packet_28 rfl 0 rfl ?_
      refine g7_now C fl7_10 dX7_packet_29 ?_
      refine Tg5_flows C fl7_64 dX7_packet_32 ?_
      refine z_bipush (v := 9) C dX7_packet_35 (by decide) ?_
      refine z_iload_n C dX7_packet_37 rfl 1 rfl ?_
      refine Tc0i (As := [.int 9, .int x1]) C (c_X0_get l g (bd 2) (u104.2.2.1 2) 9 x1 _ h) v_X0_get ml7_108 rfl ⟨Nat.le_of_ble_eq_true rfl, Nat.le_of_ble_eq_true rfl⟩ ⟨Nat.le_of_ble_eq_true rfl, Nat.le_of_ble_eq_true rfl⟩ (Nat.le_of_ble_eq_true rfl) rfl dX7_packet_38 ?_
      intro r106 v107 h
      refine stT (tN u104 (va_up u104.2.2.1 2 v107)) (fun u108 eu108 => ?_)
      have h := h u108 eu108
      refine z_iload_n C dX7_packet_41 rfl 2 rfl ?_
      refine z_iadd C dX7_packet_42 ?_
      refine z_ldc (v := 1000000000) C dX7_packet_43 k7_141 ?_
      refine z_icmp_le C dX7_packet_45 (tgt := 55) (by decide) (fun hc109 => ?_) (fun hc109 => ?_)
      · have h := h.1 hc109
        refine z_aload_n C dX7_packet_55 rfl 0 rfl ?_
        refine z_bipush (v := 8) C dX7_packet_56 (by decide) ?_
        refine c7v (As := [.int 8]) C (c_X7_begin l g ma ha bd u108 8 _ h) v_X7_begin ml7_42 rfl ⟨Nat.le_of_ble_eq_true rfl, Nat.le_of_ble_eq_true rfl⟩ ⟨Nat.le_of_ble_eq_true rfl, Nat.le_of_ble_eq_true rfl⟩ (Nat.le_of_ble_eq_true rfl) rfl dX7_packet_58 ?_
        intro u110 h
        refine z_aload_n C dX7_packet_61 rfl 0 rfl ?_
        refine g7_now C fl7_10 dX7_packet_62 ?_
        refine z_iload_n C dX7_packet_65 rfl 1 rfl ?_
        refine z_iload_n C dX7_packet_66 rfl 2 rfl ?_
        refine z_iload_n C dX7_packet_67 rfl 3 rfl ?_
        refine Tc5i (As := [.int x1, .int x2, .int x3]) C (c_X5_arrive l g bd u110.2.2.1 x1 x2 x3 _ h) v_X5_arrive ml7_142 rfl ⟨Nat.le_of_ble_eq_true rfl, Nat.le_of_ble_eq_true rfl⟩ ⟨Nat.le_of_ble_eq_true rfl, Nat.le_of_ble_eq_true rfl⟩ (Nat.le_of_ble_eq_true rfl) rfl dX7_packet_68 ?_
        intro r111 v112 h
        refine stT (tN u110 (v112)) (fun u113 eu113 => ?_)
        have h := h u113 eu113
        exact z_iret C hr u113 rfl h dX7_packet_71
      · have h := h.2 hc109
        refine z_aload_n C dX7_packet_48 rfl 0 rfl ?_
        refine z_bipush (v := (-4)) C dX7_packet_49 (by decide) ?_
        refine c7i (As := [.int (-4)]) C (c_X7_refuse l g ma ha bd u108 (-4) _ h) v_X7_refuse ml7_38 rfl ⟨Nat.le_of_ble_eq_true rfl, Nat.le_of_ble_eq_true rfl⟩ ⟨Nat.le_of_ble_eq_true rfl, Nat.le_of_ble_eq_true rfl⟩ (Nat.le_of_ble_eq_true rfl) rfl dX7_packet_51 ?_
        intro r114 u115 h
        refine z_wide (k1 := 26) (n1 := 1308) (Nat.le_of_ble_eq_true rfl) (Nat.le_of_ble_eq_true rfl) ?_
        exact z_iret C hr u115 rfl h dX7_packet_54
    · have h := h.2 hc105
      refine z_aload_n C dX7_packet_21 rfl 0 rfl ?_
      refine z_bipush (v := (-2)) C dX7_packet_22 (by decide) ?_
      refine c7i (As := [.int (-2)]) C (c_X7_refuse l g ma ha bd u104 (-2) _ h) v_X7_refuse ml7_38 rfl ⟨Nat.le_of_ble_eq_true rfl, Nat.le_of_ble_eq_true rfl⟩ ⟨Nat.le_of_ble_eq_true rfl, Nat.le_of_ble_eq_true rfl⟩ (Nat.le_of_ble_eq_true rfl) rfl dX7_packet_24 ?_
      intro r116 u117 h
      refine z_wide (k1 := 26) (n1 := 1308) (Nat.le_of_ble_eq_true rfl) (Nat.le_of_ble_eq_true rfl) ?_
      exact z_iret C hr u117 rfl h dX7_packet_27
  · have h := h.2 hc102
    refine z_aload_n C dX7_packet_7 rfl 0 rfl ?_
    refine z_iconst (v := (-1)) C dX7_packet_8 (by decide) ?_
    refine c7i (As := [.int (-1)]) C (c_X7_refuse l g ma ha bd u (-1) _ h) v_X7_refuse ml7_38 rfl ⟨Nat.le_of_ble_eq_true rfl, Nat.le_of_ble_eq_true rfl⟩ ⟨Nat.le_of_ble_eq_true rfl, Nat.le_of_ble_eq_true rfl⟩ (Nat.le_of_ble_eq_true rfl) rfl dX7_packet_9 ?_
    intro r118 u119 h
    refine z_wide (k1 := 26) (n1 := 1308) (Nat.le_of_ble_eq_true rfl) (Nat.le_of_ble_eq_true rfl) ?_
    exact z_iret C hr u119 rfl h dX7_packet_12
abbrev j_X7_burst (p : Program) (l : Launch) (e : Env) (s : State) (m : MethodId) (args : Array Value) (below : List Frame) (meth : Method) (c : Code) (g : zG) (A : Nat → Prop) (ma ha : Nat → Nat) (bd : Nat → Nat → Nat) (Q : Int32 → TS → Prop) (u : TS) (k n : Nat) (pc : Nat) (lv : List (Nat × Value)) (st : List Value) : Prop := zJ p l e (zR 6 26 1308) s m args below meth c g A 7 (zQi below args s g A 26 1308 (wT g ma ha bd) Q) (wT g ma ha bd u) k n pc lv st
def wp_X7_burst_18 (Q : Int32 → TS → Prop) (u : TS) : Prop :=
  wp_X7_refuse u (-1) (fun r102 u103 => Q r102 u103)
set_option maxRecDepth 20000 in
theorem b_X7_burst_18 (C : zC p s m args meth c g A cX7_burst RX7 7) (hr : meth.sig.returnType = (some .int)) (ma ha : Nat → Nat) (bd : Nat → Nat → Nat) (Q : Int32 → TS → Prop) (u : TS) (h : wp_X7_burst_18 Q u) : j_X7_burst p l e s m args below meth c g A ma ha bd Q u 0 0 18 [(0, .ref (ma 0))] [] := by
  unfold wp_X7_burst_18 at h
  refine z_aload_n C dX7_burst_18 rfl 0 rfl ?_
  refine z_iconst (v := (-1)) C dX7_burst_19 (by decide) ?_
  refine c7i (As := [.int (-1)]) C (c_X7_refuse l g ma ha bd u (-1) _ h) v_X7_refuse ml7_38 rfl ⟨Nat.le_of_ble_eq_true rfl, Nat.le_of_ble_eq_true rfl⟩ ⟨Nat.le_of_ble_eq_true rfl, Nat.le_of_ble_eq_true rfl⟩ (Nat.le_of_ble_eq_true rfl) rfl dX7_burst_20 ?_
  intro r102 u103 h
  refine z_wide (k1 := 26) (n1 := 1308) (Nat.le_of_ble_eq_true rfl) (Nat.le_of_ble_eq_true rfl) ?_
  exact z_iret C hr u103 rfl h dX7_burst_23
def wp_X7_burst_120 (Q : Int32 → TS → Prop) (B71 : TS → Int32 → Int32 → Int32 → Int32 → Int32 → Prop) (u : TS) (x2 : Int32) (x3 : Int32) (x4 : Int32) (x6 : Int32) (t0 : Int32) : Prop :=
  ∀ x120 : Int32, x120 = x6 + 1 → B71 u x2 x3 x4 t0 x120
set_option maxRecDepth 20000 in
theorem b_X7_burst_120 (C : zC p s m args meth c g A cX7_burst RX7 7) (hr : meth.sig.returnType = (some .int)) (ma ha : Nat → Nat) (bd : Nat → Nat → Nat) (Q : Int32 → TS → Prop) (B71 : TS → Int32 → Int32 → Int32 → Int32 → Int32 → Prop) (hB71 : ∀ (u : TS) (x2 : Int32) (x3 : Int32) (x4 : Int32) (x5 : Int32) (x6 : Int32), B71 u x2 x3 x4 x5 x6 → j_X7_burst p l e s m args below meth c g A ma ha bd Q u 26 1308 71 [(0, .ref (ma 0)), (2, .int x2), (3, .int x3), (4, .int x4), (5, .int x5), (6, .int x6)] []) (u : TS) (x2 : Int32) (x3 : Int32) (x4 : Int32) (x6 : Int32) (t0 : Int32) (h : wp_X7_burst_120 Q B71 u x2 x3 x4 x6 t0) : j_X7_burst p l e s m args below meth c g A ma ha bd Q u 26 1308 120 [(0, .ref (ma 0)), (2, .int x2), (3, .int x3), (4, .int x4), (6, .int x6)] [.int t0] := by
  unfold wp_X7_burst_120 at h
  refine z_istore (lv1 := [(5, .int t0), (0, .ref (ma 0)), (2, .int x2), (3, .int x3), (4, .int x4), (6, .int x6)]) C dX7_burst_120 (by decide) rfl ?_
  obtain ⟨x120, ex120⟩ : ∃ y : Int32, y = x6 + 1 := ⟨_, rfl⟩
  have h := h x120 ex120
  refine z_iinc (v := x120) (lv1 := [(6, .int x120), (5, .int t0), (0, .ref (ma 0)), (2, .int x2), (3, .int x3), (4, .int x4)]) C dX7_burst_122 5 rfl (by rw [ex120]; rfl) (by decide) rfl ?_
  refine z_goto C dX7_burst_125 (tgt := 71) (by decide) ?_
  refine z_lv (lv1 := [(0, .ref (ma 0)), (2, .int x2), (3, .int x3), (4, .int x4), (5, .int t0), (6, .int x120)]) [2, 3, 4, 5, 1, 0] rfl ?_
  exact hB71 u x2 x3 x4 t0 x120 h
def wp_X7_burst_95 (Q : Int32 → TS → Prop) (B71 : TS → Int32 → Int32 → Int32 → Int32 → Int32 → Prop) (u : TS) (x2 : Int32) (x3 : Int32) (x4 : Int32) (x5 : Int32) (x6 : Int32) : Prop :=
  (((u.2.2.1 2).1 0 0 ≤ x5 + 1 → wp_X7_burst_120 Q B71 u x2 x3 x4 x6 0) ∧ (¬ (u.2.2.1 2).1 0 0 ≤ x5 + 1 → wp_X7_burst_120 Q B71 u x2 x3 x4 x6 (x5 + 1)))
set_option maxRecDepth 20000 in
theorem b_X7_burst_95 (C : zC p s m args meth c g A cX7_burst RX7 7) (hr : meth.sig.returnType = (some .int)) (ma ha : Nat → Nat) (bd : Nat → Nat → Nat) (Q : Int32 → TS → Prop) (B71 : TS → Int32 → Int32 → Int32 → Int32 → Int32 → Prop) (hB71 : ∀ (u : TS) (x2 : Int32) (x3 : Int32) (x4 : Int32) (x5 : Int32) (x6 : Int32), B71 u x2 x3 x4 x5 x6 → j_X7_burst p l e s m args below meth c g A ma ha bd Q u 26 1308 71 [(0, .ref (ma 0)), (2, .int x2), (3, .int x3), (4, .int x4), (5, .int x5), (6, .int x6)] []) (u : TS) (x2 : Int32) (x3 : Int32) (x4 : Int32) (x5 : Int32) (x6 : Int32) (h : wp_X7_burst_95 Q B71 u x2 x3 x4 x5 x6) : j_X7_burst p l e s m args below meth c g A ma ha bd Q u 26 1308 95 [(0, .ref (ma 0)), (2, .int x2), (3, .int x3), (4, .int x4), (5, .int x5), (6, .int x6)] [] := by
  unfold wp_X7_burst_95 at h
  refine z_iload C dX7_burst_95 4 rfl ?_
  refine z_iconst (v := 1) C dX7_burst_97 (by decide) ?_
  refine z_iadd C dX7_burst_98 ?_
  refine z_aload_n C dX7_burst_99 rfl 0 rfl ?_
  refine g7_now C fl7_10 dX7_burst_100 ?_
  refine Tg5_flows C fl7_64 dX7_burst_103 ?_
  refine Tg0_number C fl7_77 dX7_burst_106 ?_
  refine z_icmp_ge C dX7_burst_109 (tgt := 119) (by decide) (fun hc119 => ?_) (fun hc119 => ?_)
  · have h := h.1 hc119
    refine z_iconst (v := 0) C dX7_burst_119 (by decide) ?_
    refine z_lv (lv1 := [(0, .ref (ma 0)), (2, .int x2), (3, .int x3), (4, .int x4), (6, .int x6)]) [0, 1, 2, 3, 5] rfl ?_
    exact b_X7_burst_120 C hr ma ha bd Q B71 hB71 u x2 x3 x4 x6 0 h
  · have h := h.2 hc119
    refine z_iload C dX7_burst_112 4 rfl ?_
    refine z_iconst (v := 1) C dX7_burst_114 (by decide) ?_
    refine z_iadd C dX7_burst_115 ?_
    refine z_goto C dX7_burst_116 (tgt := 120) (by decide) ?_
    refine z_lv (lv1 := [(0, .ref (ma 0)), (2, .int x2), (3, .int x3), (4, .int x4), (6, .int x6)]) [0, 1, 2, 3, 5] rfl ?_
    exact b_X7_burst_120 C hr ma ha bd Q B71 hB71 u x2 x3 x4 x6 (x5 + 1) h
def wp_X7_burst_71 (Q : Int32 → TS → Prop) (B71 : TS → Int32 → Int32 → Int32 → Int32 → Int32 → Prop) (u : TS) (x2 : Int32) (x3 : Int32) (x4 : Int32) (x5 : Int32) (x6 : Int32) : Prop :=
  ((x2 ≤ x6 → Q x4 u) ∧ (¬ x2 ≤ x6 → wp_X5_arrive u.2.2.1 x5 x3 0 (fun r115 v116 => ∀ u117 : TS, u117 = tN u (v116) → ((r115 = 4 → wp_X7_burst_95 Q B71 u117 x2 x3 x4 x5 x6) ∧ (¬ r115 = 4 → ∀ x121 : Int32, x121 = x4 + 1 → wp_X7_burst_95 Q B71 u117 x2 x3 x121 x5 x6)))))
set_option maxRecDepth 20000 in
theorem b_X7_burst_71 (C : zC p s m args meth c g A cX7_burst RX7 7) (hr : meth.sig.returnType = (some .int)) (ma ha : Nat → Nat) (bd : Nat → Nat → Nat) (Q : Int32 → TS → Prop) (B71 : TS → Int32 → Int32 → Int32 → Int32 → Int32 → Prop) (hB71 : ∀ (u : TS) (x2 : Int32) (x3 : Int32) (x4 : Int32) (x5 : Int32) (x6 : Int32), B71 u x2 x3 x4 x5 x6 → j_X7_burst p l e s m args below meth c g A ma ha bd Q u 26 1308 71 [(0, .ref (ma 0)), (2, .int x2), (3, .int x3), (4, .int x4), (5, .int x5), (6, .int x6)] []) (u : TS) (x2 : Int32) (x3 : Int32) (x4 : Int32) (x5 : Int32) (x6 : Int32) (h : wp_X7_burst_71 Q B71 u x2 x3 x4 x5 x6) : j_X7_burst p l e s m args below meth c g A ma ha bd Q u 26 1308 71 [(0, .ref (ma 0)), (2, .int x2), (3, .int x3), (4, .int x4), (5, .int x5), (6, .int x6)] [] := by
  unfold wp_X7_burst_71 at h
  refine z_iload C dX7_burst_71 5 rfl ?_
  refine z_iload_n C dX7_burst_73 rfl 1 rfl ?_
  refine z_icmp_ge C dX7_burst_74 (tgt := 128) (by decide) (fun hc114 => ?_) (fun hc114 => ?_)
  · have h := h.1 hc114
    refine z_iload C dX7_burst_128 3 rfl ?_
    exact z_iret C hr u rfl h dX7_burst_130
  · have h := h.2 hc114
    refine z_aload_n C dX7_burst_77 rfl 0 rfl ?_
    refine g7_now C fl7_10 dX7_burst_78 ?_
    refine z_iload C dX7_burst_81 4 rfl ?_
    refine z_iload_n C dX7_burst_83 rfl 2 rfl ?_
    refine z_iconst (v := 0) C dX7_burst_84 (by decide) ?_
    refine Tc5i (As := [.int x5, .int x3, .int 0]) C (c_X5_arrive l g bd u.2.2.1 x5 x3 0 _ h) v_X5_arrive ml7_142 rfl ⟨Nat.le_of_ble_eq_true rfl, Nat.le_of_ble_eq_true rfl⟩ ⟨Nat.le_of_ble_eq_true rfl, Nat.le_of_ble_eq_true rfl⟩ (Nat.le_of_ble_eq_true rfl) rfl dX7_burst_85 ?_
    intro r115 v116 h
    refine stT (tN u (v116)) (fun u117 eu117 => ?_)
    have h := h u117 eu117
    refine z_iconst (v := 4) C dX7_burst_88 (by decide) ?_
    refine z_icmp_eq C dX7_burst_89 (tgt := 95) (by decide) (fun hc118 => ?_) (fun hc118 => ?_)
    · have h := h.1 hc118
      exact b_X7_burst_95 C hr ma ha bd Q B71 hB71 u117 x2 x3 x4 x5 x6 h
    · have h := h.2 hc118
      obtain ⟨x121, ex121⟩ : ∃ y : Int32, y = x4 + 1 := ⟨_, rfl⟩
      have h := h x121 ex121
      refine z_iinc (v := x121) (lv1 := [(4, .int x121), (0, .ref (ma 0)), (2, .int x2), (3, .int x3), (5, .int x5), (6, .int x6)]) C dX7_burst_92 3 rfl (by rw [ex121]; rfl) (by decide) rfl ?_
      refine z_lv (lv1 := [(0, .ref (ma 0)), (2, .int x2), (3, .int x3), (4, .int x121), (5, .int x5), (6, .int x6)]) [1, 2, 3, 0, 4, 5] rfl ?_
      exact b_X7_burst_95 C hr ma ha bd Q B71 hB71 u117 x2 x3 x121 x5 x6 h
theorem l_X7_burst_71 (C : zC p s m args meth c g A cX7_burst RX7 7) (hr : meth.sig.returnType = (some .int)) (ma ha : Nat → Nat) (bd : Nat → Nat → Nat) (Q : Int32 → TS → Prop) : ∀ (n : Nat) (u : TS) (x2 : Int32) (x3 : Int32) (x4 : Int32) (x5 : Int32) (x6 : Int32), zit6 (wp_X7_burst_71 Q) n u x2 x3 x4 x5 x6 → j_X7_burst p l e s m args below meth c g A ma ha bd Q u 26 1308 71 [(0, .ref (ma 0)), (2, .int x2), (3, .int x3), (4, .int x4), (5, .int x5), (6, .int x6)] [] := by
  intro n
  induction n with
  | zero => exact fun u x2 x3 x4 x5 x6 h => h.elim
  | succ n ih => exact fun u x2 x3 x4 x5 x6 h => b_X7_burst_71 C hr ma ha bd Q (zit6 (wp_X7_burst_71 Q) n) ih u x2 x3 x4 x5 x6 h
def wp_X7_burst (u : TS) (x1 : Int32) (x2 : Int32) (x3 : Int32) (Q : Int32 → TS → Prop) : Prop :=
  ((x2 < 1 → wp_X7_burst_18 Q u) ∧ (¬ x2 < 1 → ((20 < x2 → wp_X7_burst_18 Q u) ∧ (¬ 20 < x2 → wp_X7_isSize x3 (fun r105 => ((¬ r105 = 0 → wp_X7_isFlow u x1 (fun r107 u108 => ((¬ r107 = 0 → wp_X7_burstFits u108 x1 x2 x3 (fun r110 u111 => ((¬ r110 = 0 → wp_X7_begin u111 9 (fun u113 => (∃ n, zit6 (wp_X7_burst_71 Q) n u113 x2 x3 0 x1 0))) ∧ (r110 = 0 → wp_X7_refuse u111 (-4) (fun r122 u123 => Q r122 u123))))) ∧ (r107 = 0 → wp_X7_refuse u108 (-2) (fun r124 u125 => Q r124 u125))))) ∧ (r105 = 0 → wp_X7_burst_18 Q u)))))))
set_option maxRecDepth 20000 in
theorem c_X7_burst (l : Launch) (g : zG) (ma ha : Nat → Nat) (bd : Nat → Nat → Nat) (u : TS) (x1 : Int32) (x2 : Int32) (x3 : Int32) (Q : Int32 → TS → Prop) (h : wp_X7_burst u x1 x2 x3 Q) : zMi l yX7_burst cX7_burst 7 (some .int) 6 26 1308 g [.ref (ma 0), .int x1, .int x2, .int x3] (wT g ma ha bd u) (wT g ma ha bd) Q := by
  refine zMi_of RX7 (by decide) rfl [(0, .ref (ma 0)), (1, .int x1), (2, .int x2), (3, .int x3)] rfl (Nat.le_of_ble_eq_true rfl) (fun p e s m args below meth c A C hr hnm => ?_)
  unfold wp_X7_burst at h
  refine z_iload_n C dX7_burst_0 rfl 2 rfl ?_
  refine z_iconst (v := 1) C dX7_burst_1 (by decide) ?_
  refine z_icmp_lt C dX7_burst_2 (tgt := 18) (by decide) (fun hc101 => ?_) (fun hc101 => ?_)
  · have h := h.1 hc101
    refine z_lv (lv1 := [(0, .ref (ma 0))]) [0] rfl ?_
    exact b_X7_burst_18 C hr ma ha bd Q u h
  · have h := h.2 hc101
    refine z_iload_n C dX7_burst_5 rfl 2 rfl ?_
    refine z_bipush (v := 20) C dX7_burst_6 (by decide) ?_
    refine z_icmp_gt C dX7_burst_8 (tgt := 18) (by decide) (fun hc104 => ?_) (fun hc104 => ?_)
    · have h := h.1 hc104
      refine z_lv (lv1 := [(0, .ref (ma 0))]) [0] rfl ?_
      exact b_X7_burst_18 C hr ma ha bd Q u h
    · have h := h.2 hc104
      refine z_iload_n C dX7_burst_11 rfl 3 rfl ?_
      refine cSi (As := [.int x3]) C (c_X7_isSize l g x3 _ h) s_X7_isSize ml7_138 ⟨Nat.le_of_ble_eq_true rfl, Nat.le_of_ble_eq_true rfl⟩ ⟨Nat.le_of_ble_eq_true rfl, Nat.le_of_ble_eq_true rfl⟩ (Nat.le_of_ble_eq_true rfl) rfl dX7_burst_12 ?_
      intro r105 h
      refine z_if_ne C dX7_burst_15 (tgt := 24) (by decide) (fun hc106 => ?_) (fun hc106 => ?_)
      · have h := h.1 hc106
        refine z_aload_n C dX7_burst_24 rfl 0 rfl ?_
        refine z_iload_n C dX7_burst_25 rfl 1 rfl ?_
        refine c7i (As := [.int x1]) C (c_X7_isFlow l g ma ha bd u x1 _ h) v_X7_isFlow ml7_105 rfl ⟨Nat.le_of_ble_eq_true rfl, Nat.le_of_ble_eq_true rfl⟩ ⟨Nat.le_of_ble_eq_true rfl, Nat.le_of_ble_eq_true rfl⟩ (Nat.le_of_ble_eq_true rfl) rfl dX7_burst_26 ?_
        intro r107 u108 h
        refine z_if_ne C dX7_burst_29 (tgt := 39) (by decide) (fun hc109 => ?_) (fun hc109 => ?_)
        · have h := h.1 hc109
          refine z_aload_n C dX7_burst_39 rfl 0 rfl ?_
          refine z_iload_n C dX7_burst_40 rfl 1 rfl ?_
          refine z_iload_n C dX7_burst_41 rfl 2 rfl ?_
          refine z_iload_n C dX7_burst_42 rfl 3 rfl ?_
          refine c7i (As := [.int x1, .int x2, .int x3]) C (c_X7_burstFits l g ma ha bd u108 x1 x2 x3 _ h) v_X7_burstFits ml7_146 rfl ⟨Nat.le_of_ble_eq_true rfl, Nat.le_of_ble_eq_true rfl⟩ ⟨Nat.le_of_ble_eq_true rfl, Nat.le_of_ble_eq_true rfl⟩ (Nat.le_of_ble_eq_true rfl) rfl dX7_burst_43 ?_
          intro r110 u111 h
          refine z_if_ne C dX7_burst_46 (tgt := 56) (by decide) (fun hc112 => ?_) (fun hc112 => ?_)
          · have h := h.1 hc112
            refine z_aload_n C dX7_burst_56 rfl 0 rfl ?_
            refine z_bipush (v := 9) C dX7_burst_57 (by decide) ?_
            refine c7v (As := [.int 9]) C (c_X7_begin l g ma ha bd u111 9 _ h) v_X7_begin ml7_42 rfl ⟨Nat.le_of_ble_eq_true rfl, Nat.le_of_ble_eq_true rfl⟩ ⟨Nat.le_of_ble_eq_true rfl, Nat.le_of_ble_eq_true rfl⟩ (Nat.le_of_ble_eq_true rfl) rfl dX7_burst_59 ?_
            intro u113 h
            refine z_iconst (v := 0) C dX7_burst_62 (by decide) ?_
            refine z_istore (lv1 := [(4, .int 0), (0, .ref (ma 0)), (1, .int x1), (2, .int x2), (3, .int x3)]) C dX7_burst_63 (by decide) rfl ?_
            refine z_iload_n C dX7_burst_65 rfl 2 rfl ?_
            refine z_istore (lv1 := [(5, .int x1), (4, .int 0), (0, .ref (ma 0)), (1, .int x1), (2, .int x2), (3, .int x3)]) C dX7_burst_66 (by decide) rfl ?_
            refine z_iconst (v := 0) C dX7_burst_68 (by decide) ?_
            refine z_istore (lv1 := [(6, .int 0), (5, .int x1), (4, .int 0), (0, .ref (ma 0)), (1, .int x1), (2, .int x2), (3, .int x3)]) C dX7_burst_69 (by decide) rfl ?_
            refine z_lv (lv1 := [(0, .ref (ma 0)), (2, .int x2), (3, .int x3), (4, .int 0), (5, .int x1), (6, .int 0)]) [3, 5, 6, 2, 1, 0] rfl ?_
            obtain ⟨n9, h⟩ := h
            exact l_X7_burst_71 C hr ma ha bd Q n9 u113 x2 x3 0 x1 0 h
          · have h := h.2 hc112
            refine z_aload_n C dX7_burst_49 rfl 0 rfl ?_
            refine z_bipush (v := (-4)) C dX7_burst_50 (by decide) ?_
            refine c7i (As := [.int (-4)]) C (c_X7_refuse l g ma ha bd u111 (-4) _ h) v_X7_refuse ml7_38 rfl ⟨Nat.le_of_ble_eq_true rfl, Nat.le_of_ble_eq_true rfl⟩ ⟨Nat.le_of_ble_eq_true rfl, Nat.le_of_ble_eq_true rfl⟩ (Nat.le_of_ble_eq_true rfl) rfl dX7_burst_52 ?_
            intro r122 u123 h
            refine z_wide (k1 := 26) (n1 := 1308) (Nat.le_of_ble_eq_true rfl) (Nat.le_of_ble_eq_true rfl) ?_
            exact z_iret C hr u123 rfl h dX7_burst_55
        · have h := h.2 hc109
          refine z_aload_n C dX7_burst_32 rfl 0 rfl ?_
          refine z_bipush (v := (-2)) C dX7_burst_33 (by decide) ?_
          refine c7i (As := [.int (-2)]) C (c_X7_refuse l g ma ha bd u108 (-2) _ h) v_X7_refuse ml7_38 rfl ⟨Nat.le_of_ble_eq_true rfl, Nat.le_of_ble_eq_true rfl⟩ ⟨Nat.le_of_ble_eq_true rfl, Nat.le_of_ble_eq_true rfl⟩ (Nat.le_of_ble_eq_true rfl) rfl dX7_burst_35 ?_
          intro r124 u125 h
          refine z_wide (k1 := 26) (n1 := 1308) (Nat.le_of_ble_eq_true rfl) (Nat.le_of_ble_eq_true rfl) ?_
          exact z_iret C hr u125 rfl h dX7_burst_38
      · have h := h.2 hc106
        refine z_lv (lv1 := [(0, .ref (ma 0))]) [0] rfl ?_
        exact b_X7_burst_18 C hr ma ha bd Q u h
abbrev j_X7_gap (p : Program) (l : Launch) (e : Env) (s : State) (m : MethodId) (args : Array Value) (below : List Frame) (meth : Method) (c : Code) (g : zG) (A : Nat → Prop) (ma ha : Nat → Nat) (bd : Nat → Nat → Nat) (Q : Int32 → TS → Prop) (u : TS) (k n : Nat) (pc : Nat) (lv : List (Nat × Value)) (st : List Value) : Prop := zJ p l e (zR 6 26 1308) s m args below meth c g A 3 (zQi below args s g A 26 1308 (wT g ma ha bd) Q) (wT g ma ha bd u) k n pc lv st
def wp_X7_gap_12 (Q : Int32 → TS → Prop) (u : TS) : Prop :=
  wp_X7_refuse u (-1) (fun r102 u103 => Q r102 u103)
set_option maxRecDepth 20000 in
theorem b_X7_gap_12 (C : zC p s m args meth c g A cX7_gap RX7 3) (hr : meth.sig.returnType = (some .int)) (ma ha : Nat → Nat) (bd : Nat → Nat → Nat) (Q : Int32 → TS → Prop) (u : TS) (h : wp_X7_gap_12 Q u) : j_X7_gap p l e s m args below meth c g A ma ha bd Q u 0 0 12 [(0, .ref (ma 0))] [] := by
  unfold wp_X7_gap_12 at h
  refine z_aload_n C dX7_gap_12 rfl 0 rfl ?_
  refine z_iconst (v := (-1)) C dX7_gap_13 (by decide) ?_
  refine c7i (As := [.int (-1)]) C (c_X7_refuse l g ma ha bd u (-1) _ h) v_X7_refuse ml7_38 rfl ⟨Nat.le_of_ble_eq_true rfl, Nat.le_of_ble_eq_true rfl⟩ ⟨Nat.le_of_ble_eq_true rfl, Nat.le_of_ble_eq_true rfl⟩ (Nat.le_of_ble_eq_true rfl) rfl dX7_gap_14 ?_
  intro r102 u103 h
  refine z_wide (k1 := 26) (n1 := 1308) (Nat.le_of_ble_eq_true rfl) (Nat.le_of_ble_eq_true rfl) ?_
  exact z_iret C hr u103 rfl h dX7_gap_17
def wp_X7_gap (u : TS) (x1 : Int32) (x2 : Int32) (Q : Int32 → TS → Prop) : Prop :=
  ((x2 < 1 → wp_X7_gap_12 Q u) ∧ (¬ x2 < 1 → ((x2 ≤ 9999 → wp_X7_isFlow u x1 (fun r105 u106 => ((¬ r105 = 0 → wp_X0_get (u106.2.2.1 2) 9 x1 (fun r108 v109 => ∀ u110 : TS, u110 = tN u106 (va_up u106.2.2.1 2 v109) → ((r108 + x2 ≤ 1000000000 → wp_X7_begin u110 10 (fun u112 => wp_X0_add (u112.2.2.1 2) 9 x1 x2 (fun v113 => ∀ u114 : TS, u114 = tN u112 (va_up u112.2.2.1 2 v113) → wp_X0_get (u114.2.2.1 2) 9 x1 (fun r115 v116 => ∀ u117 : TS, u117 = tN u114 (va_up u114.2.2.1 2 v116) → Q r115 u117)))) ∧ (¬ r108 + x2 ≤ 1000000000 → wp_X7_refuse u110 (-4) (fun r118 u119 => Q r118 u119))))) ∧ (r105 = 0 → wp_X7_refuse u106 (-2) (fun r120 u121 => Q r120 u121))))) ∧ (¬ x2 ≤ 9999 → wp_X7_gap_12 Q u))))
set_option maxRecDepth 20000 in
theorem c_X7_gap (l : Launch) (g : zG) (ma ha : Nat → Nat) (bd : Nat → Nat → Nat) (u : TS) (x1 : Int32) (x2 : Int32) (Q : Int32 → TS → Prop) (h : wp_X7_gap u x1 x2 Q) : zMi l yX7_gap cX7_gap 3 (some .int) 6 26 1308 g [.ref (ma 0), .int x1, .int x2] (wT g ma ha bd u) (wT g ma ha bd) Q := by
  refine zMi_of RX7 (by decide) rfl [(0, .ref (ma 0)), (1, .int x1), (2, .int x2)] rfl (Nat.le_of_ble_eq_true rfl) (fun p e s m args below meth c A C hr hnm => ?_)
  unfold wp_X7_gap at h
  refine z_iload_n C dX7_gap_0 rfl 2 rfl ?_
  refine z_iconst (v := 1) C dX7_gap_1 (by decide) ?_
  refine z_icmp_lt C dX7_gap_2 (tgt := 12) (by decide) (fun hc101 => ?_) (fun hc101 => ?_)
  · have h := h.1 hc101
    refine z_lv (lv1 := [(0, .ref (ma 0))]) [0] rfl ?_
    exact b_X7_gap_12 C hr ma ha bd Q u h
  · have h := h.2 hc101
    refine z_iload_n C dX7_gap_5 rfl 2 rfl ?_
    refine z_sipush (v := 9999) C dX7_gap_6 (by decide) ?_
    refine z_icmp_le C dX7_gap_9 (tgt := 18) (by decide) (fun hc104 => ?_) (fun hc104 => ?_)
    · have h := h.1 hc104
      refine z_aload_n C dX7_gap_18 rfl 0 rfl ?_
      refine z_iload_n C dX7_gap_19 rfl 1 rfl ?_
      refine c7i (As := [.int x1]) C (c_X7_isFlow l g ma ha bd u x1 _ h) v_X7_isFlow ml7_105 rfl ⟨Nat.le_of_ble_eq_true rfl, Nat.le_of_ble_eq_true rfl⟩ ⟨Nat.le_of_ble_eq_true rfl, Nat.le_of_ble_eq_true rfl⟩ (Nat.le_of_ble_eq_true rfl) rfl dX7_gap_20 ?_
      intro r105 u106 h
      refine z_if_ne C dX7_gap_23 (tgt := 33) (by decide) (fun hc107 => ?_) (fun hc107 => ?_)
      · have h := h.1 hc107
        refine z_aload_n C dX7_gap_33 rfl 0 rfl ?_
        refine g7_now C fl7_10 dX7_gap_34 ?_
        refine Tg5_flows C fl7_64 dX7_gap_37 ?_
        refine z_bipush (v := 9) C dX7_gap_40 (by decide) ?_
        refine z_iload_n C dX7_gap_42 rfl 1 rfl ?_
        refine Tc0i (As := [.int 9, .int x1]) C (c_X0_get l g (bd 2) (u106.2.2.1 2) 9 x1 _ h) v_X0_get ml7_108 rfl ⟨Nat.le_of_ble_eq_true rfl, Nat.le_of_ble_eq_true rfl⟩ ⟨Nat.le_of_ble_eq_true rfl, Nat.le_of_ble_eq_true rfl⟩ (Nat.le_of_ble_eq_true rfl) rfl dX7_gap_43 ?_
        intro r108 v109 h
        refine stT (tN u106 (va_up u106.2.2.1 2 v109)) (fun u110 eu110 => ?_)
        have h := h u110 eu110
        refine z_iload_n C dX7_gap_46 rfl 2 rfl ?_
        refine z_iadd C dX7_gap_47 ?_
        refine z_ldc (v := 1000000000) C dX7_gap_48 k7_141 ?_
        refine z_icmp_le C dX7_gap_50 (tgt := 60) (by decide) (fun hc111 => ?_) (fun hc111 => ?_)
        · have h := h.1 hc111
          refine z_aload_n C dX7_gap_60 rfl 0 rfl ?_
          refine z_bipush (v := 10) C dX7_gap_61 (by decide) ?_
          refine c7v (As := [.int 10]) C (c_X7_begin l g ma ha bd u110 10 _ h) v_X7_begin ml7_42 rfl ⟨Nat.le_of_ble_eq_true rfl, Nat.le_of_ble_eq_true rfl⟩ ⟨Nat.le_of_ble_eq_true rfl, Nat.le_of_ble_eq_true rfl⟩ (Nat.le_of_ble_eq_true rfl) rfl dX7_gap_63 ?_
          intro u112 h
          refine z_aload_n C dX7_gap_66 rfl 0 rfl ?_
          refine g7_now C fl7_10 dX7_gap_67 ?_
          refine Tg5_flows C fl7_64 dX7_gap_70 ?_
          refine z_bipush (v := 9) C dX7_gap_73 (by decide) ?_
          refine z_iload_n C dX7_gap_75 rfl 1 rfl ?_
          refine z_iload_n C dX7_gap_76 rfl 2 rfl ?_
          refine Tc0v (As := [.int 9, .int x1, .int x2]) C (c_X0_add l g (bd 2) (u112.2.2.1 2) 9 x1 x2 _ h) v_X0_add ml7_150 rfl ⟨Nat.le_of_ble_eq_true rfl, Nat.le_of_ble_eq_true rfl⟩ ⟨Nat.le_of_ble_eq_true rfl, Nat.le_of_ble_eq_true rfl⟩ (Nat.le_of_ble_eq_true rfl) rfl dX7_gap_77 ?_
          intro v113 h
          refine stT (tN u112 (va_up u112.2.2.1 2 v113)) (fun u114 eu114 => ?_)
          have h := h u114 eu114
          refine z_aload_n C dX7_gap_80 rfl 0 rfl ?_
          refine g7_now C fl7_10 dX7_gap_81 ?_
          refine Tg5_flows C fl7_64 dX7_gap_84 ?_
          refine z_bipush (v := 9) C dX7_gap_87 (by decide) ?_
          refine z_iload_n C dX7_gap_89 rfl 1 rfl ?_
          refine Tc0i (As := [.int 9, .int x1]) C (c_X0_get l g (bd 2) (u114.2.2.1 2) 9 x1 _ h) v_X0_get ml7_108 rfl ⟨Nat.le_of_ble_eq_true rfl, Nat.le_of_ble_eq_true rfl⟩ ⟨Nat.le_of_ble_eq_true rfl, Nat.le_of_ble_eq_true rfl⟩ (Nat.le_of_ble_eq_true rfl) rfl dX7_gap_90 ?_
          intro r115 v116 h
          refine stT (tN u114 (va_up u114.2.2.1 2 v116)) (fun u117 eu117 => ?_)
          have h := h u117 eu117
          exact z_iret C hr u117 rfl h dX7_gap_93
        · have h := h.2 hc111
          refine z_aload_n C dX7_gap_53 rfl 0 rfl ?_
          refine z_bipush (v := (-4)) C dX7_gap_54 (by decide) ?_
          refine c7i (As := [.int (-4)]) C (c_X7_refuse l g ma ha bd u110 (-4) _ h) v_X7_refuse ml7_38 rfl ⟨Nat.le_of_ble_eq_true rfl, Nat.le_of_ble_eq_true rfl⟩ ⟨Nat.le_of_ble_eq_true rfl, Nat.le_of_ble_eq_true rfl⟩ (Nat.le_of_ble_eq_true rfl) rfl dX7_gap_56 ?_
          intro r118 u119 h
          refine z_wide (k1 := 26) (n1 := 1308) (Nat.le_of_ble_eq_true rfl) (Nat.le_of_ble_eq_true rfl) ?_
          exact z_iret C hr u119 rfl h dX7_gap_59
      · have h := h.2 hc107
        refine z_aload_n C dX7_gap_26 rfl 0 rfl ?_
        refine z_bipush (v := (-2)) C dX7_gap_27 (by decide) ?_
        refine c7i (As := [.int (-2)]) C (c_X7_refuse l g ma ha bd u106 (-2) _ h) v_X7_refuse ml7_38 rfl ⟨Nat.le_of_ble_eq_true rfl, Nat.le_of_ble_eq_true rfl⟩ ⟨Nat.le_of_ble_eq_true rfl, Nat.le_of_ble_eq_true rfl⟩ (Nat.le_of_ble_eq_true rfl) rfl dX7_gap_29 ?_
        intro r120 u121 h
        refine z_wide (k1 := 26) (n1 := 1308) (Nat.le_of_ble_eq_true rfl) (Nat.le_of_ble_eq_true rfl) ?_
        exact z_iret C hr u121 rfl h dX7_gap_32
    · have h := h.2 hc104
      refine z_lv (lv1 := [(0, .ref (ma 0))]) [0] rfl ?_
      exact b_X7_gap_12 C hr ma ha bd Q u h
abbrev j_X7_tick (p : Program) (l : Launch) (e : Env) (s : State) (m : MethodId) (args : Array Value) (below : List Frame) (meth : Method) (c : Code) (g : zG) (A : Nat → Prop) (ma ha : Nat → Nat) (bd : Nat → Nat → Nat) (Q : Int32 → TS → Prop) (u : TS) (k n : Nat) (pc : Nat) (lv : List (Nat × Value)) (st : List Value) : Prop := zJ p l e (zR 6 26 1308) s m args below meth c g A 5 (zQi below args s g A 26 1308 (wT g ma ha bd) Q) (wT g ma ha bd u) k n pc lv st
def wp_X7_tick_11 (Q : Int32 → TS → Prop) (u : TS) : Prop :=
  wp_X7_refuse u (-1) (fun r102 u103 => Q r102 u103)
set_option maxRecDepth 20000 in
theorem b_X7_tick_11 (C : zC p s m args meth c g A cX7_tick RX7 5) (hr : meth.sig.returnType = (some .int)) (ma ha : Nat → Nat) (bd : Nat → Nat → Nat) (Q : Int32 → TS → Prop) (u : TS) (h : wp_X7_tick_11 Q u) : j_X7_tick p l e s m args below meth c g A ma ha bd Q u 0 0 11 [(0, .ref (ma 0))] [] := by
  unfold wp_X7_tick_11 at h
  refine z_aload_n C dX7_tick_11 rfl 0 rfl ?_
  refine z_iconst (v := (-1)) C dX7_tick_12 (by decide) ?_
  refine c7i (As := [.int (-1)]) C (c_X7_refuse l g ma ha bd u (-1) _ h) v_X7_refuse ml7_38 rfl ⟨Nat.le_of_ble_eq_true rfl, Nat.le_of_ble_eq_true rfl⟩ ⟨Nat.le_of_ble_eq_true rfl, Nat.le_of_ble_eq_true rfl⟩ (Nat.le_of_ble_eq_true rfl) rfl dX7_tick_13 ?_
  intro r102 u103 h
  refine z_wide (k1 := 26) (n1 := 1308) (Nat.le_of_ble_eq_true rfl) (Nat.le_of_ble_eq_true rfl) ?_
  exact z_iret C hr u103 rfl h dX7_tick_16
def wp_X7_tick_60 (Q : Int32 → TS → Prop) (B60 : TS → Int32 → Int64 → Int32 → Prop) (u : TS) (x1 : Int32) (y2 : Int64) (x4 : Int32) : Prop :=
  ((x1 ≤ x4 → Q ((((u.2.2.1 4).2 1 0) - y2).toInt32) u) ∧ (¬ x1 ≤ x4 → wp_X5_passTick u.2.2.1 (fun v109 => ∀ u110 : TS, u110 = tN u (v109) → ∀ x111 : Int32, x111 = x4 + 1 → B60 u110 x1 y2 x111)))
set_option maxRecDepth 20000 in
theorem b_X7_tick_60 (C : zC p s m args meth c g A cX7_tick RX7 5) (hr : meth.sig.returnType = (some .int)) (ma ha : Nat → Nat) (bd : Nat → Nat → Nat) (Q : Int32 → TS → Prop) (B60 : TS → Int32 → Int64 → Int32 → Prop) (hB60 : ∀ (u : TS) (x1 : Int32) (y2 : Int64) (x4 : Int32), B60 u x1 y2 x4 → j_X7_tick p l e s m args below meth c g A ma ha bd Q u 26 1308 60 [(0, .ref (ma 0)), (1, .int x1), (2, .long y2), (4, .int x4)] []) (u : TS) (x1 : Int32) (y2 : Int64) (x4 : Int32) (h : wp_X7_tick_60 Q B60 u x1 y2 x4) : j_X7_tick p l e s m args below meth c g A ma ha bd Q u 26 1308 60 [(0, .ref (ma 0)), (1, .int x1), (2, .long y2), (4, .int x4)] [] := by
  unfold wp_X7_tick_60 at h
  refine z_iload C dX7_tick_60 3 rfl ?_
  refine z_iload_n C dX7_tick_62 rfl 1 rfl ?_
  refine z_icmp_ge C dX7_tick_63 (tgt := 79) (by decide) (fun hc108 => ?_) (fun hc108 => ?_)
  · have h := h.1 hc108
    refine z_aload_n C dX7_tick_79 rfl 0 rfl ?_
    refine g7_now C fl7_10 dX7_tick_80 ?_
    refine Tg5_segments C fl7_154 dX7_tick_83 ?_
    refine Tg4_totals C fl7_158 dX7_tick_86 ?_
    refine z_iconst (v := 0) C dX7_tick_89 (by decide) ?_
    refine Tln4_totals C 0 (by decide +kernel) (vp_in_iff.mpr (by decide +kernel)) dX7_tick_90 ?_
    refine z_lload_n C dX7_tick_91 rfl 2 rfl ?_
    refine z_lsub C dX7_tick_92 ?_
    refine z_l2i C dX7_tick_93 ?_
    exact z_iret C hr u rfl h dX7_tick_94
  · have h := h.2 hc108
    refine z_aload_n C dX7_tick_66 rfl 0 rfl ?_
    refine g7_now C fl7_10 dX7_tick_67 ?_
    refine Tc5v (As := []) C (c_X5_passTick l g bd u.2.2.1 _ h) v_X5_passTick ml7_164 rfl ⟨Nat.le_of_ble_eq_true rfl, Nat.le_of_ble_eq_true rfl⟩ ⟨Nat.le_of_ble_eq_true rfl, Nat.le_of_ble_eq_true rfl⟩ (Nat.le_of_ble_eq_true rfl) rfl dX7_tick_70 ?_
    intro v109 h
    refine stT (tN u (v109)) (fun u110 eu110 => ?_)
    have h := h u110 eu110
    obtain ⟨x111, ex111⟩ : ∃ y : Int32, y = x4 + 1 := ⟨_, rfl⟩
    have h := h x111 ex111
    refine z_iinc (v := x111) (lv1 := [(4, .int x111), (0, .ref (ma 0)), (1, .int x1), (2, .long y2)]) C dX7_tick_73 3 rfl (by rw [ex111]; rfl) (by decide) rfl ?_
    refine z_goto C dX7_tick_76 (tgt := 60) (by decide) ?_
    refine z_lv (lv1 := [(0, .ref (ma 0)), (1, .int x1), (2, .long y2), (4, .int x111)]) [1, 2, 3, 0] rfl ?_
    exact hB60 u110 x1 y2 x111 h
theorem l_X7_tick_60 (C : zC p s m args meth c g A cX7_tick RX7 5) (hr : meth.sig.returnType = (some .int)) (ma ha : Nat → Nat) (bd : Nat → Nat → Nat) (Q : Int32 → TS → Prop) : ∀ (n : Nat) (u : TS) (x1 : Int32) (y2 : Int64) (x4 : Int32), zit4 (wp_X7_tick_60 Q) n u x1 y2 x4 → j_X7_tick p l e s m args below meth c g A ma ha bd Q u 26 1308 60 [(0, .ref (ma 0)), (1, .int x1), (2, .long y2), (4, .int x4)] [] := by
  intro n
  induction n with
  | zero => exact fun u x1 y2 x4 h => h.elim
  | succ n ih => exact fun u x1 y2 x4 h => b_X7_tick_60 C hr ma ha bd Q (zit4 (wp_X7_tick_60 Q) n) ih u x1 y2 x4 h
def wp_X7_tick (u : TS) (x1 : Int32) (Q : Int32 → TS → Prop) : Prop :=
  ((x1 < 1 → wp_X7_tick_11 Q u) ∧ (¬ x1 < 1 → ((x1 ≤ 100 → ((((u.2.2.1 0).1 6 0) + x1 ≤ 99999 → wp_X7_begin u 11 (fun u106 => ∀ y107 : Int64, y107 = (u106.2.2.1 4).2 1 0 → (∃ n, zit4 (wp_X7_tick_60 Q) n u106 x1 y107 0))) ∧ (¬ ((u.2.2.1 0).1 6 0) + x1 ≤ 99999 → wp_X7_refuse u (-4) (fun r112 u113 => Q r112 u113)))) ∧ (¬ x1 ≤ 100 → wp_X7_tick_11 Q u))))
set_option maxRecDepth 20000 in
theorem c_X7_tick (l : Launch) (g : zG) (ma ha : Nat → Nat) (bd : Nat → Nat → Nat) (u : TS) (x1 : Int32) (Q : Int32 → TS → Prop) (h : wp_X7_tick u x1 Q) : zMi l yX7_tick cX7_tick 5 (some .int) 6 26 1308 g [.ref (ma 0), .int x1] (wT g ma ha bd u) (wT g ma ha bd) Q := by
  refine zMi_of RX7 (by decide) rfl [(0, .ref (ma 0)), (1, .int x1)] rfl (Nat.le_of_ble_eq_true rfl) (fun p e s m args below meth c A C hr hnm => ?_)
  unfold wp_X7_tick at h
  refine z_iload_n C dX7_tick_0 rfl 1 rfl ?_
  refine z_iconst (v := 1) C dX7_tick_1 (by decide) ?_
  refine z_icmp_lt C dX7_tick_2 (tgt := 11) (by decide) (fun hc101 => ?_) (fun hc101 => ?_)
  · have h := h.1 hc101
    refine z_lv (lv1 := [(0, .ref (ma 0))]) [0] rfl ?_
    exact b_X7_tick_11 C hr ma ha bd Q u h
  · have h := h.2 hc101
    refine z_iload_n C dX7_tick_5 rfl 1 rfl ?_
    refine z_bipush (v := 100) C dX7_tick_6 (by decide) ?_
    refine z_icmp_le C dX7_tick_8 (tgt := 17) (by decide) (fun hc104 => ?_) (fun hc104 => ?_)
    · have h := h.1 hc104
      refine z_aload_n C dX7_tick_17 rfl 0 rfl ?_
      refine g7_now C fl7_10 dX7_tick_18 ?_
      refine Tg5_time C fl7_119 dX7_tick_21 ?_
      refine z_iload_n C dX7_tick_24 rfl 1 rfl ?_
      refine z_iadd C dX7_tick_25 ?_
      refine z_ldc (v := 99999) C dX7_tick_26 k7_153 ?_
      refine z_icmp_le C dX7_tick_28 (tgt := 38) (by decide) (fun hc105 => ?_) (fun hc105 => ?_)
      · have h := h.1 hc105
        refine z_aload_n C dX7_tick_38 rfl 0 rfl ?_
        refine z_bipush (v := 11) C dX7_tick_39 (by decide) ?_
        refine c7v (As := [.int 11]) C (c_X7_begin l g ma ha bd u 11 _ h) v_X7_begin ml7_42 rfl ⟨Nat.le_of_ble_eq_true rfl, Nat.le_of_ble_eq_true rfl⟩ ⟨Nat.le_of_ble_eq_true rfl, Nat.le_of_ble_eq_true rfl⟩ (Nat.le_of_ble_eq_true rfl) rfl dX7_tick_41 ?_
        intro u106 h
        refine z_aload_n C dX7_tick_44 rfl 0 rfl ?_
        refine g7_now C fl7_10 dX7_tick_45 ?_
        refine Tg5_segments C fl7_154 dX7_tick_48 ?_
        refine Tg4_totals C fl7_158 dX7_tick_51 ?_
        refine z_iconst (v := 0) C dX7_tick_54 (by decide) ?_
        refine Tln4_totals C 0 (by decide +kernel) (vp_in_iff.mpr (by decide +kernel)) dX7_tick_55 ?_
        refine z_topl (fun y107 ey107 => ?_)
        have h := h y107 ey107
        refine z_lstore_n (lv1 := [(2, .long y107), (0, .ref (ma 0)), (1, .int x1)]) C dX7_tick_56 rfl (by decide) rfl ?_
        refine z_iconst (v := 0) C dX7_tick_57 (by decide) ?_
        refine z_istore (lv1 := [(4, .int 0), (2, .long y107), (0, .ref (ma 0)), (1, .int x1)]) C dX7_tick_58 (by decide) rfl ?_
        refine z_lv (lv1 := [(0, .ref (ma 0)), (1, .int x1), (2, .long y107), (4, .int 0)]) [2, 3, 1, 0] rfl ?_
        obtain ⟨n9, h⟩ := h
        exact l_X7_tick_60 C hr ma ha bd Q n9 u106 x1 y107 0 h
      · have h := h.2 hc105
        refine z_aload_n C dX7_tick_31 rfl 0 rfl ?_
        refine z_bipush (v := (-4)) C dX7_tick_32 (by decide) ?_
        refine c7i (As := [.int (-4)]) C (c_X7_refuse l g ma ha bd u (-4) _ h) v_X7_refuse ml7_38 rfl ⟨Nat.le_of_ble_eq_true rfl, Nat.le_of_ble_eq_true rfl⟩ ⟨Nat.le_of_ble_eq_true rfl, Nat.le_of_ble_eq_true rfl⟩ (Nat.le_of_ble_eq_true rfl) rfl dX7_tick_34 ?_
        intro r112 u113 h
        refine z_wide (k1 := 26) (n1 := 1308) (Nat.le_of_ble_eq_true rfl) (Nat.le_of_ble_eq_true rfl) ?_
        exact z_iret C hr u113 rfl h dX7_tick_37
    · have h := h.2 hc104
      refine z_lv (lv1 := [(0, .ref (ma 0))]) [0] rfl ?_
      exact b_X7_tick_11 C hr ma ha bd Q u h
abbrev j_X7_poll (p : Program) (l : Launch) (e : Env) (s : State) (m : MethodId) (args : Array Value) (below : List Frame) (meth : Method) (c : Code) (g : zG) (A : Nat → Prop) (ma ha : Nat → Nat) (bd : Nat → Nat → Nat) (Q : Int32 → TS → Prop) (u : TS) (k n : Nat) (pc : Nat) (lv : List (Nat × Value)) (st : List Value) : Prop := zJ p l e (zR 6 26 1308) s m args below meth c g A 2 (zQi below args s g A 26 1308 (wT g ma ha bd) Q) (wT g ma ha bd u) k n pc lv st
def wp_X7_poll (u : TS) (x1 : Int32) (Q : Int32 → TS → Prop) : Prop :=
  wp_X7_isQueue x1 (fun r101 => ((¬ r101 = 0 → vp_in x1 4 ∧ vp_in x1 4 ∧ ((¬ (u.2.2.1 (5 + zn x1)).1 0 0 = 0 → wp_X7_begin u 12 (fun u106 => wp_X5_takeBatch u106.2.2.1 x1 (fun r107 v108 => ∀ u109 : TS, u109 = tN u106 (v108) → Q r107 u109))) ∧ ((u.2.2.1 (5 + zn x1)).1 0 0 = 0 → wp_X7_refuse u (-4) (fun r110 u111 => Q r110 u111)))) ∧ (r101 = 0 → wp_X7_refuse u (-1) (fun r112 u113 => Q r112 u113))))
set_option maxRecDepth 20000 in
theorem c_X7_poll (l : Launch) (g : zG) (ma ha : Nat → Nat) (bd : Nat → Nat → Nat) (u : TS) (x1 : Int32) (Q : Int32 → TS → Prop) (h : wp_X7_poll u x1 Q) : zMi l yX7_poll cX7_poll 2 (some .int) 6 26 1308 g [.ref (ma 0), .int x1] (wT g ma ha bd u) (wT g ma ha bd) Q := by
  refine zMi_of RX7 (by decide) rfl [(0, .ref (ma 0)), (1, .int x1)] rfl (Nat.le_of_ble_eq_true rfl) (fun p e s m args below meth c A C hr hnm => ?_)
  unfold wp_X7_poll at h
  refine z_iload_n C dX7_poll_0 rfl 1 rfl ?_
  refine cSi (As := [.int x1]) C (c_X7_isQueue l g x1 _ h) s_X7_isQueue ml7_86 ⟨Nat.le_of_ble_eq_true rfl, Nat.le_of_ble_eq_true rfl⟩ ⟨Nat.le_of_ble_eq_true rfl, Nat.le_of_ble_eq_true rfl⟩ (Nat.le_of_ble_eq_true rfl) rfl dX7_poll_1 ?_
  intro r101 h
  refine z_if_ne C dX7_poll_4 (tgt := 13) (by decide) (fun hc102 => ?_) (fun hc102 => ?_)
  · have h := h.1 hc102
    refine z_aload_n C dX7_poll_13 rfl 0 rfl ?_
    refine g7_now C fl7_10 dX7_poll_14 ?_
    refine Tg5_queues C fl7_167 dX7_poll_17 ?_
    refine z_iload_n C dX7_poll_20 rfl 1 rfl ?_
    obtain ⟨hi103, h⟩ := h
    refine Taq C hi103 dX7_poll_21 ?_
    obtain ⟨hi104, h⟩ := h
    refine Tg3_number C hi104 fl7_171 dX7_poll_22 ?_
    refine z_if_ne C dX7_poll_25 (tgt := 35) (by decide) (fun hc105 => ?_) (fun hc105 => ?_)
    · have h := h.1 hc105
      refine z_aload_n C dX7_poll_35 rfl 0 rfl ?_
      refine z_bipush (v := 12) C dX7_poll_36 (by decide) ?_
      refine c7v (As := [.int 12]) C (c_X7_begin l g ma ha bd u 12 _ h) v_X7_begin ml7_42 rfl ⟨Nat.le_of_ble_eq_true rfl, Nat.le_of_ble_eq_true rfl⟩ ⟨Nat.le_of_ble_eq_true rfl, Nat.le_of_ble_eq_true rfl⟩ (Nat.le_of_ble_eq_true rfl) rfl dX7_poll_38 ?_
      intro u106 h
      refine z_aload_n C dX7_poll_41 rfl 0 rfl ?_
      refine g7_now C fl7_10 dX7_poll_42 ?_
      refine z_iload_n C dX7_poll_45 rfl 1 rfl ?_
      refine Tc5i (As := [.int x1]) C (c_X5_takeBatch l g bd u106.2.2.1 x1 _ h) v_X5_takeBatch ml7_174 rfl ⟨Nat.le_of_ble_eq_true rfl, Nat.le_of_ble_eq_true rfl⟩ ⟨Nat.le_of_ble_eq_true rfl, Nat.le_of_ble_eq_true rfl⟩ (Nat.le_of_ble_eq_true rfl) rfl dX7_poll_46 ?_
      intro r107 v108 h
      refine stT (tN u106 (v108)) (fun u109 eu109 => ?_)
      have h := h u109 eu109
      exact z_iret C hr u109 rfl h dX7_poll_49
    · have h := h.2 hc105
      refine z_aload_n C dX7_poll_28 rfl 0 rfl ?_
      refine z_bipush (v := (-4)) C dX7_poll_29 (by decide) ?_
      refine c7i (As := [.int (-4)]) C (c_X7_refuse l g ma ha bd u (-4) _ h) v_X7_refuse ml7_38 rfl ⟨Nat.le_of_ble_eq_true rfl, Nat.le_of_ble_eq_true rfl⟩ ⟨Nat.le_of_ble_eq_true rfl, Nat.le_of_ble_eq_true rfl⟩ (Nat.le_of_ble_eq_true rfl) rfl dX7_poll_31 ?_
      intro r110 u111 h
      refine z_wide (k1 := 26) (n1 := 1308) (Nat.le_of_ble_eq_true rfl) (Nat.le_of_ble_eq_true rfl) ?_
      exact z_iret C hr u111 rfl h dX7_poll_34
  · have h := h.2 hc102
    refine z_aload_n C dX7_poll_7 rfl 0 rfl ?_
    refine z_iconst (v := (-1)) C dX7_poll_8 (by decide) ?_
    refine c7i (As := [.int (-1)]) C (c_X7_refuse l g ma ha bd u (-1) _ h) v_X7_refuse ml7_38 rfl ⟨Nat.le_of_ble_eq_true rfl, Nat.le_of_ble_eq_true rfl⟩ ⟨Nat.le_of_ble_eq_true rfl, Nat.le_of_ble_eq_true rfl⟩ (Nat.le_of_ble_eq_true rfl) rfl dX7_poll_9 ?_
    intro r112 u113 h
    refine z_wide (k1 := 26) (n1 := 1308) (Nat.le_of_ble_eq_true rfl) (Nat.le_of_ble_eq_true rfl) ?_
    exact z_iret C hr u113 rfl h dX7_poll_12
abbrev j_X7_of (p : Program) (l : Launch) (e : Env) (s : State) (m : MethodId) (args : Array Value) (below : List Frame) (meth : Method) (c : Code) (g : zG) (A : Nat → Prop) (ma ha : Nat → Nat) (bd : Nat → Nat → Nat) (Q : Int32 → TS → Prop) (u : TS) (k n : Nat) (pc : Nat) (lv : List (Nat × Value)) (st : List Value) : Prop := zJ p l e (zR 6 0 0) s m args below meth c g A 3 (zQi below args s g A 0 0 (wT g ma ha bd) Q) (wT g ma ha bd u) k n pc lv st
def wp_X7_of_18 (Q : Int32 → TS → Prop) (u : TS) : Prop :=
  Q (-1) u
set_option maxRecDepth 20000 in
theorem b_X7_of_18 (C : zC p s m args meth c g A cX7_of RX7 3) (hr : meth.sig.returnType = (some .int)) (ma ha : Nat → Nat) (bd : Nat → Nat → Nat) (Q : Int32 → TS → Prop) (u : TS) (h : wp_X7_of_18 Q u) : j_X7_of p l e s m args below meth c g A ma ha bd Q u 0 0 18 [(0, .ref (ma 0))] [] := by
  unfold wp_X7_of_18 at h
  refine z_iconst (v := (-1)) C dX7_of_18 (by decide) ?_
  exact z_iret C hr u rfl h dX7_of_19
def wp_X7_of (u : TS) (x1 : Int32) (x2 : Int32) (Q : Int32 → TS → Prop) : Prop :=
  wp_X7_isFlow u x1 (fun r101 u102 => ((r101 = 0 → wp_X7_of_18 Q u102) ∧ (¬ r101 = 0 → ((x2 < 0 → wp_X7_of_18 Q u102) ∧ (¬ x2 < 0 → ((x2 < 20 → ((¬ x2 = 5 → ((¬ x2 = 6 → wp_X0_get (u102.2.2.1 2) x2 x1 (fun r108 v109 => ∀ u110 : TS, u110 = tN u102 (va_up u102.2.2.1 2 v109) → Q r108 u110)) ∧ (x2 = 6 → wp_X5_wishOf u102.2.2.1 x1 (fun r111 v112 => ∀ u113 : TS, u113 = tN u102 (v112) → Q r111 u113)))) ∧ (x2 = 5 → wp_X5_entryOf u102.2.2.1 x1 (fun r114 v115 => ∀ u116 : TS, u116 = tN u102 (v115) → Q r114 u116)))) ∧ (¬ x2 < 20 → wp_X7_of_18 Q u102)))))))
set_option maxRecDepth 20000 in
theorem c_X7_of (l : Launch) (g : zG) (ma ha : Nat → Nat) (bd : Nat → Nat → Nat) (u : TS) (x1 : Int32) (x2 : Int32) (Q : Int32 → TS → Prop) (h : wp_X7_of u x1 x2 Q) : zMi l yX7_of cX7_of 3 (some .int) 6 0 0 g [.ref (ma 0), .int x1, .int x2] (wT g ma ha bd u) (wT g ma ha bd) Q := by
  refine zMi_of RX7 (by decide) rfl [(0, .ref (ma 0)), (1, .int x1), (2, .int x2)] rfl (Nat.le_of_ble_eq_true rfl) (fun p e s m args below meth c A C hr hnm => ?_)
  unfold wp_X7_of at h
  refine z_aload_n C dX7_of_0 rfl 0 rfl ?_
  refine z_iload_n C dX7_of_1 rfl 1 rfl ?_
  refine c7i (As := [.int x1]) C (c_X7_isFlow l g ma ha bd u x1 _ h) v_X7_isFlow ml7_105 rfl ⟨Nat.le_of_ble_eq_true rfl, Nat.le_of_ble_eq_true rfl⟩ ⟨Nat.le_of_ble_eq_true rfl, Nat.le_of_ble_eq_true rfl⟩ (Nat.le_of_ble_eq_true rfl) rfl dX7_of_2 ?_
  intro r101 u102 h
  refine z_if_eq C dX7_of_5 (tgt := 18) (by decide) (fun hc103 => ?_) (fun hc103 => ?_)
  · have h := h.1 hc103
    refine z_lv (lv1 := [(0, .ref (ma 0))]) [0] rfl ?_
    exact b_X7_of_18 C hr ma ha bd Q u102 h
  · have h := h.2 hc103
    refine z_iload_n C dX7_of_8 rfl 2 rfl ?_
    refine z_if_lt C dX7_of_9 (tgt := 18) (by decide) (fun hc104 => ?_) (fun hc104 => ?_)
    · have h := h.1 hc104
      refine z_lv (lv1 := [(0, .ref (ma 0))]) [0] rfl ?_
      exact b_X7_of_18 C hr ma ha bd Q u102 h
    · have h := h.2 hc104
      refine z_iload_n C dX7_of_12 rfl 2 rfl ?_
      refine z_bipush (v := 20) C dX7_of_13 (by decide) ?_
      refine z_icmp_lt C dX7_of_15 (tgt := 20) (by decide) (fun hc105 => ?_) (fun hc105 => ?_)
      · have h := h.1 hc105
        refine z_iload_n C dX7_of_20 rfl 2 rfl ?_
        refine z_iconst (v := 5) C dX7_of_21 (by decide) ?_
        refine z_icmp_ne C dX7_of_22 (tgt := 34) (by decide) (fun hc106 => ?_) (fun hc106 => ?_)
        · have h := h.1 hc106
          refine z_iload_n C dX7_of_34 rfl 2 rfl ?_
          refine z_bipush (v := 6) C dX7_of_35 (by decide) ?_
          refine z_icmp_ne C dX7_of_37 (tgt := 49) (by decide) (fun hc107 => ?_) (fun hc107 => ?_)
          · have h := h.1 hc107
            refine z_aload_n C dX7_of_49 rfl 0 rfl ?_
            refine g7_now C fl7_10 dX7_of_50 ?_
            refine Tg5_flows C fl7_64 dX7_of_53 ?_
            refine z_iload_n C dX7_of_56 rfl 2 rfl ?_
            refine z_iload_n C dX7_of_57 rfl 1 rfl ?_
            refine Tc0i (As := [.int x2, .int x1]) C (c_X0_get l g (bd 2) (u102.2.2.1 2) x2 x1 _ h) v_X0_get ml7_108 rfl ⟨Nat.le_of_ble_eq_true rfl, Nat.le_of_ble_eq_true rfl⟩ ⟨Nat.le_of_ble_eq_true rfl, Nat.le_of_ble_eq_true rfl⟩ (Nat.le_of_ble_eq_true rfl) rfl dX7_of_58 ?_
            intro r108 v109 h
            refine stT (tN u102 (va_up u102.2.2.1 2 v109)) (fun u110 eu110 => ?_)
            have h := h u110 eu110
            exact z_iret C hr u110 rfl h dX7_of_61
          · have h := h.2 hc107
            refine z_aload_n C dX7_of_40 rfl 0 rfl ?_
            refine g7_now C fl7_10 dX7_of_41 ?_
            refine z_iload_n C dX7_of_44 rfl 1 rfl ?_
            refine Tc5i (As := [.int x1]) C (c_X5_wishOf l g bd u102.2.2.1 x1 _ h) v_X5_wishOf ml7_199 rfl ⟨Nat.le_of_ble_eq_true rfl, Nat.le_of_ble_eq_true rfl⟩ ⟨Nat.le_of_ble_eq_true rfl, Nat.le_of_ble_eq_true rfl⟩ (Nat.le_of_ble_eq_true rfl) rfl dX7_of_45 ?_
            intro r111 v112 h
            refine stT (tN u102 (v112)) (fun u113 eu113 => ?_)
            have h := h u113 eu113
            exact z_iret C hr u113 rfl h dX7_of_48
        · have h := h.2 hc106
          refine z_aload_n C dX7_of_25 rfl 0 rfl ?_
          refine g7_now C fl7_10 dX7_of_26 ?_
          refine z_iload_n C dX7_of_29 rfl 1 rfl ?_
          refine Tc5i (As := [.int x1]) C (c_X5_entryOf l g bd u102.2.2.1 x1 _ h) v_X5_entryOf ml7_196 rfl ⟨Nat.le_of_ble_eq_true rfl, Nat.le_of_ble_eq_true rfl⟩ ⟨Nat.le_of_ble_eq_true rfl, Nat.le_of_ble_eq_true rfl⟩ (Nat.le_of_ble_eq_true rfl) rfl dX7_of_30 ?_
          intro r114 v115 h
          refine stT (tN u102 (v115)) (fun u116 eu116 => ?_)
          have h := h u116 eu116
          exact z_iret C hr u116 rfl h dX7_of_33
      · have h := h.2 hc105
        refine z_lv (lv1 := [(0, .ref (ma 0))]) [0] rfl ?_
        exact b_X7_of_18 C hr ma ha bd Q u102 h
abbrev j_X7_entry (p : Program) (l : Launch) (e : Env) (s : State) (m : MethodId) (args : Array Value) (below : List Frame) (meth : Method) (c : Code) (g : zG) (A : Nat → Prop) (ma ha : Nat → Nat) (bd : Nat → Nat → Nat) (Q : Int32 → TS → Prop) (u : TS) (k n : Nat) (pc : Nat) (lv : List (Nat × Value)) (st : List Value) : Prop := zJ p l e (zR 6 0 0) s m args below meth c g A 3 (zQi below args s g A 0 0 (wT g ma ha bd) Q) (wT g ma ha bd u) k n pc lv st
def wp_X7_entry (u : TS) (x1 : Int32) (x2 : Int32) (Q : Int32 → TS → Prop) : Prop :=
  wp_X7_isEntry x1 (fun r101 => ((¬ r101 = 0 → ((x2 = 0 → vp_in x1 16 ∧ Q ((u.2.2.1 3).1 0 (zn x1)) u) ∧ (x2 = 1 → vp_in x1 16 ∧ Q ((u.2.2.1 3).1 1 (zn x1)) u) ∧ (x2 = 2 → wp_X5_flowsOfEntry u.2.2.1 x1 (fun r108 v109 => ∀ u110 : TS, u110 = tN u (v109) → Q r108 u110)) ∧ (¬ x2 = 0 → ¬ x2 = 1 → ¬ x2 = 2 → Q (-1) u))) ∧ (r101 = 0 → Q (-1) u)))
set_option maxRecDepth 20000 in
theorem c_X7_entry (l : Launch) (g : zG) (ma ha : Nat → Nat) (bd : Nat → Nat → Nat) (u : TS) (x1 : Int32) (x2 : Int32) (Q : Int32 → TS → Prop) (h : wp_X7_entry u x1 x2 Q) : zMi l yX7_entry cX7_entry 3 (some .int) 6 0 0 g [.ref (ma 0), .int x1, .int x2] (wT g ma ha bd u) (wT g ma ha bd) Q := by
  refine zMi_of RX7 (by decide) rfl [(0, .ref (ma 0)), (1, .int x1), (2, .int x2)] rfl (Nat.le_of_ble_eq_true rfl) (fun p e s m args below meth c A C hr hnm => ?_)
  unfold wp_X7_entry at h
  refine z_iload_n C dX7_entry_0 rfl 1 rfl ?_
  refine cSi (As := [.int x1]) C (c_X7_isEntry l g x1 _ h) s_X7_isEntry ml7_83 ⟨Nat.le_of_ble_eq_true rfl, Nat.le_of_ble_eq_true rfl⟩ ⟨Nat.le_of_ble_eq_true rfl, Nat.le_of_ble_eq_true rfl⟩ (Nat.le_of_ble_eq_true rfl) rfl dX7_entry_1 ?_
  intro r101 h
  refine z_if_ne C dX7_entry_4 (tgt := 9) (by decide) (fun hc102 => ?_) (fun hc102 => ?_)
  · have h := h.1 hc102
    refine z_iload_n C dX7_entry_9 rfl 2 rfl ?_
    by_cases hx103 : x2 = 0
    · have h := h.1 hx103
      refine z_tIn C dX7_entry_10 (0) (by rw [hx103]; decide) (by decide) (by decide) rfl (tgt := 36) (by decide) ?_
      refine z_aload_n C dX7_entry_36 rfl 0 rfl ?_
      refine g7_now C fl7_10 dX7_entry_37 ?_
      refine Tg5_table C fl7_89 dX7_entry_40 ?_
      refine Tg6_queueOf C fl7_93 dX7_entry_43 ?_
      refine z_iload_n C dX7_entry_46 rfl 1 rfl ?_
      obtain ⟨hi104, h⟩ := h
      refine Tl6_queueOf C hi104 dX7_entry_47 ?_
      exact z_iret C hr u rfl h dX7_entry_48
    have h := h.2
    by_cases hx105 : x2 = 1
    · have h := h.1 hx105
      refine z_tIn C dX7_entry_10 (1) (by rw [hx105]; decide) (by decide) (by decide) rfl (tgt := 49) (by decide) ?_
      refine z_aload_n C dX7_entry_49 rfl 0 rfl ?_
      refine g7_now C fl7_10 dX7_entry_50 ?_
      refine Tg5_table C fl7_89 dX7_entry_53 ?_
      refine Tg6_hits C fl7_208 dX7_entry_56 ?_
      refine z_iload_n C dX7_entry_59 rfl 1 rfl ?_
      obtain ⟨hi106, h⟩ := h
      refine Tl6_hits C hi106 dX7_entry_60 ?_
      exact z_iret C hr u rfl h dX7_entry_61
    have h := h.2
    by_cases hx107 : x2 = 2
    · have h := h.1 hx107
      refine z_tIn C dX7_entry_10 (2) (by rw [hx107]; decide) (by decide) (by decide) rfl (tgt := 62) (by decide) ?_
      refine z_aload_n C dX7_entry_62 rfl 0 rfl ?_
      refine g7_now C fl7_10 dX7_entry_63 ?_
      refine z_iload_n C dX7_entry_66 rfl 1 rfl ?_
      refine Tc5i (As := [.int x1]) C (c_X5_flowsOfEntry l g bd u.2.2.1 x1 _ h) v_X5_flowsOfEntry ml7_211 rfl ⟨Nat.le_of_ble_eq_true rfl, Nat.le_of_ble_eq_true rfl⟩ ⟨Nat.le_of_ble_eq_true rfl, Nat.le_of_ble_eq_true rfl⟩ (Nat.le_of_ble_eq_true rfl) rfl dX7_entry_67 ?_
      intro r108 v109 h
      refine stT (tN u (v109)) (fun u110 eu110 => ?_)
      have h := h u110 eu110
      exact z_iret C hr u110 rfl h dX7_entry_70
    have h := h.2
    have h := h hx103 hx105 hx107
    have thx103 := lv_neT (a := 0) hx103 (by decide)
    have thx105 := lv_neT (a := 1) hx105 (by decide)
    have thx107 := lv_neT (a := 2) hx107 (by decide)
    refine z_tOut C dX7_entry_10 (by omega) (tgt := 71) (by decide) ?_
    refine z_iconst (v := (-1)) C dX7_entry_71 (by decide) ?_
    exact z_iret C hr u rfl h dX7_entry_72
  · have h := h.2 hc102
    refine z_iconst (v := (-1)) C dX7_entry_7 (by decide) ?_
    exact z_iret C hr u rfl h dX7_entry_8
abbrev j_X7_would (p : Program) (l : Launch) (e : Env) (s : State) (m : MethodId) (args : Array Value) (below : List Frame) (meth : Method) (c : Code) (g : zG) (A : Nat → Prop) (ma ha : Nat → Nat) (bd : Nat → Nat → Nat) (Q : Int32 → TS → Prop) (u : TS) (k n : Nat) (pc : Nat) (lv : List (Nat × Value)) (st : List Value) : Prop := zJ p l e (zR 6 26 1308) s m args below meth c g A 5 (zQi below args s g A 26 1308 (wT g ma ha bd) Q) (wT g ma ha bd u) k n pc lv st
def wp_X7_would_34 (Q : Int32 → TS → Prop) (u : TS) : Prop :=
  Q (-1) u
set_option maxRecDepth 20000 in
theorem b_X7_would_34 (C : zC p s m args meth c g A cX7_would RX7 5) (hr : meth.sig.returnType = (some .int)) (ma ha : Nat → Nat) (bd : Nat → Nat → Nat) (Q : Int32 → TS → Prop) (u : TS) (h : wp_X7_would_34 Q u) : j_X7_would p l e s m args below meth c g A ma ha bd Q u 0 0 34 [(0, .ref (ma 0))] [] := by
  unfold wp_X7_would_34 at h
  refine z_iconst (v := (-1)) C dX7_would_34 (by decide) ?_
  refine z_wide (k1 := 26) (n1 := 1308) (Nat.le_of_ble_eq_true rfl) (Nat.le_of_ble_eq_true rfl) ?_
  exact z_iret C hr u rfl h dX7_would_35
def wp_X7_would_44 (Q : Int32 → TS → Prop) (B44 : TS → (Nat → Nat → Nat) → (Nat → RS) → Int32 → Int32 → Int32 → Prop) (u : TS) (pd : Nat → Nat → Nat) (ps : Nat → RS) (x1 : Int32) (x2 : Int32) (x4 : Int32) : Prop :=
  ((x1 ≤ x4 → ((x2 = 0 → wp_X5_packetsWaiting ps (fun r110 v111 => ∀ ps112 : Nat → RS, ps112 = v111 → Q r110 (tP u pd ps112))) ∧ (x2 = 1 → Q ((((ps 4).2 1 0) - (((tP u pd ps).2.2.1 4).2 1 0)).toInt32) (tP u pd ps)) ∧ (x2 = 2 → wp_X5_callsInAll ps (fun r115 v116 => ∀ ps117 : Nat → RS, ps117 = v116 → wp_X5_callsInAll ((tP u pd ps117).2.2.1) (fun r118 v119 => ∀ u120 : TS, u120 = tN u (v119) → Q (r115 - r118) (tP u120 pd ps117)))) ∧ (¬ x2 = 0 → ¬ x2 = 1 → ¬ x2 = 2 → wp_X0_ruleNumber (ps 2) (fun r121 v122 => ∀ ps123 : Nat → RS, ps123 = va_up ps 2 v122 → Q r121 (tP u pd ps123))))) ∧ (¬ x1 ≤ x4 → wp_X5_passTick ps (fun v124 => ∀ ps125 : Nat → RS, ps125 = v124 → ∀ x126 : Int32, x126 = x4 + 1 → B44 u pd ps125 x1 x2 x126)))
set_option maxRecDepth 20000 in
theorem b_X7_would_44 (C : zC p s m args meth c g A cX7_would RX7 5) (hr : meth.sig.returnType = (some .int)) (ma ha : Nat → Nat) (bd : Nat → Nat → Nat) (Q : Int32 → TS → Prop) (B44 : TS → (Nat → Nat → Nat) → (Nat → RS) → Int32 → Int32 → Int32 → Prop) (hB44 : ∀ (u : TS) (pd : Nat → Nat → Nat) (ps : Nat → RS) (x1 : Int32) (x2 : Int32) (x4 : Int32), B44 u pd ps x1 x2 x4 → j_X7_would p l e s m args below meth c g A ma ha bd Q (tP u pd ps) 26 1308 44 [(0, .ref (ma 0)), (1, .int x1), (2, .int x2), (3, .ref (pd 0 0)), (4, .int x4)] []) (u : TS) (pd : Nat → Nat → Nat) (ps : Nat → RS) (x1 : Int32) (x2 : Int32) (x4 : Int32) (h : wp_X7_would_44 Q B44 u pd ps x1 x2 x4) : j_X7_would p l e s m args below meth c g A ma ha bd Q (tP u pd ps) 26 1308 44 [(0, .ref (ma 0)), (1, .int x1), (2, .int x2), (3, .ref (pd 0 0)), (4, .int x4)] [] := by
  unfold wp_X7_would_44 at h
  refine z_iload C dX7_would_44 4 rfl ?_
  refine z_iload_n C dX7_would_46 rfl 1 rfl ?_
  refine z_icmp_ge C dX7_would_47 (tgt := 60) (by decide) (fun hc108 => ?_) (fun hc108 => ?_)
  · have h := h.1 hc108
    refine z_iload_n C dX7_would_60 rfl 2 rfl ?_
    by_cases hx109 : x2 = 0
    · have h := h.1 hx109
      refine z_tIn C dX7_would_61 (0) (by rw [hx109]; decide) (by decide) (by decide) rfl (tgt := 88) (by decide) ?_
      refine z_aload_n C dX7_would_88 rfl 3 rfl ?_
      refine Pc5i (As := []) C (c_X5_packetsWaiting l g pd ps _ h) v_X5_packetsWaiting ml7_275 rfl ⟨Nat.le_of_ble_eq_true rfl, Nat.le_of_ble_eq_true rfl⟩ ⟨Nat.le_of_ble_eq_true rfl, Nat.le_of_ble_eq_true rfl⟩ (Nat.le_of_ble_eq_true rfl) rfl dX7_would_89 ?_
      intro r110 v111 h
      refine stP (v111) (fun ps112 eps112 => ?_)
      have h := h ps112 eps112
      exact z_iret C hr (tP u pd ps112) rfl h dX7_would_92
    have h := h.2
    by_cases hx113 : x2 = 1
    · have h := h.1 hx113
      refine z_tIn C dX7_would_61 (1) (by rw [hx113]; decide) (by decide) (by decide) rfl (tgt := 93) (by decide) ?_
      refine z_aload_n C dX7_would_93 rfl 3 rfl ?_
      refine Pg5_segments C fl7_154 dX7_would_94 ?_
      refine Pg4_totals C fl7_158 dX7_would_97 ?_
      refine z_iconst (v := 0) C dX7_would_100 (by decide) ?_
      refine Pln4_totals C 0 (by decide +kernel) (vp_in_iff.mpr (by decide +kernel)) dX7_would_101 ?_
      refine z_aload_n C dX7_would_102 rfl 0 rfl ?_
      refine g7_now C fl7_10 dX7_would_103 ?_
      refine Tg5_segments C fl7_154 dX7_would_106 ?_
      refine Tg4_totals C fl7_158 dX7_would_109 ?_
      refine z_iconst (v := 0) C dX7_would_112 (by decide) ?_
      refine Tln4_totals C 0 (by decide +kernel) (vp_in_iff.mpr (by decide +kernel)) dX7_would_113 ?_
      refine z_lsub C dX7_would_114 ?_
      refine z_l2i C dX7_would_115 ?_
      exact z_iret C hr (tP u pd ps) rfl h dX7_would_116
    have h := h.2
    by_cases hx114 : x2 = 2
    · have h := h.1 hx114
      refine z_tIn C dX7_would_61 (2) (by rw [hx114]; decide) (by decide) (by decide) rfl (tgt := 117) (by decide) ?_
      refine z_aload_n C dX7_would_117 rfl 3 rfl ?_
      refine Pc5i (As := []) C (c_X5_callsInAll l g pd ps _ h) v_X5_callsInAll ml7_278 rfl ⟨Nat.le_of_ble_eq_true rfl, Nat.le_of_ble_eq_true rfl⟩ ⟨Nat.le_of_ble_eq_true rfl, Nat.le_of_ble_eq_true rfl⟩ (Nat.le_of_ble_eq_true rfl) rfl dX7_would_118 ?_
      intro r115 v116 h
      refine stP (v116) (fun ps117 eps117 => ?_)
      have h := h ps117 eps117
      refine z_aload_n C dX7_would_121 rfl 0 rfl ?_
      refine g7_now C fl7_10 dX7_would_122 ?_
      refine Tc5i (As := []) C (c_X5_callsInAll l g bd ((tP u pd ps117).2.2.1) _ h) v_X5_callsInAll ml7_278 rfl ⟨Nat.le_of_ble_eq_true rfl, Nat.le_of_ble_eq_true rfl⟩ ⟨Nat.le_of_ble_eq_true rfl, Nat.le_of_ble_eq_true rfl⟩ (Nat.le_of_ble_eq_true rfl) rfl dX7_would_125 ?_
      intro r118 v119 h
      refine stTP (pd := pd) (ps := ps117) (tN u (v119)) (fun u120 eu120 => ?_)
      have h := h u120 eu120
      refine z_isub C dX7_would_128 ?_
      exact z_iret C hr (tP u120 pd ps117) rfl h dX7_would_129
    have h := h.2
    have h := h hx109 hx113 hx114
    have thx109 := lv_neT (a := 0) hx109 (by decide)
    have thx113 := lv_neT (a := 1) hx113 (by decide)
    have thx114 := lv_neT (a := 2) hx114 (by decide)
    refine z_tOut C dX7_would_61 (by omega) (tgt := 130) (by decide) ?_
    refine z_aload_n C dX7_would_130 rfl 3 rfl ?_
    refine Pg5_flows C fl7_64 dX7_would_131 ?_
    refine Pc0i (As := []) C (c_X0_ruleNumber l g (pd 2) (ps 2) _ h) v_X0_ruleNumber ml7_281 rfl ⟨Nat.le_of_ble_eq_true rfl, Nat.le_of_ble_eq_true rfl⟩ ⟨Nat.le_of_ble_eq_true rfl, Nat.le_of_ble_eq_true rfl⟩ (Nat.le_of_ble_eq_true rfl) rfl dX7_would_134 ?_
    intro r121 v122 h
    refine stP (va_up ps 2 v122) (fun ps123 eps123 => ?_)
    have h := h ps123 eps123
    exact z_iret C hr (tP u pd ps123) rfl h dX7_would_137
  · have h := h.2 hc108
    refine z_aload_n C dX7_would_50 rfl 3 rfl ?_
    refine Pc5v (As := []) C (c_X5_passTick l g pd ps _ h) v_X5_passTick ml7_164 rfl ⟨Nat.le_of_ble_eq_true rfl, Nat.le_of_ble_eq_true rfl⟩ ⟨Nat.le_of_ble_eq_true rfl, Nat.le_of_ble_eq_true rfl⟩ (Nat.le_of_ble_eq_true rfl) rfl dX7_would_51 ?_
    intro v124 h
    refine stP (v124) (fun ps125 eps125 => ?_)
    have h := h ps125 eps125
    obtain ⟨x126, ex126⟩ : ∃ y : Int32, y = x4 + 1 := ⟨_, rfl⟩
    have h := h x126 ex126
    refine z_iinc (v := x126) (lv1 := [(4, .int x126), (0, .ref (ma 0)), (1, .int x1), (2, .int x2), (3, .ref (pd 0 0))]) C dX7_would_54 4 rfl (by rw [ex126]; rfl) (by decide) rfl ?_
    refine z_goto C dX7_would_57 (tgt := 44) (by decide) ?_
    refine z_lv (lv1 := [(0, .ref (ma 0)), (1, .int x1), (2, .int x2), (3, .ref (pd 0 0)), (4, .int x126)]) [1, 2, 3, 4, 0] rfl ?_
    exact hB44 u pd ps125 x1 x2 x126 h
theorem l_X7_would_44 (C : zC p s m args meth c g A cX7_would RX7 5) (hr : meth.sig.returnType = (some .int)) (ma ha : Nat → Nat) (bd : Nat → Nat → Nat) (Q : Int32 → TS → Prop) : ∀ (n : Nat) (u : TS) (pd : Nat → Nat → Nat) (ps : Nat → RS) (x1 : Int32) (x2 : Int32) (x4 : Int32), zit6 (wp_X7_would_44 Q) n u pd ps x1 x2 x4 → j_X7_would p l e s m args below meth c g A ma ha bd Q (tP u pd ps) 26 1308 44 [(0, .ref (ma 0)), (1, .int x1), (2, .int x2), (3, .ref (pd 0 0)), (4, .int x4)] [] := by
  intro n
  induction n with
  | zero => exact fun u pd ps x1 x2 x4 h => h.elim
  | succ n ih => exact fun u pd ps x1 x2 x4 h => b_X7_would_44 C hr ma ha bd Q (zit6 (wp_X7_would_44 Q) n) ih u pd ps x1 x2 x4 h
def wp_X7_would (u : TS) (x1 : Int32) (x2 : Int32) (Q : Int32 → TS → Prop) : Prop :=
  ((x1 < 1 → wp_X7_would_34 Q u) ∧ (¬ x1 < 1 → ((100 < x1 → wp_X7_would_34 Q u) ∧ (¬ 100 < x1 → ((x2 < 0 → wp_X7_would_34 Q u) ∧ (¬ x2 < 0 → ((3 < x2 → wp_X7_would_34 Q u) ∧ (¬ 3 < x2 → ((((u.2.2.1 0).1 6 0) + x1 ≤ 99999 → wp_X7_paperOfNow u (fun pd106 ps107 => (∃ n, zit6 (wp_X7_would_44 Q) n u pd106 ps107 x1 x2 0))) ∧ (¬ ((u.2.2.1 0).1 6 0) + x1 ≤ 99999 → wp_X7_would_34 Q u))))))))))
set_option maxRecDepth 20000 in
theorem c_X7_would (l : Launch) (g : zG) (ma ha : Nat → Nat) (bd : Nat → Nat → Nat) (u : TS) (x1 : Int32) (x2 : Int32) (Q : Int32 → TS → Prop) (h : wp_X7_would u x1 x2 Q) : zMi l yX7_would cX7_would 5 (some .int) 6 26 1308 g [.ref (ma 0), .int x1, .int x2] (wT g ma ha bd u) (wT g ma ha bd) Q := by
  refine zMi_of RX7 (by decide) rfl [(0, .ref (ma 0)), (1, .int x1), (2, .int x2)] rfl (Nat.le_of_ble_eq_true rfl) (fun p e s m args below meth c A C hr hnm => ?_)
  unfold wp_X7_would at h
  refine z_iload_n C dX7_would_0 rfl 1 rfl ?_
  refine z_iconst (v := 1) C dX7_would_1 (by decide) ?_
  refine z_icmp_lt C dX7_would_2 (tgt := 34) (by decide) (fun hc101 => ?_) (fun hc101 => ?_)
  · have h := h.1 hc101
    refine z_lv (lv1 := [(0, .ref (ma 0))]) [0] rfl ?_
    exact b_X7_would_34 C hr ma ha bd Q u h
  · have h := h.2 hc101
    refine z_iload_n C dX7_would_5 rfl 1 rfl ?_
    refine z_bipush (v := 100) C dX7_would_6 (by decide) ?_
    refine z_icmp_gt C dX7_would_8 (tgt := 34) (by decide) (fun hc102 => ?_) (fun hc102 => ?_)
    · have h := h.1 hc102
      refine z_lv (lv1 := [(0, .ref (ma 0))]) [0] rfl ?_
      exact b_X7_would_34 C hr ma ha bd Q u h
    · have h := h.2 hc102
      refine z_iload_n C dX7_would_11 rfl 2 rfl ?_
      refine z_if_lt C dX7_would_12 (tgt := 34) (by decide) (fun hc103 => ?_) (fun hc103 => ?_)
      · have h := h.1 hc103
        refine z_lv (lv1 := [(0, .ref (ma 0))]) [0] rfl ?_
        exact b_X7_would_34 C hr ma ha bd Q u h
      · have h := h.2 hc103
        refine z_iload_n C dX7_would_15 rfl 2 rfl ?_
        refine z_iconst (v := 3) C dX7_would_16 (by decide) ?_
        refine z_icmp_gt C dX7_would_17 (tgt := 34) (by decide) (fun hc104 => ?_) (fun hc104 => ?_)
        · have h := h.1 hc104
          refine z_lv (lv1 := [(0, .ref (ma 0))]) [0] rfl ?_
          exact b_X7_would_34 C hr ma ha bd Q u h
        · have h := h.2 hc104
          refine z_aload_n C dX7_would_20 rfl 0 rfl ?_
          refine g7_now C fl7_10 dX7_would_21 ?_
          refine Tg5_time C fl7_119 dX7_would_24 ?_
          refine z_iload_n C dX7_would_27 rfl 1 rfl ?_
          refine z_iadd C dX7_would_28 ?_
          refine z_ldc (v := 99999) C dX7_would_29 k7_153 ?_
          refine z_icmp_le C dX7_would_31 (tgt := 36) (by decide) (fun hc105 => ?_) (fun hc105 => ?_)
          · have h := h.1 hc105
            refine z_aload_n C dX7_would_36 rfl 0 rfl ?_
            refine c7p C (c_X7_paperOfNow l g ma ha bd u _ h) v_X7_paperOfNow ml7_271 ⟨Nat.le_of_ble_eq_true rfl, Nat.le_of_ble_eq_true rfl⟩ ⟨Nat.le_of_ble_eq_true rfl, Nat.le_of_ble_eq_true rfl⟩ (Nat.le_of_ble_eq_true rfl) dX7_would_37 ?_
            intro pd106 ps107 h
            refine z_astore_n (lv1 := [(3, .ref (pd106 0 0)), (0, .ref (ma 0)), (1, .int x1), (2, .int x2)]) C dX7_would_40 rfl (by decide) rfl ?_
            refine z_iconst (v := 0) C dX7_would_41 (by decide) ?_
            refine z_istore (lv1 := [(4, .int 0), (3, .ref (pd106 0 0)), (0, .ref (ma 0)), (1, .int x1), (2, .int x2)]) C dX7_would_42 (by decide) rfl ?_
            refine z_lv (lv1 := [(0, .ref (ma 0)), (1, .int x1), (2, .int x2), (3, .ref (pd106 0 0)), (4, .int 0)]) [2, 3, 4, 1, 0] rfl ?_
            obtain ⟨n9, h⟩ := h
            exact l_X7_would_44 C hr ma ha bd Q n9 u pd106 ps107 x1 x2 0 h
          · have h := h.2 hc105
            refine z_lv (lv1 := [(0, .ref (ma 0))]) [0] rfl ?_
            exact b_X7_would_34 C hr ma ha bd Q u h
abbrev j_X7_drain (p : Program) (l : Launch) (e : Env) (s : State) (m : MethodId) (args : Array Value) (below : List Frame) (meth : Method) (c : Code) (g : zG) (A : Nat → Prop) (ma ha : Nat → Nat) (bd : Nat → Nat → Nat) (Q : Int32 → TS → Prop) (u : TS) (k n : Nat) (pc : Nat) (lv : List (Nat × Value)) (st : List Value) : Prop := zJ p l e (zR 6 26 1308) s m args below meth c g A 3 (zQi below args s g A 26 1308 (wT g ma ha bd) Q) (wT g ma ha bd u) k n pc lv st
def wp_X7_drain_7 (Q : Int32 → TS → Prop) (B7 : TS → (Nat → Nat → Nat) → (Nat → RS) → Int32 → Prop) (u : TS) (pd : Nat → Nat → Nat) (ps : Nat → RS) (x2 : Int32) : Prop :=
  ((200 < x2 → Q (-1) (tP u pd ps)) ∧ (¬ 200 < x2 → wp_X5_packetsWaiting ps (fun r104 v105 => ∀ ps106 : Nat → RS, ps106 = v105 → ((¬ r104 = 0 → (((ps106 0).1 6 0 < 99999 → wp_X5_passTick ps106 (fun v109 => ∀ ps110 : Nat → RS, ps110 = v109 → ∀ x111 : Int32, x111 = x2 + 1 → B7 u pd ps110 x111)) ∧ (¬ (ps106 0).1 6 0 < 99999 → Q (-1) (tP u pd ps106)))) ∧ (r104 = 0 → Q x2 (tP u pd ps106))))))
set_option maxRecDepth 20000 in
theorem b_X7_drain_7 (C : zC p s m args meth c g A cX7_drain RX7 3) (hr : meth.sig.returnType = (some .int)) (ma ha : Nat → Nat) (bd : Nat → Nat → Nat) (Q : Int32 → TS → Prop) (B7 : TS → (Nat → Nat → Nat) → (Nat → RS) → Int32 → Prop) (hB7 : ∀ (u : TS) (pd : Nat → Nat → Nat) (ps : Nat → RS) (x2 : Int32), B7 u pd ps x2 → j_X7_drain p l e s m args below meth c g A ma ha bd Q (tP u pd ps) 26 1308 7 [(0, .ref (ma 0)), (1, .ref (pd 0 0)), (2, .int x2)] []) (u : TS) (pd : Nat → Nat → Nat) (ps : Nat → RS) (x2 : Int32) (h : wp_X7_drain_7 Q B7 u pd ps x2) : j_X7_drain p l e s m args below meth c g A ma ha bd Q (tP u pd ps) 26 1308 7 [(0, .ref (ma 0)), (1, .ref (pd 0 0)), (2, .int x2)] [] := by
  unfold wp_X7_drain_7 at h
  refine z_iload_n C dX7_drain_7 rfl 2 rfl ?_
  refine z_sipush (v := 200) C dX7_drain_8 (by decide) ?_
  refine z_icmp_gt C dX7_drain_11 (tgt := 44) (by decide) (fun hc103 => ?_) (fun hc103 => ?_)
  · have h := h.1 hc103
    refine z_iconst (v := (-1)) C dX7_drain_44 (by decide) ?_
    exact z_iret C hr (tP u pd ps) rfl h dX7_drain_45
  · have h := h.2 hc103
    refine z_aload_n C dX7_drain_14 rfl 1 rfl ?_
    refine Pc5i (As := []) C (c_X5_packetsWaiting l g pd ps _ h) v_X5_packetsWaiting ml7_275 rfl ⟨Nat.le_of_ble_eq_true rfl, Nat.le_of_ble_eq_true rfl⟩ ⟨Nat.le_of_ble_eq_true rfl, Nat.le_of_ble_eq_true rfl⟩ (Nat.le_of_ble_eq_true rfl) rfl dX7_drain_15 ?_
    intro r104 v105 h
    refine stP (v105) (fun ps106 eps106 => ?_)
    have h := h ps106 eps106
    refine z_if_ne C dX7_drain_18 (tgt := 23) (by decide) (fun hc107 => ?_) (fun hc107 => ?_)
    · have h := h.1 hc107
      refine z_aload_n C dX7_drain_23 rfl 1 rfl ?_
      refine Pg5_time C fl7_119 dX7_drain_24 ?_
      refine z_ldc (v := 99999) C dX7_drain_27 k7_153 ?_
      refine z_icmp_lt C dX7_drain_29 (tgt := 34) (by decide) (fun hc108 => ?_) (fun hc108 => ?_)
      · have h := h.1 hc108
        refine z_aload_n C dX7_drain_34 rfl 1 rfl ?_
        refine Pc5v (As := []) C (c_X5_passTick l g pd ps106 _ h) v_X5_passTick ml7_164 rfl ⟨Nat.le_of_ble_eq_true rfl, Nat.le_of_ble_eq_true rfl⟩ ⟨Nat.le_of_ble_eq_true rfl, Nat.le_of_ble_eq_true rfl⟩ (Nat.le_of_ble_eq_true rfl) rfl dX7_drain_35 ?_
        intro v109 h
        refine stP (v109) (fun ps110 eps110 => ?_)
        have h := h ps110 eps110
        obtain ⟨x111, ex111⟩ : ∃ y : Int32, y = x2 + 1 := ⟨_, rfl⟩
        have h := h x111 ex111
        refine z_iinc (v := x111) (lv1 := [(2, .int x111), (0, .ref (ma 0)), (1, .ref (pd 0 0))]) C dX7_drain_38 2 rfl (by rw [ex111]; rfl) (by decide) rfl ?_
        refine z_goto C dX7_drain_41 (tgt := 7) (by decide) ?_
        refine z_lv (lv1 := [(0, .ref (ma 0)), (1, .ref (pd 0 0)), (2, .int x111)]) [1, 2, 0] rfl ?_
        exact hB7 u pd ps110 x111 h
      · have h := h.2 hc108
        refine z_iconst (v := (-1)) C dX7_drain_32 (by decide) ?_
        exact z_iret C hr (tP u pd ps106) rfl h dX7_drain_33
    · have h := h.2 hc107
      refine z_iload_n C dX7_drain_21 rfl 2 rfl ?_
      exact z_iret C hr (tP u pd ps106) rfl h dX7_drain_22
theorem l_X7_drain_7 (C : zC p s m args meth c g A cX7_drain RX7 3) (hr : meth.sig.returnType = (some .int)) (ma ha : Nat → Nat) (bd : Nat → Nat → Nat) (Q : Int32 → TS → Prop) : ∀ (n : Nat) (u : TS) (pd : Nat → Nat → Nat) (ps : Nat → RS) (x2 : Int32), zit4 (wp_X7_drain_7 Q) n u pd ps x2 → j_X7_drain p l e s m args below meth c g A ma ha bd Q (tP u pd ps) 26 1308 7 [(0, .ref (ma 0)), (1, .ref (pd 0 0)), (2, .int x2)] [] := by
  intro n
  induction n with
  | zero => exact fun u pd ps x2 h => h.elim
  | succ n ih => exact fun u pd ps x2 h => b_X7_drain_7 C hr ma ha bd Q (zit4 (wp_X7_drain_7 Q) n) ih u pd ps x2 h
def wp_X7_drain (u : TS) (Q : Int32 → TS → Prop) : Prop :=
  wp_X7_paperOfNow u (fun pd101 ps102 => (∃ n, zit4 (wp_X7_drain_7 Q) n u pd101 ps102 0))
set_option maxRecDepth 20000 in
theorem c_X7_drain (l : Launch) (g : zG) (ma ha : Nat → Nat) (bd : Nat → Nat → Nat) (u : TS) (Q : Int32 → TS → Prop) (h : wp_X7_drain u Q) : zMi l yX7_drain cX7_drain 3 (some .int) 6 26 1308 g [.ref (ma 0)] (wT g ma ha bd u) (wT g ma ha bd) Q := by
  refine zMi_of RX7 (by decide) rfl [(0, .ref (ma 0))] rfl (Nat.le_of_ble_eq_true rfl) (fun p e s m args below meth c A C hr hnm => ?_)
  unfold wp_X7_drain at h
  refine z_aload_n C dX7_drain_0 rfl 0 rfl ?_
  refine c7p C (c_X7_paperOfNow l g ma ha bd u _ h) v_X7_paperOfNow ml7_271 ⟨Nat.le_of_ble_eq_true rfl, Nat.le_of_ble_eq_true rfl⟩ ⟨Nat.le_of_ble_eq_true rfl, Nat.le_of_ble_eq_true rfl⟩ (Nat.le_of_ble_eq_true rfl) dX7_drain_1 ?_
  intro pd101 ps102 h
  refine z_astore_n (lv1 := [(1, .ref (pd101 0 0)), (0, .ref (ma 0))]) C dX7_drain_4 rfl (by decide) rfl ?_
  refine z_iconst (v := 0) C dX7_drain_5 (by decide) ?_
  refine z_istore_n (lv1 := [(2, .int 0), (1, .ref (pd101 0 0)), (0, .ref (ma 0))]) C dX7_drain_6 rfl (by decide) rfl ?_
  refine z_lv (lv1 := [(0, .ref (ma 0)), (1, .ref (pd101 0 0)), (2, .int 0)]) [2, 1, 0] rfl ?_
  obtain ⟨n9, h⟩ := h
  exact l_X7_drain_7 C hr ma ha bd Q n9 u pd101 ps102 0 h
abbrev j_X7_nextCall (p : Program) (l : Launch) (e : Env) (s : State) (m : MethodId) (args : Array Value) (below : List Frame) (meth : Method) (c : Code) (g : zG) (A : Nat → Prop) (ma ha : Nat → Nat) (bd : Nat → Nat → Nat) (Q : Int32 → TS → Prop) (u : TS) (k n : Nat) (pc : Nat) (lv : List (Nat × Value)) (st : List Value) : Prop := zJ p l e (zR 6 26 1308) s m args below meth c g A 5 (zQi below args s g A 26 1308 (wT g ma ha bd) Q) (wT g ma ha bd u) k n pc lv st
def wp_X7_nextCall_22 (Q : Int32 → TS → Prop) (u : TS) : Prop :=
  Q (-1) u
set_option maxRecDepth 20000 in
theorem b_X7_nextCall_22 (C : zC p s m args meth c g A cX7_nextCall RX7 5) (hr : meth.sig.returnType = (some .int)) (ma ha : Nat → Nat) (bd : Nat → Nat → Nat) (Q : Int32 → TS → Prop) (u : TS) (h : wp_X7_nextCall_22 Q u) : j_X7_nextCall p l e s m args below meth c g A ma ha bd Q u 0 0 22 [(0, .ref (ma 0))] [] := by
  unfold wp_X7_nextCall_22 at h
  refine z_iconst (v := (-1)) C dX7_nextCall_22 (by decide) ?_
  refine z_wide (k1 := 26) (n1 := 1308) (Nat.le_of_ble_eq_true rfl) (Nat.le_of_ble_eq_true rfl) ?_
  exact z_iret C hr u rfl h dX7_nextCall_23
def wp_X7_nextCall_45 (Q : Int32 → TS → Prop) (B45 : TS → (Nat → Nat → Nat) → (Nat → RS) → Int32 → Int32 → Int32 → Prop) (u : TS) (pd : Nat → Nat → Nat) (ps : Nat → RS) (x1 : Int32) (x3 : Int32) (x4 : Int32) : Prop :=
  ((99999 - (((tP u pd ps).2.2.1 0).1 6 0) < x4 → Q (-1) (tP u pd ps)) ∧ (¬ 99999 - (((tP u pd ps).2.2.1 0).1 6 0) < x4 → wp_X5_passTick ps (fun v112 => ∀ ps113 : Nat → RS, ps113 = v112 → vp_in x1 4 ∧ vp_in x1 4 ∧ (((ps113 (5 + zn x1)).1 1 0 = x3 → ∀ x117 : Int32, x117 = x4 + 1 → B45 u pd ps113 x1 x3 x117) ∧ (¬ (ps113 (5 + zn x1)).1 1 0 = x3 → Q x4 (tP u pd ps113))))))
set_option maxRecDepth 20000 in
theorem b_X7_nextCall_45 (C : zC p s m args meth c g A cX7_nextCall RX7 5) (hr : meth.sig.returnType = (some .int)) (ma ha : Nat → Nat) (bd : Nat → Nat → Nat) (Q : Int32 → TS → Prop) (B45 : TS → (Nat → Nat → Nat) → (Nat → RS) → Int32 → Int32 → Int32 → Prop) (hB45 : ∀ (u : TS) (pd : Nat → Nat → Nat) (ps : Nat → RS) (x1 : Int32) (x3 : Int32) (x4 : Int32), B45 u pd ps x1 x3 x4 → j_X7_nextCall p l e s m args below meth c g A ma ha bd Q (tP u pd ps) 26 1308 45 [(0, .ref (ma 0)), (1, .int x1), (2, .ref (pd 0 0)), (3, .int x3), (4, .int x4)] []) (u : TS) (pd : Nat → Nat → Nat) (ps : Nat → RS) (x1 : Int32) (x3 : Int32) (x4 : Int32) (h : wp_X7_nextCall_45 Q B45 u pd ps x1 x3 x4) : j_X7_nextCall p l e s m args below meth c g A ma ha bd Q (tP u pd ps) 26 1308 45 [(0, .ref (ma 0)), (1, .int x1), (2, .ref (pd 0 0)), (3, .int x3), (4, .int x4)] [] := by
  unfold wp_X7_nextCall_45 at h
  refine z_iload C dX7_nextCall_45 4 rfl ?_
  refine z_ldc (v := 99999) C dX7_nextCall_47 k7_153 ?_
  refine z_aload_n C dX7_nextCall_49 rfl 0 rfl ?_
  refine g7_now C fl7_10 dX7_nextCall_50 ?_
  refine Tg5_time C fl7_119 dX7_nextCall_53 ?_
  refine z_isub C dX7_nextCall_56 ?_
  refine z_icmp_gt C dX7_nextCall_57 (tgt := 86) (by decide) (fun hc111 => ?_) (fun hc111 => ?_)
  · have h := h.1 hc111
    refine z_iconst (v := (-1)) C dX7_nextCall_86 (by decide) ?_
    exact z_iret C hr (tP u pd ps) rfl h dX7_nextCall_87
  · have h := h.2 hc111
    refine z_aload_n C dX7_nextCall_60 rfl 2 rfl ?_
    refine Pc5v (As := []) C (c_X5_passTick l g pd ps _ h) v_X5_passTick ml7_164 rfl ⟨Nat.le_of_ble_eq_true rfl, Nat.le_of_ble_eq_true rfl⟩ ⟨Nat.le_of_ble_eq_true rfl, Nat.le_of_ble_eq_true rfl⟩ (Nat.le_of_ble_eq_true rfl) rfl dX7_nextCall_61 ?_
    intro v112 h
    refine stP (v112) (fun ps113 eps113 => ?_)
    have h := h ps113 eps113
    refine z_aload_n C dX7_nextCall_64 rfl 2 rfl ?_
    refine Pg5_queues C fl7_167 dX7_nextCall_65 ?_
    refine z_iload_n C dX7_nextCall_68 rfl 1 rfl ?_
    obtain ⟨hi114, h⟩ := h
    refine Paq C hi114 dX7_nextCall_69 ?_
    obtain ⟨hi115, h⟩ := h
    refine Pg3_calls C hi115 fl7_284 dX7_nextCall_70 ?_
    refine z_iload_n C dX7_nextCall_73 rfl 3 rfl ?_
    refine z_icmp_eq C dX7_nextCall_74 (tgt := 80) (by decide) (fun hc116 => ?_) (fun hc116 => ?_)
    · have h := h.1 hc116
      obtain ⟨x117, ex117⟩ : ∃ y : Int32, y = x4 + 1 := ⟨_, rfl⟩
      have h := h x117 ex117
      refine z_iinc (v := x117) (lv1 := [(4, .int x117), (0, .ref (ma 0)), (1, .int x1), (2, .ref (pd 0 0)), (3, .int x3)]) C dX7_nextCall_80 4 rfl (by rw [ex117]; rfl) (by decide) rfl ?_
      refine z_goto C dX7_nextCall_83 (tgt := 45) (by decide) ?_
      refine z_lv (lv1 := [(0, .ref (ma 0)), (1, .int x1), (2, .ref (pd 0 0)), (3, .int x3), (4, .int x117)]) [1, 2, 3, 4, 0] rfl ?_
      exact hB45 u pd ps113 x1 x3 x117 h
    · have h := h.2 hc116
      refine z_iload C dX7_nextCall_77 4 rfl ?_
      exact z_iret C hr (tP u pd ps113) rfl h dX7_nextCall_79
theorem l_X7_nextCall_45 (C : zC p s m args meth c g A cX7_nextCall RX7 5) (hr : meth.sig.returnType = (some .int)) (ma ha : Nat → Nat) (bd : Nat → Nat → Nat) (Q : Int32 → TS → Prop) : ∀ (n : Nat) (u : TS) (pd : Nat → Nat → Nat) (ps : Nat → RS) (x1 : Int32) (x3 : Int32) (x4 : Int32), zit6 (wp_X7_nextCall_45 Q) n u pd ps x1 x3 x4 → j_X7_nextCall p l e s m args below meth c g A ma ha bd Q (tP u pd ps) 26 1308 45 [(0, .ref (ma 0)), (1, .int x1), (2, .ref (pd 0 0)), (3, .int x3), (4, .int x4)] [] := by
  intro n
  induction n with
  | zero => exact fun u pd ps x1 x3 x4 h => h.elim
  | succ n ih => exact fun u pd ps x1 x3 x4 h => b_X7_nextCall_45 C hr ma ha bd Q (zit6 (wp_X7_nextCall_45 Q) n) ih u pd ps x1 x3 x4 h
def wp_X7_nextCall (u : TS) (x1 : Int32) (Q : Int32 → TS → Prop) : Prop :=
  wp_X7_isQueue x1 (fun r101 => ((r101 = 0 → wp_X7_nextCall_22 Q u) ∧ (¬ r101 = 0 → vp_in x1 4 ∧ vp_in x1 4 ∧ ((¬ (u.2.2.1 (5 + zn x1)).1 0 0 = 0 → wp_X7_paperOfNow u (fun pd106 ps107 => vp_in x1 4 ∧ vp_in x1 4 ∧ ∀ x110 : Int32, x110 = ((tP u pd106 ps107).2.2.1 (5 + zn x1)).1 1 0 → (∃ n, zit6 (wp_X7_nextCall_45 Q) n u pd106 ps107 x1 x110 1))) ∧ ((u.2.2.1 (5 + zn x1)).1 0 0 = 0 → wp_X7_nextCall_22 Q u)))))
set_option maxRecDepth 20000 in
theorem c_X7_nextCall (l : Launch) (g : zG) (ma ha : Nat → Nat) (bd : Nat → Nat → Nat) (u : TS) (x1 : Int32) (Q : Int32 → TS → Prop) (h : wp_X7_nextCall u x1 Q) : zMi l yX7_nextCall cX7_nextCall 5 (some .int) 6 26 1308 g [.ref (ma 0), .int x1] (wT g ma ha bd u) (wT g ma ha bd) Q := by
  refine zMi_of RX7 (by decide) rfl [(0, .ref (ma 0)), (1, .int x1)] rfl (Nat.le_of_ble_eq_true rfl) (fun p e s m args below meth c A C hr hnm => ?_)
  unfold wp_X7_nextCall at h
  refine z_iload_n C dX7_nextCall_0 rfl 1 rfl ?_
  refine cSi (As := [.int x1]) C (c_X7_isQueue l g x1 _ h) s_X7_isQueue ml7_86 ⟨Nat.le_of_ble_eq_true rfl, Nat.le_of_ble_eq_true rfl⟩ ⟨Nat.le_of_ble_eq_true rfl, Nat.le_of_ble_eq_true rfl⟩ (Nat.le_of_ble_eq_true rfl) rfl dX7_nextCall_1 ?_
  intro r101 h
  refine z_if_eq C dX7_nextCall_4 (tgt := 22) (by decide) (fun hc102 => ?_) (fun hc102 => ?_)
  · have h := h.1 hc102
    refine z_lv (lv1 := [(0, .ref (ma 0))]) [0] rfl ?_
    exact b_X7_nextCall_22 C hr ma ha bd Q u h
  · have h := h.2 hc102
    refine z_aload_n C dX7_nextCall_7 rfl 0 rfl ?_
    refine g7_now C fl7_10 dX7_nextCall_8 ?_
    refine Tg5_queues C fl7_167 dX7_nextCall_11 ?_
    refine z_iload_n C dX7_nextCall_14 rfl 1 rfl ?_
    obtain ⟨hi103, h⟩ := h
    refine Taq C hi103 dX7_nextCall_15 ?_
    obtain ⟨hi104, h⟩ := h
    refine Tg3_number C hi104 fl7_171 dX7_nextCall_16 ?_
    refine z_if_ne C dX7_nextCall_19 (tgt := 24) (by decide) (fun hc105 => ?_) (fun hc105 => ?_)
    · have h := h.1 hc105
      refine z_aload_n C dX7_nextCall_24 rfl 0 rfl ?_
      refine c7p C (c_X7_paperOfNow l g ma ha bd u _ h) v_X7_paperOfNow ml7_271 ⟨Nat.le_of_ble_eq_true rfl, Nat.le_of_ble_eq_true rfl⟩ ⟨Nat.le_of_ble_eq_true rfl, Nat.le_of_ble_eq_true rfl⟩ (Nat.le_of_ble_eq_true rfl) dX7_nextCall_25 ?_
      intro pd106 ps107 h
      refine z_astore_n (lv1 := [(2, .ref (pd106 0 0)), (0, .ref (ma 0)), (1, .int x1)]) C dX7_nextCall_28 rfl (by decide) rfl ?_
      refine z_aload_n C dX7_nextCall_29 rfl 1 rfl ?_
      refine g7_now C fl7_10 dX7_nextCall_30 ?_
      refine Tg5_queues C fl7_167 dX7_nextCall_33 ?_
      refine z_iload_n C dX7_nextCall_36 rfl 2 rfl ?_
      obtain ⟨hi108, h⟩ := h
      refine Taq C hi108 dX7_nextCall_37 ?_
      obtain ⟨hi109, h⟩ := h
      refine Tg3_calls C hi109 fl7_284 dX7_nextCall_38 ?_
      refine z_topi (fun x110 ex110 => ?_)
      have h := h x110 ex110
      refine z_istore_n (lv1 := [(3, .int x110), (2, .ref (pd106 0 0)), (0, .ref (ma 0)), (1, .int x1)]) C dX7_nextCall_41 rfl (by decide) rfl ?_
      refine z_iconst (v := 1) C dX7_nextCall_42 (by decide) ?_
      refine z_istore (lv1 := [(4, .int 1), (3, .int x110), (2, .ref (pd106 0 0)), (0, .ref (ma 0)), (1, .int x1)]) C dX7_nextCall_43 (by decide) rfl ?_
      refine z_lv (lv1 := [(0, .ref (ma 0)), (1, .int x1), (2, .ref (pd106 0 0)), (3, .int x110), (4, .int 1)]) [3, 4, 2, 1, 0] rfl ?_
      obtain ⟨n9, h⟩ := h
      exact l_X7_nextCall_45 C hr ma ha bd Q n9 u pd106 ps107 x1 x110 1 h
    · have h := h.2 hc105
      refine z_lv (lv1 := [(0, .ref (ma 0))]) [0] rfl ?_
      exact b_X7_nextCall_22 C hr ma ha bd Q u h
abbrev j_X7_queue (p : Program) (l : Launch) (e : Env) (s : State) (m : MethodId) (args : Array Value) (below : List Frame) (meth : Method) (c : Code) (g : zG) (A : Nat → Prop) (ma ha : Nat → Nat) (bd : Nat → Nat → Nat) (Q : Int32 → TS → Prop) (u : TS) (k n : Nat) (pc : Nat) (lv : List (Nat × Value)) (st : List Value) : Prop := zJ p l e (zR 7 0 0) s m args below meth c g A 3 (zQi below args s g A 0 0 (wT g ma ha bd) Q) (wT g ma ha bd u) k n pc lv st
def wp_X7_queue (u : TS) (x1 : Int32) (x2 : Int32) (Q : Int32 → TS → Prop) : Prop :=
  wp_X7_isQueue x1 (fun r101 => ((¬ r101 = 0 → ((x2 = 6 → wp_X5_flowsWishing u.2.2.1 x1 (fun r104 v105 => ∀ u106 : TS, u106 = tN u (v105) → Q r104 u106)) ∧ (x2 = 9 → wp_X6_entriesOf (u.2.2.1 3) x1 (fun r108 v109 => ∀ u110 : TS, u110 = tN u (va_up u.2.2.1 3 v109) → Q r108 u110)) ∧ (¬ x2 = 6 → ¬ x2 = 9 → vp_in x1 4 ∧ vp_in x1 4 ∧ wp_X3_tell (u.2.2.1 (5 + zn x1)) x2 (fun r112 v113 => ∀ u115 : TS, u115 = tN u (va_up u.2.2.1 (5 + zn x1) v113) → Q r112 u115)))) ∧ (r101 = 0 → Q (-1) u)))
set_option maxRecDepth 20000 in
theorem c_X7_queue (l : Launch) (g : zG) (ma ha : Nat → Nat) (bd : Nat → Nat → Nat) (u : TS) (x1 : Int32) (x2 : Int32) (Q : Int32 → TS → Prop) (h : wp_X7_queue u x1 x2 Q) : zMi l yX7_queue cX7_queue 3 (some .int) 7 0 0 g [.ref (ma 0), .int x1, .int x2] (wT g ma ha bd u) (wT g ma ha bd) Q := by
  refine zMi_of RX7 (by decide) rfl [(0, .ref (ma 0)), (1, .int x1), (2, .int x2)] rfl (Nat.le_of_ble_eq_true rfl) (fun p e s m args below meth c A C hr hnm => ?_)
  unfold wp_X7_queue at h
  refine z_iload_n C dX7_queue_0 rfl 1 rfl ?_
  refine cSi (As := [.int x1]) C (c_X7_isQueue l g x1 _ h) s_X7_isQueue ml7_86 ⟨Nat.le_of_ble_eq_true rfl, Nat.le_of_ble_eq_true rfl⟩ ⟨Nat.le_of_ble_eq_true rfl, Nat.le_of_ble_eq_true rfl⟩ (Nat.le_of_ble_eq_true rfl) rfl dX7_queue_1 ?_
  intro r101 h
  refine z_if_ne C dX7_queue_4 (tgt := 9) (by decide) (fun hc102 => ?_) (fun hc102 => ?_)
  · have h := h.1 hc102
    refine z_iload_n C dX7_queue_9 rfl 2 rfl ?_
    by_cases hx103 : x2 = 6
    · have h := h.1 hx103
      refine z_lsw C dX7_queue_10 (by decide) (by rw [hx103]; try rfl) (tgt := 36) (by decide) ?_
      refine z_aload_n C dX7_queue_36 rfl 0 rfl ?_
      refine g7_now C fl7_10 dX7_queue_37 ?_
      refine z_iload_n C dX7_queue_40 rfl 1 rfl ?_
      refine Tc5i (As := [.int x1]) C (c_X5_flowsWishing l g bd u.2.2.1 x1 _ h) v_X5_flowsWishing ml7_214 rfl ⟨Nat.le_of_ble_eq_true rfl, Nat.le_of_ble_eq_true rfl⟩ ⟨Nat.le_of_ble_eq_true rfl, Nat.le_of_ble_eq_true rfl⟩ (Nat.le_of_ble_eq_true rfl) rfl dX7_queue_41 ?_
      intro r104 v105 h
      refine stT (tN u (v105)) (fun u106 eu106 => ?_)
      have h := h u106 eu106
      exact z_iret C hr u106 rfl h dX7_queue_44
    have h := h.2
    by_cases hx107 : x2 = 9
    · have h := h.1 hx107
      refine z_lsw C dX7_queue_10 (by decide) (by rw [hx107]; try rfl) (tgt := 45) (by decide) ?_
      refine z_aload_n C dX7_queue_45 rfl 0 rfl ?_
      refine g7_now C fl7_10 dX7_queue_46 ?_
      refine Tg5_table C fl7_89 dX7_queue_49 ?_
      refine z_iload_n C dX7_queue_52 rfl 1 rfl ?_
      refine Tc6i (As := [.int x1]) C (c_X6_entriesOf l g (bd 3) (u.2.2.1 3) x1 _ h) v_X6_entriesOf ml7_217 rfl ⟨Nat.le_of_ble_eq_true rfl, Nat.le_of_ble_eq_true rfl⟩ ⟨Nat.le_of_ble_eq_true rfl, Nat.le_of_ble_eq_true rfl⟩ (Nat.le_of_ble_eq_true rfl) rfl dX7_queue_53 ?_
      intro r108 v109 h
      refine stT (tN u (va_up u.2.2.1 3 v109)) (fun u110 eu110 => ?_)
      have h := h u110 eu110
      exact z_iret C hr u110 rfl h dX7_queue_56
    have h := h.2
    have h := h hx103 hx107
    refine z_lsw C dX7_queue_10 (by decide) (off := 47) (by simp only [Op.lookupswitch.offset]; rw [if_neg (fun z => lv_neT (a := 6) hx103 (by decide) z.symm), if_neg (fun z => lv_neT (a := 9) hx107 (by decide) z.symm)]) (tgt := 57) (by decide) ?_
    refine z_aload_n C dX7_queue_57 rfl 0 rfl ?_
    refine g7_now C fl7_10 dX7_queue_58 ?_
    refine Tg5_queues C fl7_167 dX7_queue_61 ?_
    refine z_iload_n C dX7_queue_64 rfl 1 rfl ?_
    obtain ⟨hi111, h⟩ := h
    refine Taq C hi111 dX7_queue_65 ?_
    refine z_iload_n C dX7_queue_66 rfl 2 rfl ?_
    obtain ⟨hi114, h⟩ := h
    refine Tc3i (As := [.int x2]) C hi114 (c_X3_tell l g (bd (5 + zn x1)) (u.2.2.1 (5 + zn x1)) x2 _ h) v_X3_tell ml7_220 rfl ⟨Nat.le_of_ble_eq_true rfl, Nat.le_of_ble_eq_true rfl⟩ ⟨Nat.le_of_ble_eq_true rfl, Nat.le_of_ble_eq_true rfl⟩ (Nat.le_of_ble_eq_true rfl) rfl dX7_queue_67 ?_
    intro r112 v113 h
    refine stT (tN u (va_up u.2.2.1 (5 + zn x1) v113)) (fun u115 eu115 => ?_)
    have h := h u115 eu115
    exact z_iret C hr u115 rfl h dX7_queue_70
  · have h := h.2 hc102
    refine z_iconst (v := (-1)) C dX7_queue_7 (by decide) ?_
    exact z_iret C hr u rfl h dX7_queue_8
end WC
