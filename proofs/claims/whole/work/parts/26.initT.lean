-- the constructors of History, RxQueues
set_option maxRecDepth 40000 in
set_option maxHeartbeats 4000000 in
theorem c_X1_init (l : Launch) (g : zG) (a : Nat) : zMv l yX1_init cX1_init 1 none 1 2 16 g [.ref a] [(a, .inr (1, [.int 0, .null, .null, .int 0]))] (fun ad : Nat → Nat => wH g ad z0 (fun _ => none)) (fun ad => ad 0 = a) := by
  refine zMv_of RX1 (by decide) rfl [(0, .ref a)] rfl (Nat.le_of_ble_eq_true rfl) (fun p e s m args below meth c A C hr hnm => ?_)
  refine z_aload_n C dX1_init_0 rfl 0 rfl ?_
  refine z_objI C mo1 (Nat.le_of_ble_eq_true rfl) (Nat.le_of_ble_eq_true rfl) dX1_init_1 ?_
  refine z_aload_n C dX1_init_4 rfl 0 rfl ?_
  refine z_bipush (v := 8) C dX1_init_5 (by decide) ?_
  refine z_newq3 C 8 cl1_9 (by decide) (by decide +kernel) (by decide) ⟨Nat.le_of_ble_eq_true rfl, Nat.le_of_ble_eq_true rfl⟩ dX1_init_7 (fun q1 => ?_)
  refine z_putF (T := TX1) (N := 4) C hnm inX1 tyX1 tyX1_ok nmX1 (ci := 1) rfl 1 (by decide) fl1_11 rfl rfl (ty := (.array (.object "RxQueues$State"))) (by decide +kernel) 0 rfl rfl [.int 0, .null, .null, .int 0] rfl (Nat.le_of_ble_eq_true rfl) dX1_init_10 ([(a, .inr (1, [.int 0, .ref q1, .null, .int 0]))] ++ ([(q1, .inl (g.2.1 3, 8, .inr (.inr (.inr (.inr (fun _ => none))))))])) rfl ?_
  refine z_aload_n C dX1_init_13 rfl 0 rfl ?_
  refine z_bipush (v := 8) C dX1_init_14 (by decide) ?_
  refine z_newi C 8 (by decide) (by decide +kernel) (by decide +kernel) ⟨Nat.le_of_ble_eq_true rfl, Nat.le_of_ble_eq_true rfl⟩ dX1_init_16 (fun q2 => ?_)
  refine z_putF (T := TX1) (N := 4) C hnm inX1 tyX1 tyX1_ok nmX1 (ci := 1) rfl 2 (by decide) fl1_17 rfl rfl (ty := (.array .int)) (by decide +kernel) 0 rfl rfl [.int 0, .ref q1, .null, .int 0] rfl (Nat.le_of_ble_eq_true rfl) dX1_init_18 ([(a, .inr (1, [.int 0, .ref q1, .ref q2, .int 0]))] ++ ([(q1, .inl (g.2.1 3, 8, .inr (.inr (.inr (.inr (fun _ => none))))))] ++ ([(q2, .inl (g.2.1 0, 8, .inl (fun _ => 0)))]))) rfl ?_
  exact z_vret C hr (zad [a, q1, q2]) rfl rfl dX1_init_21
/-- the class as it stands at first -/
def iT : TS := (z0, z0, iS, (fun _ => none), (fun _ => none))
def wq7 (g : zG) (a q5 q6 q7 : Nat) (ad4 : Nat → Nat) (ad2 : Nat → Nat → Nat) : va_W := [(a, .inr (7, [.ref (ad2 0 0), .ref (ad4 0), .ref q5, .ref q6, .int 0, .null, .ref q7]))] ++ (wS g ad2 iS ++ (wH g ad4 z0 (fun _ => none) ++ ([(q5, .inl (g.2.1 3, 2, .inr (.inr (.inr (.inr (fun _ => none))))))] ++ ([(q6, .inl (g.2.1 0, 6, .inl (fun _ => 0)))] ++ ([(q7, .inl (g.2.1 0, 24, .inl (fun _ => 0)))])))))
set_option maxRecDepth 40000 in
theorem wq7_eq (g : zG) (a q5 q6 q7 : Nat) (ad4 : Nat → Nat) (ad2 : Nat → Nat → Nat) : ([0, 30, 31, 32, 27, 28, 29, 1, 2, 3, 4, 5, 6, 7, 8, 9, 10, 11, 12, 13, 14, 15, 16, 17, 18, 19, 20, 21, 22, 23, 24, 25, 26] : List Nat).map (fun i => (wq7 g a q5 q6 q7 ad4 ad2)[i]?) = (wT g (zad [a, q5, q6, q7]) ad4 ad2 iT).map some := rfl
set_option maxRecDepth 40000 in
set_option maxHeartbeats 4000000 in
theorem c_X7_init (l : Launch) (g : zG) (a : Nat) : zMv l yX7_init cX7_init 1 none 3 32 1360 g [.ref a] [(a, .inr (7, [.null, .null, .null, .null, .int 0, .null, .null]))] (fun z : (Nat → Nat) × (Nat → Nat) × (Nat → Nat → Nat) => wT g z.1 z.2.1 z.2.2 iT) (fun z => z.1 0 = a) := by
  refine zMv_of RX7 (by decide) rfl [(0, .ref a)] rfl (Nat.le_of_ble_eq_true rfl) (fun p e s m args below meth c A C hr hnm => ?_)
  refine z_aload_n C dX7_init_0 rfl 0 rfl ?_
  refine z_objI C mo7 (Nat.le_of_ble_eq_true rfl) (Nat.le_of_ble_eq_true rfl) dX7_init_1 ?_
  refine z_aload_n C dX7_init_4 rfl 0 rfl ?_
  refine z_new (T := TX5) (N := 8) C inX5 tyX5 tyX5_ok cl7_7 wI5 wN5 (ci := 5) rfl [.null, .null, .null, .null, .null, .null, .int 0, .int 0] (by intro j hj; exact (show ∀ j, j < 8 → defaultValue (tyX5 j) = vp_V [.null, .null, .null, .null, .null, .null, .int 0, .int 0] j by decide +kernel) j hj) ⟨Nat.le_of_ble_eq_true rfl, Nat.le_of_ble_eq_true rfl⟩ dX7_init_5 (fun q1 => ?_)
  refine z_dup C dX7_init_8 rfl ?_
  refine z_Iv (As := []) C ([(a, .inr (7, [.null, .null, .null, .null, .int 0, .null, .null]))]) ([(q1, .inr (5, [.null, .null, .null, .null, .null, .null, .int 0, .int 0]))]) [] rfl (c_X5_init l g q1) i_X5_init ml7_9 ⟨Nat.le_of_ble_eq_true rfl, Nat.le_of_ble_eq_true rfl⟩ ⟨Nat.le_of_ble_eq_true rfl, Nat.le_of_ble_eq_true rfl⟩ (Nat.le_of_ble_eq_true rfl) rfl dX7_init_9 (fun ad2 ead2 => ?_)
  subst ead2
  refine z_putF (T := TX7) (N := 7) C hnm inX7 tyX7 tyX7_ok nmX7 (ci := 7) rfl 0 (by decide) fl7_10 rfl rfl (ty := (.object "RxQueues$State")) (by decide +kernel) 0 rfl rfl [.null, .null, .null, .null, .int 0, .null, .null] rfl (Nat.le_of_ble_eq_true rfl) dX7_init_12 ([(a, .inr (7, [.ref (ad2 0 0), .null, .null, .null, .int 0, .null, .null]))] ++ (wS g ad2 iS)) rfl ?_
  refine z_aload_n C dX7_init_15 rfl 0 rfl ?_
  refine z_new (T := TX1) (N := 4) C inX1 tyX1 tyX1_ok cl7_16 wI1 wN1 (ci := 1) rfl [.int 0, .null, .null, .int 0] (by intro j hj; exact (show ∀ j, j < 4 → defaultValue (tyX1 j) = vp_V [.int 0, .null, .null, .int 0] j by decide +kernel) j hj) ⟨Nat.le_of_ble_eq_true rfl, Nat.le_of_ble_eq_true rfl⟩ dX7_init_16 (fun q3 => ?_)
  refine z_dup C dX7_init_19 rfl ?_
  refine z_INv (As := []) C ([(a, .inr (7, [.ref (ad2 0 0), .null, .null, .null, .int 0, .null, .null]))] ++ (wS g ad2 iS)) ([(q3, .inr (1, [.int 0, .null, .null, .int 0]))]) [] rfl (c_X1_init l g q3) i_X1_init mn7_18 ⟨Nat.le_of_ble_eq_true rfl, Nat.le_of_ble_eq_true rfl⟩ ⟨Nat.le_of_ble_eq_true rfl, Nat.le_of_ble_eq_true rfl⟩ (Nat.le_of_ble_eq_true rfl) rfl dX7_init_20 (fun ad4 ead4 => ?_)
  subst ead4
  refine z_putF (T := TX7) (N := 7) C hnm inX7 tyX7 tyX7_ok nmX7 (ci := 7) rfl 1 (by decide) fl7_19 rfl rfl (ty := (.object "RxQueues$History")) (by decide +kernel) 0 rfl rfl [.ref (ad2 0 0), .null, .null, .null, .int 0, .null, .null] rfl (Nat.le_of_ble_eq_true rfl) dX7_init_23 ([(a, .inr (7, [.ref (ad2 0 0), .ref (ad4 0), .null, .null, .int 0, .null, .null]))] ++ (wS g ad2 iS ++ (wH g ad4 z0 (fun _ => none)))) rfl ?_
  refine z_aload_n C dX7_init_26 rfl 0 rfl ?_
  refine z_iconst (v := 2) C dX7_init_27 (by decide) ?_
  refine z_newq3 C 2 cl7_7 (by decide) (by decide +kernel) (by decide) ⟨Nat.le_of_ble_eq_true rfl, Nat.le_of_ble_eq_true rfl⟩ dX7_init_28 (fun q5 => ?_)
  refine z_putF (T := TX7) (N := 7) C hnm inX7 tyX7 tyX7_ok nmX7 (ci := 7) rfl 2 (by decide) fl7_23 rfl rfl (ty := (.array (.object "RxQueues$State"))) (by decide +kernel) 0 rfl rfl [.ref (ad2 0 0), .ref (ad4 0), .null, .null, .int 0, .null, .null] rfl (Nat.le_of_ble_eq_true rfl) dX7_init_31 ([(a, .inr (7, [.ref (ad2 0 0), .ref (ad4 0), .ref q5, .null, .int 0, .null, .null]))] ++ (wS g ad2 iS ++ (wH g ad4 z0 (fun _ => none) ++ ([(q5, .inl (g.2.1 3, 2, .inr (.inr (.inr (.inr (fun _ => none))))))])))) rfl ?_
  refine z_aload_n C dX7_init_34 rfl 0 rfl ?_
  refine z_bipush (v := 6) C dX7_init_35 (by decide) ?_
  refine z_newi C 6 (by decide) (by decide +kernel) (by decide +kernel) ⟨Nat.le_of_ble_eq_true rfl, Nat.le_of_ble_eq_true rfl⟩ dX7_init_37 (fun q6 => ?_)
  refine z_putF (T := TX7) (N := 7) C hnm inX7 tyX7 tyX7_ok nmX7 (ci := 7) rfl 3 (by decide) fl7_27 rfl rfl (ty := (.array .int)) (by decide +kernel) 0 rfl rfl [.ref (ad2 0 0), .ref (ad4 0), .ref q5, .null, .int 0, .null, .null] rfl (Nat.le_of_ble_eq_true rfl) dX7_init_39 ([(a, .inr (7, [.ref (ad2 0 0), .ref (ad4 0), .ref q5, .ref q6, .int 0, .null, .null]))] ++ (wS g ad2 iS ++ (wH g ad4 z0 (fun _ => none) ++ ([(q5, .inl (g.2.1 3, 2, .inr (.inr (.inr (.inr (fun _ => none))))))] ++ ([(q6, .inl (g.2.1 0, 6, .inl (fun _ => 0)))]))))) rfl ?_
  refine z_aload_n C dX7_init_42 rfl 0 rfl ?_
  refine z_bipush (v := 24) C dX7_init_43 (by decide) ?_
  refine z_newi C 24 (by decide) (by decide +kernel) (by decide +kernel) ⟨Nat.le_of_ble_eq_true rfl, Nat.le_of_ble_eq_true rfl⟩ dX7_init_45 (fun q7 => ?_)
  refine z_putF (T := TX7) (N := 7) C hnm inX7 tyX7 tyX7_ok nmX7 (ci := 7) rfl 6 (by decide) fl7_31 rfl rfl (ty := (.array .int)) (by decide +kernel) 0 rfl rfl [.ref (ad2 0 0), .ref (ad4 0), .ref q5, .ref q6, .int 0, .null, .null] rfl (Nat.le_of_ble_eq_true rfl) dX7_init_47 ([(a, .inr (7, [.ref (ad2 0 0), .ref (ad4 0), .ref q5, .ref q6, .int 0, .null, .ref q7]))] ++ (wS g ad2 iS ++ (wH g ad4 z0 (fun _ => none) ++ ([(q5, .inl (g.2.1 3, 2, .inr (.inr (.inr (.inr (fun _ => none))))))] ++ ([(q6, .inl (g.2.1 0, 6, .inl (fun _ => 0)))] ++ ([(q7, .inl (g.2.1 0, 24, .inl (fun _ => 0)))])))))) rfl ?_
  refine z_ws (ws1 := wq7 g a q5 q6 q7 ad4 ad2) rfl ?_
  refine z_sub [0, 30, 31, 32, 27, 28, 29, 1, 2, 3, 4, 5, 6, 7, 8, 9, 10, 11, 12, 13, 14, 15, 16, 17, 18, 19, 20, 21, 22, 23, 24, 25, 26] (by decide) (ws1 := wT g (zad [a, q5, q6, q7]) ad4 ad2 iT) (wq7_eq g a q5 q6 q7 ad4 ad2) ?_
  exact z_vret C hr (zad [a, q5, q6, q7], ad4, ad2) rfl rfl dX7_init_50
