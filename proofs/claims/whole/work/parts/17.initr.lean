-- the constructor of the reference
def iR_1 : RS := rI z0 3 (upd (z0.1 3) 3 31)
def iR_2 : RS := rI iR_1 3 (upd (iR_1.1 3) 14 16)
def iR_3 : RS := rI iR_2 3 (upd (iR_2.1 3) 15 8)
def iR_4 : RS := rI iR_3 3 (upd (iR_3.1 3) 16 40)
def iR_5 : RS := rI iR_4 3 (upd (iR_4.1 3) 17 4000)
def iR_6 : RS := rI iR_5 3 (upd (iR_5.1 3) 18 40)
def iR_7 : RS := rI iR_6 3 (upd (iR_6.1 3) 19 1024)
def iR_8 : RS := rI iR_7 3 (upd (iR_7.1 3) 22 12)
def iR_9 : RS := rI iR_8 3 (upd (iR_8.1 3) 23 0)
def iR_10 : RS := rI iR_9 3 (upd (iR_9.1 3) 24 1)
def iR_11 : RS := rI iR_10 3 (upd (iR_10.1 3) 25 2)
def iR_12 : RS := rI iR_11 3 (upd (iR_11.1 3) 26 3)
def iR_13 : RS := rI iR_12 3 (upd (iR_12.1 3) 27 0)
def iR_14 : RS := rI iR_13 3 (upd (iR_13.1 3) 28 1)
def iR_15 : RS := rI iR_14 3 (upd (iR_14.1 3) 29 2)
def iR_16 : RS := rI iR_15 3 (upd (iR_15.1 3) 30 3)
def iR_17 : RS := rI iR_16 3 (upd (iR_16.1 3) 31 0)
def iR_18 : RS := rI iR_17 3 (upd (iR_17.1 3) 32 1)
def iR_19 : RS := rI iR_18 3 (upd (iR_18.1 3) 33 2)
def iR_20 : RS := rI iR_19 3 (upd (iR_19.1 3) 34 3)
def iR_21 : RS := rI iR_20 3 (upd (iR_20.1 3) 35 0)
def iR_22 : RS := rI iR_21 3 (upd (iR_21.1 3) 36 1)
def iR_23 : RS := rI iR_22 3 (upd (iR_22.1 3) 37 2)
def iR_24 : RS := rI iR_23 3 (upd (iR_23.1 3) 38 3)
def iR_25 : RS := rI iR_24 3 (upd (iR_24.1 3) 434 4)
def iR_26 : RS := rI iR_25 3 (upd (iR_25.1 3) 435 (-1))
def iR_27 : RS := rI iR_26 3 (upd (iR_26.1 3) 574 4)
def iR_28 : RS := rI iR_27 3 (upd (iR_27.1 3) 575 (-1))
def iR_29 : RS := rI iR_28 3 (upd (iR_28.1 3) 714 4)
def iR_30 : RS := rI iR_29 3 (upd (iR_29.1 3) 715 (-1))
def iR_31 : RS := rI iR_30 3 (upd (iR_30.1 3) 854 4)
def iR_32 : RS := rI iR_31 3 (upd (iR_31.1 3) 855 (-1))
def iR : RS := iR_32
set_option maxRecDepth 40000 in
set_option maxHeartbeats 4000000 in
theorem c_X8_init (l : Launch) (g : zG) (a : Nat) : zMv l yX8_init cX8_init 2 none 1 15 12977 g [.ref a] [(a, .inr (8, [.int 0, .int 0, .null, .null, .null, .null, .null, .null, .int 0, .null, .null, .null, .null, .null, .null, .null, .null, .null, .int 0, .int 0]))] (fun ad : Nat → Nat => wR g ad iR) (fun ad => ad 0 = a) := by
  refine zMv_of RX8 (by decide) rfl [(0, .ref a)] rfl (Nat.le_of_ble_eq_true rfl) (fun p e s m args below meth c A C hr hnm => ?_)
  refine z_aload_n C dX8_init_0 rfl 0 rfl ?_
  refine z_objI C mo8 (Nat.le_of_ble_eq_true rfl) (Nat.le_of_ble_eq_true rfl) dX8_init_1 ?_
  refine z_aload_n C dX8_init_4 rfl 0 rfl ?_
  refine z_bipush (v := 6) C dX8_init_5 (by decide) ?_
  refine z_newi C 6 (by decide) (by decide +kernel) (by decide +kernel) ⟨Nat.le_of_ble_eq_true rfl, Nat.le_of_ble_eq_true rfl⟩ dX8_init_7 (fun q1 => ?_)
  refine z_putF (T := TX8) (N := 20) C hnm inX8 tyX8 tyX8_ok nmX8 (ci := 8) rfl 2 (by decide) fl8_refusals rfl rfl (ty := (.array .int)) (by decide +kernel) 0 rfl rfl [.int 0, .int 0, .null, .null, .null, .null, .null, .null, .int 0, .null, .null, .null, .null, .null, .null, .null, .null, .null, .int 0, .int 0] rfl (Nat.le_of_ble_eq_true rfl) dX8_init_9 ([(a, .inr (8, [.int 0, .int 0, .ref q1, .null, .null, .null, .null, .null, .int 0, .null, .null, .null, .null, .null, .null, .null, .null, .null, .int 0, .int 0]))] ++ ([(q1, .inl (g.2.1 0, 6, .inl (fun _ => 0)))])) rfl ?_
  refine z_aload_n C dX8_init_12 rfl 0 rfl ?_
  refine z_sipush (v := 1065) C dX8_init_13 (by decide) ?_
  refine z_newi C 1065 (by decide) (by decide +kernel) (by decide +kernel) ⟨Nat.le_of_ble_eq_true rfl, Nat.le_of_ble_eq_true rfl⟩ dX8_init_16 (fun q2 => ?_)
  refine z_putF (T := TX8) (N := 20) C hnm inX8 tyX8 tyX8_ok nmX8 (ci := 8) rfl 3 (by decide) fl8_row rfl rfl (ty := (.array .int)) (by decide +kernel) 0 rfl rfl [.int 0, .int 0, .ref q1, .null, .null, .null, .null, .null, .int 0, .null, .null, .null, .null, .null, .null, .null, .null, .null, .int 0, .int 0] rfl (Nat.le_of_ble_eq_true rfl) dX8_init_18 ([(a, .inr (8, [.int 0, .int 0, .ref q1, .ref q2, .null, .null, .null, .null, .int 0, .null, .null, .null, .null, .null, .null, .null, .null, .null, .int 0, .int 0]))] ++ ([(q1, .inl (g.2.1 0, 6, .inl (fun _ => 0)))] ++ ([(q2, .inl (g.2.1 0, 1065, .inl (fun _ => 0)))]))) rfl ?_
  refine z_aload_n C dX8_init_21 rfl 0 rfl ?_
  refine z_bipush (v := 7) C dX8_init_22 (by decide) ?_
  refine z_newl C 7 (by decide) (by decide +kernel) (by decide +kernel) ⟨Nat.le_of_ble_eq_true rfl, Nat.le_of_ble_eq_true rfl⟩ dX8_init_24 (fun q3 => ?_)
  refine z_putF (T := TX8) (N := 20) C hnm inX8 tyX8 tyX8_ok nmX8 (ci := 8) rfl 4 (by decide) fl8_sums rfl rfl (ty := (.array .long)) (by decide +kernel) 0 rfl rfl [.int 0, .int 0, .ref q1, .ref q2, .null, .null, .null, .null, .int 0, .null, .null, .null, .null, .null, .null, .null, .null, .null, .int 0, .int 0] rfl (Nat.le_of_ble_eq_true rfl) dX8_init_26 ([(a, .inr (8, [.int 0, .int 0, .ref q1, .ref q2, .ref q3, .null, .null, .null, .int 0, .null, .null, .null, .null, .null, .null, .null, .null, .null, .int 0, .int 0]))] ++ ([(q1, .inl (g.2.1 0, 6, .inl (fun _ => 0)))] ++ ([(q2, .inl (g.2.1 0, 1065, .inl (fun _ => 0)))] ++ ([(q3, .inl (g.2.1 1, 7, .inr (.inl (fun _ => 0))))])))) rfl ?_
  refine z_aload_n C dX8_init_29 rfl 0 rfl ?_
  refine z_sipush (v := 8520) C dX8_init_30 (by decide) ?_
  refine z_newi C 8520 (by decide) (by decide +kernel) (by decide +kernel) ⟨Nat.le_of_ble_eq_true rfl, Nat.le_of_ble_eq_true rfl⟩ dX8_init_33 (fun q4 => ?_)
  refine z_putF (T := TX8) (N := 20) C hnm inX8 tyX8 tyX8_ok nmX8 (ci := 8) rfl 5 (by decide) fl8_undos rfl rfl (ty := (.array .int)) (by decide +kernel) 0 rfl rfl [.int 0, .int 0, .ref q1, .ref q2, .ref q3, .null, .null, .null, .int 0, .null, .null, .null, .null, .null, .null, .null, .null, .null, .int 0, .int 0] rfl (Nat.le_of_ble_eq_true rfl) dX8_init_35 ([(a, .inr (8, [.int 0, .int 0, .ref q1, .ref q2, .ref q3, .ref q4, .null, .null, .int 0, .null, .null, .null, .null, .null, .null, .null, .null, .null, .int 0, .int 0]))] ++ ([(q1, .inl (g.2.1 0, 6, .inl (fun _ => 0)))] ++ ([(q2, .inl (g.2.1 0, 1065, .inl (fun _ => 0)))] ++ ([(q3, .inl (g.2.1 1, 7, .inr (.inl (fun _ => 0))))] ++ ([(q4, .inl (g.2.1 0, 8520, .inl (fun _ => 0)))]))))) rfl ?_
  refine z_aload_n C dX8_init_38 rfl 0 rfl ?_
  refine z_bipush (v := 56) C dX8_init_39 (by decide) ?_
  refine z_newl C 56 (by decide) (by decide +kernel) (by decide +kernel) ⟨Nat.le_of_ble_eq_true rfl, Nat.le_of_ble_eq_true rfl⟩ dX8_init_41 (fun q5 => ?_)
  refine z_putF (T := TX8) (N := 20) C hnm inX8 tyX8 tyX8_ok nmX8 (ci := 8) rfl 6 (by decide) fl8_undoSums rfl rfl (ty := (.array .long)) (by decide +kernel) 0 rfl rfl [.int 0, .int 0, .ref q1, .ref q2, .ref q3, .ref q4, .null, .null, .int 0, .null, .null, .null, .null, .null, .null, .null, .null, .null, .int 0, .int 0] rfl (Nat.le_of_ble_eq_true rfl) dX8_init_43 ([(a, .inr (8, [.int 0, .int 0, .ref q1, .ref q2, .ref q3, .ref q4, .ref q5, .null, .int 0, .null, .null, .null, .null, .null, .null, .null, .null, .null, .int 0, .int 0]))] ++ ([(q1, .inl (g.2.1 0, 6, .inl (fun _ => 0)))] ++ ([(q2, .inl (g.2.1 0, 1065, .inl (fun _ => 0)))] ++ ([(q3, .inl (g.2.1 1, 7, .inr (.inl (fun _ => 0))))] ++ ([(q4, .inl (g.2.1 0, 8520, .inl (fun _ => 0)))] ++ ([(q5, .inl (g.2.1 1, 56, .inr (.inl (fun _ => 0))))])))))) rfl ?_
  refine z_aload_n C dX8_init_46 rfl 0 rfl ?_
  refine z_bipush (v := 8) C dX8_init_47 (by decide) ?_
  refine z_newi C 8 (by decide) (by decide +kernel) (by decide +kernel) ⟨Nat.le_of_ble_eq_true rfl, Nat.le_of_ble_eq_true rfl⟩ dX8_init_49 (fun q6 => ?_)
  refine z_putF (T := TX8) (N := 20) C hnm inX8 tyX8 tyX8_ok nmX8 (ci := 8) rfl 7 (by decide) fl8_sorts rfl rfl (ty := (.array .int)) (by decide +kernel) 0 rfl rfl [.int 0, .int 0, .ref q1, .ref q2, .ref q3, .ref q4, .ref q5, .null, .int 0, .null, .null, .null, .null, .null, .null, .null, .null, .null, .int 0, .int 0] rfl (Nat.le_of_ble_eq_true rfl) dX8_init_51 ([(a, .inr (8, [.int 0, .int 0, .ref q1, .ref q2, .ref q3, .ref q4, .ref q5, .ref q6, .int 0, .null, .null, .null, .null, .null, .null, .null, .null, .null, .int 0, .int 0]))] ++ ([(q1, .inl (g.2.1 0, 6, .inl (fun _ => 0)))] ++ ([(q2, .inl (g.2.1 0, 1065, .inl (fun _ => 0)))] ++ ([(q3, .inl (g.2.1 1, 7, .inr (.inl (fun _ => 0))))] ++ ([(q4, .inl (g.2.1 0, 8520, .inl (fun _ => 0)))] ++ ([(q5, .inl (g.2.1 1, 56, .inr (.inl (fun _ => 0))))] ++ ([(q6, .inl (g.2.1 0, 8, .inl (fun _ => 0)))]))))))) rfl ?_
  refine z_aload_n C dX8_init_54 rfl 0 rfl ?_
  refine z_sipush (v := 2130) C dX8_init_55 (by decide) ?_
  refine z_newi C 2130 (by decide) (by decide +kernel) (by decide +kernel) ⟨Nat.le_of_ble_eq_true rfl, Nat.le_of_ble_eq_true rfl⟩ dX8_init_58 (fun q7 => ?_)
  refine z_putF (T := TX8) (N := 20) C hnm inX8 tyX8 tyX8_ok nmX8 (ci := 8) rfl 9 (by decide) fl8_images rfl rfl (ty := (.array .int)) (by decide +kernel) 0 rfl rfl [.int 0, .int 0, .ref q1, .ref q2, .ref q3, .ref q4, .ref q5, .ref q6, .int 0, .null, .null, .null, .null, .null, .null, .null, .null, .null, .int 0, .int 0] rfl (Nat.le_of_ble_eq_true rfl) dX8_init_60 ([(a, .inr (8, [.int 0, .int 0, .ref q1, .ref q2, .ref q3, .ref q4, .ref q5, .ref q6, .int 0, .ref q7, .null, .null, .null, .null, .null, .null, .null, .null, .int 0, .int 0]))] ++ ([(q1, .inl (g.2.1 0, 6, .inl (fun _ => 0)))] ++ ([(q2, .inl (g.2.1 0, 1065, .inl (fun _ => 0)))] ++ ([(q3, .inl (g.2.1 1, 7, .inr (.inl (fun _ => 0))))] ++ ([(q4, .inl (g.2.1 0, 8520, .inl (fun _ => 0)))] ++ ([(q5, .inl (g.2.1 1, 56, .inr (.inl (fun _ => 0))))] ++ ([(q6, .inl (g.2.1 0, 8, .inl (fun _ => 0)))] ++ ([(q7, .inl (g.2.1 0, 2130, .inl (fun _ => 0)))])))))))) rfl ?_
  refine z_aload_n C dX8_init_63 rfl 0 rfl ?_
  refine z_bipush (v := 14) C dX8_init_64 (by decide) ?_
  refine z_newl C 14 (by decide) (by decide +kernel) (by decide +kernel) ⟨Nat.le_of_ble_eq_true rfl, Nat.le_of_ble_eq_true rfl⟩ dX8_init_66 (fun q8 => ?_)
  refine z_putF (T := TX8) (N := 20) C hnm inX8 tyX8 tyX8_ok nmX8 (ci := 8) rfl 10 (by decide) fl8_imageSums rfl rfl (ty := (.array .long)) (by decide +kernel) 0 rfl rfl [.int 0, .int 0, .ref q1, .ref q2, .ref q3, .ref q4, .ref q5, .ref q6, .int 0, .ref q7, .null, .null, .null, .null, .null, .null, .null, .null, .int 0, .int 0] rfl (Nat.le_of_ble_eq_true rfl) dX8_init_68 ([(a, .inr (8, [.int 0, .int 0, .ref q1, .ref q2, .ref q3, .ref q4, .ref q5, .ref q6, .int 0, .ref q7, .ref q8, .null, .null, .null, .null, .null, .null, .null, .int 0, .int 0]))] ++ ([(q1, .inl (g.2.1 0, 6, .inl (fun _ => 0)))] ++ ([(q2, .inl (g.2.1 0, 1065, .inl (fun _ => 0)))] ++ ([(q3, .inl (g.2.1 1, 7, .inr (.inl (fun _ => 0))))] ++ ([(q4, .inl (g.2.1 0, 8520, .inl (fun _ => 0)))] ++ ([(q5, .inl (g.2.1 1, 56, .inr (.inl (fun _ => 0))))] ++ ([(q6, .inl (g.2.1 0, 8, .inl (fun _ => 0)))] ++ ([(q7, .inl (g.2.1 0, 2130, .inl (fun _ => 0)))] ++ ([(q8, .inl (g.2.1 1, 14, .inr (.inl (fun _ => 0))))]))))))))) rfl ?_
  refine z_aload_n C dX8_init_71 rfl 0 rfl ?_
  refine z_iconst (v := 2) C dX8_init_72 (by decide) ?_
  refine z_newz C 2 (by decide) (by decide +kernel) (by decide +kernel) ⟨Nat.le_of_ble_eq_true rfl, Nat.le_of_ble_eq_true rfl⟩ dX8_init_73 (fun q9 => ?_)
  refine z_putF (T := TX8) (N := 20) C hnm inX8 tyX8 tyX8_ok nmX8 (ci := 8) rfl 11 (by decide) fl8_isKept rfl rfl (ty := (.array .boolean)) (by decide +kernel) 0 rfl rfl [.int 0, .int 0, .ref q1, .ref q2, .ref q3, .ref q4, .ref q5, .ref q6, .int 0, .ref q7, .ref q8, .null, .null, .null, .null, .null, .null, .null, .int 0, .int 0] rfl (Nat.le_of_ble_eq_true rfl) dX8_init_75 ([(a, .inr (8, [.int 0, .int 0, .ref q1, .ref q2, .ref q3, .ref q4, .ref q5, .ref q6, .int 0, .ref q7, .ref q8, .ref q9, .null, .null, .null, .null, .null, .null, .int 0, .int 0]))] ++ ([(q1, .inl (g.2.1 0, 6, .inl (fun _ => 0)))] ++ ([(q2, .inl (g.2.1 0, 1065, .inl (fun _ => 0)))] ++ ([(q3, .inl (g.2.1 1, 7, .inr (.inl (fun _ => 0))))] ++ ([(q4, .inl (g.2.1 0, 8520, .inl (fun _ => 0)))] ++ ([(q5, .inl (g.2.1 1, 56, .inr (.inl (fun _ => 0))))] ++ ([(q6, .inl (g.2.1 0, 8, .inl (fun _ => 0)))] ++ ([(q7, .inl (g.2.1 0, 2130, .inl (fun _ => 0)))] ++ ([(q8, .inl (g.2.1 1, 14, .inr (.inl (fun _ => 0))))] ++ ([(q9, .inl (g.2.1 2, 2, .inl (fun _ => 0)))])))))))))) rfl ?_
  refine z_aload_n C dX8_init_78 rfl 0 rfl ?_
  refine z_sipush (v := 1065) C dX8_init_79 (by decide) ?_
  refine z_newi C 1065 (by decide) (by decide +kernel) (by decide +kernel) ⟨Nat.le_of_ble_eq_true rfl, Nat.le_of_ble_eq_true rfl⟩ dX8_init_82 (fun q10 => ?_)
  refine z_putF (T := TX8) (N := 20) C hnm inX8 tyX8 tyX8_ok nmX8 (ci := 8) rfl 12 (by decide) fl8_ahead rfl rfl (ty := (.array .int)) (by decide +kernel) 0 rfl rfl [.int 0, .int 0, .ref q1, .ref q2, .ref q3, .ref q4, .ref q5, .ref q6, .int 0, .ref q7, .ref q8, .ref q9, .null, .null, .null, .null, .null, .null, .int 0, .int 0] rfl (Nat.le_of_ble_eq_true rfl) dX8_init_84 ([(a, .inr (8, [.int 0, .int 0, .ref q1, .ref q2, .ref q3, .ref q4, .ref q5, .ref q6, .int 0, .ref q7, .ref q8, .ref q9, .ref q10, .null, .null, .null, .null, .null, .int 0, .int 0]))] ++ ([(q1, .inl (g.2.1 0, 6, .inl (fun _ => 0)))] ++ ([(q2, .inl (g.2.1 0, 1065, .inl (fun _ => 0)))] ++ ([(q3, .inl (g.2.1 1, 7, .inr (.inl (fun _ => 0))))] ++ ([(q4, .inl (g.2.1 0, 8520, .inl (fun _ => 0)))] ++ ([(q5, .inl (g.2.1 1, 56, .inr (.inl (fun _ => 0))))] ++ ([(q6, .inl (g.2.1 0, 8, .inl (fun _ => 0)))] ++ ([(q7, .inl (g.2.1 0, 2130, .inl (fun _ => 0)))] ++ ([(q8, .inl (g.2.1 1, 14, .inr (.inl (fun _ => 0))))] ++ ([(q9, .inl (g.2.1 2, 2, .inl (fun _ => 0)))] ++ ([(q10, .inl (g.2.1 0, 1065, .inl (fun _ => 0)))]))))))))))) rfl ?_
  refine z_aload_n C dX8_init_87 rfl 0 rfl ?_
  refine z_bipush (v := 7) C dX8_init_88 (by decide) ?_
  refine z_newl C 7 (by decide) (by decide +kernel) (by decide +kernel) ⟨Nat.le_of_ble_eq_true rfl, Nat.le_of_ble_eq_true rfl⟩ dX8_init_90 (fun q11 => ?_)
  refine z_putF (T := TX8) (N := 20) C hnm inX8 tyX8 tyX8_ok nmX8 (ci := 8) rfl 13 (by decide) fl8_aheadSums rfl rfl (ty := (.array .long)) (by decide +kernel) 0 rfl rfl [.int 0, .int 0, .ref q1, .ref q2, .ref q3, .ref q4, .ref q5, .ref q6, .int 0, .ref q7, .ref q8, .ref q9, .ref q10, .null, .null, .null, .null, .null, .int 0, .int 0] rfl (Nat.le_of_ble_eq_true rfl) dX8_init_92 ([(a, .inr (8, [.int 0, .int 0, .ref q1, .ref q2, .ref q3, .ref q4, .ref q5, .ref q6, .int 0, .ref q7, .ref q8, .ref q9, .ref q10, .ref q11, .null, .null, .null, .null, .int 0, .int 0]))] ++ ([(q1, .inl (g.2.1 0, 6, .inl (fun _ => 0)))] ++ ([(q2, .inl (g.2.1 0, 1065, .inl (fun _ => 0)))] ++ ([(q3, .inl (g.2.1 1, 7, .inr (.inl (fun _ => 0))))] ++ ([(q4, .inl (g.2.1 0, 8520, .inl (fun _ => 0)))] ++ ([(q5, .inl (g.2.1 1, 56, .inr (.inl (fun _ => 0))))] ++ ([(q6, .inl (g.2.1 0, 8, .inl (fun _ => 0)))] ++ ([(q7, .inl (g.2.1 0, 2130, .inl (fun _ => 0)))] ++ ([(q8, .inl (g.2.1 1, 14, .inr (.inl (fun _ => 0))))] ++ ([(q9, .inl (g.2.1 2, 2, .inl (fun _ => 0)))] ++ ([(q10, .inl (g.2.1 0, 1065, .inl (fun _ => 0)))] ++ ([(q11, .inl (g.2.1 1, 7, .inr (.inl (fun _ => 0))))])))))))))))) rfl ?_
  refine z_aload_n C dX8_init_95 rfl 0 rfl ?_
  refine z_iconst (v := 5) C dX8_init_96 (by decide) ?_
  refine z_newi C 5 (by decide) (by decide +kernel) (by decide +kernel) ⟨Nat.le_of_ble_eq_true rfl, Nat.le_of_ble_eq_true rfl⟩ dX8_init_97 (fun q12 => ?_)
  refine z_putF (T := TX8) (N := 20) C hnm inX8 tyX8 tyX8_ok nmX8 (ci := 8) rfl 14 (by decide) fl8_fields rfl rfl (ty := (.array .int)) (by decide +kernel) 0 rfl rfl [.int 0, .int 0, .ref q1, .ref q2, .ref q3, .ref q4, .ref q5, .ref q6, .int 0, .ref q7, .ref q8, .ref q9, .ref q10, .ref q11, .null, .null, .null, .null, .int 0, .int 0] rfl (Nat.le_of_ble_eq_true rfl) dX8_init_99 ([(a, .inr (8, [.int 0, .int 0, .ref q1, .ref q2, .ref q3, .ref q4, .ref q5, .ref q6, .int 0, .ref q7, .ref q8, .ref q9, .ref q10, .ref q11, .ref q12, .null, .null, .null, .int 0, .int 0]))] ++ ([(q1, .inl (g.2.1 0, 6, .inl (fun _ => 0)))] ++ ([(q2, .inl (g.2.1 0, 1065, .inl (fun _ => 0)))] ++ ([(q3, .inl (g.2.1 1, 7, .inr (.inl (fun _ => 0))))] ++ ([(q4, .inl (g.2.1 0, 8520, .inl (fun _ => 0)))] ++ ([(q5, .inl (g.2.1 1, 56, .inr (.inl (fun _ => 0))))] ++ ([(q6, .inl (g.2.1 0, 8, .inl (fun _ => 0)))] ++ ([(q7, .inl (g.2.1 0, 2130, .inl (fun _ => 0)))] ++ ([(q8, .inl (g.2.1 1, 14, .inr (.inl (fun _ => 0))))] ++ ([(q9, .inl (g.2.1 2, 2, .inl (fun _ => 0)))] ++ ([(q10, .inl (g.2.1 0, 1065, .inl (fun _ => 0)))] ++ ([(q11, .inl (g.2.1 1, 7, .inr (.inl (fun _ => 0))))] ++ ([(q12, .inl (g.2.1 0, 5, .inl (fun _ => 0)))]))))))))))))) rfl ?_
  refine z_aload_n C dX8_init_102 rfl 0 rfl ?_
  refine z_iconst (v := 4) C dX8_init_103 (by decide) ?_
  refine z_newi C 4 (by decide) (by decide +kernel) (by decide +kernel) ⟨Nat.le_of_ble_eq_true rfl, Nat.le_of_ble_eq_true rfl⟩ dX8_init_104 (fun q13 => ?_)
  refine z_putF (T := TX8) (N := 20) C hnm inX8 tyX8 tyX8_ok nmX8 (ci := 8) rfl 15 (by decide) fl8_share rfl rfl (ty := (.array .int)) (by decide +kernel) 0 rfl rfl [.int 0, .int 0, .ref q1, .ref q2, .ref q3, .ref q4, .ref q5, .ref q6, .int 0, .ref q7, .ref q8, .ref q9, .ref q10, .ref q11, .ref q12, .null, .null, .null, .int 0, .int 0] rfl (Nat.le_of_ble_eq_true rfl) dX8_init_106 ([(a, .inr (8, [.int 0, .int 0, .ref q1, .ref q2, .ref q3, .ref q4, .ref q5, .ref q6, .int 0, .ref q7, .ref q8, .ref q9, .ref q10, .ref q11, .ref q12, .ref q13, .null, .null, .int 0, .int 0]))] ++ ([(q1, .inl (g.2.1 0, 6, .inl (fun _ => 0)))] ++ ([(q2, .inl (g.2.1 0, 1065, .inl (fun _ => 0)))] ++ ([(q3, .inl (g.2.1 1, 7, .inr (.inl (fun _ => 0))))] ++ ([(q4, .inl (g.2.1 0, 8520, .inl (fun _ => 0)))] ++ ([(q5, .inl (g.2.1 1, 56, .inr (.inl (fun _ => 0))))] ++ ([(q6, .inl (g.2.1 0, 8, .inl (fun _ => 0)))] ++ ([(q7, .inl (g.2.1 0, 2130, .inl (fun _ => 0)))] ++ ([(q8, .inl (g.2.1 1, 14, .inr (.inl (fun _ => 0))))] ++ ([(q9, .inl (g.2.1 2, 2, .inl (fun _ => 0)))] ++ ([(q10, .inl (g.2.1 0, 1065, .inl (fun _ => 0)))] ++ ([(q11, .inl (g.2.1 1, 7, .inr (.inl (fun _ => 0))))] ++ ([(q12, .inl (g.2.1 0, 5, .inl (fun _ => 0)))] ++ ([(q13, .inl (g.2.1 0, 4, .inl (fun _ => 0)))])))))))))))))) rfl ?_
  refine z_aload_n C dX8_init_109 rfl 0 rfl ?_
  refine z_bipush (v := 16) C dX8_init_110 (by decide) ?_
  refine z_newz C 16 (by decide) (by decide +kernel) (by decide +kernel) ⟨Nat.le_of_ble_eq_true rfl, Nat.le_of_ble_eq_true rfl⟩ dX8_init_112 (fun q14 => ?_)
  refine z_putF (T := TX8) (N := 20) C hnm inX8 tyX8 tyX8_ok nmX8 (ci := 8) rfl 16 (by decide) fl8_laid rfl rfl (ty := (.array .boolean)) (by decide +kernel) 0 rfl rfl [.int 0, .int 0, .ref q1, .ref q2, .ref q3, .ref q4, .ref q5, .ref q6, .int 0, .ref q7, .ref q8, .ref q9, .ref q10, .ref q11, .ref q12, .ref q13, .null, .null, .int 0, .int 0] rfl (Nat.le_of_ble_eq_true rfl) dX8_init_114 ([(a, .inr (8, [.int 0, .int 0, .ref q1, .ref q2, .ref q3, .ref q4, .ref q5, .ref q6, .int 0, .ref q7, .ref q8, .ref q9, .ref q10, .ref q11, .ref q12, .ref q13, .ref q14, .null, .int 0, .int 0]))] ++ ([(q1, .inl (g.2.1 0, 6, .inl (fun _ => 0)))] ++ ([(q2, .inl (g.2.1 0, 1065, .inl (fun _ => 0)))] ++ ([(q3, .inl (g.2.1 1, 7, .inr (.inl (fun _ => 0))))] ++ ([(q4, .inl (g.2.1 0, 8520, .inl (fun _ => 0)))] ++ ([(q5, .inl (g.2.1 1, 56, .inr (.inl (fun _ => 0))))] ++ ([(q6, .inl (g.2.1 0, 8, .inl (fun _ => 0)))] ++ ([(q7, .inl (g.2.1 0, 2130, .inl (fun _ => 0)))] ++ ([(q8, .inl (g.2.1 1, 14, .inr (.inl (fun _ => 0))))] ++ ([(q9, .inl (g.2.1 2, 2, .inl (fun _ => 0)))] ++ ([(q10, .inl (g.2.1 0, 1065, .inl (fun _ => 0)))] ++ ([(q11, .inl (g.2.1 1, 7, .inr (.inl (fun _ => 0))))] ++ ([(q12, .inl (g.2.1 0, 5, .inl (fun _ => 0)))] ++ ([(q13, .inl (g.2.1 0, 4, .inl (fun _ => 0)))] ++ ([(q14, .inl (g.2.1 2, 16, .inl (fun _ => 0)))]))))))))))))))) rfl ?_
  refine z_aload_n C dX8_init_117 rfl 0 rfl ?_
  refine z_bipush (v := 72) C dX8_init_118 (by decide) ?_
  refine z_newi C 72 (by decide) (by decide +kernel) (by decide +kernel) ⟨Nat.le_of_ble_eq_true rfl, Nat.le_of_ble_eq_true rfl⟩ dX8_init_120 (fun q15 => ?_)
  refine z_putF (T := TX8) (N := 20) C hnm inX8 tyX8 tyX8_ok nmX8 (ci := 8) rfl 17 (by decide) fl8_open rfl rfl (ty := (.array .int)) (by decide +kernel) 0 rfl rfl [.int 0, .int 0, .ref q1, .ref q2, .ref q3, .ref q4, .ref q5, .ref q6, .int 0, .ref q7, .ref q8, .ref q9, .ref q10, .ref q11, .ref q12, .ref q13, .ref q14, .null, .int 0, .int 0] rfl (Nat.le_of_ble_eq_true rfl) dX8_init_122 ([(a, .inr (8, [.int 0, .int 0, .ref q1, .ref q2, .ref q3, .ref q4, .ref q5, .ref q6, .int 0, .ref q7, .ref q8, .ref q9, .ref q10, .ref q11, .ref q12, .ref q13, .ref q14, .ref q15, .int 0, .int 0]))] ++ ([(q1, .inl (g.2.1 0, 6, .inl (fun _ => 0)))] ++ ([(q2, .inl (g.2.1 0, 1065, .inl (fun _ => 0)))] ++ ([(q3, .inl (g.2.1 1, 7, .inr (.inl (fun _ => 0))))] ++ ([(q4, .inl (g.2.1 0, 8520, .inl (fun _ => 0)))] ++ ([(q5, .inl (g.2.1 1, 56, .inr (.inl (fun _ => 0))))] ++ ([(q6, .inl (g.2.1 0, 8, .inl (fun _ => 0)))] ++ ([(q7, .inl (g.2.1 0, 2130, .inl (fun _ => 0)))] ++ ([(q8, .inl (g.2.1 1, 14, .inr (.inl (fun _ => 0))))] ++ ([(q9, .inl (g.2.1 2, 2, .inl (fun _ => 0)))] ++ ([(q10, .inl (g.2.1 0, 1065, .inl (fun _ => 0)))] ++ ([(q11, .inl (g.2.1 1, 7, .inr (.inl (fun _ => 0))))] ++ ([(q12, .inl (g.2.1 0, 5, .inl (fun _ => 0)))] ++ ([(q13, .inl (g.2.1 0, 4, .inl (fun _ => 0)))] ++ ([(q14, .inl (g.2.1 2, 16, .inl (fun _ => 0)))] ++ ([(q15, .inl (g.2.1 0, 72, .inl (fun _ => 0)))])))))))))))))))) rfl ?_
  refine z_ws (ws1 := wR g (zad [a, q1, q2, q3, q4, q5, q6, q7, q8, q9, q10, q11, q12, q13, q14, q15]) z0) rfl ?_
  refine z_aload_n C dX8_init_125 rfl 0 rfl ?_
  refine gR_row (ad := zad [a, q1, q2, q3, q4, q5, q6, q7, q8, q9, q10, q11, q12, q13, q14, q15]) C dX8_init_126 ?_
  refine z_iconst (v := 3) C dX8_init_129 (by decide) ?_
  refine z_bipush (v := 31) C dX8_init_130 (by decide) ?_
  refine sRn_row (ad := zad [a, q1, q2, q3, q4, q5, q6, q7, q8, q9, q10, q11, q12, q13, q14, q15]) C 3 (by decide +kernel) (vp_in_iff.mpr (by decide +kernel)) dX8_init_132 ?_
  refine z_stR (fun u16 eu16 => ?_)
  refine z_aload_n C dX8_init_133 rfl 0 rfl ?_
  refine gR_row (ad := zad [a, q1, q2, q3, q4, q5, q6, q7, q8, q9, q10, q11, q12, q13, q14, q15]) C dX8_init_134 ?_
  refine z_bipush (v := 14) C dX8_init_137 (by decide) ?_
  refine z_bipush (v := 16) C dX8_init_139 (by decide) ?_
  refine sRn_row (ad := zad [a, q1, q2, q3, q4, q5, q6, q7, q8, q9, q10, q11, q12, q13, q14, q15]) C 14 (by decide +kernel) (vp_in_iff.mpr (by decide +kernel)) dX8_init_141 ?_
  refine z_stR (fun u17 eu17 => ?_)
  refine z_aload_n C dX8_init_142 rfl 0 rfl ?_
  refine gR_row (ad := zad [a, q1, q2, q3, q4, q5, q6, q7, q8, q9, q10, q11, q12, q13, q14, q15]) C dX8_init_143 ?_
  refine z_bipush (v := 15) C dX8_init_146 (by decide) ?_
  refine z_bipush (v := 8) C dX8_init_148 (by decide) ?_
  refine sRn_row (ad := zad [a, q1, q2, q3, q4, q5, q6, q7, q8, q9, q10, q11, q12, q13, q14, q15]) C 15 (by decide +kernel) (vp_in_iff.mpr (by decide +kernel)) dX8_init_150 ?_
  refine z_stR (fun u18 eu18 => ?_)
  refine z_aload_n C dX8_init_151 rfl 0 rfl ?_
  refine gR_row (ad := zad [a, q1, q2, q3, q4, q5, q6, q7, q8, q9, q10, q11, q12, q13, q14, q15]) C dX8_init_152 ?_
  refine z_bipush (v := 16) C dX8_init_155 (by decide) ?_
  refine z_bipush (v := 40) C dX8_init_157 (by decide) ?_
  refine sRn_row (ad := zad [a, q1, q2, q3, q4, q5, q6, q7, q8, q9, q10, q11, q12, q13, q14, q15]) C 16 (by decide +kernel) (vp_in_iff.mpr (by decide +kernel)) dX8_init_159 ?_
  refine z_stR (fun u19 eu19 => ?_)
  refine z_aload_n C dX8_init_160 rfl 0 rfl ?_
  refine gR_row (ad := zad [a, q1, q2, q3, q4, q5, q6, q7, q8, q9, q10, q11, q12, q13, q14, q15]) C dX8_init_161 ?_
  refine z_bipush (v := 17) C dX8_init_164 (by decide) ?_
  refine z_sipush (v := 4000) C dX8_init_166 (by decide) ?_
  refine sRn_row (ad := zad [a, q1, q2, q3, q4, q5, q6, q7, q8, q9, q10, q11, q12, q13, q14, q15]) C 17 (by decide +kernel) (vp_in_iff.mpr (by decide +kernel)) dX8_init_169 ?_
  refine z_stR (fun u20 eu20 => ?_)
  refine z_aload_n C dX8_init_170 rfl 0 rfl ?_
  refine gR_row (ad := zad [a, q1, q2, q3, q4, q5, q6, q7, q8, q9, q10, q11, q12, q13, q14, q15]) C dX8_init_171 ?_
  refine z_bipush (v := 18) C dX8_init_174 (by decide) ?_
  refine z_bipush (v := 40) C dX8_init_176 (by decide) ?_
  refine sRn_row (ad := zad [a, q1, q2, q3, q4, q5, q6, q7, q8, q9, q10, q11, q12, q13, q14, q15]) C 18 (by decide +kernel) (vp_in_iff.mpr (by decide +kernel)) dX8_init_178 ?_
  refine z_stR (fun u21 eu21 => ?_)
  refine z_aload_n C dX8_init_179 rfl 0 rfl ?_
  refine gR_row (ad := zad [a, q1, q2, q3, q4, q5, q6, q7, q8, q9, q10, q11, q12, q13, q14, q15]) C dX8_init_180 ?_
  refine z_bipush (v := 19) C dX8_init_183 (by decide) ?_
  refine z_sipush (v := 1024) C dX8_init_185 (by decide) ?_
  refine sRn_row (ad := zad [a, q1, q2, q3, q4, q5, q6, q7, q8, q9, q10, q11, q12, q13, q14, q15]) C 19 (by decide +kernel) (vp_in_iff.mpr (by decide +kernel)) dX8_init_188 ?_
  refine z_stR (fun u22 eu22 => ?_)
  refine z_aload_n C dX8_init_189 rfl 0 rfl ?_
  refine gR_row (ad := zad [a, q1, q2, q3, q4, q5, q6, q7, q8, q9, q10, q11, q12, q13, q14, q15]) C dX8_init_190 ?_
  refine z_bipush (v := 22) C dX8_init_193 (by decide) ?_
  refine z_bipush (v := 12) C dX8_init_195 (by decide) ?_
  refine sRn_row (ad := zad [a, q1, q2, q3, q4, q5, q6, q7, q8, q9, q10, q11, q12, q13, q14, q15]) C 22 (by decide +kernel) (vp_in_iff.mpr (by decide +kernel)) dX8_init_197 ?_
  refine z_stR (fun u23 eu23 => ?_)
  refine z_iconst (v := 0) C dX8_init_198 (by decide) ?_
  refine z_istore_n (lv1 := [(1, .int 0), (0, .ref a)]) C dX8_init_199 rfl (by decide) rfl ?_
  refine z_iload_n C dX8_init_200 rfl 0 rfl ?_
  refine z_bipush (v := 16) C dX8_init_201 (by decide) ?_
  refine z_icmp_ge C dX8_init_203 (tgt := 224) (by decide) (fun hc => absurd hc (by decide)) (fun _ => ?_)
  refine z_aload_n C dX8_init_206 rfl 1 rfl ?_
  refine gR_row (ad := zad [a, q1, q2, q3, q4, q5, q6, q7, q8, q9, q10, q11, q12, q13, q14, q15]) C dX8_init_207 ?_
  refine z_bipush (v := 23) C dX8_init_210 (by decide) ?_
  refine z_iload_n C dX8_init_212 rfl 0 rfl ?_
  refine z_iadd C dX8_init_213 ?_
  refine z_fold 23 (by decide) ?_
  refine z_iload_n C dX8_init_214 rfl 0 rfl ?_
  refine z_iconst (v := 4) C dX8_init_215 (by decide) ?_
  refine z_irem C dX8_init_216 (by decide) ?_
  refine z_fold 0 (by decide) ?_
  refine sRn_row (ad := zad [a, q1, q2, q3, q4, q5, q6, q7, q8, q9, q10, q11, q12, q13, q14, q15]) C 23 (by decide +kernel) (vp_in_iff.mpr (by decide +kernel)) dX8_init_217 ?_
  refine z_stR (fun u24 eu24 => ?_)
  refine z_iinc (v := 1) (lv1 := [(1, .int 1), (0, .ref a)]) C dX8_init_218 0 rfl (by decide) (by decide) rfl ?_
  refine z_goto C dX8_init_221 (tgt := 200) (by decide) ?_
  refine z_iload_n C dX8_init_200 rfl 0 rfl ?_
  refine z_bipush (v := 16) C dX8_init_201 (by decide) ?_
  refine z_icmp_ge C dX8_init_203 (tgt := 224) (by decide) (fun hc => absurd hc (by decide)) (fun _ => ?_)
  refine z_aload_n C dX8_init_206 rfl 1 rfl ?_
  refine gR_row (ad := zad [a, q1, q2, q3, q4, q5, q6, q7, q8, q9, q10, q11, q12, q13, q14, q15]) C dX8_init_207 ?_
  refine z_bipush (v := 23) C dX8_init_210 (by decide) ?_
  refine z_iload_n C dX8_init_212 rfl 0 rfl ?_
  refine z_iadd C dX8_init_213 ?_
  refine z_fold 24 (by decide) ?_
  refine z_iload_n C dX8_init_214 rfl 0 rfl ?_
  refine z_iconst (v := 4) C dX8_init_215 (by decide) ?_
  refine z_irem C dX8_init_216 (by decide) ?_
  refine z_fold 1 (by decide) ?_
  refine sRn_row (ad := zad [a, q1, q2, q3, q4, q5, q6, q7, q8, q9, q10, q11, q12, q13, q14, q15]) C 24 (by decide +kernel) (vp_in_iff.mpr (by decide +kernel)) dX8_init_217 ?_
  refine z_stR (fun u25 eu25 => ?_)
  refine z_iinc (v := 2) (lv1 := [(1, .int 2), (0, .ref a)]) C dX8_init_218 0 rfl (by decide) (by decide) rfl ?_
  refine z_goto C dX8_init_221 (tgt := 200) (by decide) ?_
  refine z_iload_n C dX8_init_200 rfl 0 rfl ?_
  refine z_bipush (v := 16) C dX8_init_201 (by decide) ?_
  refine z_icmp_ge C dX8_init_203 (tgt := 224) (by decide) (fun hc => absurd hc (by decide)) (fun _ => ?_)
  refine z_aload_n C dX8_init_206 rfl 1 rfl ?_
  refine gR_row (ad := zad [a, q1, q2, q3, q4, q5, q6, q7, q8, q9, q10, q11, q12, q13, q14, q15]) C dX8_init_207 ?_
  refine z_bipush (v := 23) C dX8_init_210 (by decide) ?_
  refine z_iload_n C dX8_init_212 rfl 0 rfl ?_
  refine z_iadd C dX8_init_213 ?_
  refine z_fold 25 (by decide) ?_
  refine z_iload_n C dX8_init_214 rfl 0 rfl ?_
  refine z_iconst (v := 4) C dX8_init_215 (by decide) ?_
  refine z_irem C dX8_init_216 (by decide) ?_
  refine z_fold 2 (by decide) ?_
  refine sRn_row (ad := zad [a, q1, q2, q3, q4, q5, q6, q7, q8, q9, q10, q11, q12, q13, q14, q15]) C 25 (by decide +kernel) (vp_in_iff.mpr (by decide +kernel)) dX8_init_217 ?_
  refine z_stR (fun u26 eu26 => ?_)
  refine z_iinc (v := 3) (lv1 := [(1, .int 3), (0, .ref a)]) C dX8_init_218 0 rfl (by decide) (by decide) rfl ?_
  refine z_goto C dX8_init_221 (tgt := 200) (by decide) ?_
  refine z_iload_n C dX8_init_200 rfl 0 rfl ?_
  refine z_bipush (v := 16) C dX8_init_201 (by decide) ?_
  refine z_icmp_ge C dX8_init_203 (tgt := 224) (by decide) (fun hc => absurd hc (by decide)) (fun _ => ?_)
  refine z_aload_n C dX8_init_206 rfl 1 rfl ?_
  refine gR_row (ad := zad [a, q1, q2, q3, q4, q5, q6, q7, q8, q9, q10, q11, q12, q13, q14, q15]) C dX8_init_207 ?_
  refine z_bipush (v := 23) C dX8_init_210 (by decide) ?_
  refine z_iload_n C dX8_init_212 rfl 0 rfl ?_
  refine z_iadd C dX8_init_213 ?_
  refine z_fold 26 (by decide) ?_
  refine z_iload_n C dX8_init_214 rfl 0 rfl ?_
  refine z_iconst (v := 4) C dX8_init_215 (by decide) ?_
  refine z_irem C dX8_init_216 (by decide) ?_
  refine z_fold 3 (by decide) ?_
  refine sRn_row (ad := zad [a, q1, q2, q3, q4, q5, q6, q7, q8, q9, q10, q11, q12, q13, q14, q15]) C 26 (by decide +kernel) (vp_in_iff.mpr (by decide +kernel)) dX8_init_217 ?_
  refine z_stR (fun u27 eu27 => ?_)
  refine z_iinc (v := 4) (lv1 := [(1, .int 4), (0, .ref a)]) C dX8_init_218 0 rfl (by decide) (by decide) rfl ?_
  refine z_goto C dX8_init_221 (tgt := 200) (by decide) ?_
  refine z_iload_n C dX8_init_200 rfl 0 rfl ?_
  refine z_bipush (v := 16) C dX8_init_201 (by decide) ?_
  refine z_icmp_ge C dX8_init_203 (tgt := 224) (by decide) (fun hc => absurd hc (by decide)) (fun _ => ?_)
  refine z_aload_n C dX8_init_206 rfl 1 rfl ?_
  refine gR_row (ad := zad [a, q1, q2, q3, q4, q5, q6, q7, q8, q9, q10, q11, q12, q13, q14, q15]) C dX8_init_207 ?_
  refine z_bipush (v := 23) C dX8_init_210 (by decide) ?_
  refine z_iload_n C dX8_init_212 rfl 0 rfl ?_
  refine z_iadd C dX8_init_213 ?_
  refine z_fold 27 (by decide) ?_
  refine z_iload_n C dX8_init_214 rfl 0 rfl ?_
  refine z_iconst (v := 4) C dX8_init_215 (by decide) ?_
  refine z_irem C dX8_init_216 (by decide) ?_
  refine z_fold 0 (by decide) ?_
  refine sRn_row (ad := zad [a, q1, q2, q3, q4, q5, q6, q7, q8, q9, q10, q11, q12, q13, q14, q15]) C 27 (by decide +kernel) (vp_in_iff.mpr (by decide +kernel)) dX8_init_217 ?_
  refine z_stR (fun u28 eu28 => ?_)
  refine z_iinc (v := 5) (lv1 := [(1, .int 5), (0, .ref a)]) C dX8_init_218 0 rfl (by decide) (by decide) rfl ?_
  refine z_goto C dX8_init_221 (tgt := 200) (by decide) ?_
  refine z_iload_n C dX8_init_200 rfl 0 rfl ?_
  refine z_bipush (v := 16) C dX8_init_201 (by decide) ?_
  refine z_icmp_ge C dX8_init_203 (tgt := 224) (by decide) (fun hc => absurd hc (by decide)) (fun _ => ?_)
  refine z_aload_n C dX8_init_206 rfl 1 rfl ?_
  refine gR_row (ad := zad [a, q1, q2, q3, q4, q5, q6, q7, q8, q9, q10, q11, q12, q13, q14, q15]) C dX8_init_207 ?_
  refine z_bipush (v := 23) C dX8_init_210 (by decide) ?_
  refine z_iload_n C dX8_init_212 rfl 0 rfl ?_
  refine z_iadd C dX8_init_213 ?_
  refine z_fold 28 (by decide) ?_
  refine z_iload_n C dX8_init_214 rfl 0 rfl ?_
  refine z_iconst (v := 4) C dX8_init_215 (by decide) ?_
  refine z_irem C dX8_init_216 (by decide) ?_
  refine z_fold 1 (by decide) ?_
  refine sRn_row (ad := zad [a, q1, q2, q3, q4, q5, q6, q7, q8, q9, q10, q11, q12, q13, q14, q15]) C 28 (by decide +kernel) (vp_in_iff.mpr (by decide +kernel)) dX8_init_217 ?_
  refine z_stR (fun u29 eu29 => ?_)
  refine z_iinc (v := 6) (lv1 := [(1, .int 6), (0, .ref a)]) C dX8_init_218 0 rfl (by decide) (by decide) rfl ?_
  refine z_goto C dX8_init_221 (tgt := 200) (by decide) ?_
  refine z_iload_n C dX8_init_200 rfl 0 rfl ?_
  refine z_bipush (v := 16) C dX8_init_201 (by decide) ?_
  refine z_icmp_ge C dX8_init_203 (tgt := 224) (by decide) (fun hc => absurd hc (by decide)) (fun _ => ?_)
  refine z_aload_n C dX8_init_206 rfl 1 rfl ?_
  refine gR_row (ad := zad [a, q1, q2, q3, q4, q5, q6, q7, q8, q9, q10, q11, q12, q13, q14, q15]) C dX8_init_207 ?_
  refine z_bipush (v := 23) C dX8_init_210 (by decide) ?_
  refine z_iload_n C dX8_init_212 rfl 0 rfl ?_
  refine z_iadd C dX8_init_213 ?_
  refine z_fold 29 (by decide) ?_
  refine z_iload_n C dX8_init_214 rfl 0 rfl ?_
  refine z_iconst (v := 4) C dX8_init_215 (by decide) ?_
  refine z_irem C dX8_init_216 (by decide) ?_
  refine z_fold 2 (by decide) ?_
  refine sRn_row (ad := zad [a, q1, q2, q3, q4, q5, q6, q7, q8, q9, q10, q11, q12, q13, q14, q15]) C 29 (by decide +kernel) (vp_in_iff.mpr (by decide +kernel)) dX8_init_217 ?_
  refine z_stR (fun u30 eu30 => ?_)
  refine z_iinc (v := 7) (lv1 := [(1, .int 7), (0, .ref a)]) C dX8_init_218 0 rfl (by decide) (by decide) rfl ?_
  refine z_goto C dX8_init_221 (tgt := 200) (by decide) ?_
  refine z_iload_n C dX8_init_200 rfl 0 rfl ?_
  refine z_bipush (v := 16) C dX8_init_201 (by decide) ?_
  refine z_icmp_ge C dX8_init_203 (tgt := 224) (by decide) (fun hc => absurd hc (by decide)) (fun _ => ?_)
  refine z_aload_n C dX8_init_206 rfl 1 rfl ?_
  refine gR_row (ad := zad [a, q1, q2, q3, q4, q5, q6, q7, q8, q9, q10, q11, q12, q13, q14, q15]) C dX8_init_207 ?_
  refine z_bipush (v := 23) C dX8_init_210 (by decide) ?_
  refine z_iload_n C dX8_init_212 rfl 0 rfl ?_
  refine z_iadd C dX8_init_213 ?_
  refine z_fold 30 (by decide) ?_
  refine z_iload_n C dX8_init_214 rfl 0 rfl ?_
  refine z_iconst (v := 4) C dX8_init_215 (by decide) ?_
  refine z_irem C dX8_init_216 (by decide) ?_
  refine z_fold 3 (by decide) ?_
  refine sRn_row (ad := zad [a, q1, q2, q3, q4, q5, q6, q7, q8, q9, q10, q11, q12, q13, q14, q15]) C 30 (by decide +kernel) (vp_in_iff.mpr (by decide +kernel)) dX8_init_217 ?_
  refine z_stR (fun u31 eu31 => ?_)
  refine z_iinc (v := 8) (lv1 := [(1, .int 8), (0, .ref a)]) C dX8_init_218 0 rfl (by decide) (by decide) rfl ?_
  refine z_goto C dX8_init_221 (tgt := 200) (by decide) ?_
  refine z_iload_n C dX8_init_200 rfl 0 rfl ?_
  refine z_bipush (v := 16) C dX8_init_201 (by decide) ?_
  refine z_icmp_ge C dX8_init_203 (tgt := 224) (by decide) (fun hc => absurd hc (by decide)) (fun _ => ?_)
  refine z_aload_n C dX8_init_206 rfl 1 rfl ?_
  refine gR_row (ad := zad [a, q1, q2, q3, q4, q5, q6, q7, q8, q9, q10, q11, q12, q13, q14, q15]) C dX8_init_207 ?_
  refine z_bipush (v := 23) C dX8_init_210 (by decide) ?_
  refine z_iload_n C dX8_init_212 rfl 0 rfl ?_
  refine z_iadd C dX8_init_213 ?_
  refine z_fold 31 (by decide) ?_
  refine z_iload_n C dX8_init_214 rfl 0 rfl ?_
  refine z_iconst (v := 4) C dX8_init_215 (by decide) ?_
  refine z_irem C dX8_init_216 (by decide) ?_
  refine z_fold 0 (by decide) ?_
  refine sRn_row (ad := zad [a, q1, q2, q3, q4, q5, q6, q7, q8, q9, q10, q11, q12, q13, q14, q15]) C 31 (by decide +kernel) (vp_in_iff.mpr (by decide +kernel)) dX8_init_217 ?_
  refine z_stR (fun u32 eu32 => ?_)
  refine z_iinc (v := 9) (lv1 := [(1, .int 9), (0, .ref a)]) C dX8_init_218 0 rfl (by decide) (by decide) rfl ?_
  refine z_goto C dX8_init_221 (tgt := 200) (by decide) ?_
  refine z_iload_n C dX8_init_200 rfl 0 rfl ?_
  refine z_bipush (v := 16) C dX8_init_201 (by decide) ?_
  refine z_icmp_ge C dX8_init_203 (tgt := 224) (by decide) (fun hc => absurd hc (by decide)) (fun _ => ?_)
  refine z_aload_n C dX8_init_206 rfl 1 rfl ?_
  refine gR_row (ad := zad [a, q1, q2, q3, q4, q5, q6, q7, q8, q9, q10, q11, q12, q13, q14, q15]) C dX8_init_207 ?_
  refine z_bipush (v := 23) C dX8_init_210 (by decide) ?_
  refine z_iload_n C dX8_init_212 rfl 0 rfl ?_
  refine z_iadd C dX8_init_213 ?_
  refine z_fold 32 (by decide) ?_
  refine z_iload_n C dX8_init_214 rfl 0 rfl ?_
  refine z_iconst (v := 4) C dX8_init_215 (by decide) ?_
  refine z_irem C dX8_init_216 (by decide) ?_
  refine z_fold 1 (by decide) ?_
  refine sRn_row (ad := zad [a, q1, q2, q3, q4, q5, q6, q7, q8, q9, q10, q11, q12, q13, q14, q15]) C 32 (by decide +kernel) (vp_in_iff.mpr (by decide +kernel)) dX8_init_217 ?_
  refine z_stR (fun u33 eu33 => ?_)
  refine z_iinc (v := 10) (lv1 := [(1, .int 10), (0, .ref a)]) C dX8_init_218 0 rfl (by decide) (by decide) rfl ?_
  refine z_goto C dX8_init_221 (tgt := 200) (by decide) ?_
  refine z_iload_n C dX8_init_200 rfl 0 rfl ?_
  refine z_bipush (v := 16) C dX8_init_201 (by decide) ?_
  refine z_icmp_ge C dX8_init_203 (tgt := 224) (by decide) (fun hc => absurd hc (by decide)) (fun _ => ?_)
  refine z_aload_n C dX8_init_206 rfl 1 rfl ?_
  refine gR_row (ad := zad [a, q1, q2, q3, q4, q5, q6, q7, q8, q9, q10, q11, q12, q13, q14, q15]) C dX8_init_207 ?_
  refine z_bipush (v := 23) C dX8_init_210 (by decide) ?_
  refine z_iload_n C dX8_init_212 rfl 0 rfl ?_
  refine z_iadd C dX8_init_213 ?_
  refine z_fold 33 (by decide) ?_
  refine z_iload_n C dX8_init_214 rfl 0 rfl ?_
  refine z_iconst (v := 4) C dX8_init_215 (by decide) ?_
  refine z_irem C dX8_init_216 (by decide) ?_
  refine z_fold 2 (by decide) ?_
  refine sRn_row (ad := zad [a, q1, q2, q3, q4, q5, q6, q7, q8, q9, q10, q11, q12, q13, q14, q15]) C 33 (by decide +kernel) (vp_in_iff.mpr (by decide +kernel)) dX8_init_217 ?_
  refine z_stR (fun u34 eu34 => ?_)
  refine z_iinc (v := 11) (lv1 := [(1, .int 11), (0, .ref a)]) C dX8_init_218 0 rfl (by decide) (by decide) rfl ?_
  refine z_goto C dX8_init_221 (tgt := 200) (by decide) ?_
  refine z_iload_n C dX8_init_200 rfl 0 rfl ?_
  refine z_bipush (v := 16) C dX8_init_201 (by decide) ?_
  refine z_icmp_ge C dX8_init_203 (tgt := 224) (by decide) (fun hc => absurd hc (by decide)) (fun _ => ?_)
  refine z_aload_n C dX8_init_206 rfl 1 rfl ?_
  refine gR_row (ad := zad [a, q1, q2, q3, q4, q5, q6, q7, q8, q9, q10, q11, q12, q13, q14, q15]) C dX8_init_207 ?_
  refine z_bipush (v := 23) C dX8_init_210 (by decide) ?_
  refine z_iload_n C dX8_init_212 rfl 0 rfl ?_
  refine z_iadd C dX8_init_213 ?_
  refine z_fold 34 (by decide) ?_
  refine z_iload_n C dX8_init_214 rfl 0 rfl ?_
  refine z_iconst (v := 4) C dX8_init_215 (by decide) ?_
  refine z_irem C dX8_init_216 (by decide) ?_
  refine z_fold 3 (by decide) ?_
  refine sRn_row (ad := zad [a, q1, q2, q3, q4, q5, q6, q7, q8, q9, q10, q11, q12, q13, q14, q15]) C 34 (by decide +kernel) (vp_in_iff.mpr (by decide +kernel)) dX8_init_217 ?_
  refine z_stR (fun u35 eu35 => ?_)
  refine z_iinc (v := 12) (lv1 := [(1, .int 12), (0, .ref a)]) C dX8_init_218 0 rfl (by decide) (by decide) rfl ?_
  refine z_goto C dX8_init_221 (tgt := 200) (by decide) ?_
  refine z_iload_n C dX8_init_200 rfl 0 rfl ?_
  refine z_bipush (v := 16) C dX8_init_201 (by decide) ?_
  refine z_icmp_ge C dX8_init_203 (tgt := 224) (by decide) (fun hc => absurd hc (by decide)) (fun _ => ?_)
  refine z_aload_n C dX8_init_206 rfl 1 rfl ?_
  refine gR_row (ad := zad [a, q1, q2, q3, q4, q5, q6, q7, q8, q9, q10, q11, q12, q13, q14, q15]) C dX8_init_207 ?_
  refine z_bipush (v := 23) C dX8_init_210 (by decide) ?_
  refine z_iload_n C dX8_init_212 rfl 0 rfl ?_
  refine z_iadd C dX8_init_213 ?_
  refine z_fold 35 (by decide) ?_
  refine z_iload_n C dX8_init_214 rfl 0 rfl ?_
  refine z_iconst (v := 4) C dX8_init_215 (by decide) ?_
  refine z_irem C dX8_init_216 (by decide) ?_
  refine z_fold 0 (by decide) ?_
  refine sRn_row (ad := zad [a, q1, q2, q3, q4, q5, q6, q7, q8, q9, q10, q11, q12, q13, q14, q15]) C 35 (by decide +kernel) (vp_in_iff.mpr (by decide +kernel)) dX8_init_217 ?_
  refine z_stR (fun u36 eu36 => ?_)
  refine z_iinc (v := 13) (lv1 := [(1, .int 13), (0, .ref a)]) C dX8_init_218 0 rfl (by decide) (by decide) rfl ?_
  refine z_goto C dX8_init_221 (tgt := 200) (by decide) ?_
  refine z_iload_n C dX8_init_200 rfl 0 rfl ?_
  refine z_bipush (v := 16) C dX8_init_201 (by decide) ?_
  refine z_icmp_ge C dX8_init_203 (tgt := 224) (by decide) (fun hc => absurd hc (by decide)) (fun _ => ?_)
  refine z_aload_n C dX8_init_206 rfl 1 rfl ?_
  refine gR_row (ad := zad [a, q1, q2, q3, q4, q5, q6, q7, q8, q9, q10, q11, q12, q13, q14, q15]) C dX8_init_207 ?_
  refine z_bipush (v := 23) C dX8_init_210 (by decide) ?_
  refine z_iload_n C dX8_init_212 rfl 0 rfl ?_
  refine z_iadd C dX8_init_213 ?_
  refine z_fold 36 (by decide) ?_
  refine z_iload_n C dX8_init_214 rfl 0 rfl ?_
  refine z_iconst (v := 4) C dX8_init_215 (by decide) ?_
  refine z_irem C dX8_init_216 (by decide) ?_
  refine z_fold 1 (by decide) ?_
  refine sRn_row (ad := zad [a, q1, q2, q3, q4, q5, q6, q7, q8, q9, q10, q11, q12, q13, q14, q15]) C 36 (by decide +kernel) (vp_in_iff.mpr (by decide +kernel)) dX8_init_217 ?_
  refine z_stR (fun u37 eu37 => ?_)
  refine z_iinc (v := 14) (lv1 := [(1, .int 14), (0, .ref a)]) C dX8_init_218 0 rfl (by decide) (by decide) rfl ?_
  refine z_goto C dX8_init_221 (tgt := 200) (by decide) ?_
  refine z_iload_n C dX8_init_200 rfl 0 rfl ?_
  refine z_bipush (v := 16) C dX8_init_201 (by decide) ?_
  refine z_icmp_ge C dX8_init_203 (tgt := 224) (by decide) (fun hc => absurd hc (by decide)) (fun _ => ?_)
  refine z_aload_n C dX8_init_206 rfl 1 rfl ?_
  refine gR_row (ad := zad [a, q1, q2, q3, q4, q5, q6, q7, q8, q9, q10, q11, q12, q13, q14, q15]) C dX8_init_207 ?_
  refine z_bipush (v := 23) C dX8_init_210 (by decide) ?_
  refine z_iload_n C dX8_init_212 rfl 0 rfl ?_
  refine z_iadd C dX8_init_213 ?_
  refine z_fold 37 (by decide) ?_
  refine z_iload_n C dX8_init_214 rfl 0 rfl ?_
  refine z_iconst (v := 4) C dX8_init_215 (by decide) ?_
  refine z_irem C dX8_init_216 (by decide) ?_
  refine z_fold 2 (by decide) ?_
  refine sRn_row (ad := zad [a, q1, q2, q3, q4, q5, q6, q7, q8, q9, q10, q11, q12, q13, q14, q15]) C 37 (by decide +kernel) (vp_in_iff.mpr (by decide +kernel)) dX8_init_217 ?_
  refine z_stR (fun u38 eu38 => ?_)
  refine z_iinc (v := 15) (lv1 := [(1, .int 15), (0, .ref a)]) C dX8_init_218 0 rfl (by decide) (by decide) rfl ?_
  refine z_goto C dX8_init_221 (tgt := 200) (by decide) ?_
  refine z_iload_n C dX8_init_200 rfl 0 rfl ?_
  refine z_bipush (v := 16) C dX8_init_201 (by decide) ?_
  refine z_icmp_ge C dX8_init_203 (tgt := 224) (by decide) (fun hc => absurd hc (by decide)) (fun _ => ?_)
  refine z_aload_n C dX8_init_206 rfl 1 rfl ?_
  refine gR_row (ad := zad [a, q1, q2, q3, q4, q5, q6, q7, q8, q9, q10, q11, q12, q13, q14, q15]) C dX8_init_207 ?_
  refine z_bipush (v := 23) C dX8_init_210 (by decide) ?_
  refine z_iload_n C dX8_init_212 rfl 0 rfl ?_
  refine z_iadd C dX8_init_213 ?_
  refine z_fold 38 (by decide) ?_
  refine z_iload_n C dX8_init_214 rfl 0 rfl ?_
  refine z_iconst (v := 4) C dX8_init_215 (by decide) ?_
  refine z_irem C dX8_init_216 (by decide) ?_
  refine z_fold 3 (by decide) ?_
  refine sRn_row (ad := zad [a, q1, q2, q3, q4, q5, q6, q7, q8, q9, q10, q11, q12, q13, q14, q15]) C 38 (by decide +kernel) (vp_in_iff.mpr (by decide +kernel)) dX8_init_217 ?_
  refine z_stR (fun u39 eu39 => ?_)
  refine z_iinc (v := 16) (lv1 := [(1, .int 16), (0, .ref a)]) C dX8_init_218 0 rfl (by decide) (by decide) rfl ?_
  refine z_goto C dX8_init_221 (tgt := 200) (by decide) ?_
  refine z_iload_n C dX8_init_200 rfl 0 rfl ?_
  refine z_bipush (v := 16) C dX8_init_201 (by decide) ?_
  refine z_icmp_ge C dX8_init_203 (tgt := 224) (by decide) (fun _ => ?_) (fun hc => absurd (by decide) hc)
  refine z_iconst (v := 0) C dX8_init_224 (by decide) ?_
  refine z_istore_n (lv1 := [(1, .int 0), (0, .ref a)]) C dX8_init_225 rfl (by decide) rfl ?_
  refine z_iload_n C dX8_init_226 rfl 0 rfl ?_
  refine z_iconst (v := 4) C dX8_init_227 (by decide) ?_
  refine z_icmp_ge C dX8_init_228 (tgt := 261) (by decide) (fun hc => absurd hc (by decide)) (fun _ => ?_)
  refine z_aload_n C dX8_init_231 rfl 1 rfl ?_
  refine gR_row (ad := zad [a, q1, q2, q3, q4, q5, q6, q7, q8, q9, q10, q11, q12, q13, q14, q15]) C dX8_init_232 ?_
  refine z_iload_n C dX8_init_235 rfl 0 rfl ?_
  refine cSi (As := [.int 0]) C (c_X8_queueAt l g 0 (fun r => r = 433) (by unfold wp_X8_queueAt; decide)) s_X8_queueAt ml8_57 ⟨Nat.le_of_ble_eq_true rfl, Nat.le_of_ble_eq_true rfl⟩ ⟨Nat.le_of_ble_eq_true rfl, Nat.le_of_ble_eq_true rfl⟩ (Nat.le_of_ble_eq_true rfl) rfl dX8_init_236 ?_
  intro r40 er40
  subst er40
  refine z_iconst (v := 1) C dX8_init_239 (by decide) ?_
  refine z_iadd C dX8_init_240 ?_
  refine z_fold 434 (by decide) ?_
  refine z_iconst (v := 4) C dX8_init_241 (by decide) ?_
  refine sRn_row (ad := zad [a, q1, q2, q3, q4, q5, q6, q7, q8, q9, q10, q11, q12, q13, q14, q15]) C 434 (by decide +kernel) (vp_in_iff.mpr (by decide +kernel)) dX8_init_242 ?_
  refine z_stR (fun u41 eu41 => ?_)
  refine z_aload_n C dX8_init_243 rfl 1 rfl ?_
  refine gR_row (ad := zad [a, q1, q2, q3, q4, q5, q6, q7, q8, q9, q10, q11, q12, q13, q14, q15]) C dX8_init_244 ?_
  refine z_iload_n C dX8_init_247 rfl 0 rfl ?_
  refine cSi (As := [.int 0]) C (c_X8_queueAt l g 0 (fun r => r = 433) (by unfold wp_X8_queueAt; decide)) s_X8_queueAt ml8_57 ⟨Nat.le_of_ble_eq_true rfl, Nat.le_of_ble_eq_true rfl⟩ ⟨Nat.le_of_ble_eq_true rfl, Nat.le_of_ble_eq_true rfl⟩ (Nat.le_of_ble_eq_true rfl) rfl dX8_init_248 ?_
  intro r42 er42
  subst er42
  refine z_iconst (v := 2) C dX8_init_251 (by decide) ?_
  refine z_iadd C dX8_init_252 ?_
  refine z_fold 435 (by decide) ?_
  refine z_iconst (v := (-1)) C dX8_init_253 (by decide) ?_
  refine sRn_row (ad := zad [a, q1, q2, q3, q4, q5, q6, q7, q8, q9, q10, q11, q12, q13, q14, q15]) C 435 (by decide +kernel) (vp_in_iff.mpr (by decide +kernel)) dX8_init_254 ?_
  refine z_stR (fun u43 eu43 => ?_)
  refine z_iinc (v := 1) (lv1 := [(1, .int 1), (0, .ref a)]) C dX8_init_255 0 rfl (by decide) (by decide) rfl ?_
  refine z_goto C dX8_init_258 (tgt := 226) (by decide) ?_
  refine z_iload_n C dX8_init_226 rfl 0 rfl ?_
  refine z_iconst (v := 4) C dX8_init_227 (by decide) ?_
  refine z_icmp_ge C dX8_init_228 (tgt := 261) (by decide) (fun hc => absurd hc (by decide)) (fun _ => ?_)
  refine z_aload_n C dX8_init_231 rfl 1 rfl ?_
  refine gR_row (ad := zad [a, q1, q2, q3, q4, q5, q6, q7, q8, q9, q10, q11, q12, q13, q14, q15]) C dX8_init_232 ?_
  refine z_iload_n C dX8_init_235 rfl 0 rfl ?_
  refine cSi (As := [.int 1]) C (c_X8_queueAt l g 1 (fun r => r = 573) (by unfold wp_X8_queueAt; decide)) s_X8_queueAt ml8_57 ⟨Nat.le_of_ble_eq_true rfl, Nat.le_of_ble_eq_true rfl⟩ ⟨Nat.le_of_ble_eq_true rfl, Nat.le_of_ble_eq_true rfl⟩ (Nat.le_of_ble_eq_true rfl) rfl dX8_init_236 ?_
  intro r44 er44
  subst er44
  refine z_iconst (v := 1) C dX8_init_239 (by decide) ?_
  refine z_iadd C dX8_init_240 ?_
  refine z_fold 574 (by decide) ?_
  refine z_iconst (v := 4) C dX8_init_241 (by decide) ?_
  refine sRn_row (ad := zad [a, q1, q2, q3, q4, q5, q6, q7, q8, q9, q10, q11, q12, q13, q14, q15]) C 574 (by decide +kernel) (vp_in_iff.mpr (by decide +kernel)) dX8_init_242 ?_
  refine z_stR (fun u45 eu45 => ?_)
  refine z_aload_n C dX8_init_243 rfl 1 rfl ?_
  refine gR_row (ad := zad [a, q1, q2, q3, q4, q5, q6, q7, q8, q9, q10, q11, q12, q13, q14, q15]) C dX8_init_244 ?_
  refine z_iload_n C dX8_init_247 rfl 0 rfl ?_
  refine cSi (As := [.int 1]) C (c_X8_queueAt l g 1 (fun r => r = 573) (by unfold wp_X8_queueAt; decide)) s_X8_queueAt ml8_57 ⟨Nat.le_of_ble_eq_true rfl, Nat.le_of_ble_eq_true rfl⟩ ⟨Nat.le_of_ble_eq_true rfl, Nat.le_of_ble_eq_true rfl⟩ (Nat.le_of_ble_eq_true rfl) rfl dX8_init_248 ?_
  intro r46 er46
  subst er46
  refine z_iconst (v := 2) C dX8_init_251 (by decide) ?_
  refine z_iadd C dX8_init_252 ?_
  refine z_fold 575 (by decide) ?_
  refine z_iconst (v := (-1)) C dX8_init_253 (by decide) ?_
  refine sRn_row (ad := zad [a, q1, q2, q3, q4, q5, q6, q7, q8, q9, q10, q11, q12, q13, q14, q15]) C 575 (by decide +kernel) (vp_in_iff.mpr (by decide +kernel)) dX8_init_254 ?_
  refine z_stR (fun u47 eu47 => ?_)
  refine z_iinc (v := 2) (lv1 := [(1, .int 2), (0, .ref a)]) C dX8_init_255 0 rfl (by decide) (by decide) rfl ?_
  refine z_goto C dX8_init_258 (tgt := 226) (by decide) ?_
  refine z_iload_n C dX8_init_226 rfl 0 rfl ?_
  refine z_iconst (v := 4) C dX8_init_227 (by decide) ?_
  refine z_icmp_ge C dX8_init_228 (tgt := 261) (by decide) (fun hc => absurd hc (by decide)) (fun _ => ?_)
  refine z_aload_n C dX8_init_231 rfl 1 rfl ?_
  refine gR_row (ad := zad [a, q1, q2, q3, q4, q5, q6, q7, q8, q9, q10, q11, q12, q13, q14, q15]) C dX8_init_232 ?_
  refine z_iload_n C dX8_init_235 rfl 0 rfl ?_
  refine cSi (As := [.int 2]) C (c_X8_queueAt l g 2 (fun r => r = 713) (by unfold wp_X8_queueAt; decide)) s_X8_queueAt ml8_57 ⟨Nat.le_of_ble_eq_true rfl, Nat.le_of_ble_eq_true rfl⟩ ⟨Nat.le_of_ble_eq_true rfl, Nat.le_of_ble_eq_true rfl⟩ (Nat.le_of_ble_eq_true rfl) rfl dX8_init_236 ?_
  intro r48 er48
  subst er48
  refine z_iconst (v := 1) C dX8_init_239 (by decide) ?_
  refine z_iadd C dX8_init_240 ?_
  refine z_fold 714 (by decide) ?_
  refine z_iconst (v := 4) C dX8_init_241 (by decide) ?_
  refine sRn_row (ad := zad [a, q1, q2, q3, q4, q5, q6, q7, q8, q9, q10, q11, q12, q13, q14, q15]) C 714 (by decide +kernel) (vp_in_iff.mpr (by decide +kernel)) dX8_init_242 ?_
  refine z_stR (fun u49 eu49 => ?_)
  refine z_aload_n C dX8_init_243 rfl 1 rfl ?_
  refine gR_row (ad := zad [a, q1, q2, q3, q4, q5, q6, q7, q8, q9, q10, q11, q12, q13, q14, q15]) C dX8_init_244 ?_
  refine z_iload_n C dX8_init_247 rfl 0 rfl ?_
  refine cSi (As := [.int 2]) C (c_X8_queueAt l g 2 (fun r => r = 713) (by unfold wp_X8_queueAt; decide)) s_X8_queueAt ml8_57 ⟨Nat.le_of_ble_eq_true rfl, Nat.le_of_ble_eq_true rfl⟩ ⟨Nat.le_of_ble_eq_true rfl, Nat.le_of_ble_eq_true rfl⟩ (Nat.le_of_ble_eq_true rfl) rfl dX8_init_248 ?_
  intro r50 er50
  subst er50
  refine z_iconst (v := 2) C dX8_init_251 (by decide) ?_
  refine z_iadd C dX8_init_252 ?_
  refine z_fold 715 (by decide) ?_
  refine z_iconst (v := (-1)) C dX8_init_253 (by decide) ?_
  refine sRn_row (ad := zad [a, q1, q2, q3, q4, q5, q6, q7, q8, q9, q10, q11, q12, q13, q14, q15]) C 715 (by decide +kernel) (vp_in_iff.mpr (by decide +kernel)) dX8_init_254 ?_
  refine z_stR (fun u51 eu51 => ?_)
  refine z_iinc (v := 3) (lv1 := [(1, .int 3), (0, .ref a)]) C dX8_init_255 0 rfl (by decide) (by decide) rfl ?_
  refine z_goto C dX8_init_258 (tgt := 226) (by decide) ?_
  refine z_iload_n C dX8_init_226 rfl 0 rfl ?_
  refine z_iconst (v := 4) C dX8_init_227 (by decide) ?_
  refine z_icmp_ge C dX8_init_228 (tgt := 261) (by decide) (fun hc => absurd hc (by decide)) (fun _ => ?_)
  refine z_aload_n C dX8_init_231 rfl 1 rfl ?_
  refine gR_row (ad := zad [a, q1, q2, q3, q4, q5, q6, q7, q8, q9, q10, q11, q12, q13, q14, q15]) C dX8_init_232 ?_
  refine z_iload_n C dX8_init_235 rfl 0 rfl ?_
  refine cSi (As := [.int 3]) C (c_X8_queueAt l g 3 (fun r => r = 853) (by unfold wp_X8_queueAt; decide)) s_X8_queueAt ml8_57 ⟨Nat.le_of_ble_eq_true rfl, Nat.le_of_ble_eq_true rfl⟩ ⟨Nat.le_of_ble_eq_true rfl, Nat.le_of_ble_eq_true rfl⟩ (Nat.le_of_ble_eq_true rfl) rfl dX8_init_236 ?_
  intro r52 er52
  subst er52
  refine z_iconst (v := 1) C dX8_init_239 (by decide) ?_
  refine z_iadd C dX8_init_240 ?_
  refine z_fold 854 (by decide) ?_
  refine z_iconst (v := 4) C dX8_init_241 (by decide) ?_
  refine sRn_row (ad := zad [a, q1, q2, q3, q4, q5, q6, q7, q8, q9, q10, q11, q12, q13, q14, q15]) C 854 (by decide +kernel) (vp_in_iff.mpr (by decide +kernel)) dX8_init_242 ?_
  refine z_stR (fun u53 eu53 => ?_)
  refine z_aload_n C dX8_init_243 rfl 1 rfl ?_
  refine gR_row (ad := zad [a, q1, q2, q3, q4, q5, q6, q7, q8, q9, q10, q11, q12, q13, q14, q15]) C dX8_init_244 ?_
  refine z_iload_n C dX8_init_247 rfl 0 rfl ?_
  refine cSi (As := [.int 3]) C (c_X8_queueAt l g 3 (fun r => r = 853) (by unfold wp_X8_queueAt; decide)) s_X8_queueAt ml8_57 ⟨Nat.le_of_ble_eq_true rfl, Nat.le_of_ble_eq_true rfl⟩ ⟨Nat.le_of_ble_eq_true rfl, Nat.le_of_ble_eq_true rfl⟩ (Nat.le_of_ble_eq_true rfl) rfl dX8_init_248 ?_
  intro r54 er54
  subst er54
  refine z_iconst (v := 2) C dX8_init_251 (by decide) ?_
  refine z_iadd C dX8_init_252 ?_
  refine z_fold 855 (by decide) ?_
  refine z_iconst (v := (-1)) C dX8_init_253 (by decide) ?_
  refine sRn_row (ad := zad [a, q1, q2, q3, q4, q5, q6, q7, q8, q9, q10, q11, q12, q13, q14, q15]) C 855 (by decide +kernel) (vp_in_iff.mpr (by decide +kernel)) dX8_init_254 ?_
  refine z_stR (fun u55 eu55 => ?_)
  refine z_iinc (v := 4) (lv1 := [(1, .int 4), (0, .ref a)]) C dX8_init_255 0 rfl (by decide) (by decide) rfl ?_
  refine z_goto C dX8_init_258 (tgt := 226) (by decide) ?_
  refine z_iload_n C dX8_init_226 rfl 0 rfl ?_
  refine z_iconst (v := 4) C dX8_init_227 (by decide) ?_
  refine z_icmp_ge C dX8_init_228 (tgt := 261) (by decide) (fun _ => ?_) (fun hc => absurd (by decide) hc)
  subst eu16
  subst eu17
  subst eu18
  subst eu19
  subst eu20
  subst eu21
  subst eu22
  subst eu23
  subst eu24
  subst eu25
  subst eu26
  subst eu27
  subst eu28
  subst eu29
  subst eu30
  subst eu31
  subst eu32
  subst eu33
  subst eu34
  subst eu35
  subst eu36
  subst eu37
  subst eu38
  subst eu39
  subst eu41
  subst eu43
  subst eu45
  subst eu47
  subst eu49
  subst eu51
  subst eu53
  subst eu55
  exact z_vret C hr (zad [a, q1, q2, q3, q4, q5, q6, q7, q8, q9, q10, q11, q12, q13, q14, q15]) rfl rfl dX8_init_261
