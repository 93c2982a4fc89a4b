-- constructors
theorem cl5_9 : Cond.classLink RX5 9 "RxQueues$Key" ∈ zW := zW_at 81 (by decide +kernel) rfl
theorem mn5_11 : Cond.methodLinkNest RX5 11 yX2_init "RxQueues" ∈ zNest := List.mem_filter.mpr ⟨List.mem_of_getElem? (i := 83) (by decide +kernel), rfl⟩
theorem i_X2_init : zI yX2_init cX2_init 1 0 := ⟨zW_at 85 (by decide +kernel) rfl, zW_at 84 (by decide +kernel) rfl, zW_at 57 (by decide +kernel) rfl, rfl, by decide +kernel⟩
theorem cl5_18 : Cond.classLink RX5 18 "RxQueues$Flows" ∈ zW := zW_at 96 (by decide +kernel) rfl
theorem mn5_20 : Cond.methodLinkNest RX5 20 yX0_init "RxQueues" ∈ zNest := List.mem_filter.mpr ⟨List.mem_of_getElem? (i := 98) (by decide +kernel), rfl⟩
theorem i_X0_init : zI yX0_init cX0_init 1 0 := ⟨zW_at 100 (by decide +kernel) rfl, zW_at 99 (by decide +kernel) rfl, zW_at 58 (by decide +kernel) rfl, rfl, by decide +kernel⟩
theorem cl5_25 : Cond.classLink RX5 25 "RxQueues$Table" ∈ zW := zW_at 111 (by decide +kernel) rfl
theorem ml5_27 : Cond.methodLink RX5 27 yX6_init ∈ zW := zW_at 113 (by decide +kernel) rfl
theorem i_X6_init : zI yX6_init cX6_init 2 0 := ⟨zW_at 115 (by decide +kernel) rfl, zW_at 114 (by decide +kernel) rfl, zW_at 59 (by decide +kernel) rfl, rfl, by decide +kernel⟩
theorem cl5_32 : Cond.classLink RX5 32 "RxQueues$Queue" ∈ zW := zW_at 134 (by decide +kernel) rfl
theorem cl5_38 : Cond.classLink RX5 38 "RxQueues$Segments" ∈ zW := zW_at 136 (by decide +kernel) rfl
theorem mn5_40 : Cond.methodLinkNest RX5 40 yX4_init "RxQueues" ∈ zNest := List.mem_filter.mpr ⟨List.mem_of_getElem? (i := 138) (by decide +kernel), rfl⟩
theorem i_X4_init : zI yX4_init cX4_init 1 0 := ⟨zW_at 140 (by decide +kernel) rfl, zW_at 139 (by decide +kernel) rfl, zW_at 60 (by decide +kernel) rfl, rfl, by decide +kernel⟩
theorem mn5_57 : Cond.methodLinkNest RX5 57 yX3_init "RxQueues" ∈ zNest := List.mem_filter.mpr ⟨List.mem_of_getElem? (i := 177) (by decide +kernel), rfl⟩
theorem i_X3_init : zI yX3_init cX3_init 1 0 := ⟨zW_at 179 (by decide +kernel) rfl, zW_at 178 (by decide +kernel) rfl, zW_at 61 (by decide +kernel) rfl, rfl, by decide +kernel⟩
def iX0 : RS := z0
set_option maxRecDepth 40000 in
set_option maxHeartbeats 4000000 in
theorem c_X0_init (l : Launch) (g : zG) (a : Nat) : zMv l yX0_init cX0_init 1 none 1 1 480 g [.ref a] [(a, .inr (0, [.int 0, .null]))] (fun ad : Nat → Nat => wX0 g ad iX0) (fun ad => ad 0 = a) := by
  refine zMv_of RX0 (by decide) rfl [(0, .ref a)] rfl (Nat.le_of_ble_eq_true rfl) (fun p e s m args below meth c A C hr hnm => ?_)
  refine z_aload_n C dX0_init_0 rfl 0 rfl ?_
  refine z_objI C mo0 (Nat.le_of_ble_eq_true rfl) (Nat.le_of_ble_eq_true rfl) dX0_init_1 ?_
  refine z_aload_n C dX0_init_4 rfl 0 rfl ?_
  refine z_sipush (v := 480) C dX0_init_5 (by decide) ?_
  refine z_newi C 480 (by decide) (by decide +kernel) (by decide +kernel) ⟨Nat.le_of_ble_eq_true rfl, Nat.le_of_ble_eq_true rfl⟩ dX0_init_8 (fun q1 => ?_)
  refine z_putF (T := TX0) (N := 2) C hnm inX0 tyX0 tyX0_ok nmX0 (ci := 0) rfl 1 (by decide) fl0_11 rfl rfl (ty := (.array .int)) (by decide +kernel) 0 rfl rfl [.int 0, .null] rfl (Nat.le_of_ble_eq_true rfl) dX0_init_10 ([(a, .inr (0, [.int 0, .ref q1]))] ++ ([(q1, .inl (g.2.1 0, 480, .inl (fun _ => 0)))])) rfl ?_
  exact z_vret C hr (zad [a, q1]) rfl rfl dX0_init_13
def iX2 : RS := rN (z0) 0 31
set_option maxRecDepth 40000 in
set_option maxHeartbeats 4000000 in
theorem c_X2_init (l : Launch) (g : zG) (a : Nat) : zMv l yX2_init cX2_init 1 none 1 1 41 g [.ref a] [(a, .inr (2, [.int 0, .null]))] (fun ad : Nat → Nat => wX2 g ad iX2) (fun ad => ad 0 = a) := by
  refine zMv_of RX2 (by decide) rfl [(0, .ref a)] rfl (Nat.le_of_ble_eq_true rfl) (fun p e s m args below meth c A C hr hnm => ?_)
  refine z_aload_n C dX2_init_0 rfl 0 rfl ?_
  refine z_objI C mo2 (Nat.le_of_ble_eq_true rfl) (Nat.le_of_ble_eq_true rfl) dX2_init_1 ?_
  refine z_aload_n C dX2_init_4 rfl 0 rfl ?_
  refine z_bipush (v := 31) C dX2_init_5 (by decide) ?_
  refine z_puti (T := TX2) (N := 2) C inX2 tyX2 tyX2_ok nmX2 (ci := 2) rfl 0 (by decide) fl2_9 rfl (by decide +kernel) 0 (fs := [.int 0, .null]) rfl (Nat.le_of_ble_eq_true rfl) dX2_init_7 (ws1 := [(a, .inr (2, [.int 31, .null]))]) rfl ?_
  refine z_aload_n C dX2_init_10 rfl 0 rfl ?_
  refine z_bipush (v := 41) C dX2_init_11 (by decide) ?_
  refine z_newi C 41 (by decide) (by decide +kernel) (by decide +kernel) ⟨Nat.le_of_ble_eq_true rfl, Nat.le_of_ble_eq_true rfl⟩ dX2_init_13 (fun q1 => ?_)
  refine z_putF (T := TX2) (N := 2) C hnm inX2 tyX2 tyX2_ok nmX2 (ci := 2) rfl 1 (by decide) fl2_15 rfl rfl (ty := (.array .int)) (by decide +kernel) 0 rfl rfl [.int 31, .null] rfl (Nat.le_of_ble_eq_true rfl) dX2_init_15 ([(a, .inr (2, [.int 31, .ref q1]))] ++ ([(q1, .inl (g.2.1 0, 41, .inl (fun _ => 0)))])) rfl ?_
  exact z_vret C hr (zad [a, q1]) rfl rfl dX2_init_18
def iX3 : RS := rN (rN (z0) 3 4) 4 (-1)
set_option maxRecDepth 40000 in
set_option maxHeartbeats 4000000 in
theorem c_X3_init (l : Launch) (g : zG) (a : Nat) : zMv l yX3_init cX3_init 1 none 1 1 128 g [.ref a] [(a, .inr (3, [.int 0, .int 0, .int 0, .int 0, .int 0, .int 0, .int 0, .int 0, .null]))] (fun ad : Nat → Nat => wX3 g ad iX3) (fun ad => ad 0 = a) := by
  refine zMv_of RX3 (by decide) rfl [(0, .ref a)] rfl (Nat.le_of_ble_eq_true rfl) (fun p e s m args below meth c A C hr hnm => ?_)
  refine z_aload_n C dX3_init_0 rfl 0 rfl ?_
  refine z_objI C mo3 (Nat.le_of_ble_eq_true rfl) (Nat.le_of_ble_eq_true rfl) dX3_init_1 ?_
  refine z_aload_n C dX3_init_4 rfl 0 rfl ?_
  refine z_iconst (v := 4) C dX3_init_5 (by decide) ?_
  refine z_puti (T := TX3) (N := 9) C inX3 tyX3 tyX3_ok nmX3 (ci := 3) rfl 3 (by decide) fl3_9 rfl (by decide +kernel) 0 (fs := [.int 0, .int 0, .int 0, .int 0, .int 0, .int 0, .int 0, .int 0, .null]) rfl (Nat.le_of_ble_eq_true rfl) dX3_init_6 (ws1 := [(a, .inr (3, [.int 0, .int 0, .int 0, .int 4, .int 0, .int 0, .int 0, .int 0, .null]))]) rfl ?_
  refine z_aload_n C dX3_init_9 rfl 0 rfl ?_
  refine z_iconst (v := (-1)) C dX3_init_10 (by decide) ?_
  refine z_puti (T := TX3) (N := 9) C inX3 tyX3 tyX3_ok nmX3 (ci := 3) rfl 4 (by decide) fl3_15 rfl (by decide +kernel) 0 (fs := [.int 0, .int 0, .int 0, .int 4, .int 0, .int 0, .int 0, .int 0, .null]) rfl (Nat.le_of_ble_eq_true rfl) dX3_init_11 (ws1 := [(a, .inr (3, [.int 0, .int 0, .int 0, .int 4, .int (-1), .int 0, .int 0, .int 0, .null]))]) rfl ?_
  refine z_aload_n C dX3_init_14 rfl 0 rfl ?_
  refine z_sipush (v := 128) C dX3_init_15 (by decide) ?_
  refine z_newi C 128 (by decide) (by decide +kernel) (by decide +kernel) ⟨Nat.le_of_ble_eq_true rfl, Nat.le_of_ble_eq_true rfl⟩ dX3_init_18 (fun q1 => ?_)
  refine z_putF (T := TX3) (N := 9) C hnm inX3 tyX3 tyX3_ok nmX3 (ci := 3) rfl 8 (by decide) fl3_18 rfl rfl (ty := (.array .int)) (by decide +kernel) 0 rfl rfl [.int 0, .int 0, .int 0, .int 4, .int (-1), .int 0, .int 0, .int 0, .null] rfl (Nat.le_of_ble_eq_true rfl) dX3_init_20 ([(a, .inr (3, [.int 0, .int 0, .int 0, .int 4, .int (-1), .int 0, .int 0, .int 0, .ref q1]))] ++ ([(q1, .inl (g.2.1 0, 128, .inl (fun _ => 0)))])) rfl ?_
  exact z_vret C hr (zad [a, q1]) rfl rfl dX3_init_23
def iX4 : RS := z0
set_option maxRecDepth 40000 in
set_option maxHeartbeats 4000000 in
theorem c_X4_init (l : Launch) (g : zG) (a : Nat) : zMv l yX4_init cX4_init 1 none 1 5 151 g [.ref a] [(a, .inr (4, [.int 0, .null, .int 0, .null, .null, .null, .null]))] (fun ad : Nat → Nat => wX4 g ad iX4) (fun ad => ad 0 = a) := by
  refine zMv_of RX4 (by decide) rfl [(0, .ref a)] rfl (Nat.le_of_ble_eq_true rfl) (fun p e s m args below meth c A C hr hnm => ?_)
  refine z_aload_n C dX4_init_0 rfl 0 rfl ?_
  refine z_objI C mo4 (Nat.le_of_ble_eq_true rfl) (Nat.le_of_ble_eq_true rfl) dX4_init_1 ?_
  refine z_aload_n C dX4_init_4 rfl 0 rfl ?_
  refine z_bipush (v := 7) C dX4_init_5 (by decide) ?_
  refine z_newl C 7 (by decide) (by decide +kernel) (by decide +kernel) ⟨Nat.le_of_ble_eq_true rfl, Nat.le_of_ble_eq_true rfl⟩ dX4_init_7 (fun q1 => ?_)
  refine z_putF (T := TX4) (N := 7) C hnm inX4 tyX4 tyX4_ok nmX4 (ci := 4) rfl 1 (by decide) fl4_11 rfl rfl (ty := (.array .long)) (by decide +kernel) 0 rfl rfl [.int 0, .null, .int 0, .null, .null, .null, .null] rfl (Nat.le_of_ble_eq_true rfl) dX4_init_9 ([(a, .inr (4, [.int 0, .ref q1, .int 0, .null, .null, .null, .null]))] ++ ([(q1, .inl (g.2.1 1, 7, .inr (.inl (fun _ => 0))))])) rfl ?_
  refine z_aload_n C dX4_init_12 rfl 0 rfl ?_
  refine z_bipush (v := 72) C dX4_init_13 (by decide) ?_
  refine z_newi C 72 (by decide) (by decide +kernel) (by decide +kernel) ⟨Nat.le_of_ble_eq_true rfl, Nat.le_of_ble_eq_true rfl⟩ dX4_init_15 (fun q2 => ?_)
  refine z_putF (T := TX4) (N := 7) C hnm inX4 tyX4 tyX4_ok nmX4 (ci := 4) rfl 3 (by decide) fl4_15 rfl rfl (ty := (.array .int)) (by decide +kernel) 0 rfl rfl [.int 0, .ref q1, .int 0, .null, .null, .null, .null] rfl (Nat.le_of_ble_eq_true rfl) dX4_init_17 ([(a, .inr (4, [.int 0, .ref q1, .int 0, .ref q2, .null, .null, .null]))] ++ ([(q1, .inl (g.2.1 1, 7, .inr (.inl (fun _ => 0))))] ++ ([(q2, .inl (g.2.1 0, 72, .inl (fun _ => 0)))]))) rfl ?_
  refine z_aload_n C dX4_init_20 rfl 0 rfl ?_
  refine z_bipush (v := 24) C dX4_init_21 (by decide) ?_
  refine z_newi C 24 (by decide) (by decide +kernel) (by decide +kernel) ⟨Nat.le_of_ble_eq_true rfl, Nat.le_of_ble_eq_true rfl⟩ dX4_init_23 (fun q3 => ?_)
  refine z_putF (T := TX4) (N := 7) C hnm inX4 tyX4 tyX4_ok nmX4 (ci := 4) rfl 4 (by decide) fl4_19 rfl rfl (ty := (.array .int)) (by decide +kernel) 0 rfl rfl [.int 0, .ref q1, .int 0, .ref q2, .null, .null, .null] rfl (Nat.le_of_ble_eq_true rfl) dX4_init_25 ([(a, .inr (4, [.int 0, .ref q1, .int 0, .ref q2, .ref q3, .null, .null]))] ++ ([(q1, .inl (g.2.1 1, 7, .inr (.inl (fun _ => 0))))] ++ ([(q2, .inl (g.2.1 0, 72, .inl (fun _ => 0)))] ++ ([(q3, .inl (g.2.1 0, 24, .inl (fun _ => 0)))])))) rfl ?_
  refine z_aload_n C dX4_init_28 rfl 0 rfl ?_
  refine z_bipush (v := 24) C dX4_init_29 (by decide) ?_
  refine z_newi C 24 (by decide) (by decide +kernel) (by decide +kernel) ⟨Nat.le_of_ble_eq_true rfl, Nat.le_of_ble_eq_true rfl⟩ dX4_init_31 (fun q4 => ?_)
  refine z_putF (T := TX4) (N := 7) C hnm inX4 tyX4 tyX4_ok nmX4 (ci := 4) rfl 5 (by decide) fl4_22 rfl rfl (ty := (.array .int)) (by decide +kernel) 0 rfl rfl [.int 0, .ref q1, .int 0, .ref q2, .ref q3, .null, .null] rfl (Nat.le_of_ble_eq_true rfl) dX4_init_33 ([(a, .inr (4, [.int 0, .ref q1, .int 0, .ref q2, .ref q3, .ref q4, .null]))] ++ ([(q1, .inl (g.2.1 1, 7, .inr (.inl (fun _ => 0))))] ++ ([(q2, .inl (g.2.1 0, 72, .inl (fun _ => 0)))] ++ ([(q3, .inl (g.2.1 0, 24, .inl (fun _ => 0)))] ++ ([(q4, .inl (g.2.1 0, 24, .inl (fun _ => 0)))]))))) rfl ?_
  refine z_aload_n C dX4_init_36 rfl 0 rfl ?_
  refine z_bipush (v := 24) C dX4_init_37 (by decide) ?_
  refine z_newi C 24 (by decide) (by decide +kernel) (by decide +kernel) ⟨Nat.le_of_ble_eq_true rfl, Nat.le_of_ble_eq_true rfl⟩ dX4_init_39 (fun q5 => ?_)
  refine z_putF (T := TX4) (N := 7) C hnm inX4 tyX4 tyX4_ok nmX4 (ci := 4) rfl 6 (by decide) fl4_25 rfl rfl (ty := (.array .int)) (by decide +kernel) 0 rfl rfl [.int 0, .ref q1, .int 0, .ref q2, .ref q3, .ref q4, .null] rfl (Nat.le_of_ble_eq_true rfl) dX4_init_41 ([(a, .inr (4, [.int 0, .ref q1, .int 0, .ref q2, .ref q3, .ref q4, .ref q5]))] ++ ([(q1, .inl (g.2.1 1, 7, .inr (.inl (fun _ => 0))))] ++ ([(q2, .inl (g.2.1 0, 72, .inl (fun _ => 0)))] ++ ([(q3, .inl (g.2.1 0, 24, .inl (fun _ => 0)))] ++ ([(q4, .inl (g.2.1 0, 24, .inl (fun _ => 0)))] ++ ([(q5, .inl (g.2.1 0, 24, .inl (fun _ => 0)))])))))) rfl ?_
  exact z_vret C hr (zad [a, q1, q2, q3, q4, q5]) rfl rfl dX4_init_44
def iX6_1 : RS := rI z0 0 (upd (z0.1 0) 0 0)
def iX6_2 : RS := rI iX6_1 0 (upd (iX6_1.1 0) 1 1)
def iX6_3 : RS := rI iX6_2 0 (upd (iX6_2.1 0) 2 2)
def iX6_4 : RS := rI iX6_3 0 (upd (iX6_3.1 0) 3 3)
def iX6_5 : RS := rI iX6_4 0 (upd (iX6_4.1 0) 4 0)
def iX6_6 : RS := rI iX6_5 0 (upd (iX6_5.1 0) 5 1)
def iX6_7 : RS := rI iX6_6 0 (upd (iX6_6.1 0) 6 2)
def iX6_8 : RS := rI iX6_7 0 (upd (iX6_7.1 0) 7 3)
def iX6_9 : RS := rI iX6_8 0 (upd (iX6_8.1 0) 8 0)
def iX6_10 : RS := rI iX6_9 0 (upd (iX6_9.1 0) 9 1)
def iX6_11 : RS := rI iX6_10 0 (upd (iX6_10.1 0) 10 2)
def iX6_12 : RS := rI iX6_11 0 (upd (iX6_11.1 0) 11 3)
def iX6_13 : RS := rI iX6_12 0 (upd (iX6_12.1 0) 12 0)
def iX6_14 : RS := rI iX6_13 0 (upd (iX6_13.1 0) 13 1)
def iX6_15 : RS := rI iX6_14 0 (upd (iX6_14.1 0) 14 2)
def iX6_16 : RS := rI iX6_15 0 (upd (iX6_15.1 0) 15 3)
def iX6 : RS := iX6_16
set_option maxRecDepth 40000 in
set_option maxHeartbeats 4000000 in
theorem c_X6_init (l : Launch) (g : zG) (a : Nat) : zMv l yX6_init cX6_init 2 none 1 4 52 g [.ref a] [(a, .inr (6, [.null, .null, .null, .null]))] (fun ad : Nat → Nat => wX6 g ad iX6) (fun ad => ad 0 = a) := by
  refine zMv_of RX6 (by decide) rfl [(0, .ref a)] rfl (Nat.le_of_ble_eq_true rfl) (fun p e s m args below meth c A C hr hnm => ?_)
  refine z_aload_n C dX6_init_0 rfl 0 rfl ?_
  refine z_objI C mo6 (Nat.le_of_ble_eq_true rfl) (Nat.le_of_ble_eq_true rfl) dX6_init_1 ?_
  refine z_aload_n C dX6_init_4 rfl 0 rfl ?_
  refine z_bipush (v := 16) C dX6_init_5 (by decide) ?_
  refine z_newi C 16 (by decide) (by decide +kernel) (by decide +kernel) ⟨Nat.le_of_ble_eq_true rfl, Nat.le_of_ble_eq_true rfl⟩ dX6_init_7 (fun q1 => ?_)
  refine z_putF (T := TX6) (N := 4) C hnm inX6 tyX6 tyX6_ok nmX6 (ci := 6) rfl 0 (by decide) fl6_9 rfl rfl (ty := (.array .int)) (by decide +kernel) 0 rfl rfl [.null, .null, .null, .null] rfl (Nat.le_of_ble_eq_true rfl) dX6_init_9 ([(a, .inr (6, [.ref q1, .null, .null, .null]))] ++ ([(q1, .inl (g.2.1 0, 16, .inl (fun _ => 0)))])) rfl ?_
  refine z_aload_n C dX6_init_12 rfl 0 rfl ?_
  refine z_bipush (v := 16) C dX6_init_13 (by decide) ?_
  refine z_newi C 16 (by decide) (by decide +kernel) (by decide +kernel) ⟨Nat.le_of_ble_eq_true rfl, Nat.le_of_ble_eq_true rfl⟩ dX6_init_15 (fun q2 => ?_)
  refine z_putF (T := TX6) (N := 4) C hnm inX6 tyX6 tyX6_ok nmX6 (ci := 6) rfl 1 (by decide) fl6_15 rfl rfl (ty := (.array .int)) (by decide +kernel) 0 rfl rfl [.ref q1, .null, .null, .null] rfl (Nat.le_of_ble_eq_true rfl) dX6_init_17 ([(a, .inr (6, [.ref q1, .ref q2, .null, .null]))] ++ ([(q1, .inl (g.2.1 0, 16, .inl (fun _ => 0)))] ++ ([(q2, .inl (g.2.1 0, 16, .inl (fun _ => 0)))]))) rfl ?_
  refine z_aload_n C dX6_init_20 rfl 0 rfl ?_
  refine z_bipush (v := 16) C dX6_init_21 (by decide) ?_
  refine z_newi C 16 (by decide) (by decide +kernel) (by decide +kernel) ⟨Nat.le_of_ble_eq_true rfl, Nat.le_of_ble_eq_true rfl⟩ dX6_init_23 (fun q3 => ?_)
  refine z_putF (T := TX6) (N := 4) C hnm inX6 tyX6 tyX6_ok nmX6 (ci := 6) rfl 2 (by decide) fl6_18 rfl rfl (ty := (.array .int)) (by decide +kernel) 0 rfl rfl [.ref q1, .ref q2, .null, .null] rfl (Nat.le_of_ble_eq_true rfl) dX6_init_25 ([(a, .inr (6, [.ref q1, .ref q2, .ref q3, .null]))] ++ ([(q1, .inl (g.2.1 0, 16, .inl (fun _ => 0)))] ++ ([(q2, .inl (g.2.1 0, 16, .inl (fun _ => 0)))] ++ ([(q3, .inl (g.2.1 0, 16, .inl (fun _ => 0)))])))) rfl ?_
  refine z_aload_n C dX6_init_28 rfl 0 rfl ?_
  refine z_iconst (v := 4) C dX6_init_29 (by decide) ?_
  refine z_newi C 4 (by decide) (by decide +kernel) (by decide +kernel) ⟨Nat.le_of_ble_eq_true rfl, Nat.le_of_ble_eq_true rfl⟩ dX6_init_30 (fun q4 => ?_)
  refine z_putF (T := TX6) (N := 4) C hnm inX6 tyX6 tyX6_ok nmX6 (ci := 6) rfl 3 (by decide) fl6_21 rfl rfl (ty := (.array .int)) (by decide +kernel) 0 rfl rfl [.ref q1, .ref q2, .ref q3, .null] rfl (Nat.le_of_ble_eq_true rfl) dX6_init_32 ([(a, .inr (6, [.ref q1, .ref q2, .ref q3, .ref q4]))] ++ ([(q1, .inl (g.2.1 0, 16, .inl (fun _ => 0)))] ++ ([(q2, .inl (g.2.1 0, 16, .inl (fun _ => 0)))] ++ ([(q3, .inl (g.2.1 0, 16, .inl (fun _ => 0)))] ++ ([(q4, .inl (g.2.1 0, 4, .inl (fun _ => 0)))]))))) rfl ?_
  refine z_ws (ws1 := wX6 g (zad [a, q1, q2, q3, q4]) z0) rfl ?_
  refine z_iconst (v := 0) C dX6_init_35 (by decide) ?_
  refine z_istore_n (lv1 := [(1, .int 0), (0, .ref a)]) C dX6_init_36 rfl (by decide) rfl ?_
  refine z_iload_n C dX6_init_37 rfl 0 rfl ?_
  refine z_bipush (v := 16) C dX6_init_38 (by decide) ?_
  refine z_icmp_ge C dX6_init_40 (tgt := 58) (by decide) (fun hc => absurd hc (by decide)) (fun _ => ?_)
  refine z_aload_n C dX6_init_43 rfl 1 rfl ?_
  refine g6_queueOf (ad := zad [a, q1, q2, q3, q4]) C dX6_init_44 ?_
  refine z_iload_n C dX6_init_47 rfl 0 rfl ?_
  refine z_iload_n C dX6_init_48 rfl 0 rfl ?_
  refine z_iconst (v := 4) C dX6_init_49 (by decide) ?_
  refine z_irem C dX6_init_50 (by decide) ?_
  refine z_fold 0 (by decide) ?_
  refine sn6_queueOf (ad := zad [a, q1, q2, q3, q4]) C 0 (by decide +kernel) (vp_in_iff.mpr (by decide +kernel)) dX6_init_51 ?_
  refine sT6 (fun u5 eu5 => ?_)
  refine z_iinc (v := 1) (lv1 := [(1, .int 1), (0, .ref a)]) C dX6_init_52 0 rfl (by decide) (by decide) rfl ?_
  refine z_goto C dX6_init_55 (tgt := 37) (by decide) ?_
  refine z_iload_n C dX6_init_37 rfl 0 rfl ?_
  refine z_bipush (v := 16) C dX6_init_38 (by decide) ?_
  refine z_icmp_ge C dX6_init_40 (tgt := 58) (by decide) (fun hc => absurd hc (by decide)) (fun _ => ?_)
  refine z_aload_n C dX6_init_43 rfl 1 rfl ?_
  refine g6_queueOf (ad := zad [a, q1, q2, q3, q4]) C dX6_init_44 ?_
  refine z_iload_n C dX6_init_47 rfl 0 rfl ?_
  refine z_iload_n C dX6_init_48 rfl 0 rfl ?_
  refine z_iconst (v := 4) C dX6_init_49 (by decide) ?_
  refine z_irem C dX6_init_50 (by decide) ?_
  refine z_fold 1 (by decide) ?_
  refine sn6_queueOf (ad := zad [a, q1, q2, q3, q4]) C 1 (by decide +kernel) (vp_in_iff.mpr (by decide +kernel)) dX6_init_51 ?_
  refine sT6 (fun u6 eu6 => ?_)
  refine z_iinc (v := 2) (lv1 := [(1, .int 2), (0, .ref a)]) C dX6_init_52 0 rfl (by decide) (by decide) rfl ?_
  refine z_goto C dX6_init_55 (tgt := 37) (by decide) ?_
  refine z_iload_n C dX6_init_37 rfl 0 rfl ?_
  refine z_bipush (v := 16) C dX6_init_38 (by decide) ?_
  refine z_icmp_ge C dX6_init_40 (tgt := 58) (by decide) (fun hc => absurd hc (by decide)) (fun _ => ?_)
  refine z_aload_n C dX6_init_43 rfl 1 rfl ?_
  refine g6_queueOf (ad := zad [a, q1, q2, q3, q4]) C dX6_init_44 ?_
  refine z_iload_n C dX6_init_47 rfl 0 rfl ?_
  refine z_iload_n C dX6_init_48 rfl 0 rfl ?_
  refine z_iconst (v := 4) C dX6_init_49 (by decide) ?_
  refine z_irem C dX6_init_50 (by decide) ?_
  refine z_fold 2 (by decide) ?_
  refine sn6_queueOf (ad := zad [a, q1, q2, q3, q4]) C 2 (by decide +kernel) (vp_in_iff.mpr (by decide +kernel)) dX6_init_51 ?_
  refine sT6 (fun u7 eu7 => ?_)
  refine z_iinc (v := 3) (lv1 := [(1, .int 3), (0, .ref a)]) C dX6_init_52 0 rfl (by decide) (by decide) rfl ?_
  refine z_goto C dX6_init_55 (tgt := 37) (by decide) ?_
  refine z_iload_n C dX6_init_37 rfl 0 rfl ?_
  refine z_bipush (v := 16) C dX6_init_38 (by decide) ?_
  refine z_icmp_ge C dX6_init_40 (tgt := 58) (by decide) (fun hc => absurd hc (by decide)) (fun _ => ?_)
  refine z_aload_n C dX6_init_43 rfl 1 rfl ?_
  refine g6_queueOf (ad := zad [a, q1, q2, q3, q4]) C dX6_init_44 ?_
  refine z_iload_n C dX6_init_47 rfl 0 rfl ?_
  refine z_iload_n C dX6_init_48 rfl 0 rfl ?_
  refine z_iconst (v := 4) C dX6_init_49 (by decide) ?_
  refine z_irem C dX6_init_50 (by decide) ?_
  refine z_fold 3 (by decide) ?_
  refine sn6_queueOf (ad := zad [a, q1, q2, q3, q4]) C 3 (by decide +kernel) (vp_in_iff.mpr (by decide +kernel)) dX6_init_51 ?_
  refine sT6 (fun u8 eu8 => ?_)
  refine z_iinc (v := 4) (lv1 := [(1, .int 4), (0, .ref a)]) C dX6_init_52 0 rfl (by decide) (by decide) rfl ?_
  refine z_goto C dX6_init_55 (tgt := 37) (by decide) ?_
  refine z_iload_n C dX6_init_37 rfl 0 rfl ?_
  refine z_bipush (v := 16) C dX6_init_38 (by decide) ?_
  refine z_icmp_ge C dX6_init_40 (tgt := 58) (by decide) (fun hc => absurd hc (by decide)) (fun _ => ?_)
  refine z_aload_n C dX6_init_43 rfl 1 rfl ?_
  refine g6_queueOf (ad := zad [a, q1, q2, q3, q4]) C dX6_init_44 ?_
  refine z_iload_n C dX6_init_47 rfl 0 rfl ?_
  refine z_iload_n C dX6_init_48 rfl 0 rfl ?_
  refine z_iconst (v := 4) C dX6_init_49 (by decide) ?_
  refine z_irem C dX6_init_50 (by decide) ?_
  refine z_fold 0 (by decide) ?_
  refine sn6_queueOf (ad := zad [a, q1, q2, q3, q4]) C 4 (by decide +kernel) (vp_in_iff.mpr (by decide +kernel)) dX6_init_51 ?_
  refine sT6 (fun u9 eu9 => ?_)
  refine z_iinc (v := 5) (lv1 := [(1, .int 5), (0, .ref a)]) C dX6_init_52 0 rfl (by decide) (by decide) rfl ?_
  refine z_goto C dX6_init_55 (tgt := 37) (by decide) ?_
  refine z_iload_n C dX6_init_37 rfl 0 rfl ?_
  refine z_bipush (v := 16) C dX6_init_38 (by decide) ?_
  refine z_icmp_ge C dX6_init_40 (tgt := 58) (by decide) (fun hc => absurd hc (by decide)) (fun _ => ?_)
  refine z_aload_n C dX6_init_43 rfl 1 rfl ?_
  refine g6_queueOf (ad := zad [a, q1, q2, q3, q4]) C dX6_init_44 ?_
  refine z_iload_n C dX6_init_47 rfl 0 rfl ?_
  refine z_iload_n C dX6_init_48 rfl 0 rfl ?_
  refine z_iconst (v := 4) C dX6_init_49 (by decide) ?_
  refine z_irem C dX6_init_50 (by decide) ?_
  refine z_fold 1 (by decide) ?_
  refine sn6_queueOf (ad := zad [a, q1, q2, q3, q4]) C 5 (by decide +kernel) (vp_in_iff.mpr (by decide +kernel)) dX6_init_51 ?_
  refine sT6 (fun u10 eu10 => ?_)
  refine z_iinc (v := 6) (lv1 := [(1, .int 6), (0, .ref a)]) C dX6_init_52 0 rfl (by decide) (by decide) rfl ?_
  refine z_goto C dX6_init_55 (tgt := 37) (by decide) ?_
  refine z_iload_n C dX6_init_37 rfl 0 rfl ?_
  refine z_bipush (v := 16) C dX6_init_38 (by decide) ?_
  refine z_icmp_ge C dX6_init_40 (tgt := 58) (by decide) (fun hc => absurd hc (by decide)) (fun _ => ?_)
  refine z_aload_n C dX6_init_43 rfl 1 rfl ?_
  refine g6_queueOf (ad := zad [a, q1, q2, q3, q4]) C dX6_init_44 ?_
  refine z_iload_n C dX6_init_47 rfl 0 rfl ?_
  refine z_iload_n C dX6_init_48 rfl 0 rfl ?_
  refine z_iconst (v := 4) C dX6_init_49 (by decide) ?_
  refine z_irem C dX6_init_50 (by decide) ?_
  refine z_fold 2 (by decide) ?_
  refine sn6_queueOf (ad := zad [a, q1, q2, q3, q4]) C 6 (by decide +kernel) (vp_in_iff.mpr (by decide +kernel)) dX6_init_51 ?_
  refine sT6 (fun u11 eu11 => ?_)
  refine z_iinc (v := 7) (lv1 := [(1, .int 7), (0, .ref a)]) C dX6_init_52 0 rfl (by decide) (by decide) rfl ?_
  refine z_goto C dX6_init_55 (tgt := 37) (by decide) ?_
  refine z_iload_n C dX6_init_37 rfl 0 rfl ?_
  refine z_bipush (v := 16) C dX6_init_38 (by decide) ?_
  refine z_icmp_ge C dX6_init_40 (tgt := 58) (by decide) (fun hc => absurd hc (by decide)) (fun _ => ?_)
  refine z_aload_n C dX6_init_43 rfl 1 rfl ?_
  refine g6_queueOf (ad := zad [a, q1, q2, q3, q4]) C dX6_init_44 ?_
  refine z_iload_n C dX6_init_47 rfl 0 rfl ?_
  refine z_iload_n C dX6_init_48 rfl 0 rfl ?_
  refine z_iconst (v := 4) C dX6_init_49 (by decide) ?_
  refine z_irem C dX6_init_50 (by decide) ?_
  refine z_fold 3 (by decide) ?_
  refine sn6_queueOf (ad := zad [a, q1, q2, q3, q4]) C 7 (by decide +kernel) (vp_in_iff.mpr (by decide +kernel)) dX6_init_51 ?_
  refine sT6 (fun u12 eu12 => ?_)
  refine z_iinc (v := 8) (lv1 := [(1, .int 8), (0, .ref a)]) C dX6_init_52 0 rfl (by decide) (by decide) rfl ?_
  refine z_goto C dX6_init_55 (tgt := 37) (by decide) ?_
  refine z_iload_n C dX6_init_37 rfl 0 rfl ?_
  refine z_bipush (v := 16) C dX6_init_38 (by decide) ?_
  refine z_icmp_ge C dX6_init_40 (tgt := 58) (by decide) (fun hc => absurd hc (by decide)) (fun _ => ?_)
  refine z_aload_n C dX6_init_43 rfl 1 rfl ?_
  refine g6_queueOf (ad := zad [a, q1, q2, q3, q4]) C dX6_init_44 ?_
  refine z_iload_n C dX6_init_47 rfl 0 rfl ?_
  refine z_iload_n C dX6_init_48 rfl 0 rfl ?_
  refine z_iconst (v := 4) C dX6_init_49 (by decide) ?_
  refine z_irem C dX6_init_50 (by decide) ?_
  refine z_fold 0 (by decide) ?_
  refine sn6_queueOf (ad := zad [a, q1, q2, q3, q4]) C 8 (by decide +kernel) (vp_in_iff.mpr (by decide +kernel)) dX6_init_51 ?_
  refine sT6 (fun u13 eu13 => ?_)
  refine z_iinc (v := 9) (lv1 := [(1, .int 9), (0, .ref a)]) C dX6_init_52 0 rfl (by decide) (by decide) rfl ?_
  refine z_goto C dX6_init_55 (tgt := 37) (by decide) ?_
  refine z_iload_n C dX6_init_37 rfl 0 rfl ?_
  refine z_bipush (v := 16) C dX6_init_38 (by decide) ?_
  refine z_icmp_ge C dX6_init_40 (tgt := 58) (by decide) (fun hc => absurd hc (by decide)) (fun _ => ?_)
  refine z_aload_n C dX6_init_43 rfl 1 rfl ?_
  refine g6_queueOf (ad := zad [a, q1, q2, q3, q4]) C dX6_init_44 ?_
  refine z_iload_n C dX6_init_47 rfl 0 rfl ?_
  refine z_iload_n C dX6_init_48 rfl 0 rfl ?_
  refine z_iconst (v := 4) C dX6_init_49 (by decide) ?_
  refine z_irem C dX6_init_50 (by decide) ?_
  refine z_fold 1 (by decide) ?_
  refine sn6_queueOf (ad := zad [a, q1, q2, q3, q4]) C 9 (by decide +kernel) (vp_in_iff.mpr (by decide +kernel)) dX6_init_51 ?_
  refine sT6 (fun u14 eu14 => ?_)
  refine z_iinc (v := 10) (lv1 := [(1, .int 10), (0, .ref a)]) C dX6_init_52 0 rfl (by decide) (by decide) rfl ?_
  refine z_goto C dX6_init_55 (tgt := 37) (by decide) ?_
  refine z_iload_n C dX6_init_37 rfl 0 rfl ?_
  refine z_bipush (v := 16) C dX6_init_38 (by decide) ?_
  refine z_icmp_ge C dX6_init_40 (tgt := 58) (by decide) (fun hc => absurd hc (by decide)) (fun _ => ?_)
  refine z_aload_n C dX6_init_43 rfl 1 rfl ?_
  refine g6_queueOf (ad := zad [a, q1, q2, q3, q4]) C dX6_init_44 ?_
  refine z_iload_n C dX6_init_47 rfl 0 rfl ?_
  refine z_iload_n C dX6_init_48 rfl 0 rfl ?_
  refine z_iconst (v := 4) C dX6_init_49 (by decide) ?_
  refine z_irem C dX6_init_50 (by decide) ?_
  refine z_fold 2 (by decide) ?_
  refine sn6_queueOf (ad := zad [a, q1, q2, q3, q4]) C 10 (by decide +kernel) (vp_in_iff.mpr (by decide +kernel)) dX6_init_51 ?_
  refine sT6 (fun u15 eu15 => ?_)
  refine z_iinc (v := 11) (lv1 := [(1, .int 11), (0, .ref a)]) C dX6_init_52 0 rfl (by decide) (by decide) rfl ?_
  refine z_goto C dX6_init_55 (tgt := 37) (by decide) ?_
  refine z_iload_n C dX6_init_37 rfl 0 rfl ?_
  refine z_bipush (v := 16) C dX6_init_38 (by decide) ?_
  refine z_icmp_ge C dX6_init_40 (tgt := 58) (by decide) (fun hc => absurd hc (by decide)) (fun _ => ?_)
  refine z_aload_n C dX6_init_43 rfl 1 rfl ?_
  refine g6_queueOf (ad := zad [a, q1, q2, q3, q4]) C dX6_init_44 ?_
  refine z_iload_n C dX6_init_47 rfl 0 rfl ?_
  refine z_iload_n C dX6_init_48 rfl 0 rfl ?_
  refine z_iconst (v := 4) C dX6_init_49 (by decide) ?_
  refine z_irem C dX6_init_50 (by decide) ?_
  refine z_fold 3 (by decide) ?_
  refine sn6_queueOf (ad := zad [a, q1, q2, q3, q4]) C 11 (by decide +kernel) (vp_in_iff.mpr (by decide +kernel)) dX6_init_51 ?_
  refine sT6 (fun u16 eu16 => ?_)
  refine z_iinc (v := 12) (lv1 := [(1, .int 12), (0, .ref a)]) C dX6_init_52 0 rfl (by decide) (by decide) rfl ?_
  refine z_goto C dX6_init_55 (tgt := 37) (by decide) ?_
  refine z_iload_n C dX6_init_37 rfl 0 rfl ?_
  refine z_bipush (v := 16) C dX6_init_38 (by decide) ?_
  refine z_icmp_ge C dX6_init_40 (tgt := 58) (by decide) (fun hc => absurd hc (by decide)) (fun _ => ?_)
  refine z_aload_n C dX6_init_43 rfl 1 rfl ?_
  refine g6_queueOf (ad := zad [a, q1, q2, q3, q4]) C dX6_init_44 ?_
  refine z_iload_n C dX6_init_47 rfl 0 rfl ?_
  refine z_iload_n C dX6_init_48 rfl 0 rfl ?_
  refine z_iconst (v := 4) C dX6_init_49 (by decide) ?_
  refine z_irem C dX6_init_50 (by decide) ?_
  refine z_fold 0 (by decide) ?_
  refine sn6_queueOf (ad := zad [a, q1, q2, q3, q4]) C 12 (by decide +kernel) (vp_in_iff.mpr (by decide +kernel)) dX6_init_51 ?_
  refine sT6 (fun u17 eu17 => ?_)
  refine z_iinc (v := 13) (lv1 := [(1, .int 13), (0, .ref a)]) C dX6_init_52 0 rfl (by decide) (by decide) rfl ?_
  refine z_goto C dX6_init_55 (tgt := 37) (by decide) ?_
  refine z_iload_n C dX6_init_37 rfl 0 rfl ?_
  refine z_bipush (v := 16) C dX6_init_38 (by decide) ?_
  refine z_icmp_ge C dX6_init_40 (tgt := 58) (by decide) (fun hc => absurd hc (by decide)) (fun _ => ?_)
  refine z_aload_n C dX6_init_43 rfl 1 rfl ?_
  refine g6_queueOf (ad := zad [a, q1, q2, q3, q4]) C dX6_init_44 ?_
  refine z_iload_n C dX6_init_47 rfl 0 rfl ?_
  refine z_iload_n C dX6_init_48 rfl 0 rfl ?_
  refine z_iconst (v := 4) C dX6_init_49 (by decide) ?_
  refine z_irem C dX6_init_50 (by decide) ?_
  refine z_fold 1 (by decide) ?_
  refine sn6_queueOf (ad := zad [a, q1, q2, q3, q4]) C 13 (by decide +kernel) (vp_in_iff.mpr (by decide +kernel)) dX6_init_51 ?_
  refine sT6 (fun u18 eu18 => ?_)
  refine z_iinc (v := 14) (lv1 := [(1, .int 14), (0, .ref a)]) C dX6_init_52 0 rfl (by decide) (by decide) rfl ?_
  refine z_goto C dX6_init_55 (tgt := 37) (by decide) ?_
  refine z_iload_n C dX6_init_37 rfl 0 rfl ?_
  refine z_bipush (v := 16) C dX6_init_38 (by decide) ?_
  refine z_icmp_ge C dX6_init_40 (tgt := 58) (by decide) (fun hc => absurd hc (by decide)) (fun _ => ?_)
  refine z_aload_n C dX6_init_43 rfl 1 rfl ?_
  refine g6_queueOf (ad := zad [a, q1, q2, q3, q4]) C dX6_init_44 ?_
  refine z_iload_n C dX6_init_47 rfl 0 rfl ?_
  refine z_iload_n C dX6_init_48 rfl 0 rfl ?_
  refine z_iconst (v := 4) C dX6_init_49 (by decide) ?_
  refine z_irem C dX6_init_50 (by decide) ?_
  refine z_fold 2 (by decide) ?_
  refine sn6_queueOf (ad := zad [a, q1, q2, q3, q4]) C 14 (by decide +kernel) (vp_in_iff.mpr (by decide +kernel)) dX6_init_51 ?_
  refine sT6 (fun u19 eu19 => ?_)
  refine z_iinc (v := 15) (lv1 := [(1, .int 15), (0, .ref a)]) C dX6_init_52 0 rfl (by decide) (by decide) rfl ?_
  refine z_goto C dX6_init_55 (tgt := 37) (by decide) ?_
  refine z_iload_n C dX6_init_37 rfl 0 rfl ?_
  refine z_bipush (v := 16) C dX6_init_38 (by decide) ?_
  refine z_icmp_ge C dX6_init_40 (tgt := 58) (by decide) (fun hc => absurd hc (by decide)) (fun _ => ?_)
  refine z_aload_n C dX6_init_43 rfl 1 rfl ?_
  refine g6_queueOf (ad := zad [a, q1, q2, q3, q4]) C dX6_init_44 ?_
  refine z_iload_n C dX6_init_47 rfl 0 rfl ?_
  refine z_iload_n C dX6_init_48 rfl 0 rfl ?_
  refine z_iconst (v := 4) C dX6_init_49 (by decide) ?_
  refine z_irem C dX6_init_50 (by decide) ?_
  refine z_fold 3 (by decide) ?_
  refine sn6_queueOf (ad := zad [a, q1, q2, q3, q4]) C 15 (by decide +kernel) (vp_in_iff.mpr (by decide +kernel)) dX6_init_51 ?_
  refine sT6 (fun u20 eu20 => ?_)
  refine z_iinc (v := 16) (lv1 := [(1, .int 16), (0, .ref a)]) C dX6_init_52 0 rfl (by decide) (by decide) rfl ?_
  refine z_goto C dX6_init_55 (tgt := 37) (by decide) ?_
  refine z_iload_n C dX6_init_37 rfl 0 rfl ?_
  refine z_bipush (v := 16) C dX6_init_38 (by decide) ?_
  refine z_icmp_ge C dX6_init_40 (tgt := 58) (by decide) (fun _ => ?_) (fun hc => absurd (by decide) hc)
  subst eu5
  subst eu6
  subst eu7
  subst eu8
  subst eu9
  subst eu10
  subst eu11
  subst eu12
  subst eu13
  subst eu14
  subst eu15
  subst eu16
  subst eu17
  subst eu18
  subst eu19
  subst eu20
  exact z_vret C hr (zad [a, q1, q2, q3, q4]) rfl rfl dX6_init_58
