-- the constructor of State
def iX50 : RS := rI z0 5 zFirst
def iS : Nat → RS := fun o => [iX50, iX2, iX0, iX6, iX4, iX3, iX3, iX3, iX3].getD o z0
def wq5 (g : zG) (a q7 q10 : Nat) (ad2 ad4 ad6 ad9 ad12 ad14 ad16 ad18 : Nat → Nat) : va_W := [(a, .inr (5, [.ref (ad2 0), .ref (ad4 0), .ref (ad6 0), .ref q7, .ref (ad9 0), .ref q10, .int 0, .int 0]))] ++ (wX2 g ad2 iX2 ++ (wX0 g ad4 iX0 ++ (wX6 g ad6 iX6 ++ ([(q7, .inl (g.2.1 4, 4, .inr (.inr (.inr (.inr (fun i => some ((zad2 [zad [a, q7, q10], ad2, ad4, ad6, ad9, ad12, ad14, ad16, ad18]) (5 + i) 0)))))))] ++ (wX4 g ad9 iX4 ++ ([(q10, .inl (g.2.1 0, 9, .inl zFirst))] ++ (wX3 g ad12 iX3 ++ (wX3 g ad14 iX3 ++ (wX3 g ad16 iX3 ++ (wX3 g ad18 iX3))))))))))
theorem z_qarr {p : Program} {l : Launch} {e : Env} {R : Room} {s : State} {m : MethodId} {args : Array Value} {below : List Frame} {meth : Method} {c : Code} {g : zG} {A : Nat → Prop} {nL : Nat} {Q : State → Prop} {ws : va_W} {k n pc : Nat} {lv : List (Nat × Value)} {st : List Value} (p0 : Nat) {a n0 : Nat} {cA : ClassId} {f : Nat → Option Nat} (f1 : Nat → Option Nat) (ha : ws[p0]? = some (a, .inl (cA, n0, .inr (.inr (.inr (.inr f)))))) (hf : ∀ j, j < n0 → f j = f1 j) (ws1 : va_W) (hw : ws.set p0 (a, .inl (cA, n0, .inr (.inr (.inr (.inr f1))))) = ws1) (h : zJ p l e R s m args below meth c g A nL Q ws1 k n pc lv st) : zJ p l e R s m args below meth c g A nL Q ws k n pc lv st := by
  intro H locs ls hP hD hS hl
  subst hw
  refine h H locs ls (hP.set hD ha ?_ (fun _ _ => rfl)) (hD.set ha) hS hl
  have h0 : H[a]? = some (vp_cell cA (n0, .inr (.inr (.inr (.inr f))))) := hP p0 _ ha
  show H[a]? = some (vp_cell cA (n0, .inr (.inr (.inr (.inr f1)))))
  rw [h0, vp_cell_q, vp_cell_q]
  congr 1
  unfold arrV
  congr 1
  congr 1
  funext j
  exact congrArg va_rf (hf j.val j.isLt)
set_option maxRecDepth 40000 in
theorem wq5_eq (g : zG) (a q7 q10 : Nat) (ad2 ad4 ad6 ad9 ad12 ad14 ad16 ad18 : Nat → Nat) : ([0, 10, 17, 1, 2, 3, 4, 5, 6, 7, 8, 9, 11, 12, 13, 14, 15, 16, 18, 19, 20, 21, 22, 23, 24, 25] : List Nat).map (fun i => (wq5 g a q7 q10 ad2 ad4 ad6 ad9 ad12 ad14 ad16 ad18)[i]?) = (wS g (zad2 [zad [a, q7, q10], ad2, ad4, ad6, ad9, ad12, ad14, ad16, ad18]) iS).map some := rfl
set_option maxRecDepth 40000 in
set_option maxHeartbeats 4000000 in
theorem c_X5_init (l : Launch) (g : zG) (a : Nat) : zMv l yX5_init cX5_init 2 none 2 25 1300 g [.ref a] [(a, .inr (5, [.null, .null, .null, .null, .null, .null, .int 0, .int 0]))] (fun ad : Nat → Nat → Nat => wS g ad iS) (fun ad => ad 0 0 = a) := by
  refine zMv_of RX5 (by decide) rfl [(0, .ref a)] rfl (Nat.le_of_ble_eq_true rfl) (fun p e s m args below meth c A C hr hnm => ?_)
  refine z_aload_n C dX5_init_0 rfl 0 rfl ?_
  refine z_objI C mo5 (Nat.le_of_ble_eq_true rfl) (Nat.le_of_ble_eq_true rfl) dX5_init_1 ?_
  refine z_aload_n C dX5_init_4 rfl 0 rfl ?_
  refine z_new (T := TX2) (N := 2) C inX2 tyX2 tyX2_ok cl5_9 wI2 wN2 (ci := 2) rfl [.int 0, .null] (by intro j hj; exact (show ∀ j, j < 2 → defaultValue (tyX2 j) = vp_V [.int 0, .null] j by decide +kernel) j hj) ⟨Nat.le_of_ble_eq_true rfl, Nat.le_of_ble_eq_true rfl⟩ dX5_init_5 (fun q1 => ?_)
  refine z_dup C dX5_init_8 rfl ?_
  refine z_INv (As := []) C ([(a, .inr (5, [.null, .null, .null, .null, .null, .null, .int 0, .int 0]))]) ([(q1, .inr (2, [.int 0, .null]))]) [] rfl (c_X2_init l g q1) i_X2_init mn5_11 ⟨Nat.le_of_ble_eq_true rfl, Nat.le_of_ble_eq_true rfl⟩ ⟨Nat.le_of_ble_eq_true rfl, Nat.le_of_ble_eq_true rfl⟩ (Nat.le_of_ble_eq_true rfl) rfl dX5_init_9 (fun ad2 ead2 => ?_)
  subst ead2
  refine z_putF (T := TX5) (N := 8) C hnm inX5 tyX5 tyX5_ok nmX5 (ci := 5) rfl 0 (by decide) fl5_12 rfl rfl (ty := (.object "RxQueues$Key")) (by decide +kernel) 0 rfl rfl [.null, .null, .null, .null, .null, .null, .int 0, .int 0] rfl (Nat.le_of_ble_eq_true rfl) dX5_init_12 ([(a, .inr (5, [.ref (ad2 0), .null, .null, .null, .null, .null, .int 0, .int 0]))] ++ (wX2 g ad2 iX2)) rfl ?_
  refine z_aload_n C dX5_init_15 rfl 0 rfl ?_
  refine z_new (T := TX0) (N := 2) C inX0 tyX0 tyX0_ok cl5_18 wI0 wN0 (ci := 0) rfl [.int 0, .null] (by intro j hj; exact (show ∀ j, j < 2 → defaultValue (tyX0 j) = vp_V [.int 0, .null] j by decide +kernel) j hj) ⟨Nat.le_of_ble_eq_true rfl, Nat.le_of_ble_eq_true rfl⟩ dX5_init_16 (fun q3 => ?_)
  refine z_dup C dX5_init_19 rfl ?_
  refine z_INv (As := []) C ([(a, .inr (5, [.ref (ad2 0), .null, .null, .null, .null, .null, .int 0, .int 0]))] ++ (wX2 g ad2 iX2)) ([(q3, .inr (0, [.int 0, .null]))]) [] rfl (c_X0_init l g q3) i_X0_init mn5_20 ⟨Nat.le_of_ble_eq_true rfl, Nat.le_of_ble_eq_true rfl⟩ ⟨Nat.le_of_ble_eq_true rfl, Nat.le_of_ble_eq_true rfl⟩ (Nat.le_of_ble_eq_true rfl) rfl dX5_init_20 (fun ad4 ead4 => ?_)
  subst ead4
  refine z_putF (T := TX5) (N := 8) C hnm inX5 tyX5 tyX5_ok nmX5 (ci := 5) rfl 1 (by decide) fl5_21 rfl rfl (ty := (.object "RxQueues$Flows")) (by decide +kernel) 0 rfl rfl [.ref (ad2 0), .null, .null, .null, .null, .null, .int 0, .int 0] rfl (Nat.le_of_ble_eq_true rfl) dX5_init_23 ([(a, .inr (5, [.ref (ad2 0), .ref (ad4 0), .null, .null, .null, .null, .int 0, .int 0]))] ++ (wX2 g ad2 iX2 ++ (wX0 g ad4 iX0))) rfl ?_
  refine z_aload_n C dX5_init_26 rfl 0 rfl ?_
  refine z_new (T := TX6) (N := 4) C inX6 tyX6 tyX6_ok cl5_25 wI6 wN6 (ci := 6) rfl [.null, .null, .null, .null] (by intro j hj; exact (show ∀ j, j < 4 → defaultValue (tyX6 j) = vp_V [.null, .null, .null, .null] j by decide +kernel) j hj) ⟨Nat.le_of_ble_eq_true rfl, Nat.le_of_ble_eq_true rfl⟩ dX5_init_27 (fun q5 => ?_)
  refine z_dup C dX5_init_30 rfl ?_
  refine z_Iv (As := []) C ([(a, .inr (5, [.ref (ad2 0), .ref (ad4 0), .null, .null, .null, .null, .int 0, .int 0]))] ++ (wX2 g ad2 iX2 ++ (wX0 g ad4 iX0))) ([(q5, .inr (6, [.null, .null, .null, .null]))]) [] rfl (c_X6_init l g q5) i_X6_init ml5_27 ⟨Nat.le_of_ble_eq_true rfl, Nat.le_of_ble_eq_true rfl⟩ ⟨Nat.le_of_ble_eq_true rfl, Nat.le_of_ble_eq_true rfl⟩ (Nat.le_of_ble_eq_true rfl) rfl dX5_init_31 (fun ad6 ead6 => ?_)
  subst ead6
  refine z_putF (T := TX5) (N := 8) C hnm inX5 tyX5 tyX5_ok nmX5 (ci := 5) rfl 2 (by decide) fl5_28 rfl rfl (ty := (.object "RxQueues$Table")) (by decide +kernel) 0 rfl rfl [.ref (ad2 0), .ref (ad4 0), .null, .null, .null, .null, .int 0, .int 0] rfl (Nat.le_of_ble_eq_true rfl) dX5_init_34 ([(a, .inr (5, [.ref (ad2 0), .ref (ad4 0), .ref (ad6 0), .null, .null, .null, .int 0, .int 0]))] ++ (wX2 g ad2 iX2 ++ (wX0 g ad4 iX0 ++ (wX6 g ad6 iX6)))) rfl ?_
  refine z_aload_n C dX5_init_37 rfl 0 rfl ?_
  refine z_iconst (v := 4) C dX5_init_38 (by decide) ?_
  refine z_newq4 C 4 cl5_32 (by decide) (by decide +kernel) (by decide) ⟨Nat.le_of_ble_eq_true rfl, Nat.le_of_ble_eq_true rfl⟩ dX5_init_39 (fun q7 => ?_)
  refine z_putF (T := TX5) (N := 8) C hnm inX5 tyX5 tyX5_ok nmX5 (ci := 5) rfl 3 (by decide) fl5_34 rfl rfl (ty := (.array (.object "RxQueues$Queue"))) (by decide +kernel) 0 rfl rfl [.ref (ad2 0), .ref (ad4 0), .ref (ad6 0), .null, .null, .null, .int 0, .int 0] rfl (Nat.le_of_ble_eq_true rfl) dX5_init_42 ([(a, .inr (5, [.ref (ad2 0), .ref (ad4 0), .ref (ad6 0), .ref q7, .null, .null, .int 0, .int 0]))] ++ (wX2 g ad2 iX2 ++ (wX0 g ad4 iX0 ++ (wX6 g ad6 iX6 ++ ([(q7, .inl (g.2.1 4, 4, .inr (.inr (.inr (.inr (fun _ => none))))))]))))) rfl ?_
  refine z_aload_n C dX5_init_45 rfl 0 rfl ?_
  refine z_new (T := TX4) (N := 7) C inX4 tyX4 tyX4_ok cl5_38 wI4 wN4 (ci := 4) rfl [.int 0, .null, .int 0, .null, .null, .null, .null] (by intro j hj; exact (show ∀ j, j < 7 → defaultValue (tyX4 j) = vp_V [.int 0, .null, .int 0, .null, .null, .null, .null] j by decide +kernel) j hj) ⟨Nat.le_of_ble_eq_true rfl, Nat.le_of_ble_eq_true rfl⟩ dX5_init_46 (fun q8 => ?_)
  refine z_dup C dX5_init_49 rfl ?_
  refine z_INv (As := []) C ([(a, .inr (5, [.ref (ad2 0), .ref (ad4 0), .ref (ad6 0), .ref q7, .null, .null, .int 0, .int 0]))] ++ (wX2 g ad2 iX2 ++ (wX0 g ad4 iX0 ++ (wX6 g ad6 iX6 ++ ([(q7, .inl (g.2.1 4, 4, .inr (.inr (.inr (.inr (fun _ => none))))))]))))) ([(q8, .inr (4, [.int 0, .null, .int 0, .null, .null, .null, .null]))]) [] rfl (c_X4_init l g q8) i_X4_init mn5_40 ⟨Nat.le_of_ble_eq_true rfl, Nat.le_of_ble_eq_true rfl⟩ ⟨Nat.le_of_ble_eq_true rfl, Nat.le_of_ble_eq_true rfl⟩ (Nat.le_of_ble_eq_true rfl) rfl dX5_init_50 (fun ad9 ead9 => ?_)
  subst ead9
  refine z_putF (T := TX5) (N := 8) C hnm inX5 tyX5 tyX5_ok nmX5 (ci := 5) rfl 4 (by decide) fl5_41 rfl rfl (ty := (.object "RxQueues$Segments")) (by decide +kernel) 0 rfl rfl [.ref (ad2 0), .ref (ad4 0), .ref (ad6 0), .ref q7, .null, .null, .int 0, .int 0] rfl (Nat.le_of_ble_eq_true rfl) dX5_init_53 ([(a, .inr (5, [.ref (ad2 0), .ref (ad4 0), .ref (ad6 0), .ref q7, .ref (ad9 0), .null, .int 0, .int 0]))] ++ (wX2 g ad2 iX2 ++ (wX0 g ad4 iX0 ++ (wX6 g ad6 iX6 ++ ([(q7, .inl (g.2.1 4, 4, .inr (.inr (.inr (.inr (fun _ => none))))))] ++ (wX4 g ad9 iX4)))))) rfl ?_
  refine z_aload_n C dX5_init_56 rfl 0 rfl ?_
  refine z_getsN C C.2.2.2.2.2.2.2.1.2.1 wC7 dX5_init_57 ?_
  refine z_clone C wC5 (Nat.le_of_ble_eq_true rfl) (Nat.le_of_ble_eq_true rfl) ⟨Nat.le_of_ble_eq_true rfl, Nat.le_of_ble_eq_true rfl⟩ dX5_init_60 (fun q10 => ?_)
  refine z_castA (nm := "[I") C wC6 17 rfl dX5_init_63 ?_
  refine z_putF (T := TX5) (N := 8) C hnm inX5 tyX5 tyX5_ok nmX5 (ci := 5) rfl 5 (by decide) fl5_54 rfl rfl (ty := (.array .int)) (by decide +kernel) 0 rfl rfl [.ref (ad2 0), .ref (ad4 0), .ref (ad6 0), .ref q7, .ref (ad9 0), .null, .int 0, .int 0] rfl (Nat.le_of_ble_eq_true rfl) dX5_init_66 ([(a, .inr (5, [.ref (ad2 0), .ref (ad4 0), .ref (ad6 0), .ref q7, .ref (ad9 0), .ref q10, .int 0, .int 0]))] ++ (wX2 g ad2 iX2 ++ (wX0 g ad4 iX0 ++ (wX6 g ad6 iX6 ++ ([(q7, .inl (g.2.1 4, 4, .inr (.inr (.inr (.inr (fun _ => none))))))] ++ (wX4 g ad9 iX4 ++ ([(q10, .inl (g.2.1 0, 9, .inl zFirst))]))))))) rfl ?_
  refine z_iconst (v := 0) C dX5_init_69 (by decide) ?_
  refine z_istore_n (lv1 := [(1, .int 0), (0, .ref a)]) C dX5_init_70 rfl (by decide) rfl ?_
  refine z_iload_n C dX5_init_71 rfl 0 rfl ?_
  refine z_iconst (v := 4) C dX5_init_72 (by decide) ?_
  refine z_icmp_ge C dX5_init_73 (tgt := 95) (by decide) (fun hc => absurd hc (by decide)) (fun _ => ?_)
  refine z_aload_n C dX5_init_76 rfl 1 rfl ?_
  refine z_get (T := TX5) (N := 8) C inX5 (ci := 5) rfl 3 (by decide) fl5_34 0 rfl rfl dX5_init_77 ?_
  refine z_iload_n C dX5_init_80 rfl 0 rfl ?_
  refine z_new (T := TX3) (N := 9) C inX3 tyX3 tyX3_ok cl5_32 wI3 wN3 (ci := 3) rfl [.int 0, .int 0, .int 0, .int 0, .int 0, .int 0, .int 0, .int 0, .null] (by intro j hj; exact (show ∀ j, j < 9 → defaultValue (tyX3 j) = vp_V [.int 0, .int 0, .int 0, .int 0, .int 0, .int 0, .int 0, .int 0, .null] j by decide +kernel) j hj) ⟨Nat.le_of_ble_eq_true rfl, Nat.le_of_ble_eq_true rfl⟩ dX5_init_81 (fun q11 => ?_)
  refine z_dup C dX5_init_84 rfl ?_
  refine z_INv (As := []) C ([(a, .inr (5, [.ref (ad2 0), .ref (ad4 0), .ref (ad6 0), .ref q7, .ref (ad9 0), .ref q10, .int 0, .int 0]))] ++ (wX2 g ad2 iX2 ++ (wX0 g ad4 iX0 ++ (wX6 g ad6 iX6 ++ ([(q7, .inl (g.2.1 4, 4, .inr (.inr (.inr (.inr (fun _ => none))))))] ++ (wX4 g ad9 iX4 ++ ([(q10, .inl (g.2.1 0, 9, .inl zFirst))]))))))) ([(q11, .inr (3, [.int 0, .int 0, .int 0, .int 0, .int 0, .int 0, .int 0, .int 0, .null]))]) [] rfl (c_X3_init l g q11) i_X3_init mn5_57 ⟨Nat.le_of_ble_eq_true rfl, Nat.le_of_ble_eq_true rfl⟩ ⟨Nat.le_of_ble_eq_true rfl, Nat.le_of_ble_eq_true rfl⟩ (Nat.le_of_ble_eq_true rfl) rfl dX5_init_85 (fun ad12 ead12 => ?_)
  subst ead12
  refine z_aastq C 10 4 18 3 (r := (RX3, TX3, 9)) rfl rfl rfl rfl (vp_in_iff.mpr (by decide +kernel)) dX5_init_88 ([(a, .inr (5, [.ref (ad2 0), .ref (ad4 0), .ref (ad6 0), .ref q7, .ref (ad9 0), .ref q10, .int 0, .int 0]))] ++ (wX2 g ad2 iX2 ++ (wX0 g ad4 iX0 ++ (wX6 g ad6 iX6 ++ ([(q7, .inl (g.2.1 4, 4, .inr (.inr (.inr (.inr (va_up (fun _ => none) 0 (some (ad12 0))))))))] ++ (wX4 g ad9 iX4 ++ ([(q10, .inl (g.2.1 0, 9, .inl zFirst))] ++ (wX3 g ad12 iX3)))))))) rfl ?_
  refine z_iinc (v := 1) (lv1 := [(1, .int 1), (0, .ref a)]) C dX5_init_89 0 rfl (by decide) (by decide) rfl ?_
  refine z_goto C dX5_init_92 (tgt := 71) (by decide) ?_
  refine z_iload_n C dX5_init_71 rfl 0 rfl ?_
  refine z_iconst (v := 4) C dX5_init_72 (by decide) ?_
  refine z_icmp_ge C dX5_init_73 (tgt := 95) (by decide) (fun hc => absurd hc (by decide)) (fun _ => ?_)
  refine z_aload_n C dX5_init_76 rfl 1 rfl ?_
  refine z_get (T := TX5) (N := 8) C inX5 (ci := 5) rfl 3 (by decide) fl5_34 0 rfl rfl dX5_init_77 ?_
  refine z_iload_n C dX5_init_80 rfl 0 rfl ?_
  refine z_new (T := TX3) (N := 9) C inX3 tyX3 tyX3_ok cl5_32 wI3 wN3 (ci := 3) rfl [.int 0, .int 0, .int 0, .int 0, .int 0, .int 0, .int 0, .int 0, .null] (by intro j hj; exact (show ∀ j, j < 9 → defaultValue (tyX3 j) = vp_V [.int 0, .int 0, .int 0, .int 0, .int 0, .int 0, .int 0, .int 0, .null] j by decide +kernel) j hj) ⟨Nat.le_of_ble_eq_true rfl, Nat.le_of_ble_eq_true rfl⟩ dX5_init_81 (fun q13 => ?_)
  refine z_dup C dX5_init_84 rfl ?_
  refine z_INv (As := []) C ([(a, .inr (5, [.ref (ad2 0), .ref (ad4 0), .ref (ad6 0), .ref q7, .ref (ad9 0), .ref q10, .int 0, .int 0]))] ++ (wX2 g ad2 iX2 ++ (wX0 g ad4 iX0 ++ (wX6 g ad6 iX6 ++ ([(q7, .inl (g.2.1 4, 4, .inr (.inr (.inr (.inr (va_up (fun _ => none) 0 (some (ad12 0))))))))] ++ (wX4 g ad9 iX4 ++ ([(q10, .inl (g.2.1 0, 9, .inl zFirst))] ++ (wX3 g ad12 iX3)))))))) ([(q13, .inr (3, [.int 0, .int 0, .int 0, .int 0, .int 0, .int 0, .int 0, .int 0, .null]))]) [] rfl (c_X3_init l g q13) i_X3_init mn5_57 ⟨Nat.le_of_ble_eq_true rfl, Nat.le_of_ble_eq_true rfl⟩ ⟨Nat.le_of_ble_eq_true rfl, Nat.le_of_ble_eq_true rfl⟩ (Nat.le_of_ble_eq_true rfl) rfl dX5_init_85 (fun ad14 ead14 => ?_)
  subst ead14
  refine z_aastq C 10 4 20 3 (r := (RX3, TX3, 9)) rfl rfl rfl rfl (vp_in_iff.mpr (by decide +kernel)) dX5_init_88 ([(a, .inr (5, [.ref (ad2 0), .ref (ad4 0), .ref (ad6 0), .ref q7, .ref (ad9 0), .ref q10, .int 0, .int 0]))] ++ (wX2 g ad2 iX2 ++ (wX0 g ad4 iX0 ++ (wX6 g ad6 iX6 ++ ([(q7, .inl (g.2.1 4, 4, .inr (.inr (.inr (.inr (va_up (va_up (fun _ => none) 0 (some (ad12 0))) 1 (some (ad14 0))))))))] ++ (wX4 g ad9 iX4 ++ ([(q10, .inl (g.2.1 0, 9, .inl zFirst))] ++ (wX3 g ad12 iX3 ++ (wX3 g ad14 iX3))))))))) rfl ?_
  refine z_iinc (v := 2) (lv1 := [(1, .int 2), (0, .ref a)]) C dX5_init_89 0 rfl (by decide) (by decide) rfl ?_
  refine z_goto C dX5_init_92 (tgt := 71) (by decide) ?_
  refine z_iload_n C dX5_init_71 rfl 0 rfl ?_
  refine z_iconst (v := 4) C dX5_init_72 (by decide) ?_
  refine z_icmp_ge C dX5_init_73 (tgt := 95) (by decide) (fun hc => absurd hc (by decide)) (fun _ => ?_)
  refine z_aload_n C dX5_init_76 rfl 1 rfl ?_
  refine z_get (T := TX5) (N := 8) C inX5 (ci := 5) rfl 3 (by decide) fl5_34 0 rfl rfl dX5_init_77 ?_
  refine z_iload_n C dX5_init_80 rfl 0 rfl ?_
  refine z_new (T := TX3) (N := 9) C inX3 tyX3 tyX3_ok cl5_32 wI3 wN3 (ci := 3) rfl [.int 0, .int 0, .int 0, .int 0, .int 0, .int 0, .int 0, .int 0, .null] (by intro j hj; exact (show ∀ j, j < 9 → defaultValue (tyX3 j) = vp_V [.int 0, .int 0, .int 0, .int 0, .int 0, .int 0, .int 0, .int 0, .null] j by decide +kernel) j hj) ⟨Nat.le_of_ble_eq_true rfl, Nat.le_of_ble_eq_true rfl⟩ dX5_init_81 (fun q15 => ?_)
  refine z_dup C dX5_init_84 rfl ?_
  refine z_INv (As := []) C ([(a, .inr (5, [.ref (ad2 0), .ref (ad4 0), .ref (ad6 0), .ref q7, .ref (ad9 0), .ref q10, .int 0, .int 0]))] ++ (wX2 g ad2 iX2 ++ (wX0 g ad4 iX0 ++ (wX6 g ad6 iX6 ++ ([(q7, .inl (g.2.1 4, 4, .inr (.inr (.inr (.inr (va_up (va_up (fun _ => none) 0 (some (ad12 0))) 1 (some (ad14 0))))))))] ++ (wX4 g ad9 iX4 ++ ([(q10, .inl (g.2.1 0, 9, .inl zFirst))] ++ (wX3 g ad12 iX3 ++ (wX3 g ad14 iX3))))))))) ([(q15, .inr (3, [.int 0, .int 0, .int 0, .int 0, .int 0, .int 0, .int 0, .int 0, .null]))]) [] rfl (c_X3_init l g q15) i_X3_init mn5_57 ⟨Nat.le_of_ble_eq_true rfl, Nat.le_of_ble_eq_true rfl⟩ ⟨Nat.le_of_ble_eq_true rfl, Nat.le_of_ble_eq_true rfl⟩ (Nat.le_of_ble_eq_true rfl) rfl dX5_init_85 (fun ad16 ead16 => ?_)
  subst ead16
  refine z_aastq C 10 4 22 3 (r := (RX3, TX3, 9)) rfl rfl rfl rfl (vp_in_iff.mpr (by decide +kernel)) dX5_init_88 ([(a, .inr (5, [.ref (ad2 0), .ref (ad4 0), .ref (ad6 0), .ref q7, .ref (ad9 0), .ref q10, .int 0, .int 0]))] ++ (wX2 g ad2 iX2 ++ (wX0 g ad4 iX0 ++ (wX6 g ad6 iX6 ++ ([(q7, .inl (g.2.1 4, 4, .inr (.inr (.inr (.inr (va_up (va_up (va_up (fun _ => none) 0 (some (ad12 0))) 1 (some (ad14 0))) 2 (some (ad16 0))))))))] ++ (wX4 g ad9 iX4 ++ ([(q10, .inl (g.2.1 0, 9, .inl zFirst))] ++ (wX3 g ad12 iX3 ++ (wX3 g ad14 iX3 ++ (wX3 g ad16 iX3)))))))))) rfl ?_
  refine z_iinc (v := 3) (lv1 := [(1, .int 3), (0, .ref a)]) C dX5_init_89 0 rfl (by decide) (by decide) rfl ?_
  refine z_goto C dX5_init_92 (tgt := 71) (by decide) ?_
  refine z_iload_n C dX5_init_71 rfl 0 rfl ?_
  refine z_iconst (v := 4) C dX5_init_72 (by decide) ?_
  refine z_icmp_ge C dX5_init_73 (tgt := 95) (by decide) (fun hc => absurd hc (by decide)) (fun _ => ?_)
  refine z_aload_n C dX5_init_76 rfl 1 rfl ?_
  refine z_get (T := TX5) (N := 8) C inX5 (ci := 5) rfl 3 (by decide) fl5_34 0 rfl rfl dX5_init_77 ?_
  refine z_iload_n C dX5_init_80 rfl 0 rfl ?_
  refine z_new (T := TX3) (N := 9) C inX3 tyX3 tyX3_ok cl5_32 wI3 wN3 (ci := 3) rfl [.int 0, .int 0, .int 0, .int 0, .int 0, .int 0, .int 0, .int 0, .null] (by intro j hj; exact (show ∀ j, j < 9 → defaultValue (tyX3 j) = vp_V [.int 0, .int 0, .int 0, .int 0, .int 0, .int 0, .int 0, .int 0, .null] j by decide +kernel) j hj) ⟨Nat.le_of_ble_eq_true rfl, Nat.le_of_ble_eq_true rfl⟩ dX5_init_81 (fun q17 => ?_)
  refine z_dup C dX5_init_84 rfl ?_
  refine z_INv (As := []) C ([(a, .inr (5, [.ref (ad2 0), .ref (ad4 0), .ref (ad6 0), .ref q7, .ref (ad9 0), .ref q10, .int 0, .int 0]))] ++ (wX2 g ad2 iX2 ++ (wX0 g ad4 iX0 ++ (wX6 g ad6 iX6 ++ ([(q7, .inl (g.2.1 4, 4, .inr (.inr (.inr (.inr (va_up (va_up (va_up (fun _ => none) 0 (some (ad12 0))) 1 (some (ad14 0))) 2 (some (ad16 0))))))))] ++ (wX4 g ad9 iX4 ++ ([(q10, .inl (g.2.1 0, 9, .inl zFirst))] ++ (wX3 g ad12 iX3 ++ (wX3 g ad14 iX3 ++ (wX3 g ad16 iX3)))))))))) ([(q17, .inr (3, [.int 0, .int 0, .int 0, .int 0, .int 0, .int 0, .int 0, .int 0, .null]))]) [] rfl (c_X3_init l g q17) i_X3_init mn5_57 ⟨Nat.le_of_ble_eq_true rfl, Nat.le_of_ble_eq_true rfl⟩ ⟨Nat.le_of_ble_eq_true rfl, Nat.le_of_ble_eq_true rfl⟩ (Nat.le_of_ble_eq_true rfl) rfl dX5_init_85 (fun ad18 ead18 => ?_)
  subst ead18
  refine z_aastq C 10 4 24 3 (r := (RX3, TX3, 9)) rfl rfl rfl rfl (vp_in_iff.mpr (by decide +kernel)) dX5_init_88 ([(a, .inr (5, [.ref (ad2 0), .ref (ad4 0), .ref (ad6 0), .ref q7, .ref (ad9 0), .ref q10, .int 0, .int 0]))] ++ (wX2 g ad2 iX2 ++ (wX0 g ad4 iX0 ++ (wX6 g ad6 iX6 ++ ([(q7, .inl (g.2.1 4, 4, .inr (.inr (.inr (.inr (va_up (va_up (va_up (va_up (fun _ => none) 0 (some (ad12 0))) 1 (some (ad14 0))) 2 (some (ad16 0))) 3 (some (ad18 0))))))))] ++ (wX4 g ad9 iX4 ++ ([(q10, .inl (g.2.1 0, 9, .inl zFirst))] ++ (wX3 g ad12 iX3 ++ (wX3 g ad14 iX3 ++ (wX3 g ad16 iX3 ++ (wX3 g ad18 iX3))))))))))) rfl ?_
  refine z_iinc (v := 4) (lv1 := [(1, .int 4), (0, .ref a)]) C dX5_init_89 0 rfl (by decide) (by decide) rfl ?_
  refine z_goto C dX5_init_92 (tgt := 71) (by decide) ?_
  refine z_iload_n C dX5_init_71 rfl 0 rfl ?_
  refine z_iconst (v := 4) C dX5_init_72 (by decide) ?_
  refine z_icmp_ge C dX5_init_73 (tgt := 95) (by decide) (fun _ => ?_) (fun hc => absurd (by decide) hc)
  refine z_qarr 10 (f := (va_up (va_up (va_up (va_up (fun _ => none) 0 (some (ad12 0))) 1 (some (ad14 0))) 2 (some (ad16 0))) 3 (some (ad18 0)))) (fun i => some ((zad2 [zad [a, q7, q10], ad2, ad4, ad6, ad9, ad12, ad14, ad16, ad18]) (5 + i) 0)) rfl (fun j hj => by match j, hj with | 0, _ => rfl | 1, _ => rfl | 2, _ => rfl | 3, _ => rfl) (wq5 g a q7 q10 ad2 ad4 ad6 ad9 ad12 ad14 ad16 ad18) rfl ?_
  refine z_sub [0, 10, 17, 1, 2, 3, 4, 5, 6, 7, 8, 9, 11, 12, 13, 14, 15, 16, 18, 19, 20, 21, 22, 23, 24, 25] (by decide) (ws1 := wS g (zad2 [zad [a, q7, q10], ad2, ad4, ad6, ad9, ad12, ad14, ad16, ad18]) iS) (wq5_eq g a q7 q10 ad2 ad4 ad6 ad9 ad12 ad14 ad16 ad18) ?_
  exact z_vret C hr (zad2 [zad [a, q7, q10], ad2, ad4, ad6, ad9, ad12, ad14, ad16, ad18]) rfl rfl dX5_init_95
