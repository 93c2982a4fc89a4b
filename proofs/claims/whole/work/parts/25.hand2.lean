-- RxQueues.image, RxQueues.back
theorem cl1_9 : Cond.classLink RX1 9 "RxQueues$State" ∈ zW := zW_at 253 (by decide +kernel) rfl
theorem cl7_16 : Cond.classLink RX7 16 "RxQueues$History" ∈ zW := zW_at 247 (by decide +kernel) rfl
theorem mn7_18 : Cond.methodLinkNest RX7 18 yX1_init "RxQueues" ∈ zNest := List.mem_filter.mpr ⟨List.mem_of_getElem? (i := 249) (by decide +kernel), rfl⟩
theorem i_X1_init : zI yX1_init cX1_init 1 0 := ⟨zW_at 251 (by decide +kernel) rfl, zW_at 250 (by decide +kernel) rfl, zW_at 62 (by decide +kernel) rfl, rfl, by decide +kernel⟩
def wp_X7_image (u : TS) (x1 : Int32) (Q : Int32 → TS → Prop) : Prop :=
  (x1 < 0 ∨ ¬ x1 < 2 → wp_X7_refuse u (-1) Q) ∧ (¬ x1 < 0 → x1 < 2 → vp_in x1 2 ∧ ∀ u1 : TS, u1 = tM u (rN u.1 4 0) → wp_X7_copied (u1.2.2.2.2 (zn x1)) u1.2.2.1 (fun q => ∀ u2 : TS, u2 = tO u1 (va_up u1.2.2.2.2 (zn x1) (some q)) → Q ((u2.2.2.1 0).1 6 0) u2))
def wp_X7_back (u : TS) (x1 : Int32) (Q : Int32 → TS → Prop) : Prop :=
  (x1 < 0 ∨ ¬ x1 < 2 → wp_X7_refuse u (-1) Q) ∧ (¬ x1 < 0 → x1 < 2 → vp_in x1 2 ∧ (u.2.2.2.2 (zn x1) = none → wp_X7_refuse u (-4) Q) ∧ (∀ q : PS, u.2.2.2.2 (zn x1) = some q → ∀ u1 : TS, u1 = tM u (rN u.1 4 0) → wp_X5_become u1.2.2.1 q.2 (fun v => ∀ u2 : TS, u2 = tN u1 v → ∀ u3 : TS, u3 = tH u2 (rN u2.2.1 0 0) → Q ((u3.2.2.1 0).1 6 0) u3)))
section WD
variable {p : Program} {l : Launch} {e : Env} {s : State} {m : MethodId} {args : Array Value} {below : List Frame} {meth : Method} {c : Code} {g : zG} {A : Nat → Prop}
theorem b_X7_image_9 (C : zC p s m args meth c g A cX7_image RX7 2) (hr : meth.sig.returnType = some .int) (ma ha : Nat → Nat) (bd : Nat → Nat → Nat) (u : TS) (x1 : Int32) (Q : Int32 → TS → Prop) (h : wp_X7_refuse u (-1) Q) : zJ p l e (zR 4 26 1308) s m args below meth c g A 2 (zQi below args s g A 26 1308 (wT g ma ha bd) Q) (wT g ma ha bd u) 0 0 9 [(0, .ref (ma 0)), (1, .int x1)] [] := by
  refine z_aload_n C dX7_image_9 rfl 0 rfl ?_
  refine z_iconst (v := (-1)) C dX7_image_10 (by decide) ?_
  refine c7i (As := [.int (-1)]) C (c_X7_refuse l g ma ha bd u (-1) _ h) v_X7_refuse ml7_38 rfl ⟨Nat.le_of_ble_eq_true rfl, Nat.le_of_ble_eq_true rfl⟩ ⟨Nat.le_of_ble_eq_true rfl, Nat.le_of_ble_eq_true rfl⟩ (Nat.le_of_ble_eq_true rfl) rfl dX7_image_11 ?_
  intro r u1 h
  refine z_wide (k1 := 26) (n1 := 1308) (Nat.le_of_ble_eq_true rfl) (Nat.le_of_ble_eq_true rfl) ?_
  exact z_iret C hr u1 rfl h dX7_image_14

theorem b_X7_image_15 (C : zC p s m args meth c g A cX7_image RX7 2) (hr : meth.sig.returnType = some .int) (ma ha : Nat → Nat) (bd : Nat → Nat → Nat) (u0 : TS) (x1 : Int32) (Q : Int32 → TS → Prop) (hin : vp_in x1 2) (h : ∀ u1 : TS, u1 = tM u0 (rN u0.1 4 0) → wp_X7_copied (u1.2.2.2.2 (zn x1)) u1.2.2.1 (fun q => ∀ u2 : TS, u2 = tO u1 (va_up u1.2.2.2.2 (zn x1) (some q)) → Q ((u2.2.2.1 0).1 6 0) u2)) : zJ p l e (zR 4 26 1308) s m args below meth c g A 2 (zQi below args s g A 26 1308 (wT g ma ha bd) Q) (wT g ma ha bd u0) 0 0 15 [(0, .ref (ma 0)), (1, .int x1)] [] := by
  refine z_aload_n C dX7_image_15 rfl 0 rfl ?_
  refine z_iconst (v := 0) C dX7_image_16 (by decide) ?_
  refine p7_latestRefusal C fl7_74 dX7_image_17 ?_
  refine stT (tM u0 (rN u0.1 4 0)) (fun u eu => ?_)
  have h := h u eu
  have hj := zn_lt hin
  refine z_aload_n C dX7_image_20 rfl 0 rfl ?_
  refine g7_images C fl7_23 dX7_image_21 ?_
  refine z_iload_n C dX7_image_24 rfl 1 rfl ?_
  refine z_aload_n C dX7_image_25 rfl 0 rfl ?_
  refine g7_images C fl7_23 dX7_image_26 ?_
  refine z_iload_n C dX7_image_29 rfl 1 rfl ?_
  refine z_aald C 1 3 (f := fun i => aO (u.2.2.2.2 i)) rfl rfl hin dX7_image_30 ?_
  refine z_aload_n C dX7_image_31 rfl 0 rfl ?_
  refine g7_now C fl7_10 dX7_image_32 ?_
  refine z_perm (wT_j g ma ha bd u u.2.2.1 (zn x1) (by omega)) ?_
  refine z_Sr (As := [va_rf (aO (u.2.2.2.2 (zn x1))), .ref (bd 0 0)]) C (wM g ma ha bd u.1 u.2.2.2.2 ++ wH g ha u.2.1 u.2.2.2.1) (wO g (u.2.2.2.2 (zn x1)) ++ wS g bd u.2.2.1) (wL g u.2.2.2.1 8 ++ wL g (va_up u.2.2.2.2 (zn x1) none) 3) rfl (c_X7_copied l g (u.2.2.2.2 (zn x1)) bd u.2.2.1 _ h) s_X7_copied ml7_182 ⟨Nat.le_of_ble_eq_true rfl, Nat.le_of_ble_eq_true rfl⟩ ⟨Nat.le_of_ble_eq_true rfl, Nat.le_of_ble_eq_true rfl⟩ (Nat.le_of_ble_eq_true rfl) rfl dX7_image_35 (fun q h => ?_)
  refine z_aastq C 1 3 7 5 (r := (RX5, TX5, 8)) (f := fun i => aO (u.2.2.2.2 i)) rfl rfl rfl rfl hin dX7_image_38 (wM g ma ha bd u.1 (va_up u.2.2.2.2 (zn x1) (some q)) ++ wH g ha u.2.1 u.2.2.2.1 ++ (wCp g bd u.2.2.1 q ++ (wL g u.2.2.2.1 8 ++ wL g (va_up u.2.2.2.2 (zn x1) none) 3))) (by unfold wM fM; rw [← aO_up, va_up_ne _ _ (by omega)]; rfl) ?_
  refine z_perm (wT_p g ma ha bd u (zn x1) (by omega) q _) ?_
  refine z_ws (ws1 := wT g ma ha bd (tO u (va_up u.2.2.2.2 (zn x1) (some q)))) rfl ?_
  refine stT (tO u (va_up u.2.2.2.2 (zn x1) (some q))) (fun u2 e2 => ?_)
  have h := h u2 e2
  refine z_aload_n C dX7_image_39 rfl 0 rfl ?_
  refine g7_now C fl7_10 dX7_image_40 ?_
  refine Tg5_time C fl7_119 dX7_image_43 ?_
  exact z_iret C hr u2 rfl h dX7_image_46
theorem b_X7_back_9 (C : zC p s m args meth c g A cX7_back RX7 2) (hr : meth.sig.returnType = some .int) (ma ha : Nat → Nat) (bd : Nat → Nat → Nat) (u : TS) (x1 : Int32) (Q : Int32 → TS → Prop) (h : wp_X7_refuse u (-1) Q) : zJ p l e (zR 3 0 0) s m args below meth c g A 2 (zQi below args s g A 0 0 (wT g ma ha bd) Q) (wT g ma ha bd u) 0 0 9 [(0, .ref (ma 0)), (1, .int x1)] [] := by
  refine z_aload_n C dX7_back_9 rfl 0 rfl ?_
  refine z_iconst (v := (-1)) C dX7_back_10 (by decide) ?_
  refine c7i (As := [.int (-1)]) C (c_X7_refuse l g ma ha bd u (-1) _ h) v_X7_refuse ml7_38 rfl ⟨Nat.le_of_ble_eq_true rfl, Nat.le_of_ble_eq_true rfl⟩ ⟨Nat.le_of_ble_eq_true rfl, Nat.le_of_ble_eq_true rfl⟩ (Nat.le_of_ble_eq_true rfl) rfl dX7_back_11 ?_
  intro r u1 h
  exact z_iret C hr u1 rfl h dX7_back_14
theorem b_X7_back_24 (C : zC p s m args meth c g A cX7_back RX7 2) (hr : meth.sig.returnType = some .int) (ma ha : Nat → Nat) (bd : Nat → Nat → Nat) (u : TS) (x1 : Int32) (Q : Int32 → TS → Prop) (h : wp_X7_refuse u (-4) Q) : zJ p l e (zR 3 0 0) s m args below meth c g A 2 (zQi below args s g A 0 0 (wT g ma ha bd) Q) (wT g ma ha bd u) 0 0 24 [(0, .ref (ma 0)), (1, .int x1)] [] := by
  refine z_aload_n C dX7_back_24 rfl 0 rfl ?_
  refine z_bipush (v := (-4)) C dX7_back_25 (by decide) ?_
  refine c7i (As := [.int (-4)]) C (c_X7_refuse l g ma ha bd u (-4) _ h) v_X7_refuse ml7_38 rfl ⟨Nat.le_of_ble_eq_true rfl, Nat.le_of_ble_eq_true rfl⟩ ⟨Nat.le_of_ble_eq_true rfl, Nat.le_of_ble_eq_true rfl⟩ (Nat.le_of_ble_eq_true rfl) rfl dX7_back_27 ?_
  intro r u1 h
  exact z_iret C hr u1 rfl h dX7_back_30

theorem b_X7_back_31 (C : zC p s m args meth c g A cX7_back RX7 2) (hr : meth.sig.returnType = some .int) (ma ha : Nat → Nat) (bd : Nat → Nat → Nat) (u0 : TS) (x1 : Int32) (Q : Int32 → TS → Prop) (hin : vp_in x1 2) (q : PS) (hq : u0.2.2.2.2 (zn x1) = some q) (h : ∀ u1 : TS, u1 = tM u0 (rN u0.1 4 0) → wp_X5_become u1.2.2.1 q.2 (fun v => ∀ u2 : TS, u2 = tN u1 v → ∀ u3 : TS, u3 = tH u2 (rN u2.2.1 0 0) → Q ((u3.2.2.1 0).1 6 0) u3)) : zJ p l e (zR 3 0 0) s m args below meth c g A 2 (zQi below args s g A 0 0 (wT g ma ha bd) Q) (wT g ma ha bd u0) 0 0 31 [(0, .ref (ma 0)), (1, .int x1)] [] := by
  refine z_aload_n C dX7_back_31 rfl 0 rfl ?_
  refine z_iconst (v := 0) C dX7_back_32 (by decide) ?_
  refine p7_latestRefusal C fl7_74 dX7_back_33 ?_
  refine stT (tM u0 (rN u0.1 4 0)) (fun u eu => ?_)
  have h := h u eu
  have hj := zn_lt hin
  have hq : u.2.2.2.2 (zn x1) = some q := by rw [eu]; exact hq
  refine z_aload_n C dX7_back_36 rfl 0 rfl ?_
  refine g7_now C fl7_10 dX7_back_37 ?_
  refine z_aload_n C dX7_back_40 rfl 0 rfl ?_
  refine g7_images C fl7_23 dX7_back_41 ?_
  refine z_iload_n C dX7_back_44 rfl 1 rfl ?_
  refine z_aald C 1 3 (f := fun i => aO (u.2.2.2.2 i)) rfl rfl hin dX7_back_45 ?_
  show zJ _ _ _ _ _ _ _ _ _ _ _ _ _ _ _ _ _ _ _ [va_rf (aO (u.2.2.2.2 (zn x1))), .ref (bd 0 0)]
  rw [hq]
  have hp : ∀ v1 : Nat → RS, (wT g ma ha bd (tN u v1)).Perm ((wM g ma ha bd u.1 u.2.2.2.2 ++ wH g ha u.2.1 u.2.2.2.1) ++ ((wS g bd v1 ++ wS g q.1 q.2) ++ (wL g u.2.2.2.1 8 ++ wL g (va_up u.2.2.2.2 (zn x1) none) 3))) := by
    intro v1
    refine (wT_j g ma ha bd u v1 (zn x1) (by omega)).trans ?_
    rw [hq]
    exact List.Perm.append_left _ (List.Perm.append_right _ List.perm_append_comm)
  refine z_perm (hp u.2.2.1) ?_
  refine z_Vv (As := [.ref (q.1 0 0)]) C (wM g ma ha bd u.1 u.2.2.2.2 ++ wH g ha u.2.1 u.2.2.2.1) (wS g bd u.2.2.1 ++ wS g q.1 q.2) (wL g u.2.2.2.1 8 ++ wL g (va_up u.2.2.2.2 (zn x1) none) 3) rfl (c_X5_become l g bd q.1 q.2 u.2.2.1 _ h) v_X5_become ml7_186 5 (q := (RX5, TX5, 8)) rfl rfl 0 rfl ⟨Nat.le_of_ble_eq_true rfl, Nat.le_of_ble_eq_true rfl⟩ ⟨Nat.le_refl _, Nat.le_refl _⟩ (Nat.le_of_ble_eq_true rfl) rfl dX7_back_46 (fun v1 h => ?_)
  refine z_perm (hp v1).symm ?_
  refine stT (tN u v1) (fun u2 e2 => ?_)
  have h := h u2 e2
  refine z_aload_n C dX7_back_49 rfl 0 rfl ?_
  refine g7_history C fl7_19 dX7_back_50 ?_
  refine z_iconst (v := 0) C dX7_back_53 (by decide) ?_
  refine pT1_number C fl7_177 dX7_back_54 ?_
  refine stT (tH u2 (rN u2.2.1 0 0)) (fun u3 e3 => ?_)
  have h := h u3 e3
  refine z_aload_n C dX7_back_57 rfl 0 rfl ?_
  refine g7_now C fl7_10 dX7_back_58 ?_
  refine Tg5_time C fl7_119 dX7_back_61 ?_
  exact z_iret C hr u3 rfl h dX7_back_64
theorem b_X7_back_15 (C : zC p s m args meth c g A cX7_back RX7 2) (hr : meth.sig.returnType = some .int) (ma ha : Nat → Nat) (bd : Nat → Nat → Nat) (u : TS) (x1 : Int32) (Q : Int32 → TS → Prop) (hin : vp_in x1 2) (hn : u.2.2.2.2 (zn x1) = none → wp_X7_refuse u (-4) Q) (h : ∀ q : PS, u.2.2.2.2 (zn x1) = some q → ∀ u1 : TS, u1 = tM u (rN u.1 4 0) → wp_X5_become u1.2.2.1 q.2 (fun v => ∀ u2 : TS, u2 = tN u1 v → ∀ u3 : TS, u3 = tH u2 (rN u2.2.1 0 0) → Q ((u3.2.2.1 0).1 6 0) u3)) : zJ p l e (zR 3 0 0) s m args below meth c g A 2 (zQi below args s g A 0 0 (wT g ma ha bd) Q) (wT g ma ha bd u) 0 0 15 [(0, .ref (ma 0)), (1, .int x1)] [] := by
  refine z_aload_n C dX7_back_15 rfl 0 rfl ?_
  refine g7_images C fl7_23 dX7_back_16 ?_
  refine z_iload_n C dX7_back_19 rfl 1 rfl ?_
  refine z_aald C 1 3 (f := fun i => aO (u.2.2.2.2 i)) rfl rfl hin dX7_back_20 ?_
  show zJ _ _ _ _ _ _ _ _ _ _ _ _ _ _ _ _ _ _ _ [va_rf (aO (u.2.2.2.2 (zn x1)))]
  cases hq : u.2.2.2.2 (zn x1) with
  | none =>
    refine z_ifnonnullN C dX7_back_21 ?_
    exact b_X7_back_24 C hr ma ha bd u x1 Q (hn hq)
  | some q =>
    refine z_ifnonnull (x := q.1 0 0) C dX7_back_21 (tgt := 31) (by decide) ?_
    exact b_X7_back_31 C hr ma ha bd u x1 Q hin q hq (h q hq)
end WD
theorem c_X7_image (l : Launch) (g : zG) (ma ha : Nat → Nat) (bd : Nat → Nat → Nat) (u : TS) (x1 : Int32) (Q : Int32 → TS → Prop) (h : wp_X7_image u x1 Q) : zMi l yX7_image cX7_image 2 (some .int) 4 26 1308 g [.ref (ma 0), .int x1] (wT g ma ha bd u) (wT g ma ha bd) Q := by
  refine zMi_of RX7 (by decide) rfl [(0, .ref (ma 0)), (1, .int x1)] rfl (Nat.le_of_ble_eq_true rfl) (fun p e s m args below meth c A C hr hnm => ?_)
  refine z_iload_n C dX7_image_0 rfl 1 rfl ?_
  refine z_if_lt C dX7_image_1 (tgt := 9) (by decide) (fun hc => ?_) (fun hc => ?_)
  · exact b_X7_image_9 C hr ma ha bd u x1 Q (h.1 (Or.inl hc))
  · refine z_iload_n C dX7_image_4 rfl 1 rfl ?_
    refine z_iconst (v := 2) C dX7_image_5 (by decide) ?_
    refine z_icmp_lt C dX7_image_6 (tgt := 15) (by decide) (fun hd => ?_) (fun hd => ?_)
    · exact b_X7_image_15 C hr ma ha bd u x1 Q (h.2 hc hd).1 (h.2 hc hd).2
    · exact b_X7_image_9 C hr ma ha bd u x1 Q (h.1 (Or.inr hd))
theorem c_X7_back (l : Launch) (g : zG) (ma ha : Nat → Nat) (bd : Nat → Nat → Nat) (u : TS) (x1 : Int32) (Q : Int32 → TS → Prop) (h : wp_X7_back u x1 Q) : zMi l yX7_back cX7_back 2 (some .int) 3 0 0 g [.ref (ma 0), .int x1] (wT g ma ha bd u) (wT g ma ha bd) Q := by
  refine zMi_of RX7 (by decide) rfl [(0, .ref (ma 0)), (1, .int x1)] rfl (Nat.le_of_ble_eq_true rfl) (fun p e s m args below meth c A C hr hnm => ?_)
  refine z_iload_n C dX7_back_0 rfl 1 rfl ?_
  refine z_if_lt C dX7_back_1 (tgt := 9) (by decide) (fun hc => ?_) (fun hc => ?_)
  · exact b_X7_back_9 C hr ma ha bd u x1 Q (h.1 (Or.inl hc))
  · refine z_iload_n C dX7_back_4 rfl 1 rfl ?_
    refine z_iconst (v := 2) C dX7_back_5 (by decide) ?_
    refine z_icmp_lt C dX7_back_6 (tgt := 15) (by decide) (fun hd => ?_) (fun hd => ?_)
    · exact b_X7_back_15 C hr ma ha bd u x1 Q (h.2 hc hd).1 (h.2 hc hd).2.1 (h.2 hc hd).2.2
    · exact b_X7_back_9 C hr ma ha bd u x1 Q (h.1 (Or.inr hd))
