-- bitCount; rows for the last; RxQueues.paperOfNow, image, back
section ZX
variable {p : Program} {l : Launch} {e : Env} {R : Room} {s : State} {m : MethodId} {args : Array Value} {below : List Frame} {meth : Method} {c : Code} {g : zG} {A : Nat → Prop} {nL : Nat} {Q : State → Prop} {k n pc : Nat} {lv : List (Nat × Value)} {st st0 : List Value} {cc : ByteArray} {own : String} {ma ha : Nat → Nat} {bd : Nat → Nat → Nat} {u : TS}
theorem z_tld (C : zC p s m args meth c g A cc own nL) {ws : va_W} {t : Nat} {f : Nat → Int32} (hT : va_T .int t 9 (fun k => .int (f k)) A s s.heap) {x : Int32} (hin : vp_in x 9) (hd : decode cc pc = .ok (.iaload, 1)) (h : zJ p l e R s m args below meth c g A nL Q ws k n (pc + 1) lv (.int (f (zn x)) :: st)) : zJ p l e R s m args below meth c g A nL Q ws k n pc lv (.int x :: .ref t :: st) :=
  fun H locs ls hP hD hS hl => va_ti C.1 C.2.1 hT hS hin rfl hd (h H locs ls hP hD hS hl)
theorem z_Vr (C : zC p s m args meth c g A cc own nL) {ws : va_W} (X Cw Y : va_W) (hws : ws = X ++ (Cw ++ Y)) {y : MethodName} {cc1 : ByteArray} {n1 k1 mc ms index : Nat} {ret : Option FieldType} {As : List Value} {b : Nat} {S : Type} {w : S → va_W} {adr : S → Nat} {post : S → Prop} (hM : zMr l y cc1 n1 ret k1 mc ms g (.ref b :: As) Cw w adr post) (hv : zV y cc1 n1 ret As.length) (hlk : Cond.methodLink own index y ∈ zW) (ci : Nat) {q : vw_C} (hc : vwCl[ci]? = some q) (hq : q.1 = y.cls) {fs : List Value} (q0 : Nat) (he : Cw[q0]? = some (b, .inr (ci, fs)))
    (hR : k1 + 1 ≤ R.frames ∧ 8 + (n1 + 11) + 40 * k1 ≤ R.locals) (hcap : k + mc ≤ R.cells ∧ n + ms ≤ R.slots) (hroom : (st.map fun v => v.category).sum ≤ 8) (hst : st0 = As.reverse ++ .ref b :: st) (hd : decode cc pc = .ok (.invokevirtual index, 3))
    (h : ∀ (u : S), post u → zJ p l e R s m args below meth c g A nL Q (X ++ (w u ++ Y)) (k + mc) (n + ms) (pc + 3) lv (.ref (adr u) :: st)) : zJ p l e R s m args below meth c g A nL Q ws k n pc lv st0 := by
  intro H locs ls hP hD hS hl
  subst hws
  obtain ⟨hPc, hDc⟩ := zmidC hP hD
  have hF : ∀ q, va_A Cw H.size q → A q := by
    intro q h
    rcases h with ⟨i, e1, h⟩ | h
    · exact hDc.2 i _ h
    · exact C.2.2.2.2.2.2.1 q (Nat.le_trans hS.1 h)
  refine va_callr (zrunV C X Cw Y hP hD hS hl hM hv hlk ci hc hq q0 he hR hcap hroom hst hd) hS (fun q _ h => hF q h) hF (fun u ra t H1 locs1 ht hvm hw hB hz1 hk1 hS1 => ?_)
  obtain ⟨rfl, h1, h2⟩ := hB
  rw [ht] at h1
  obtain ⟨hP2, hD2⟩ := zmid hP hD hF hk1 h1 h2
  exact h u hw H1 locs1 ls hP2 hD2 hS1 hl
/-- slot j of the others beside the State now -/
theorem wT_j (g : zG) (ma ha : Nat → Nat) (bd : Nat → Nat → Nat) (u : TS) (v : Nat → RS) (j : Nat) (hj : j < 3) : (wT g ma ha bd (tN u v)).Perm ((wM g ma ha bd u.1 u.2.2.2.2 ++ wH g ha u.2.1 u.2.2.2.1) ++ ((wO g (u.2.2.2.2 j) ++ wS g bd v) ++ (wL g u.2.2.2.1 8 ++ wL g (va_up u.2.2.2.2 j none) 3))) := by
  refine List.Perm.append_left _ ?_
  show (wS g bd v ++ (wL g u.2.2.2.1 8 ++ wL g u.2.2.2.2 3)).Perm ((wO g (u.2.2.2.2 j) ++ wS g bd v) ++ (wL g u.2.2.2.1 8 ++ wL g (va_up u.2.2.2.2 j none) 3))
  have key : ∀ A B T : va_W, (A ++ (B ++ T)).Perm (B ++ (A ++ T)) := fun A B T => by
    have := List.Perm.append_right T (List.perm_append_comm (l₁ := A) (l₂ := B))
    simpa [List.append_assoc] using this
  refine (List.Perm.append_left _ (List.Perm.append_left _ (wL_at g u.2.2.2.2 j 3 hj))).trans ?_
  refine (List.Perm.append_left _ (key _ _ _)).trans ?_
  refine (key _ _ _).trans ?_
  rw [List.append_assoc]
theorem wT_p (g : zG) (ma ha : Nat → Nat) (bd : Nat → Nat → Nat) (u : TS) (j : Nat) (hj : j < 3) (q : PS) (so : SL) : ((wM g ma ha bd u.1 so ++ wH g ha u.2.1 u.2.2.2.1) ++ (wCp g bd u.2.2.1 q ++ (wL g u.2.2.2.1 8 ++ wL g (va_up u.2.2.2.2 j none) 3))).Perm ((wM g ma ha bd u.1 so ++ wH g ha u.2.1 u.2.2.2.1) ++ (wS g bd u.2.2.1 ++ (wL g u.2.2.2.1 8 ++ wL g (va_up u.2.2.2.2 j (some q)) 3))) := by
  refine List.Perm.append_left _ ?_
  show ((wS g q.1 q.2 ++ wS g bd u.2.2.1) ++ (wL g u.2.2.2.1 8 ++ wL g (va_up u.2.2.2.2 j none) 3)).Perm _
  have key : ∀ A B T : va_W, (A ++ (B ++ T)).Perm (B ++ (A ++ T)) := fun A B T => by
    have := List.Perm.append_right T (List.perm_append_comm (l₁ := A) (l₂ := B))
    simpa [List.append_assoc] using this
  rw [List.append_assoc]
  refine (key _ _ _).trans (List.Perm.append_left _ ?_)
  refine (key _ _ _).trans (List.Perm.append_left _ ?_)
  exact wL_put g u.2.2.2.2 j 3 hj q
end ZX
/-- paperOfNow: the paper State becomes what stands now -/
def wp_X7_paperOfNow (u : TS) (Q : (Nat → Nat → Nat) → (Nat → RS) → Prop) : Prop := wp_X7_copied (u.2.2.2.2 2) u.2.2.1 (fun q => Q q.1 q.2)
set_option maxRecDepth 20000 in
theorem c_X7_paperOfNow (l : Launch) (g : zG) (ma ha : Nat → Nat) (bd : Nat → Nat → Nat) (u : TS) (Q : (Nat → Nat → Nat) → (Nat → RS) → Prop) (h : wp_X7_paperOfNow u Q) : zMr l yX7_paperOfNow cX7_paperOfNow 1 (some (.object "RxQueues$State")) 4 26 1308 g [.ref (ma 0)] (wT g ma ha bd u) (fun q : PS => wT g ma ha bd (tP u q.1 q.2)) (fun q => q.1 0 0) (fun q => Q q.1 q.2) := by
  refine zMr_of RX7 (by decide) rfl [(0, .ref (ma 0))] rfl (Nat.le_of_ble_eq_true rfl) (fun p e s m args below meth c A C hr hnm => ?_)
  refine z_aload_n C dX7_paperOfNow_0 rfl 0 rfl ?_
  refine z_aload_n C dX7_paperOfNow_1 rfl 0 rfl ?_
  refine g7_paper C fl7_300 dX7_paperOfNow_2 ?_
  refine z_aload_n C dX7_paperOfNow_5 rfl 0 rfl ?_
  refine g7_now C fl7_10 dX7_paperOfNow_6 ?_
  refine z_perm (wT_j g ma ha bd u u.2.2.1 2 (by decide)) ?_
  refine z_Sr (As := [va_rf (aO (u.2.2.2.2 2)), .ref (bd 0 0)]) C (wM g ma ha bd u.1 u.2.2.2.2 ++ wH g ha u.2.1 u.2.2.2.1) (wO g (u.2.2.2.2 2) ++ wS g bd u.2.2.1) (wL g u.2.2.2.1 8 ++ wL g (va_up u.2.2.2.2 2 none) 3) rfl (c_X7_copied l g (u.2.2.2.2 2) bd u.2.2.1 _ h) s_X7_copied ml7_182 ⟨Nat.le_of_ble_eq_true rfl, Nat.le_of_ble_eq_true rfl⟩ ⟨Nat.le_of_ble_eq_true rfl, Nat.le_of_ble_eq_true rfl⟩ (Nat.le_of_ble_eq_true rfl) rfl dX7_paperOfNow_9 (fun q h => ?_)
  have hm : (wM g ma ha bd u.1 u.2.2.2.2 ++ wH g ha u.2.1 u.2.2.2.1 ++ (wCp g bd u.2.2.1 q ++ (wL g u.2.2.2.1 8 ++ wL g (va_up u.2.2.2.2 2 none) 3))).set 0 (ma 0, .inr (7, (fM ma ha bd u.1 u.2.2.2.2).set 5 (.ref (q.1 0 0)))) = [(ma 0, .inr (7, fM ma ha bd u.1 (va_up u.2.2.2.2 2 (some q)))), (ma 1, .inl (g.2.1 3, 2, .inr (.inr (.inr (.inr (fun i => aO (u.2.2.2.2 i))))))), (ma 2, .inl (g.2.1 0, 6, .inl (u.1.1 3))), (ma 3, .inl (g.2.1 0, 24, .inl (u.1.1 6)))] ++ wH g ha u.2.1 u.2.2.2.1 ++ (wCp g bd u.2.2.1 q ++ (wL g u.2.2.2.1 8 ++ wL g (va_up u.2.2.2.2 2 none) 3)) := rfl
  refine z_putr (T := TX7) (N := 7) C inX7 tyX7 tyX7_ok nmX7 (ci := 7) rfl 5 (by decide) fl7_300 rfl (ty := .object "RxQueues$State") (by decide +kernel) 0 rfl rfl (fM ma ha bd u.1 u.2.2.2.2) rfl (Nat.le_of_ble_eq_true rfl) dX7_paperOfNow_12 _ hm ?_
  refine z_qarr 1 (f := fun i => aO (u.2.2.2.2 i)) (fun i => aO (va_up u.2.2.2.2 2 (some q) i)) rfl (fun j hj => by rw [va_up_ne _ _ (by omega)]) (wM g ma ha bd u.1 (va_up u.2.2.2.2 2 (some q)) ++ wH g ha u.2.1 u.2.2.2.1 ++ (wCp g bd u.2.2.1 q ++ (wL g u.2.2.2.1 8 ++ wL g (va_up u.2.2.2.2 2 none) 3))) rfl ?_
  refine z_perm (wT_p g ma ha bd u 2 (by decide) q _) ?_
  refine z_ws (ws1 := wT g ma ha bd (tP u q.1 q.2)) rfl ?_
  refine z_aload_n C dX7_paperOfNow_15 rfl 0 rfl ?_
  refine g7_paper C fl7_300 dX7_paperOfNow_16 ?_
  exact z_aret C hr q rfl rfl h dX7_paperOfNow_19
section ZY
variable {p : Program} {l : Launch} {e : Env} {R : Room} {s : State} {m : MethodId} {args : Array Value} {below : List Frame} {meth : Method} {c : Code} {g : zG} {A : Nat → Prop} {nL : Nat} {Q : State → Prop} {k n pc : Nat} {lv : List (Nat × Value)} {st st0 : List Value} {cc : ByteArray} {own : String} {ma ha : Nat → Nat} {bd : Nat → Nat → Nat} {u : TS}
theorem stTP {pd : Nat → Nat → Nat} {ps : Nat → RS} (u0 : TS) (h : ∀ u : TS, u = u0 → zJ p l e R s m args below meth c g A nL Q (wT g ma ha bd (tP u pd ps)) k n pc lv st) : zJ p l e R s m args below meth c g A nL Q (wT g ma ha bd (tP u0 pd ps)) k n pc lv st := h u0 rfl
theorem c7p (C : zC p s m args meth c g A cc own nL) {index : Nat} {post : (Nat → Nat → Nat) → (Nat → RS) → Prop} (hM : zMr l yX7_paperOfNow cX7_paperOfNow 1 (some (.object "RxQueues$State")) 4 26 1308 g [.ref (ma 0)] (wT g ma ha bd u) (fun q : PS => wT g ma ha bd (tP u q.1 q.2)) (fun q => q.1 0 0) (fun q => post q.1 q.2)) (hv : zV yX7_paperOfNow cX7_paperOfNow 1 (some (.object "RxQueues$State")) 0) (hlk : Cond.methodLink own index yX7_paperOfNow ∈ zW) (hR : 4 + 1 ≤ R.frames ∧ 8 + (1 + 11) + 40 * 4 ≤ R.locals) (hcap : k + 26 ≤ R.cells ∧ n + 1308 ≤ R.slots) (hroom : (st.map fun v => v.category).sum ≤ 8) (hd : decode cc pc = .ok (.invokevirtual index, 3))
    (h : ∀ (pd : Nat → Nat → Nat) (ps : Nat → RS), post pd ps → zJ p l e R s m args below meth c g A nL Q (wT g ma ha bd (tP u pd ps)) (k + 26) (n + 1308) (pc + 3) lv (.ref (pd 0 0) :: st)) : zJ p l e R s m args below meth c g A nL Q (wT g ma ha bd u) k n pc lv (.ref (ma 0) :: st) :=
  z_Vr (As := []) C [] (wT g ma ha bd u) [] (by simp) hM hv hlk 7 (q := (RX7, TX7, 7)) rfl rfl 0 rfl hR hcap hroom rfl hd (fun q hw => z_ws (ws1 := wT g ma ha bd (tP u q.1 q.2)) (by simp) (h q.1 q.2 hw))
end ZY
