-- calls that take two chunks of a world; State.become
theorem zD_nd {A : Nat → Prop} {ws : va_W} : va_D A ws ↔ (ws.map (fun q => q.1)).Nodup ∧ ∀ q ∈ ws, A q.1 := by
  constructor
  · intro h
    refine ⟨List.pairwise_iff_getElem.mpr (fun i j hi hj hij e => ?_), fun q hq => ?_⟩
    · rw [List.length_map] at hi hj
      rw [List.getElem_map, List.getElem_map] at e
      have := h.1 i j ws[i] ws[j] (List.getElem?_eq_getElem hi) (List.getElem?_eq_getElem hj) e
      omega
    · obtain ⟨i, hi⟩ := List.getElem?_of_mem hq
      exact h.2 i q hi
  · rintro ⟨h1, h2⟩
    have key : ∀ (i j : Nat) (p q : Nat × va_E), ws[i]? = some p → ws[j]? = some q → p.1 = q.1 → ¬ i < j := by
      intro i j p q hi hj e hij
      obtain ⟨li, ei⟩ := List.getElem?_eq_some_iff.mp hi
      obtain ⟨lj, ej⟩ := List.getElem?_eq_some_iff.mp hj
      have := List.pairwise_iff_getElem.mp h1 i j (by rw [List.length_map]; exact li) (by rw [List.length_map]; exact lj) hij
      rw [List.getElem_map, List.getElem_map, ei, ej] at this
      exact this e
    refine ⟨fun i j p q hi hj e => ?_, fun k q hk => h2 q (List.mem_of_getElem? hk)⟩
    have a1 := key i j p q hi hj e
    have a2 := key j i q p hj hi e.symm
    omega
theorem zperm4 (X C1 Y C2 Z : va_W) : (X ++ (C1 ++ (Y ++ (C2 ++ Z)))).Perm ([] ++ ((C1 ++ C2) ++ (X ++ (Y ++ Z)))) := by
  have key : ∀ A B T : va_W, (A ++ (B ++ T)).Perm (B ++ (A ++ T)) := fun A B T => by
    have := List.Perm.append_right T (List.perm_append_comm (l₁ := A) (l₂ := B))
    simpa [List.append_assoc] using this
  have h1 := key X C1 (Y ++ (C2 ++ Z))
  have h2 := ((key Y C2 Z).append_left X).trans (key X C2 (Y ++ Z))
  rw [List.nil_append, List.append_assoc]
  exact h1.trans (h2.append_left C1)

section ZE
variable {p : Program} {l : Launch} {e : Env} {R : Room} {s : State} {m : MethodId} {args : Array Value} {below : List Frame} {meth : Method} {c : Code} {g : zG} {A : Nat → Prop} {nL : Nat} {Q : State → Prop} {ws : va_W} {k n pc : Nat} {lv : List (Nat × Value)} {st st0 : List Value} {cc : ByteArray} {own : String} {y : MethodName} {cc1 : ByteArray} {n1 k1 index b : Nat} {As : List Value}
theorem z_perm {ws1 : va_W} (hp : ws.Perm ws1) (h : zJ p l e R s m args below meth c g A nL Q ws1 k n pc lv st) : zJ p l e R s m args below meth c g A nL Q ws k n pc lv st := by
  intro H locs ls hP hD hS hl
  refine h H locs ls (fun k q hk => ?_) ?_ hS hl
  · obtain ⟨i, hi⟩ := List.getElem?_of_mem (hp.mem_iff.mpr (List.mem_of_getElem? hk))
    exact hP i q hi
  · obtain ⟨h1, h2⟩ := zD_nd.mp hD
    exact zD_nd.mpr ⟨((hp.map (fun q => q.1)).nodup_iff).mp h1, fun q hq => h2 q (hp.mem_iff.mpr hq)⟩
theorem z_V2v (C : zC p s m args meth c g A cc own nL) (X C1 Y C2 Z : va_W) (hws : ws = X ++ (C1 ++ (Y ++ (C2 ++ Z)))) {S : Type} {w1 : S → va_W} {post : S → Prop} (hM : zMv l y cc1 n1 none k1 0 0 g (.ref b :: As) (C1 ++ C2) (fun r => w1 r ++ C2) post) (hv : zV y cc1 n1 none As.length) (hlk : Cond.methodLink own index y ∈ zW) (ci : Nat) {q : vw_C} (hc : vwCl[ci]? = some q) (hq : q.1 = y.cls) {fs : List Value} (q0 : Nat) (he : (C1 ++ C2)[q0]? = some (b, .inr (ci, fs)))
    (hR : k1 + 1 ≤ R.frames ∧ 8 + (n1 + 11) + 40 * k1 ≤ R.locals) (hcap : k ≤ R.cells ∧ n ≤ R.slots) (hroom : (st.map fun v => v.category).sum ≤ 8) (hst : st0 = As.reverse ++ .ref b :: st) (hd : decode cc pc = .ok (.invokevirtual index, 3))
    (h : ∀ r : S, post r → zJ p l e R s m args below meth c g A nL Q (X ++ (w1 r ++ (Y ++ (C2 ++ Z)))) k n (pc + 3) lv st) : zJ p l e R s m args below meth c g A nL Q ws k n pc lv st0 := by
  subst hws
  refine z_perm (zperm4 X C1 Y C2 Z) ?_
  refine z_Vv C [] (C1 ++ C2) (X ++ (Y ++ Z)) rfl hM hv hlk ci hc hq q0 he hR hcap hroom hst hd (fun r hr => ?_)
  exact z_perm (zperm4 X (w1 r) Y C2 Z).symm (h r hr)
variable {ad bd : Nat → Nat → Nat} {u v : Nat → RS}
theorem Bc2 (C : zC p s m args meth c g A cc own nL) {post : RS → Prop} (hM : zMv l y cc1 n1 none k1 0 0 g [.ref (ad 1 0), .ref (bd 1 0)] (wX2 g (ad 1) (u 1) ++ wX2 g (bd 1) (v 1)) (fun r => wX2 g (ad 1) r ++ wX2 g (bd 1) (v 1)) post) (hv : zV y cc1 n1 none 1) (hlk : Cond.methodLink own index y ∈ zW) (hq : RX2 = y.cls) (hR : k1 + 1 ≤ R.frames ∧ 8 + (n1 + 11) + 40 * k1 ≤ R.locals) (hcap : k ≤ R.cells ∧ n ≤ R.slots) (hroom : (st.map fun v => v.category).sum ≤ 8) (hd : decode cc pc = .ok (.invokevirtual index, 3)) (h : ∀ r : RS, post r → zJ p l e R s m args below meth c g A nL Q (wS g ad (va_up u 1 r) ++ (wS g bd v ++ [])) k n (pc + 3) lv st) : zJ p l e R s m args below meth c g A nL Q (wS g ad u ++ (wS g bd v ++ [])) k n pc lv (.ref (bd 1 0) :: .ref (ad 1 0) :: st) := by
  refine z_V2v (As := [.ref (bd 1 0)]) C (hS g ad u) (wX2 g (ad 1) (u 1)) (wX0 g (ad 2) (u 2) ++ (wX6 g (ad 3) (u 3) ++ (wX4 g (ad 4) (u 4) ++ (wX3 g (ad 5) (u 5) ++ (wX3 g (ad 6) (u 6) ++ (wX3 g (ad 7) (u 7) ++ (wX3 g (ad 8) (u 8) ++ (hS g bd v)))))))) (wX2 g (bd 1) (v 1)) (wX0 g (bd 2) (v 2) ++ (wX6 g (bd 3) (v 3) ++ (wX4 g (bd 4) (v 4) ++ (wX3 g (bd 5) (v 5) ++ (wX3 g (bd 6) (v 6) ++ (wX3 g (bd 7) (v 7) ++ (wX3 g (bd 8) (v 8)))))))) ?_ hM hv hlk 2 (q := (RX2, TX2, 2)) rfl hq 0 rfl hR hcap hroom rfl hd (fun r hr => z_ws (ws1 := wS g ad (va_up u 1 r) ++ (wS g bd v ++ [])) ?_ (h r hr))
  · simp only [wS, List.append_assoc, List.append_nil]
  · simp only [wS, hS, fS, List.append_assoc, List.append_nil]; simp [va_up]
theorem Bc0 (C : zC p s m args meth c g A cc own nL) {post : RS → Prop} (hM : zMv l y cc1 n1 none k1 0 0 g [.ref (ad 2 0), .ref (bd 2 0)] (wX0 g (ad 2) (u 2) ++ wX0 g (bd 2) (v 2)) (fun r => wX0 g (ad 2) r ++ wX0 g (bd 2) (v 2)) post) (hv : zV y cc1 n1 none 1) (hlk : Cond.methodLink own index y ∈ zW) (hq : RX0 = y.cls) (hR : k1 + 1 ≤ R.frames ∧ 8 + (n1 + 11) + 40 * k1 ≤ R.locals) (hcap : k ≤ R.cells ∧ n ≤ R.slots) (hroom : (st.map fun v => v.category).sum ≤ 8) (hd : decode cc pc = .ok (.invokevirtual index, 3)) (h : ∀ r : RS, post r → zJ p l e R s m args below meth c g A nL Q (wS g ad (va_up u 2 r) ++ (wS g bd v ++ [])) k n (pc + 3) lv st) : zJ p l e R s m args below meth c g A nL Q (wS g ad u ++ (wS g bd v ++ [])) k n pc lv (.ref (bd 2 0) :: .ref (ad 2 0) :: st) := by
  refine z_V2v (As := [.ref (bd 2 0)]) C (hS g ad u ++ (wX2 g (ad 1) (u 1))) (wX0 g (ad 2) (u 2)) (wX6 g (ad 3) (u 3) ++ (wX4 g (ad 4) (u 4) ++ (wX3 g (ad 5) (u 5) ++ (wX3 g (ad 6) (u 6) ++ (wX3 g (ad 7) (u 7) ++ (wX3 g (ad 8) (u 8) ++ (hS g bd v ++ (wX2 g (bd 1) (v 1))))))))) (wX0 g (bd 2) (v 2)) (wX6 g (bd 3) (v 3) ++ (wX4 g (bd 4) (v 4) ++ (wX3 g (bd 5) (v 5) ++ (wX3 g (bd 6) (v 6) ++ (wX3 g (bd 7) (v 7) ++ (wX3 g (bd 8) (v 8))))))) ?_ hM hv hlk 0 (q := (RX0, TX0, 2)) rfl hq 0 rfl hR hcap hroom rfl hd (fun r hr => z_ws (ws1 := wS g ad (va_up u 2 r) ++ (wS g bd v ++ [])) ?_ (h r hr))
  · simp only [wS, List.append_assoc, List.append_nil]
  · simp only [wS, hS, fS, List.append_assoc, List.append_nil]; simp [va_up]
theorem Bc6 (C : zC p s m args meth c g A cc own nL) {post : RS → Prop} (hM : zMv l y cc1 n1 none k1 0 0 g [.ref (ad 3 0), .ref (bd 3 0)] (wX6 g (ad 3) (u 3) ++ wX6 g (bd 3) (v 3)) (fun r => wX6 g (ad 3) r ++ wX6 g (bd 3) (v 3)) post) (hv : zV y cc1 n1 none 1) (hlk : Cond.methodLink own index y ∈ zW) (hq : RX6 = y.cls) (hR : k1 + 1 ≤ R.frames ∧ 8 + (n1 + 11) + 40 * k1 ≤ R.locals) (hcap : k ≤ R.cells ∧ n ≤ R.slots) (hroom : (st.map fun v => v.category).sum ≤ 8) (hd : decode cc pc = .ok (.invokevirtual index, 3)) (h : ∀ r : RS, post r → zJ p l e R s m args below meth c g A nL Q (wS g ad (va_up u 3 r) ++ (wS g bd v ++ [])) k n (pc + 3) lv st) : zJ p l e R s m args below meth c g A nL Q (wS g ad u ++ (wS g bd v ++ [])) k n pc lv (.ref (bd 3 0) :: .ref (ad 3 0) :: st) := by
  refine z_V2v (As := [.ref (bd 3 0)]) C (hS g ad u ++ (wX2 g (ad 1) (u 1) ++ (wX0 g (ad 2) (u 2)))) (wX6 g (ad 3) (u 3)) (wX4 g (ad 4) (u 4) ++ (wX3 g (ad 5) (u 5) ++ (wX3 g (ad 6) (u 6) ++ (wX3 g (ad 7) (u 7) ++ (wX3 g (ad 8) (u 8) ++ (hS g bd v ++ (wX2 g (bd 1) (v 1) ++ (wX0 g (bd 2) (v 2))))))))) (wX6 g (bd 3) (v 3)) (wX4 g (bd 4) (v 4) ++ (wX3 g (bd 5) (v 5) ++ (wX3 g (bd 6) (v 6) ++ (wX3 g (bd 7) (v 7) ++ (wX3 g (bd 8) (v 8)))))) ?_ hM hv hlk 6 (q := (RX6, TX6, 4)) rfl hq 0 rfl hR hcap hroom rfl hd (fun r hr => z_ws (ws1 := wS g ad (va_up u 3 r) ++ (wS g bd v ++ [])) ?_ (h r hr))
  · simp only [wS, List.append_assoc, List.append_nil]
  · simp only [wS, hS, fS, List.append_assoc, List.append_nil]; simp [va_up]
theorem Bc4 (C : zC p s m args meth c g A cc own nL) {post : RS → Prop} (hM : zMv l y cc1 n1 none k1 0 0 g [.ref (ad 4 0), .ref (bd 4 0)] (wX4 g (ad 4) (u 4) ++ wX4 g (bd 4) (v 4)) (fun r => wX4 g (ad 4) r ++ wX4 g (bd 4) (v 4)) post) (hv : zV y cc1 n1 none 1) (hlk : Cond.methodLink own index y ∈ zW) (hq : RX4 = y.cls) (hR : k1 + 1 ≤ R.frames ∧ 8 + (n1 + 11) + 40 * k1 ≤ R.locals) (hcap : k ≤ R.cells ∧ n ≤ R.slots) (hroom : (st.map fun v => v.category).sum ≤ 8) (hd : decode cc pc = .ok (.invokevirtual index, 3)) (h : ∀ r : RS, post r → zJ p l e R s m args below meth c g A nL Q (wS g ad (va_up u 4 r) ++ (wS g bd v ++ [])) k n (pc + 3) lv st) : zJ p l e R s m args below meth c g A nL Q (wS g ad u ++ (wS g bd v ++ [])) k n pc lv (.ref (bd 4 0) :: .ref (ad 4 0) :: st) := by
  refine z_V2v (As := [.ref (bd 4 0)]) C (hS g ad u ++ (wX2 g (ad 1) (u 1) ++ (wX0 g (ad 2) (u 2) ++ (wX6 g (ad 3) (u 3))))) (wX4 g (ad 4) (u 4)) (wX3 g (ad 5) (u 5) ++ (wX3 g (ad 6) (u 6) ++ (wX3 g (ad 7) (u 7) ++ (wX3 g (ad 8) (u 8) ++ (hS g bd v ++ (wX2 g (bd 1) (v 1) ++ (wX0 g (bd 2) (v 2) ++ (wX6 g (bd 3) (v 3))))))))) (wX4 g (bd 4) (v 4)) (wX3 g (bd 5) (v 5) ++ (wX3 g (bd 6) (v 6) ++ (wX3 g (bd 7) (v 7) ++ (wX3 g (bd 8) (v 8))))) ?_ hM hv hlk 4 (q := (RX4, TX4, 7)) rfl hq 0 rfl hR hcap hroom rfl hd (fun r hr => z_ws (ws1 := wS g ad (va_up u 4 r) ++ (wS g bd v ++ [])) ?_ (h r hr))
  · simp only [wS, List.append_assoc, List.append_nil]
  · simp only [wS, hS, fS, List.append_assoc, List.append_nil]; simp [va_up]
theorem Bc3 (C : zC p s m args meth c g A cc own nL) {x : Int32} (hin : vp_in x 4) {post : RS → Prop} (hM : zMv l y cc1 n1 none k1 0 0 g [.ref (ad (5 + zn x) 0), .ref (bd (5 + zn x) 0)] (wX3 g (ad (5 + zn x)) (u (5 + zn x)) ++ wX3 g (bd (5 + zn x)) (v (5 + zn x))) (fun r => wX3 g (ad (5 + zn x)) r ++ wX3 g (bd (5 + zn x)) (v (5 + zn x))) post) (hv : zV y cc1 n1 none 1) (hlk : Cond.methodLink own index y ∈ zW) (hq : RX3 = y.cls) (hR : k1 + 1 ≤ R.frames ∧ 8 + (n1 + 11) + 40 * k1 ≤ R.locals) (hcap : k ≤ R.cells ∧ n ≤ R.slots) (hroom : (st.map fun v => v.category).sum ≤ 8) (hd : decode cc pc = .ok (.invokevirtual index, 3)) (h : ∀ r : RS, post r → zJ p l e R s m args below meth c g A nL Q (wS g ad (va_up u (5 + zn x) r) ++ (wS g bd v ++ [])) k n (pc + 3) lv st) : zJ p l e R s m args below meth c g A nL Q (wS g ad u ++ (wS g bd v ++ [])) k n pc lv (.ref (bd (5 + zn x) 0) :: .ref (ad (5 + zn x) 0) :: st) := by
  have hj := zn_lt hin
  generalize zn x = j at hj hM h ⊢
  match j, hj with
  | 0, _ =>
    refine z_V2v (As := [.ref (bd 5 0)]) C (hS g ad u ++ (wX2 g (ad 1) (u 1) ++ (wX0 g (ad 2) (u 2) ++ (wX6 g (ad 3) (u 3) ++ (wX4 g (ad 4) (u 4)))))) (wX3 g (ad 5) (u 5)) (wX3 g (ad 6) (u 6) ++ (wX3 g (ad 7) (u 7) ++ (wX3 g (ad 8) (u 8) ++ (hS g bd v ++ (wX2 g (bd 1) (v 1) ++ (wX0 g (bd 2) (v 2) ++ (wX6 g (bd 3) (v 3) ++ (wX4 g (bd 4) (v 4))))))))) (wX3 g (bd 5) (v 5)) (wX3 g (bd 6) (v 6) ++ (wX3 g (bd 7) (v 7) ++ (wX3 g (bd 8) (v 8)))) ?_ hM hv hlk 3 (q := (RX3, TX3, 9)) rfl hq 0 rfl hR hcap hroom rfl hd (fun r hr => z_ws (ws1 := wS g ad (va_up u 5 r) ++ (wS g bd v ++ [])) ?_ (h r hr))
    · simp only [wS, List.append_assoc, List.append_nil]
    · simp only [wS, hS, fS, List.append_assoc, List.append_nil]; simp [va_up]
  | 1, _ =>
    refine z_V2v (As := [.ref (bd 6 0)]) C (hS g ad u ++ (wX2 g (ad 1) (u 1) ++ (wX0 g (ad 2) (u 2) ++ (wX6 g (ad 3) (u 3) ++ (wX4 g (ad 4) (u 4) ++ (wX3 g (ad 5) (u 5))))))) (wX3 g (ad 6) (u 6)) (wX3 g (ad 7) (u 7) ++ (wX3 g (ad 8) (u 8) ++ (hS g bd v ++ (wX2 g (bd 1) (v 1) ++ (wX0 g (bd 2) (v 2) ++ (wX6 g (bd 3) (v 3) ++ (wX4 g (bd 4) (v 4) ++ (wX3 g (bd 5) (v 5))))))))) (wX3 g (bd 6) (v 6)) (wX3 g (bd 7) (v 7) ++ (wX3 g (bd 8) (v 8))) ?_ hM hv hlk 3 (q := (RX3, TX3, 9)) rfl hq 0 rfl hR hcap hroom rfl hd (fun r hr => z_ws (ws1 := wS g ad (va_up u 6 r) ++ (wS g bd v ++ [])) ?_ (h r hr))
    · simp only [wS, List.append_assoc, List.append_nil]
    · simp only [wS, hS, fS, List.append_assoc, List.append_nil]; simp [va_up]
  | 2, _ =>
    refine z_V2v (As := [.ref (bd 7 0)]) C (hS g ad u ++ (wX2 g (ad 1) (u 1) ++ (wX0 g (ad 2) (u 2) ++ (wX6 g (ad 3) (u 3) ++ (wX4 g (ad 4) (u 4) ++ (wX3 g (ad 5) (u 5) ++ (wX3 g (ad 6) (u 6)))))))) (wX3 g (ad 7) (u 7)) (wX3 g (ad 8) (u 8) ++ (hS g bd v ++ (wX2 g (bd 1) (v 1) ++ (wX0 g (bd 2) (v 2) ++ (wX6 g (bd 3) (v 3) ++ (wX4 g (bd 4) (v 4) ++ (wX3 g (bd 5) (v 5) ++ (wX3 g (bd 6) (v 6))))))))) (wX3 g (bd 7) (v 7)) (wX3 g (bd 8) (v 8)) ?_ hM hv hlk 3 (q := (RX3, TX3, 9)) rfl hq 0 rfl hR hcap hroom rfl hd (fun r hr => z_ws (ws1 := wS g ad (va_up u 7 r) ++ (wS g bd v ++ [])) ?_ (h r hr))
    · simp only [wS, List.append_assoc, List.append_nil]
    · simp only [wS, hS, fS, List.append_assoc, List.append_nil]; simp [va_up]
  | 3, _ =>
    refine z_V2v (As := [.ref (bd 8 0)]) C (hS g ad u ++ (wX2 g (ad 1) (u 1) ++ (wX0 g (ad 2) (u 2) ++ (wX6 g (ad 3) (u 3) ++ (wX4 g (ad 4) (u 4) ++ (wX3 g (ad 5) (u 5) ++ (wX3 g (ad 6) (u 6) ++ (wX3 g (ad 7) (u 7))))))))) (wX3 g (ad 8) (u 8)) (hS g bd v ++ (wX2 g (bd 1) (v 1) ++ (wX0 g (bd 2) (v 2) ++ (wX6 g (bd 3) (v 3) ++ (wX4 g (bd 4) (v 4) ++ (wX3 g (bd 5) (v 5) ++ (wX3 g (bd 6) (v 6) ++ (wX3 g (bd 7) (v 7))))))))) (wX3 g (bd 8) (v 8)) ([]) ?_ hM hv hlk 3 (q := (RX3, TX3, 9)) rfl hq 0 rfl hR hcap hroom rfl hd (fun r hr => z_ws (ws1 := wS g ad (va_up u 8 r) ++ (wS g bd v ++ [])) ?_ (h r hr))
    · simp only [wS, List.append_assoc, List.append_nil]
    · simp only [wS, hS, fS, List.append_assoc, List.append_nil]; simp [va_up]
theorem stB {u0 : Nat → RS} (h : ∀ u : Nat → RS, u = u0 → zJ p l e R s m args below meth c g A nL Q (wS g ad u ++ (wS g bd v ++ [])) k n pc lv st) : zJ p l e R s m args below meth c g A nL Q (wS g ad u0 ++ (wS g bd v ++ [])) k n pc lv st := h u0 rfl
end ZE
theorem ml5_58 : Cond.methodLink RX5 58 yX2_copyFrom ∈ zW := zW_at 317 (by decide +kernel) rfl
theorem v_X2_copyFrom : zV yX2_copyFrom cX2_copyFrom 2 none 1 := ⟨zW_at 320 (by decide +kernel) rfl, zW_at 318 (by decide +kernel) rfl, zW_at 319 (by decide +kernel) rfl, zW_at 57 (by decide +kernel) rfl, by decide +kernel⟩
theorem ml5_62 : Cond.methodLink RX5 62 yX0_copyFrom ∈ zW := zW_at 324 (by decide +kernel) rfl
theorem v_X0_copyFrom : zV yX0_copyFrom cX0_copyFrom 2 none 1 := ⟨zW_at 327 (by decide +kernel) rfl, zW_at 325 (by decide +kernel) rfl, zW_at 326 (by decide +kernel) rfl, zW_at 58 (by decide +kernel) rfl, by decide +kernel⟩
theorem ml5_65 : Cond.methodLink RX5 65 yX6_copyFrom ∈ zW := zW_at 329 (by decide +kernel) rfl
theorem v_X6_copyFrom : zV yX6_copyFrom cX6_copyFrom 2 none 1 := ⟨zW_at 332 (by decide +kernel) rfl, zW_at 330 (by decide +kernel) rfl, zW_at 331 (by decide +kernel) rfl, zW_at 59 (by decide +kernel) rfl, by decide +kernel⟩
theorem ml5_71 : Cond.methodLink RX5 71 yX4_copyFrom ∈ zW := zW_at 339 (by decide +kernel) rfl
theorem v_X4_copyFrom : zV yX4_copyFrom cX4_copyFrom 2 none 1 := ⟨zW_at 342 (by decide +kernel) rfl, zW_at 340 (by decide +kernel) rfl, zW_at 341 (by decide +kernel) rfl, zW_at 60 (by decide +kernel) rfl, by decide +kernel⟩
theorem mj5_74 : Cond.methodLink RX5 74 arraycopyName ∈ zW := zW_at 344 (by decide +kernel) rfl
theorem ml5_68 : Cond.methodLink RX5 68 yX3_copyFrom ∈ zW := zW_at 334 (by decide +kernel) rfl
theorem v_X3_copyFrom : zV yX3_copyFrom cX3_copyFrom 2 none 1 := ⟨zW_at 337 (by decide +kernel) rfl, zW_at 335 (by decide +kernel) rfl, zW_at 336 (by decide +kernel) rfl, zW_at 61 (by decide +kernel) rfl, by decide +kernel⟩
section WC
variable {p : Program} {l : Launch} {e : Env} {s : State} {m : MethodId} {args : Array Value} {below : List Frame} {meth : Method} {c : Code} {g : zG} {A : Nat → Prop}
abbrev j_X5_become (p : Program) (l : Launch) (e : Env) (s : State) (m : MethodId) (args : Array Value) (below : List Frame) (meth : Method) (c : Code) (g : zG) (A : Nat → Prop) (ad bd : Nat → Nat → Nat) (v : Nat → RS) (Q : (Nat → RS) → Prop) (u : (Nat → RS)) (pc : Nat) (lv : List (Nat × Value)) (st : List Value) : Prop := zJ p l e (zR 2 0 0) s m args below meth c g A 3 (zQv below args s g A 0 0 (fun u => wS g ad u ++ wS g bd v) Q) (wS g ad u ++ (wS g bd v ++ [])) 0 0 pc lv st
def wp_X5_become_35 (Q : (Nat → RS) → Prop) (v : Nat → RS) (B35 : (Nat → RS) → Int32 → Prop) (u : (Nat → RS)) (x2 : Int32) : Prop :=
  ((4 ≤ x2 → wp_X4_copyFrom (u 4) (v 4) (fun v108 => ∀ u109 : Nat → RS, u109 = va_up u 4 v108 → zcp 0 0 9 9 9 ∧ ∀ u111 : Nat → RS, u111 = va_up u109 0 (rI (u109 0) 5 (va_cpy ((v 0).1 5) ((u109 0).1 5) (zn 0) (zn 0) (zn 9))) → ∀ u112 : Nat → RS, u112 = va_up u111 0 (rN (u111 0) 6 ((v 0).1 6 0)) → ∀ u113 : Nat → RS, u113 = va_up u112 0 (rN (u112 0) 7 ((v 0).1 7 0)) → Q u113)) ∧ (¬ 4 ≤ x2 → vp_in x2 4 ∧ vp_in x2 4 ∧ vp_in x2 4 ∧ wp_X3_copyFrom (u (5 + zn x2)) (v (5 + zn x2)) (fun v116 => ∀ u118 : Nat → RS, u118 = va_up u (5 + zn x2) v116 → ∀ x119 : Int32, x119 = x2 + 1 → B35 u118 x119)))
set_option maxRecDepth 20000 in
theorem b_X5_become_35 (C : zC p s m args meth c g A cX5_become RX5 3) (hr : meth.sig.returnType = none) (ad bd : Nat → Nat → Nat) (v : Nat → RS) (Q : (Nat → RS) → Prop) (B35 : (Nat → RS) → Int32 → Prop) (hB35 : ∀ (u : (Nat → RS)) (x2 : Int32), B35 u x2 → j_X5_become p l e s m args below meth c g A ad bd v Q u 35 [(0, .ref (ad 0 0)), (1, .ref (bd 0 0)), (2, .int x2)] []) (u : (Nat → RS)) (x2 : Int32) (h : wp_X5_become_35 Q v B35 u x2) : j_X5_become p l e s m args below meth c g A ad bd v Q u 35 [(0, .ref (ad 0 0)), (1, .ref (bd 0 0)), (2, .int x2)] [] := by
  unfold wp_X5_become_35 at h
  refine z_iload_n C dX5_become_35 rfl 2 rfl ?_
  refine z_iconst (v := 4) C dX5_become_36 (by decide) ?_
  refine z_icmp_ge C dX5_become_37 (tgt := 61) (by decide) (fun hc107 => ?_) (fun hc107 => ?_)
  · have h := h.1 hc107
    refine z_aload_n C dX5_become_61 rfl 0 rfl ?_
    refine Mg5_segments (Xp := []) (Yp := wS g bd v ++ []) C fl5_41 dX5_become_62 ?_
    refine z_aload_n C dX5_become_65 rfl 1 rfl ?_
    refine Mg5_segments (Xp := wS g ad u) (ad := bd) (cs := v) (Yp := []) C fl5_41 dX5_become_66 ?_
    refine Bc4 C (c_X4_copyFrom l g (ad 4) (bd 4) (v 4) (u 4) _ h) v_X4_copyFrom ml5_71 rfl ⟨Nat.le_of_ble_eq_true rfl, Nat.le_of_ble_eq_true rfl⟩ ⟨Nat.zero_le _, Nat.zero_le _⟩ (Nat.le_of_ble_eq_true rfl) dX5_become_69 ?_
    intro v108 h
    refine stB (fun u109 eu109 => ?_)
    have h := h u109 eu109
    refine z_aload_n C dX5_become_72 rfl 1 rfl ?_
    refine Mg5_terms (Xp := wS g ad u109) (ad := bd) (cs := v) (Yp := []) C fl5_54 dX5_become_73 ?_
    refine z_iconst (v := 0) C dX5_become_76 (by decide) ?_
    refine z_aload_n C dX5_become_77 rfl 0 rfl ?_
    refine Mg5_terms (Xp := []) (Yp := wS g bd v ++ []) C fl5_54 dX5_become_78 ?_
    refine z_iconst (v := 0) C dX5_become_81 (by decide) ?_
    refine z_bipush (v := 9) C dX5_become_82 (by decide) ?_
    obtain ⟨hz110, h⟩ := h
    refine z_copyi C mj5_74 28 2 rfl rfl hz110 (Nat.le_of_ble_eq_true rfl) (Nat.le_of_ble_eq_true rfl) dX5_become_84 (ws1 := wS g ad (va_up u109 0 (rI (u109 0) 5 (va_cpy ((v 0).1 5) ((u109 0).1 5) (zn 0) (zn 0) (zn 9)))) ++ (wS g bd v ++ [])) rfl ?_
    refine stB (fun u111 eu111 => ?_)
    have h := h u111 eu111
    refine z_aload_n C dX5_become_87 rfl 0 rfl ?_
    refine z_aload_n C dX5_become_88 rfl 1 rfl ?_
    refine Mg5_time (Xp := wS g ad u111) (ad := bd) (cs := v) (Yp := []) C fl5_80 dX5_become_89 ?_
    refine Mp5_time (Xp := []) (Yp := wS g bd v ++ []) C fl5_80 dX5_become_92 ?_
    refine stB (fun u112 eu112 => ?_)
    have h := h u112 eu112
    refine z_aload_n C dX5_become_95 rfl 0 rfl ?_
    refine z_aload_n C dX5_become_96 rfl 1 rfl ?_
    refine Mg5_followed (Xp := wS g ad u112) (ad := bd) (cs := v) (Yp := []) C fl5_84 dX5_become_97 ?_
    refine Mp5_followed (Xp := []) (Yp := wS g bd v ++ []) C fl5_84 dX5_become_100 ?_
    refine stB (fun u113 eu113 => ?_)
    have h := h u113 eu113
    exact z_vret C hr u113 (by simp) h dX5_become_103
  · have h := h.2 hc107
    refine z_aload_n C dX5_become_40 rfl 0 rfl ?_
    refine Mg5_queues (Xp := []) (Yp := wS g bd v ++ []) C fl5_34 dX5_become_41 ?_
    refine z_iload_n C dX5_become_44 rfl 2 rfl ?_
    obtain ⟨hi114, h⟩ := h
    refine Maq (Xp := []) (Yp := wS g bd v ++ []) C hi114 dX5_become_45 ?_
    refine z_aload_n C dX5_become_46 rfl 1 rfl ?_
    refine Mg5_queues (Xp := wS g ad u) (ad := bd) (cs := v) (Yp := []) C fl5_34 dX5_become_47 ?_
    refine z_iload_n C dX5_become_50 rfl 2 rfl ?_
    obtain ⟨hi115, h⟩ := h
    refine Maq (Xp := wS g ad u) (ad := bd) (cs := v) (Yp := []) C hi115 dX5_become_51 ?_
    obtain ⟨hi117, h⟩ := h
    refine Bc3 C hi117 (c_X3_copyFrom l g (ad (5 + zn x2)) (bd (5 + zn x2)) (v (5 + zn x2)) (u (5 + zn x2)) _ h) v_X3_copyFrom ml5_68 rfl ⟨Nat.le_of_ble_eq_true rfl, Nat.le_of_ble_eq_true rfl⟩ ⟨Nat.zero_le _, Nat.zero_le _⟩ (Nat.le_of_ble_eq_true rfl) dX5_become_52 ?_
    intro v116 h
    refine stB (fun u118 eu118 => ?_)
    have h := h u118 eu118
    obtain ⟨x119, ex119⟩ : ∃ y : Int32, y = x2 + 1 := ⟨_, rfl⟩
    have h := h x119 ex119
    refine z_iinc (v := x119) (lv1 := [(2, .int x119), (0, .ref (ad 0 0)), (1, .ref (bd 0 0))]) C dX5_become_55 2 rfl (by rw [ex119]; rfl) (by decide) rfl ?_
    refine z_goto C dX5_become_58 (tgt := 35) (by decide) ?_
    refine z_lv (lv1 := [(0, .ref (ad 0 0)), (1, .ref (bd 0 0)), (2, .int x119)]) [1, 2, 0] rfl ?_
    exact hB35 u118 x119 h
theorem l_X5_become_35 (C : zC p s m args meth c g A cX5_become RX5 3) (hr : meth.sig.returnType = none) (ad bd : Nat → Nat → Nat) (v : Nat → RS) (Q : (Nat → RS) → Prop) : ∀ (n : Nat) (u : (Nat → RS)) (x2 : Int32), zit2 (wp_X5_become_35 Q v) n u x2 → j_X5_become p l e s m args below meth c g A ad bd v Q u 35 [(0, .ref (ad 0 0)), (1, .ref (bd 0 0)), (2, .int x2)] [] := by
  intro n
  induction n with
  | zero => exact fun u x2 h => h.elim
  | succ n ih => exact fun u x2 h => b_X5_become_35 C hr ad bd v Q (zit2 (wp_X5_become_35 Q v) n) ih u x2 h
def wp_X5_become (u : (Nat → RS)) (v : Nat → RS) (Q : (Nat → RS) → Prop) : Prop :=
  wp_X2_copyFrom (u 1) (v 1) (fun v101 => ∀ u102 : Nat → RS, u102 = va_up u 1 v101 → wp_X0_copyFrom (u102 2) (v 2) (fun v103 => ∀ u104 : Nat → RS, u104 = va_up u102 2 v103 → wp_X6_copyFrom (u104 3) (v 3) (fun v105 => ∀ u106 : Nat → RS, u106 = va_up u104 3 v105 → (∃ n, zit2 (wp_X5_become_35 Q v) n u106 0))))
set_option maxRecDepth 20000 in
theorem c_X5_become (l : Launch) (g : zG) (ad bd : Nat → Nat → Nat) (v : Nat → RS) (u : (Nat → RS)) (Q : (Nat → RS) → Prop) (h : wp_X5_become u v Q) : zMv l yX5_become cX5_become 3 none 2 0 0 g [.ref (ad 0 0), .ref (bd 0 0)] (wS g ad u ++ wS g bd v) (fun u => wS g ad u ++ wS g bd v) Q := by
  refine zMv_of RX5 (by decide) rfl [(0, .ref (ad 0 0)), (1, .ref (bd 0 0))] rfl (Nat.le_of_ble_eq_true rfl) (fun p e s m args below meth c A C hr hnm => ?_)
  refine z_ws (ws1 := wS g ad u ++ (wS g bd v ++ [])) (by simp) ?_
  unfold wp_X5_become at h
  refine z_aload_n C dX5_become_0 rfl 0 rfl ?_
  refine Mg5_key (Xp := []) (Yp := wS g bd v ++ []) C fl5_12 dX5_become_1 ?_
  refine z_aload_n C dX5_become_4 rfl 1 rfl ?_
  refine Mg5_key (Xp := wS g ad u) (ad := bd) (cs := v) (Yp := []) C fl5_12 dX5_become_5 ?_
  refine Bc2 C (c_X2_copyFrom l g (ad 1) (bd 1) (v 1) (u 1) _ h) v_X2_copyFrom ml5_58 rfl ⟨Nat.le_of_ble_eq_true rfl, Nat.le_of_ble_eq_true rfl⟩ ⟨Nat.zero_le _, Nat.zero_le _⟩ (Nat.le_of_ble_eq_true rfl) dX5_become_8 ?_
  intro v101 h
  refine stB (fun u102 eu102 => ?_)
  have h := h u102 eu102
  refine z_aload_n C dX5_become_11 rfl 0 rfl ?_
  refine Mg5_flows (Xp := []) (Yp := wS g bd v ++ []) C fl5_21 dX5_become_12 ?_
  refine z_aload_n C dX5_become_15 rfl 1 rfl ?_
  refine Mg5_flows (Xp := wS g ad u102) (ad := bd) (cs := v) (Yp := []) C fl5_21 dX5_become_16 ?_
  refine Bc0 C (c_X0_copyFrom l g (ad 2) (bd 2) (v 2) (u102 2) _ h) v_X0_copyFrom ml5_62 rfl ⟨Nat.le_of_ble_eq_true rfl, Nat.le_of_ble_eq_true rfl⟩ ⟨Nat.zero_le _, Nat.zero_le _⟩ (Nat.le_of_ble_eq_true rfl) dX5_become_19 ?_
  intro v103 h
  refine stB (fun u104 eu104 => ?_)
  have h := h u104 eu104
  refine z_aload_n C dX5_become_22 rfl 0 rfl ?_
  refine Mg5_table (Xp := []) (Yp := wS g bd v ++ []) C fl5_28 dX5_become_23 ?_
  refine z_aload_n C dX5_become_26 rfl 1 rfl ?_
  refine Mg5_table (Xp := wS g ad u104) (ad := bd) (cs := v) (Yp := []) C fl5_28 dX5_become_27 ?_
  refine Bc6 C (c_X6_copyFrom l g (ad 3) (bd 3) (v 3) (u104 3) _ h) v_X6_copyFrom ml5_65 rfl ⟨Nat.le_of_ble_eq_true rfl, Nat.le_of_ble_eq_true rfl⟩ ⟨Nat.zero_le _, Nat.zero_le _⟩ (Nat.le_of_ble_eq_true rfl) dX5_become_30 ?_
  intro v105 h
  refine stB (fun u106 eu106 => ?_)
  have h := h u106 eu106
  refine z_iconst (v := 0) C dX5_become_33 (by decide) ?_
  refine z_istore_n (lv1 := [(2, .int 0), (0, .ref (ad 0 0)), (1, .ref (bd 0 0))]) C dX5_become_34 rfl (by decide) rfl ?_
  refine z_lv (lv1 := [(0, .ref (ad 0 0)), (1, .ref (bd 0 0)), (2, .int 0)]) [1, 2, 0] rfl ?_
  obtain ⟨n9, h⟩ := h
  exact l_X5_become_35 C hr ad bd v Q n9 u106 0 h
end WC
