-- the start: the classes, the array classes, the static tables; the law from its entry
theorem zN_of {s : State} {args : Array Value} (hts : ∀ w ∈ lw_tbl, w.before args s = true) : zN s := by
  intro w hw
  have h1 := hts w (List.mem_filter.mp hw).1
  have h2 := (List.mem_filter.mp hw).2
  cases w with
  | methodLinkNest a i x hh => exact va_Nw.of rfl h1
  | fieldLinkNest a i b n d hh => exact va_Nw.of rfl h1
  | castable a b => exact va_Nw.of rfl h1
  | arrayOver t =>
    cases t with
    | object C => exact va_AO.of h1
    | _ => simp [zIsNest] at h2
  | _ => simp [zIsNest] at h2
theorem zArr {s : State} {args : Array Value} {ty : FieldType} (h : (Cond.arrayClass ty).before args s = true) : ∃ cA : ClassId, ArrOfT s cA ty ∧ s.vm.findClass ("[" ++ ty.toString) = some cA := by
  obtain ⟨cA, kA, comp, h1, h2, h3⟩ := Cond.arrayClass_spec h
  exact ⟨cA, fun N z => ⟨(fun k h => by cases h), kA, h2, comp, h3⟩, h1⟩
theorem zArrO {s : State} {C : String} (h : (Cond.arrayOver (.object C)).before #[] s = true) : ∃ cA : ClassId, ArrOfT s cA (.object C) ∧ va_RA s cA (.object C) := by
  obtain ⟨comp, cA, kA, h1, -, h3, h4, h5⟩ := Cond.arrayOver_spec h
  exact ⟨cA, fun N z => ⟨(fun k h => by cases h), kA, h3, comp, h4⟩, kA, comp, h3, h4, h1, h5⟩
theorem zK_of {s : State} {args : Array Value} (hts : ∀ w ∈ zW, w.before args s = true) (hn : zN s) : ∃ (D : va_G) (cA : Nat → ClassId), ∀ f : Nat → Nat, va_K D vwCl (zT (D, cA, f)) s := by
  obtain ⟨c0, i0, k0⟩ := u_known hts inX0 (hts _ wI0)
  obtain ⟨c1, i1, k1⟩ := u_known hts inX1 (hts _ wI1)
  obtain ⟨c2, i2, k2⟩ := u_known hts inX2 (hts _ wI2)
  obtain ⟨c3, i3, k3⟩ := u_known hts inX3 (hts _ wI3)
  obtain ⟨c4, i4, k4⟩ := u_known hts inX4 (hts _ wI4)
  obtain ⟨c5, i5, k5⟩ := u_known hts inX5 (hts _ wI5)
  obtain ⟨c6, i6, k6⟩ := u_known hts inX6 (hts _ wI6)
  obtain ⟨c7, i7, k7⟩ := u_known hts inX7 (hts _ wI7)
  obtain ⟨c8, i8, k8⟩ := u_known hts inX8 (hts _ wI8)
  obtain ⟨a0, b0, d0⟩ := zArr (hts _ wAi)
  obtain ⟨a1, b1, d1⟩ := zArr (hts _ wAl)
  obtain ⟨a2, b2, d2⟩ := zArr (hts _ wAz)
  obtain ⟨a3, b3, d3⟩ := zArrO (hn _ wV3)
  obtain ⟨a4, b4, d4⟩ := zArrO (hn _ wV4)
  refine ⟨(fun c => [c0, c1, c2, c3, c4, c5, c6, c7, c8].getD c c0, fun c => [i0, i1, i2, i3, i4, i5, i6, i7, i8].getD c i0), fun k => [a0, a1, a2, a3, a4].getD k a0, fun f => ⟨fun c q hq => ?_, fun k q hq => ?_⟩⟩
  · match c, hq with
    | 0, hq => cases hq; exact k0
    | 1, hq => cases hq; exact k1
    | 2, hq => cases hq; exact k2
    | 3, hq => cases hq; exact k3
    | 4, hq => cases hq; exact k4
    | 5, hq => cases hq; exact k5
    | 6, hq => cases hq; exact k6
    | 7, hq => cases hq; exact k7
    | 8, hq => cases hq; exact k8
    | c + 9, hq => cases hq
  · match k, hq with
    | 0, hq => cases hq; exact ⟨b0, d0⟩
    | 1, hq => cases hq; exact ⟨b1, d1⟩
    | 2, hq => cases hq; exact ⟨b2, d2⟩
    | 3, hq => cases hq; exact ⟨b3, d3⟩
    | 4, hq => cases hq; exact ⟨b4, d4⟩
    | k + 5, hq => cases hq
theorem zLen {args : Array Value} {s : State} {t : Term} {z : Int32} {a : Nat} {cell : Cell} (h : (Term.length t).eval args s none [] s = some (.int z)) (ht : t.eval args s none [] s = some (.ref a)) (hc : s.heap[a]? = some cell) : cell.slots.size < 2147483648 ∧ z = cell.slots.size.toInt32 := by
  simp only [Term.eval, Option.bind_eq_bind] at h
  rw [ht] at h
  obtain ⟨x, hx, h⟩ := Option.bind_eq_some_iff.mp h
  cases hx
  obtain ⟨cell1, hcell, h⟩ := Option.bind_eq_some_iff.mp h
  obtain ⟨h2, -⟩ := State.arrayAt?_spec hcell
  cases hc.symm.trans h2
  by_cases hn : cell.slots.size < 2147483648
  · rw [if_pos hn] at h
    cases h
    exact ⟨hn, rfl⟩
  · rw [if_neg hn] at h
    cases h
abbrev zSt1 (n : String) : Term := .static "RxQueues" n "[I"
theorem zT_of {args : Array Value} {s : State} {A : Nat → Prop} {n : String} {f : Nat → Int32} (hl : (Cond.laysStatic "RxQueues" n "[I").before args s = true) (hini : (Cond.initialized "RxQueues").before args s = true) (harr : (Cond.arrayOf (zSt1 n) .int).before args s = true) (hlen : (Cond.eq (.length (zSt1 n)) (.int 9)).before args s = true) (hel : ∀ j : Nat, j < 9 → (Cond.eq (.elem (zSt1 n) (.int (Int32.ofNat j))) (.int (f j))).before args s = true) (hA : ∀ a : Nat, a < s.heap.size → ¬ A a) : ∃ t : Nat, (zSt1 n).eval args s none [] s = some (.ref t) ∧ va_Z "RxQueues" n "[I" (.ref t) A s s.heap ∧ va_T .int t 9 (fun k => .int (f k)) A s s.heap := by
  obtain ⟨t, h1, h2⟩ := va_Tof (N := 9) (f := fun k => .int (f k)) (by decide) harr (va_eqt hlen) (fun j hj => va_eqt (hel j hj)) hA
  exact ⟨t, h1, va_Zof hl hini h1 hA, h2⟩
theorem zTab_of {args : Array Value} {s : State} {A : Nat → Prop} {g : zG} {n : String} {t : Nat} (ht : (zSt1 n).eval args s none [] s = some (.ref t)) (hT : va_T .int t 9 (fun k => .int (zFirst k)) A s s.heap) (hlen : (Cond.eq (.length (zSt1 n)) (.int 9)).before args s = true) (hex : (Cond.exactly (zSt1 n) "[I").before args s = true) (hcl : s.vm.findClass "[I" = some (g.2.1 0)) (hg : g.2.2 1 = t) : zTab g A s.heap := by
  obtain ⟨cell, h1, h2, h3, h4, h5, h6, h7⟩ := hT
  obtain ⟨a, c, cell2, k, e1, e2, e3, e4, e5, e6, -⟩ := Cond.exactly_spec hex
  cases ht.symm.trans e1
  cases h1.symm.trans e3
  cases hcl.symm.trans e2
  obtain ⟨z1, z2⟩ := zLen (va_eqt hlen) ht h1
  have hsz : cell.slots.size = 9 := by
    have h9 : (Int32.ofNat cell.slots.size).toNatClampNeg = cell.slots.size := Int32.toNatClampNeg_ofNat_of_lt (by omega)
    have h8 : (9 : Int32) = Int32.ofNat cell.slots.size := z2
    rw [← h8] at h9
    exact h9.symm.trans (by decide)
  refine ⟨cell, by rw [hg]; exact h1, e6, (fun k hk => by rw [hk] at e5; cases e5), h3, ?_, by rw [hg]; exact h7⟩
  refine Array.ext_getElem? (fun i => ?_)
  by_cases hi : i < 9
  · rw [h6 i hi, arrV_read _ _ hi]
  · rw [Array.getElem?_eq_none (by omega), Array.getElem?_eq_none (by rw [arrV_size]; omega)]
theorem wZ_LEAST : Cond.laysStatic "RxQueues" "LEAST_TERMS" "[I" ∈ lw_tbl := List.mem_of_getElem? (i := 470) (by decide +kernel)
theorem wZ_FIRST : Cond.laysStatic "RxQueues" "FIRST_TERMS" "[I" ∈ lw_tbl := List.mem_of_getElem? (i := 168) (by decide +kernel)
theorem wZ_MOST : Cond.laysStatic "RxQueues" "MOST_TERMS" "[I" ∈ lw_tbl := List.mem_of_getElem? (i := 472) (by decide +kernel)
set_option maxHeartbeats 1000000 in
theorem zC_of {p : Program} {s : State} {m : MethodId} {meth : Method} {c : Code} {b L : Nat} {xs : Nat → Int32} (C0 : lw_At p s m meth c b L xs) : ∃ g : zG, zCL p s m b meth c g := by
  obtain ⟨hx, hb, hr, hml, hown, hts, hX, hbl, hlocks, hgv⟩ := C0
  have hs := flat_of_before _ hgv
  have hn := zN_of hts
  have hz : ∀ w ∈ zW, w.before #[Value.ref b] s = true := fun w hw => hts w (List.mem_filter.mp hw).1
  have hini : (Cond.initialized "RxQueues").before #[Value.ref b] s = true := hz _ wN7
  have hA : ∀ a : Nat, a < s.heap.size → ¬ AL s a := fun a h => Nat.not_le.mpr h
  obtain ⟨D, cA, hK⟩ := zK_of hz hn
  obtain ⟨tLEAST, eLEAST, zLEAST, vLEAST⟩ := zT_of (n := "LEAST_TERMS") (f := zLeast) (A := AL s) (hts _ wZ_LEAST) hini (hs _ (by decide +kernel)) (hs _ (by decide +kernel)) (fun j hj => by
    match j, hj with
    | 0, _ => exact hs (Cond.eq (.elem (zSt1 "LEAST_TERMS") (.int 0)) (.int 1)) (by decide +kernel)
    | 1, _ => exact hs (Cond.eq (.elem (zSt1 "LEAST_TERMS") (.int 1)) (.int 1)) (by decide +kernel)
    | 2, _ => exact hs (Cond.eq (.elem (zSt1 "LEAST_TERMS") (.int 2)) (.int 1)) (by decide +kernel)
    | 3, _ => exact hs (Cond.eq (.elem (zSt1 "LEAST_TERMS") (.int 3)) (.int 1)) (by decide +kernel)
    | 4, _ => exact hs (Cond.eq (.elem (zSt1 "LEAST_TERMS") (.int 4)) (.int 0)) (by decide +kernel)
    | 5, _ => exact hs (Cond.eq (.elem (zSt1 "LEAST_TERMS") (.int 5)) (.int 64)) (by decide +kernel)
    | 6, _ => exact hs (Cond.eq (.elem (zSt1 "LEAST_TERMS") (.int 6)) (.int 0)) (by decide +kernel)
    | 7, _ => exact hs (Cond.eq (.elem (zSt1 "LEAST_TERMS") (.int 7)) (.int 0)) (by decide +kernel)
    | 8, _ => exact hs (Cond.eq (.elem (zSt1 "LEAST_TERMS") (.int 8)) (.int 1)) (by decide +kernel)) hA
  obtain ⟨tFIRST, eFIRST, zFIRST, vFIRST⟩ := zT_of (n := "FIRST_TERMS") (f := zFirst) (A := AL s) (hts _ wZ_FIRST) hini (hs _ (by decide +kernel)) (hs _ (by decide +kernel)) (fun j hj => by
    match j, hj with
    | 0, _ => exact hs (Cond.eq (.elem (zSt1 "FIRST_TERMS") (.int 0)) (.int 16)) (by decide +kernel)
    | 1, _ => exact hs (Cond.eq (.elem (zSt1 "FIRST_TERMS") (.int 1)) (.int 8)) (by decide +kernel)
    | 2, _ => exact hs (Cond.eq (.elem (zSt1 "FIRST_TERMS") (.int 2)) (.int 40)) (by decide +kernel)
    | 3, _ => exact hs (Cond.eq (.elem (zSt1 "FIRST_TERMS") (.int 3)) (.int 4000)) (by decide +kernel)
    | 4, _ => exact hs (Cond.eq (.elem (zSt1 "FIRST_TERMS") (.int 4)) (.int 40)) (by decide +kernel)
    | 5, _ => exact hs (Cond.eq (.elem (zSt1 "FIRST_TERMS") (.int 5)) (.int 1024)) (by decide +kernel)
    | 6, _ => exact hs (Cond.eq (.elem (zSt1 "FIRST_TERMS") (.int 6)) (.int 0)) (by decide +kernel)
    | 7, _ => exact hs (Cond.eq (.elem (zSt1 "FIRST_TERMS") (.int 7)) (.int 0)) (by decide +kernel)
    | 8, _ => exact hs (Cond.eq (.elem (zSt1 "FIRST_TERMS") (.int 8)) (.int 12)) (by decide +kernel)) hA
  obtain ⟨tMOST, eMOST, zMOST, vMOST⟩ := zT_of (n := "MOST_TERMS") (f := zMost) (A := AL s) (hts _ wZ_MOST) hini (hs _ (by decide +kernel)) (hs _ (by decide +kernel)) (fun j hj => by
    match j, hj with
    | 0, _ => exact hs (Cond.eq (.elem (zSt1 "MOST_TERMS") (.int 0)) (.int 32)) (by decide +kernel)
    | 1, _ => exact hs (Cond.eq (.elem (zSt1 "MOST_TERMS") (.int 1)) (.int 32)) (by decide +kernel)
    | 2, _ => exact hs (Cond.eq (.elem (zSt1 "MOST_TERMS") (.int 2)) (.int 999)) (by decide +kernel)
    | 3, _ => exact hs (Cond.eq (.elem (zSt1 "MOST_TERMS") (.int 3)) (.int 9999)) (by decide +kernel)
    | 4, _ => exact hs (Cond.eq (.elem (zSt1 "MOST_TERMS") (.int 4)) (.int 64)) (by decide +kernel)
    | 5, _ => exact hs (Cond.eq (.elem (zSt1 "MOST_TERMS") (.int 5)) (.int 4096)) (by decide +kernel)
    | 6, _ => exact hs (Cond.eq (.elem (zSt1 "MOST_TERMS") (.int 6)) (.int 1)) (by decide +kernel)
    | 7, _ => exact hs (Cond.eq (.elem (zSt1 "MOST_TERMS") (.int 7)) (.int 256)) (by decide +kernel)
    | 8, _ => exact hs (Cond.eq (.elem (zSt1 "MOST_TERMS") (.int 8)) (.int 32)) (by decide +kernel)) hA
  have hcl : s.vm.findClass "[I" = some (cA 0) := ((hK (fun _ => 0)).2 0 (cA 0, .int) rfl).2
  refine ⟨(D, cA, fun k => [tLEAST, tFIRST, tMOST].getD k 0), hx, hb, hml, hown, hz, hK _, fun _ h => h, ⟨zLEAST, zFIRST, zMOST, vLEAST, ?_, vMOST, hn⟩, hlocks⟩
  exact zTab_of eFIRST vFIRST (hs _ (by decide +kernel)) (hs (Cond.exactly (zSt1 "FIRST_TERMS") "[I") (by decide +kernel)) hcl rfl
/-- the law comes to its end with true, once there's a relation that every pair of calls keeps -/
theorem whole_start_of {p : Program} {e : Env} {s : State} {m : MethodId} {below : List Frame} {meth : Method} {c : Code} (l : Launch) {b L : Nat} {xs : Nat → Int32} (hL : L ≤ 3072) (C0 : lw_At p s m meth c b L xs) (Rel : Nat → TS → RS → Prop) (h0 : Rel 0 iT iR) (hA : ∀ t, t < 512 → pAll (Rel t) (Rel (t + 1))) (hM : ∀ t u r, Rel t u r → Rel (t + 1) u r) : W p l e room_1 s m #[Value.ref b] below meth c s.heap [] 0 0 (lw_Z below #[Value.ref b] s) (entryFrame m ([Value.ref b] : List Value).toArray 4) := by
  obtain ⟨g, C⟩ := zC_of C0
  obtain ⟨hx, hb, hr, hml, hown, hts, hX, hbl, hlocks, hgv⟩ := C0
  have hl := lv_entry ([.ref b]) (n := 4) (Nat.le_of_ble_eq_true rfl)
  rw [lg_entry_eq]
  exact law_all hL C hr hX hbl h0 hA hM s.heap [] _ (fun k q hk => by cases hk) ⟨(fun i j p q hp => by cases hp), (fun i q hk => by cases hk)⟩ va_S.rf hl
