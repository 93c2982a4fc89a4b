-- the pure side: the start is alike
theorem i0_T : ∀ e : Nat, e < 16 → (iS 3).1 0 e = iR.1 3 (23 + e) ∧ (iS 3).1 1 e = iR.1 3 (39 + e) ∧ iR.1 3 (23 + e) = nI (e % 4) := by decide +kernel
theorem i0_Q : ∀ q : Nat, q < 4 → iR.1 3 (433 + 140 * q + 0) = nI 0 ∧ ∀ k : Nat, k < 8 → (iS (5 + q)).1 (zqf k) 0 = iR.1 3 (433 + 140 * q + k) := by decide +kernel
theorem i0_O : ∀ i : Nat, i < 9 → (iS 0).1 5 i = iR.1 3 (14 + i) ∧ zlo i ≤ [16, 8, 40, 4000, 40, 1024, 0, 0, 12].getD i 0 ∧ [16, 8, 40, 4000, 40, 1024, 0, 0, 12].getD i 0 ≤ zhi i ∧ iR.1 3 (14 + i) = nI ([16, 8, 40, 4000, 40, 1024, 0, 0, 12].getD i 0) := by decide +kernel
theorem i0_K : ∀ i : Nat, i < 41 → (0 : Int32) = zwin 0 0 0 i := by decide +kernel
theorem i0_z : ∀ j : Nat, j < 14 → j ≠ 3 → iR.1 3 j = 0 := by decide +kernel
theorem i0_H : ∀ e : Nat, e < 16 → iR.1 3 (39 + e) = nI 0 := by decide +kernel
theorem i0_P : ∀ q : Nat, q < 4 → ∀ i : Nat, i < 32 → iR.1 3 (441 + 140 * q + 4 * i + 2) = nI 0 := by decide +kernel
theorem i0_3 : iR.1 3 3 = nI 31 := by decide +kernel
theorem i0_S : iR.2 4 = fun _ => 0 := rfl
theorem i0_sim : SimX 0 0 (fun _ => 0) iS (iR.1 3) (iR.2 4) := by
  have z := i0_z
  refine ⟨rfl, ⟨fun i hi => ?_, ⟨0, by decide, z 2 (by decide) (by decide)⟩, ?_, 31, by decide, i0_3⟩, ⟨z 4 (by decide) (by decide), by decide, fun j k hj => absurd hj (by omega), fun j k hj => absurd hj (by omega), fun j hj => absurd hj (by omega), fun j hj => absurd hj (by omega), fun j hj => absurd hj (by omega), fun j k _ _ _ => rfl⟩, ⟨⟨by decide, z 5 (by decide) (by decide), rfl, fun r hr => absurd hr (by omega), fun f hf => absurd hf (by omega), fun r t _ ht => absurd ht (by omega)⟩, fun r hr => absurd hr (by omega), fun f hf => absurd hf (by omega)⟩, fun e he => ?_, fun q hq => ?_, fun f hf => absurd hf (by omega), ⟨0, 0, by decide, by decide, rfl, z 13 (by decide) (by decide), rfl, fun a w ha => absurd ha (by omega), fun i _ => by rw [i0_S]; rfl⟩, fun f _ => rfl, ⟨fun i hi => (i0_O i hi).1, by rw [z 6 (by decide) (by decide)]; rfl, by rw [z 11 (by decide) (by decide)]; rfl, ⟨0, by decide, z 6 (by decide) (by decide)⟩, fun i hi => ⟨_, (i0_O i hi).2.1, (i0_O i hi).2.2.1, (i0_O i hi).2.2.2⟩⟩, z 7 (by decide) (by decide), z 8 (by decide) (by decide), z 9 (by decide) (by decide), z 12 (by decide) (by decide), ?_⟩
  · rw [z 0 (by decide) (by decide), z 1 (by decide) (by decide), z 2 (by decide) (by decide)]
    exact i0_K i hi
  · rw [i0_3]; rfl
  · obtain ⟨a, b, c⟩ := i0_T e he
    exact ⟨a, b, e % 4, Nat.mod_lt _ (by decide), c⟩
  · show sQ 0 q 0 (iS (5 + q)) (iR.1 3)
    exact ⟨by decide, (i0_Q q hq).1, (i0_Q q hq).2, fun i w hi => absurd hi (by omega), fun i hi => absurd hi (by omega), fun i hi => absurd hi (by omega)⟩
  · rw [z 10 (by decide) (by decide)]
    have e : ∀ q : Nat, q < 4 → iR.1 3 (433 + 140 * q + 3) = 0 := by decide +kernel
    show _ = 0 + iR.1 3 (433 + 140 * 0 + 3) + iR.1 3 (433 + 140 * 1 + 3) + iR.1 3 (433 + 140 * 2 + 3) + iR.1 3 (433 + 140 * 3 + 3)
    rw [e 0 (by decide), e 1 (by decide), e 2 (by decide), e 3 (by decide)]
    decide
theorem i0_rel : Rel 0 iT iR := by
  refine ⟨rfl, fun _ _ => rfl, ⟨i0_sim.sim, fun e he => ⟨0, by decide, i0_H e he⟩, ⟨0, 0, 0, rfl, rfl, rfl, by decide, by decide, by decide, by decide⟩, fun q i hq hi => ⟨0, by decide, i0_P q hq i hi⟩⟩, ⟨0, 0, by decide, by decide, rfl, rfl, rfl, fun a ha => absurd ha (by omega)⟩, fun k q hk e => absurd e (by intro z; cases z), fun k hk => Or.inl ⟨rfl, rfl⟩, fun q e => absurd e (by intro z; cases z)⟩
theorem p_all {B : Nat} (hB : 16 * (B + 30000) < 2147483648) : pAll (Rel B) (Rel (B + 30000)) := by
  unfold pAll
  exact ⟨p_key, p_mask, p_flow, p_table, p_balance, p_reads, p_retire, p_steer, p_free, p_terms, p_packet, p_burst, p_gap, p_tick, p_poll, p_undo, p_image, p_back, p_hash, p_hashOf, p_of, p_find, p_missing, p_entry, p_queue, p_waits, p_segment, p_given, p_window, p_isBothWays, p_reach, p_aim, p_spread, p_ratio hB, p_alike, p_load hB, p_would, p_drain, p_nextCall, p_joined, p_count, p_status⟩
