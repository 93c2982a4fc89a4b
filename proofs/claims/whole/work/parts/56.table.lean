-- the pure side: table
theorem q8_isQueue {x : Int32} {Q : Int32 → Prop} (h1 : ∀ k, k ≤ 3 → x = nI k → Q 1) (h2 : (∀ k, k ≤ 3 → ¬ x = nI k) → Q 0) : wp_X8_isQueue x Q := by
  unfold wp_X8_isQueue
  exact q8_in0 3 (by decide) (by decide) (fun k hk e => ⟨Or.inr rfl, h1 k hk e⟩) (fun ho => ⟨Or.inl rfl, h2 ho⟩)
theorem q8_becomes {u : TS} {r : RS} {x1 x2 s : Int32} {Q : Int32 → RS → Prop} (h : Rel0 u r) (a : Nat) (e : x1 = nI a) (ha : a < 1065) (hQ : ∀ (m : Nat) (v r2 : RS), r.1 8 0 = nI m → m ≤ 8 → zrem r m s v → r2 = rN (rI v 3 (upd (r.1 3) a x2)) 1 0 → Q (r.1 3 a) r2) : wp_X8_becomes r x1 x2 s Q := by
  subst e
  unfold wp_X8_becomes
  refine q8_rem h (fun m v m1 m2 hz => ?_)
  rw [zn_nI (by omega)]
  have e3 : v.1 3 = r.1 3 := by
    obtain ⟨p, d, -, z1, -⟩ := hz
    exact z1 3 (by decide) (by decide) (by decide)
  refine ⟨in_nI ha (by decide), fun y ey => ⟨in_nI ha (by decide), fun r1 e1 => ?_⟩⟩
  unfold wp_X8_tell
  intro r2 e2
  rw [ey, e3]
  exact hQ m v r2 m1 m2 hz (by rw [e2, e1, e3])
/-- the reference put one number, the class what goes with it -/
theorem k_put {u u1 u2 : TS} {r v r2 : RS} {cs : Nat → RS} {m a : Nat} {s x2 : Int32} (hv : Rel0 u1 v) (l1 : u1.1.1 4 0 = 0) (hu : u2 = tN u1 cs) (hz : zrem r m s v) (hr : r2 = rN (rI v 3 (upd (r.1 3) a x2)) 1 0) (hs : Sim cs (upd (r.1 3) a x2) (r.2 4)) : Rel u2 r2 := by
  refine k_end hv l1 hu (by rw [hr, rN_s]) (fun k hk => ?_) (fun k hk => by rw [hr, rN_2, rI_2]) ?_
  · rw [hr, rN_n _ _ (by omega), rI_n _ _ (by omega)]
  · obtain ⟨p, d, -, -, z2, -⟩ := hz
    rw [hr, rN_n _ _ (by decide), rI_s, rN_2, rI_2, z2 4 (by decide)]
    exact hs
