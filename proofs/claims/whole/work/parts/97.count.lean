-- the pure side: bits counted
def zpc (m : Nat) : Nat → Nat
  | 0 => 0
  | i + 1 => Nat.add (zpc m i) (Nat.land (Nat.shiftRight m i) 1)
def zsa1 (m : Nat) : Nat := Nat.sub m (Nat.land (Nat.shiftRight m 1) 1431655765)
def zsa2 (a : Nat) : Nat := Nat.add (Nat.land a 858993459) (Nat.land (Nat.shiftRight a 2) 858993459)
def zsa3 (a : Nat) : Nat := Nat.land (Nat.add a (Nat.shiftRight a 4)) 252645135
def zsa4 (a : Nat) : Nat := Nat.add a (Nat.shiftRight a 8)
def zsa5 (a : Nat) : Nat := Nat.add a (Nat.shiftRight a 16)
def zsw (m : Nat) : Bool := and (Nat.ble (Nat.land (Nat.shiftRight m 1) 1431655765) m) (and (Nat.ble (zsa1 m) 65536) (and (Nat.ble (zsa2 (zsa1 m)) 65536) (and (Nat.ble (zsa3 (zsa2 (zsa1 m))) 65536) (and (Nat.ble (zsa4 (zsa3 (zsa2 (zsa1 m)))) 65536) (Nat.beq (Nat.land (zsa5 (zsa4 (zsa3 (zsa2 (zsa1 m))))) 63) (zpc m 16))))))
def zswL (b : Nat) : Nat → Bool
  | 0 => true
  | k + 1 => and (zsw (Nat.add b k)) (zswL b k)
theorem zswL_at {b : Nat} : ∀ {n k : Nat}, zswL b n = true → k < n → zsw (b + k) = true
  | n + 1, k, h, hk => by
    replace h : and (zsw (Nat.add b n)) (zswL b n) = true := h
    rw [Bool.and_eq_true] at h
    by_cases e : k = n
    · subst e; exact h.1
    · exact zswL_at h.2 (by omega)
theorem zsw_0 : zswL 0 1024 = true := by decide +kernel
theorem zsw_1 : zswL 1024 1024 = true := by decide +kernel
theorem zsw_2 : zswL 2048 1024 = true := by decide +kernel
theorem zsw_3 : zswL 3072 1024 = true := by decide +kernel
theorem zsw_4 : zswL 4096 1024 = true := by decide +kernel
theorem zsw_5 : zswL 5120 1024 = true := by decide +kernel
theorem zsw_6 : zswL 6144 1024 = true := by decide +kernel
theorem zsw_7 : zswL 7168 1024 = true := by decide +kernel
theorem zsw_8 : zswL 8192 1024 = true := by decide +kernel
theorem zsw_9 : zswL 9216 1024 = true := by decide +kernel
theorem zsw_10 : zswL 10240 1024 = true := by decide +kernel
theorem zsw_11 : zswL 11264 1024 = true := by decide +kernel
theorem zsw_12 : zswL 12288 1024 = true := by decide +kernel
theorem zsw_13 : zswL 13312 1024 = true := by decide +kernel
theorem zsw_14 : zswL 14336 1024 = true := by decide +kernel
theorem zsw_15 : zswL 15360 1024 = true := by decide +kernel
theorem zsw_16 : zswL 16384 1024 = true := by decide +kernel
theorem zsw_17 : zswL 17408 1024 = true := by decide +kernel
theorem zsw_18 : zswL 18432 1024 = true := by decide +kernel
theorem zsw_19 : zswL 19456 1024 = true := by decide +kernel
theorem zsw_20 : zswL 20480 1024 = true := by decide +kernel
theorem zsw_21 : zswL 21504 1024 = true := by decide +kernel
theorem zsw_22 : zswL 22528 1024 = true := by decide +kernel
theorem zsw_23 : zswL 23552 1024 = true := by decide +kernel
theorem zsw_24 : zswL 24576 1024 = true := by decide +kernel
theorem zsw_25 : zswL 25600 1024 = true := by decide +kernel
theorem zsw_26 : zswL 26624 1024 = true := by decide +kernel
theorem zsw_27 : zswL 27648 1024 = true := by decide +kernel
theorem zsw_28 : zswL 28672 1024 = true := by decide +kernel
theorem zsw_29 : zswL 29696 1024 = true := by decide +kernel
theorem zsw_30 : zswL 30720 1024 = true := by decide +kernel
theorem zsw_31 : zswL 31744 1024 = true := by decide +kernel
theorem zsw_32 : zswL 32768 1024 = true := by decide +kernel
theorem zsw_33 : zswL 33792 1024 = true := by decide +kernel
theorem zsw_34 : zswL 34816 1024 = true := by decide +kernel
theorem zsw_35 : zswL 35840 1024 = true := by decide +kernel
theorem zsw_36 : zswL 36864 1024 = true := by decide +kernel
theorem zsw_37 : zswL 37888 1024 = true := by decide +kernel
theorem zsw_38 : zswL 38912 1024 = true := by decide +kernel
theorem zsw_39 : zswL 39936 1024 = true := by decide +kernel
theorem zsw_40 : zswL 40960 1024 = true := by decide +kernel
theorem zsw_41 : zswL 41984 1024 = true := by decide +kernel
theorem zsw_42 : zswL 43008 1024 = true := by decide +kernel
theorem zsw_43 : zswL 44032 1024 = true := by decide +kernel
theorem zsw_44 : zswL 45056 1024 = true := by decide +kernel
theorem zsw_45 : zswL 46080 1024 = true := by decide +kernel
theorem zsw_46 : zswL 47104 1024 = true := by decide +kernel
theorem zsw_47 : zswL 48128 1024 = true := by decide +kernel
theorem zsw_48 : zswL 49152 1024 = true := by decide +kernel
theorem zsw_49 : zswL 50176 1024 = true := by decide +kernel
theorem zsw_50 : zswL 51200 1024 = true := by decide +kernel
theorem zsw_51 : zswL 52224 1024 = true := by decide +kernel
theorem zsw_52 : zswL 53248 1024 = true := by decide +kernel
theorem zsw_53 : zswL 54272 1024 = true := by decide +kernel
theorem zsw_54 : zswL 55296 1024 = true := by decide +kernel
theorem zsw_55 : zswL 56320 1024 = true := by decide +kernel
theorem zsw_56 : zswL 57344 1024 = true := by decide +kernel
theorem zsw_57 : zswL 58368 1024 = true := by decide +kernel
theorem zsw_58 : zswL 59392 1024 = true := by decide +kernel
theorem zsw_59 : zswL 60416 1024 = true := by decide +kernel
theorem zsw_60 : zswL 61440 1024 = true := by decide +kernel
theorem zsw_61 : zswL 62464 1024 = true := by decide +kernel
theorem zsw_62 : zswL 63488 1024 = true := by decide +kernel
theorem zsw_63 : zswL 64512 1024 = true := by decide +kernel
theorem zsw_c : ∀ c : Nat, c < 64 → zswL (1024 * c) 1024 = true
  | 0, _ => zsw_0
  | 1, _ => zsw_1
  | 2, _ => zsw_2
  | 3, _ => zsw_3
  | 4, _ => zsw_4
  | 5, _ => zsw_5
  | 6, _ => zsw_6
  | 7, _ => zsw_7
  | 8, _ => zsw_8
  | 9, _ => zsw_9
  | 10, _ => zsw_10
  | 11, _ => zsw_11
  | 12, _ => zsw_12
  | 13, _ => zsw_13
  | 14, _ => zsw_14
  | 15, _ => zsw_15
  | 16, _ => zsw_16
  | 17, _ => zsw_17
  | 18, _ => zsw_18
  | 19, _ => zsw_19
  | 20, _ => zsw_20
  | 21, _ => zsw_21
  | 22, _ => zsw_22
  | 23, _ => zsw_23
  | 24, _ => zsw_24
  | 25, _ => zsw_25
  | 26, _ => zsw_26
  | 27, _ => zsw_27
  | 28, _ => zsw_28
  | 29, _ => zsw_29
  | 30, _ => zsw_30
  | 31, _ => zsw_31
  | 32, _ => zsw_32
  | 33, _ => zsw_33
  | 34, _ => zsw_34
  | 35, _ => zsw_35
  | 36, _ => zsw_36
  | 37, _ => zsw_37
  | 38, _ => zsw_38
  | 39, _ => zsw_39
  | 40, _ => zsw_40
  | 41, _ => zsw_41
  | 42, _ => zsw_42
  | 43, _ => zsw_43
  | 44, _ => zsw_44
  | 45, _ => zsw_45
  | 46, _ => zsw_46
  | 47, _ => zsw_47
  | 48, _ => zsw_48
  | 49, _ => zsw_49
  | 50, _ => zsw_50
  | 51, _ => zsw_51
  | 52, _ => zsw_52
  | 53, _ => zsw_53
  | 54, _ => zsw_54
  | 55, _ => zsw_55
  | 56, _ => zsw_56
  | 57, _ => zsw_57
  | 58, _ => zsw_58
  | 59, _ => zsw_59
  | 60, _ => zsw_60
  | 61, _ => zsw_61
  | 62, _ => zsw_62
  | 63, _ => zsw_63
  | n + 64, h => absurd h (by omega)
theorem zsw_all (m : Nat) (h : m < 65536) : zsw m = true := by
  have := zswL_at (zsw_c (m / 1024) (by omega)) (k := m % 1024) (Nat.mod_lt _ (by decide))
  rw [show 1024 * (m / 1024) + m % 1024 = m by omega] at this
  exact this
