/-! bits of numbers -/
theorem nI_bv (n : Nat) : (nI n).toBitVec = BitVec.ofNat 32 n := rfl
theorem nI_and (x y : Nat) : nI x &&& nI y = nI (x &&& y) := by
  apply Int32.toBitVec_inj.mp
  rw [Int32.toBitVec_and, nI_bv, nI_bv, nI_bv, BitVec.ofNat_and]
theorem nI_or (x y : Nat) : nI x ||| nI y = nI (x ||| y) := by
  apply Int32.toBitVec_inj.mp
  rw [Int32.toBitVec_or, nI_bv, nI_bv, nI_bv, BitVec.ofNat_or]
theorem sh31 : ∀ s, s < 32 → (nI s &&& (31 : Int32)) = nI s := by decide +kernel
theorem sh31b : ∀ s, s < 32 → (nI s).toBitVec.smod 32 = BitVec.ofNat 32 s := by decide +kernel
theorem nI_shr {x s : Nat} (hx : x < 2147483648) (hs : s < 32) : nI x >>> (nI s &&& (31 : Int32)) = nI (x / 2 ^ s) := by
  rw [sh31 s hs]
  apply Int32.toBitVec_inj.mp
  rw [Int32.toBitVec_shiftRight, sh31b s hs, nI_bv, nI_bv]
  show BitVec.sshiftRight (BitVec.ofNat 32 x) (BitVec.ofNat 32 s).toNat = _
  rw [BitVec.sshiftRight_eq_of_msb_false]
  · apply BitVec.eq_of_toNat_eq
    rw [BitVec.toNat_ushiftRight, BitVec.toNat_ofNat, BitVec.toNat_ofNat, BitVec.toNat_ofNat, Nat.mod_eq_of_lt (show x < 2 ^ 32 by omega), Nat.mod_eq_of_lt (show s < 2 ^ 32 by omega), Nat.shiftRight_eq_div_pow, Nat.mod_eq_of_lt (Nat.lt_of_le_of_lt (Nat.div_le_self _ _) (by omega))]
  · rw [BitVec.msb_eq_decide]
    simp
    omega
theorem nI_shl {x s : Nat} (hs : s < 32) : nI x <<< (nI s &&& (31 : Int32)) = nI (x * 2 ^ s) := by
  rw [sh31 s hs]
  apply Int32.toBitVec_inj.mp
  rw [Int32.toBitVec_shiftLeft, sh31b s hs, nI_bv, nI_bv]
  show BitVec.shiftLeft (BitVec.ofNat 32 x) (BitVec.ofNat 32 s).toNat = _
  apply BitVec.eq_of_toNat_eq
  show ((BitVec.ofNat 32 x) <<< (BitVec.ofNat 32 s).toNat).toNat = _
  rw [BitVec.toNat_shiftLeft, BitVec.toNat_ofNat, BitVec.toNat_ofNat, BitVec.toNat_ofNat, Nat.mod_eq_of_lt (show s < 2 ^ 32 by omega), Nat.shiftLeft_eq, Nat.mod_mul_mod]
theorem nI_m1 (x : Nat) : nI x &&& nI 1 = nI (x % 2) := by rw [nI_and, show (1 : Nat) = 2 ^ 1 - 1 from rfl, Nat.and_two_pow_sub_one_eq_mod]
theorem nI_m3 (x : Nat) : nI x &&& nI 3 = nI (x % 4) := by rw [nI_and, show (3 : Nat) = 2 ^ 2 - 1 from rfl, Nat.and_two_pow_sub_one_eq_mod]
theorem nI_m7 (x : Nat) : nI x &&& nI 7 = nI (x % 8) := by rw [nI_and, show (7 : Nat) = 2 ^ 3 - 1 from rfl, Nat.and_two_pow_sub_one_eq_mod]
theorem nI_m15 (x : Nat) : nI x &&& nI 15 = nI (x % 16) := by rw [nI_and, show (15 : Nat) = 2 ^ 4 - 1 from rfl, Nat.and_two_pow_sub_one_eq_mod]
theorem nI_m2047 (x : Nat) : nI x &&& nI 2047 = nI (x % 2048) := by rw [nI_and, show (2047 : Nat) = 2 ^ 11 - 1 from rfl, Nat.and_two_pow_sub_one_eq_mod]
theorem nI_orb {x y s : Nat} (hy : y < 2 ^ s) : nI (x * 2 ^ s) ||| nI y = nI (x * 2 ^ s + y) := by
  rw [nI_or, Nat.mul_comm, Nat.two_pow_add_eq_or_of_lt hy]
