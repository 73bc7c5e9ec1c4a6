/-! the bits of small sets, counted as the class counts them -/
def bct (n : Nat) : Nat := cnt n.testBit 12
def bcI (a : Int32) : Int32 :=
  let v1 := a - (((a.toUInt32 >>> ((1 : Int32).toUInt32 &&& Int32.toUInt32 31)).toInt32) &&& (1431655765 : Int32))
  let v2 := (v1 &&& (858993459 : Int32)) + (((v1.toUInt32 >>> ((2 : Int32).toUInt32 &&& Int32.toUInt32 31)).toInt32) &&& (858993459 : Int32))
  let v3 := (v2 + ((v2.toUInt32 >>> ((4 : Int32).toUInt32 &&& Int32.toUInt32 31)).toInt32)) &&& (252645135 : Int32)
  let v4 := v3 + ((v3.toUInt32 >>> ((8 : Int32).toUInt32 &&& Int32.toUInt32 31)).toInt32)
  let v5 := v4 + ((v4.toUInt32 >>> ((16 : Int32).toUInt32 &&& Int32.toUInt32 31)).toInt32)
  v5 &&& (63 : Int32)
theorem bcI_all2 : ∀ a, a < 64 → ∀ b, b < 64 → bcI (nI (a * 64 + b)) = nI (bct (a * 64 + b)) := by decide +kernel
theorem bcI_all (n : Nat) (hn : n < 4096) : bcI (nI n) = nI (bct n) := by
  have h := bcI_all2 (n / 64) (by omega) (n % 64) (by omega)
  rw [show n / 64 * 64 + n % 64 = n by omega] at h
  exact h
theorem S_bitCount {M : m_M} {n : Nat} (hn : n < 4096) : F_J6_bitCount_0f7a4 (nI n) M = some (nI (bct n), M) := by
  rw [← bcI_all n hn]
  rfl
