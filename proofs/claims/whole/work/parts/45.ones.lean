/-! the model counts bits one by one -/
theorem pc_0 (n : Nat) : pc n 0 = 0 := by
  induction n with
  | zero => rfl
  | succ n ih => show 0 % 2 + pc n (0 / 2) = 0; rw [Nat.zero_div, ih]
theorem i64_ne {a : Int64} (h : ¬ a = 0) : a.toUInt64.toNat ≠ 0 := by
  intro h2
  apply h
  cases a with
  | ofUInt64 u =>
    have e : u = 0 := UInt64.toNat_inj.mp h2
    rw [e]
    rfl
theorem i64_pred {a : Int64} (h : ¬ a = 0) : (a &&& (a - 1)).toUInt64.toNat = a.toUInt64.toNat &&& (a.toUInt64.toNat - 1) := by
  have e1 : (1 : Int64).toUInt64.toNat = 1 := by decide
  have h2 := i64_ne h
  rw [u64_and, u64_sub _ _ (by rw [e1]; omega), e1]
theorem ones_u (n : Nat) (c : Int32) (a : Int64) (M : m_M) : F_X12_ones_4 (n + 1) c a M = if lg_cmp a 0 = 0 then some (c, M) else F_X12_ones_4 n (c + 1) (a &&& (a - 1)) M := by
  rw [F_X12_ones_4]
  rfl
theorem ones_l (N : Nat) : ∀ (n c : Nat) (a : Int64) (M : m_M), a.toUInt64.toNat < 2 ^ N → pc N a.toUInt64.toNat < n → F_X12_ones_4 n (nI c) a M = some (nI (c + pc N a.toUInt64.toNat), M) := by
  intro n
  induction n with
  | zero => intro c a M _ h; exact absurd h (Nat.not_lt_zero _)
  | succ n ih =>
    intro c a M hN h
    rw [ones_u]
    by_cases h0 : a = 0
    · rw [if_pos ((lg_cmp_eq _ _).mpr h0), h0, show (0 : Int64).toUInt64.toNat = 0 from by decide, pc_0, Nat.add_zero]
    · rw [if_neg (fun q => h0 ((lg_cmp_eq _ _).mp q)), nI_1]
      have e := i64_pred h0
      have hx := pc_and N a.toUInt64.toNat (i64_ne h0) hN
      rw [← e] at hx
      have hlt : (a &&& (a - 1)).toUInt64.toNat < 2 ^ N := by rw [e]; exact Nat.lt_of_le_of_lt Nat.and_le_left hN
      rw [ih (c + 1) _ M hlt (by rw [hx] at h; exact Nat.lt_of_succ_lt_succ h), hx, Nat.add_assoc, Nat.add_comm 1]
theorem S_ones (a : Int64) (M : m_M) : F_X12_ones a M = some (nI (pc 64 a.toUInt64.toNat), M) := by
  have h := ones_l 64 m_FU 0 a M a.toUInt64.toNat_lt (m_FU_lt (Nat.lt_of_le_of_lt (pc_le 64 _) (by decide)))
  rw [Nat.zero_add, nI_0] at h
  exact h
