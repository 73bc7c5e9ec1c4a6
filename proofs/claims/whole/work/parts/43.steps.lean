/-! programs run by simp: each step as an equation -/
section P_STEPS
variable {β : Type} {kd : Nat} {M : m_M} {a q : Nat}
theorem x_gI_eq {f : Int32 → Option β} : x_gI kd M a q f = if m_K M a = kd then f (m_I M a q) else none := rfl
theorem x_gL_eq {f : Int64 → Option β} : x_gL kd M a q f = if m_K M a = kd then f (m_L M a q) else none := rfl
theorem x_gO_eq {f : Option Nat → Option β} : x_gO kd M a q f = if m_K M a = kd then f (m_R M a q) else none := rfl
theorem x_pI_eq {f : m_M → Option β} {v : Int32} : x_pI kd M a q v f = if m_K M a = kd then f (m_sI M a q v) else none := rfl
theorem x_pL_eq {f : m_M → Option β} {v : Int64} : x_pL kd M a q v f = if m_K M a = kd then f (m_sL M a q v) else none := rfl
theorem x_pR_eq {f : m_M → Option β} {v : Option Nat} : x_pR kd M a q v f = if m_K M a = kd then f (m_sR M a q v) else none := rfl
theorem x_aI_eq {f : Int32 → Option β} {i : Int32} : x_aI kd M a i f = if m_K M a = kd ∧ 0 ≤ i ∧ i.toNatClampNeg < m_len M a then f (m_I M a i.toNatClampNeg) else none := rfl
theorem x_aL_eq {f : Int64 → Option β} {i : Int32} : x_aL M a i f = if m_K M a = 13 ∧ 0 ≤ i ∧ i.toNatClampNeg < m_len M a then f (m_L M a i.toNatClampNeg) else none := rfl
theorem x_aO_eq {f : Option Nat → Option β} {i : Int32} : x_aO kd M a i f = if m_K M a = kd ∧ 0 ≤ i ∧ i.toNatClampNeg < m_len M a then f (m_R M a i.toNatClampNeg) else none := rfl
theorem x_sI_eq {f : m_M → Option β} {i v : Int32} : x_sI kd M a i v f = if m_K M a = kd ∧ 0 ≤ i ∧ i.toNatClampNeg < m_len M a then f (m_sI M a i.toNatClampNeg v) else none := rfl
theorem x_sL_eq {f : m_M → Option β} {i : Int32} {v : Int64} : x_sL M a i v f = if m_K M a = 13 ∧ 0 ≤ i ∧ i.toNatClampNeg < m_len M a then f (m_sL M a i.toNatClampNeg v) else none := rfl
theorem x_len_eq {f : Int32 → Option β} : x_len kd M a f = if m_K M a = kd then f (nI (m_len M a)) else none := rfl
theorem x_cV_eq {α : Type} {o : Option (α × m_M)} {f : α → m_M → Option β} : x_cV kd M a o f = if m_K M a = kd then x_bd o f else none := rfl
theorem x_b_eq {v : Int32} {f : Option β} : x_b v f = if v = 0 ∨ v = 1 then f else none := rfl
theorem x_c_eq {v : Int32} {f : Option β} : x_c v f = if 0 ≤ v ∧ v.toNatClampNeg < 65536 then f else none := rfl
theorem x_nz_eq {v : Int32} {f : Option β} : x_nz v f = if v = 0 then none else f := rfl
theorem x_bd_some {α : Type} {v : α} {f : α → m_M → Option β} : x_bd (some (v, M)) f = f v M := rfl
theorem m_let_eq {α γ : Type} (v : α) (f : α → γ) : m_let v f = f v := rfl
theorem nI_p {n : Nat} (h : n < 2147483648) : (0 ≤ nI n) = True := eq_true (nI_pos' h)
theorem nI_lt0 {n : Nat} (h : n < 2147483648) : (nI n < 0) = False := eq_false (nI_pos h)
theorem nI_mul (a b : Nat) : nI a * nI b = nI (a * b) := (Int32.ofNat_mul a b).symm
end P_STEPS
