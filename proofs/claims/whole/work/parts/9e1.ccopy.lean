/-! a land copied, and settled: the class -/
def cpy (A : IA) (a0 a n : Nat) : IA := fun b j => if b = a then va_cpy (A a0) (A a) 0 0 n j else A b j
def cpyL (A : Nat → Nat → Int64) (a0 a n : Nat) : Nat → Nat → Int64 := fun b j => if b = a then va_cpy (A a0) (A a) 0 0 n j else A b j
section CCOPY
variable {M M' : m_M} {A : IA} {B : Nat → Nat → Int64}
theorem cpy_at {a0 a n j : Nat} (h : j < n) : cpy A a0 a n a j = A a0 j := by
  unfold cpy va_cpy
  rw [if_pos rfl, if_pos (by omega)]
  congr 1
  omega
theorem cpyL_at {a0 a n j : Nat} (h : j < n) : cpyL B a0 a n a j = B a0 j := by
  unfold cpyL va_cpy
  rw [if_pos rfl, if_pos (by omega)]
  congr 1
  omega
theorem cpy_fr {a0 a n b : Nat} (h : b ≠ a) : cpy A a0 a n b = A b := by
  funext j
  exact if_neg h
theorem cpyL_fr {a0 a n b : Nat} (h : b ≠ a) : cpyL B a0 a n b = B b := by
  funext j
  exact if_neg h
theorem w2_cp {a0 a n : Nat} : m_wI (m_w2 M A B) a (va_cpy (m_I (m_w2 M A B) a0) (m_I (m_w2 M A B) a) 0 0 n) = m_w2 M (cpy A a0 a n) B := rfl
theorem w2_cpL {a0 a n : Nat} : m_wL (m_w2 M A B) a (va_cpy (m_L (m_w2 M A B) a0) (m_L (m_w2 M A B) a) 0 0 n) = m_w2 M A (cpyL B a0 a n) := rfl
theorem C_copy (h : G M) : ∃ A B, F_X3_copyFrom 2 16 M = x_cV 3 (m_w2 M A B) 2 (F_X3_settle 2 (m_w2 M A B)) (fun _ M13 => some ((), M13)) ∧ (∀ b, (b < 2 ∨ (7 = b) ∨ 10 < b) → A b = m_I M b) ∧ (∀ b, b ≠ 7 → B b = m_L M b) ∧ (A 2 0 = m_I M 16 0 ∧ A 2 1 = m_I M 16 1 ∧ A 2 2 = m_I M 16 2 ∧ A 2 5 = m_I M 16 5) ∧ (∀ k, k < 4 → A 3 k = m_I M 17 k) ∧ (∀ k, k < 5 → A 4 k = m_I M 18 k) ∧ (∀ k, k < 7 → A 5 k = m_I M 19 k) ∧ (∀ k, k < 18 → A 6 k = m_I M 20 k) ∧ (∀ k, k < 1000 → A 8 k = m_I M 22 k) ∧ (∀ k, k < 32 → A 9 k = m_I M 23 k) ∧ (∀ k, k < 32 → A 10 k = m_I M 24 k) ∧ ∀ k, k < 32 → B 7 k = m_L M 21 k := by
  have K2 : ∀ A B, m_K (m_w2 M A B) 2 = 3 := fun A B => by simp only [w2_K, gK h]
  have K16 : ∀ A B, m_K (m_w2 M A B) 16 = 3 := fun A B => by simp only [w2_K, gK h]
  have k3 : ∀ A B, m_K (m_w2 M A B) 3 = 12 := fun A B => by simp only [w2_K, gK h]
  have k4 : ∀ A B, m_K (m_w2 M A B) 4 = 12 := fun A B => by simp only [w2_K, gK h]
  have k5 : ∀ A B, m_K (m_w2 M A B) 5 = 12 := fun A B => by simp only [w2_K, gK h]
  have k6 : ∀ A B, m_K (m_w2 M A B) 6 = 12 := fun A B => by simp only [w2_K, gK h]
  have k7 : ∀ A B, m_K (m_w2 M A B) 7 = 13 := fun A B => by simp only [w2_K, gK h]
  have k8 : ∀ A B, m_K (m_w2 M A B) 8 = 12 := fun A B => by simp only [w2_K, gK h]
  have k9 : ∀ A B, m_K (m_w2 M A B) 9 = 12 := fun A B => by simp only [w2_K, gK h]
  have k10 : ∀ A B, m_K (m_w2 M A B) 10 = 12 := fun A B => by simp only [w2_K, gK h]
  have k17 : ∀ A B, m_K (m_w2 M A B) 17 = 12 := fun A B => by simp only [w2_K, gK h]
  have k18 : ∀ A B, m_K (m_w2 M A B) 18 = 12 := fun A B => by simp only [w2_K, gK h]
  have k19 : ∀ A B, m_K (m_w2 M A B) 19 = 12 := fun A B => by simp only [w2_K, gK h]
  have k20 : ∀ A B, m_K (m_w2 M A B) 20 = 12 := fun A B => by simp only [w2_K, gK h]
  have k21 : ∀ A B, m_K (m_w2 M A B) 21 = 13 := fun A B => by simp only [w2_K, gK h]
  have k22 : ∀ A B, m_K (m_w2 M A B) 22 = 12 := fun A B => by simp only [w2_K, gK h]
  have k23 : ∀ A B, m_K (m_w2 M A B) 23 = 12 := fun A B => by simp only [w2_K, gK h]
  have k24 : ∀ A B, m_K (m_w2 M A B) 24 = 12 := fun A B => by simp only [w2_K, gK h]
  have l3 : ∀ A B, m_len (m_w2 M A B) 3 = 4 := fun A B => by simp only [w2_n, gl h]
  have l4 : ∀ A B, m_len (m_w2 M A B) 4 = 5 := fun A B => by simp only [w2_n, gl h]
  have l5 : ∀ A B, m_len (m_w2 M A B) 5 = 7 := fun A B => by simp only [w2_n, gl h]
  have l6 : ∀ A B, m_len (m_w2 M A B) 6 = 18 := fun A B => by simp only [w2_n, gl h]
  have l7 : ∀ A B, m_len (m_w2 M A B) 7 = 32 := fun A B => by simp only [w2_n, gl h]
  have l8 : ∀ A B, m_len (m_w2 M A B) 8 = 1000 := fun A B => by simp only [w2_n, gl h]
  have l9 : ∀ A B, m_len (m_w2 M A B) 9 = 32 := fun A B => by simp only [w2_n, gl h]
  have l10 : ∀ A B, m_len (m_w2 M A B) 10 = 32 := fun A B => by simp only [w2_n, gl h]
  have l17 : ∀ A B, m_len (m_w2 M A B) 17 = 4 := fun A B => by simp only [w2_n, gl h]
  have l18 : ∀ A B, m_len (m_w2 M A B) 18 = 5 := fun A B => by simp only [w2_n, gl h]
  have l19 : ∀ A B, m_len (m_w2 M A B) 19 = 7 := fun A B => by simp only [w2_n, gl h]
  have l20 : ∀ A B, m_len (m_w2 M A B) 20 = 18 := fun A B => by simp only [w2_n, gl h]
  have l21 : ∀ A B, m_len (m_w2 M A B) 21 = 32 := fun A B => by simp only [w2_n, gl h]
  have l22 : ∀ A B, m_len (m_w2 M A B) 22 = 1000 := fun A B => by simp only [w2_n, gl h]
  have l23 : ∀ A B, m_len (m_w2 M A B) 23 = 32 := fun A B => by simp only [w2_n, gl h]
  have l24 : ∀ A B, m_len (m_w2 M A B) 24 = 32 := fun A B => by simp only [w2_n, gl h]
  have r : ∀ k x, m_R M 2 k = some x → ∀ A B, m_R (m_w2 M A B) 2 k = some x := fun k x hx A B => hx
  have r' : ∀ k x, m_R M 16 k = some x → ∀ A B, m_R (m_w2 M A B) 16 k = some x := fun k x hx A B => hx
  have r6 := r 6 3 (by simp only [gR h])
  have r7 := r 7 4 (by simp only [gR h])
  have r8 := r 8 5 (by simp only [gR h])
  have r9 := r 9 6 (by simp only [gR h])
  have r10 := r 10 7 (by simp only [gR h])
  have r11 := r 11 8 (by simp only [gR h])
  have r12 := r 12 9 (by simp only [gR h])
  have r13 := r 13 10 (by simp only [gR h])
  have q6 := r' 6 17 (by simp only [gR h])
  have q7 := r' 7 18 (by simp only [gR h])
  have q8 := r' 8 19 (by simp only [gR h])
  have q9 := r' 9 20 (by simp only [gR h])
  have q10 := r' 10 21 (by simp only [gR h])
  have q11 := r' 11 22 (by simp only [gR h])
  have q12 := r' 12 23 (by simp only [gR h])
  have q13 := r' 13 24 (by simp only [gR h])
  have z0 : (0 : Int32) = nI 0 := rfl
  obtain ⟨A0, hA0⟩ : ∃ A0, A0 = m_up (m_up (m_up (m_up (m_I M) 2 0 (m_I M 16 0)) 2 1 (m_I M 16 1)) 2 2 (m_I M 16 2)) 2 5 (m_I M 16 5) := ⟨_, rfl⟩
  have f0 : ∀ b, b ≠ 2 → A0 b = m_I M b := fun b hb => by rw [hA0, up_fr hb, up_fr hb, up_fr hb, up_fr hb]
  have g0 : A0 2 0 = m_I M 16 0 ∧ A0 2 1 = m_I M 16 1 ∧ A0 2 2 = m_I M 16 2 ∧ A0 2 5 = m_I M 16 5 := by rw [hA0]; exact ⟨rfl, rfl, rfl, rfl⟩
  refine ⟨cpy (cpy (cpy (cpy (cpy (cpy (cpy A0 17 3 4) 18 4 5) 19 5 7) 20 6 18) 22 8 1000) 23 9 32) 24 10 32, cpyL (m_L M) 21 7 32, ?_, fun b hb => ?_, fun b hb => cpyL_fr hb, ?_, fun k hk => ?_, fun k hk => ?_, fun k hk => ?_, fun k hk => ?_, fun k hk => ?_, fun k hk => ?_, fun k hk => ?_, fun k hk => cpyL_at hk⟩
  · unfold F_X3_copyFrom
    rw [x_gI_ok (by simp only [gK h]), x_pI_ok (by simp only [gK h]), show ∀ v, m_sI M 2 0 v = m_w2 M (m_up (m_I M) 2 0 v) (m_L M) from fun _ => rfl, x_gI_ok (K16 _ _), x_pI_ok (K2 _ _), w2_sI, x_gI_ok (K16 _ _), x_pI_ok (K2 _ _), w2_sI, x_gI_ok (K16 _ _), x_pI_ok (K2 _ _), w2_sI]
    have e0 : m_up (m_up (m_up (m_up (m_I M) 2 0 (m_I M 16 0)) 2 1 (m_I (m_w2 M (m_up (m_I M) 2 0 (m_I M 16 0)) (m_L M)) 16 1)) 2 2 (m_I (m_w2 M (m_up (m_up (m_I M) 2 0 (m_I M 16 0)) 2 1 (m_I (m_w2 M (m_up (m_I M) 2 0 (m_I M 16 0)) (m_L M)) 16 1)) (m_L M)) 16 2)) 2 5 (m_I (m_w2 M (m_up (m_up (m_up (m_I M) 2 0 (m_I M 16 0)) 2 1 (m_I (m_w2 M (m_up (m_I M) 2 0 (m_I M 16 0)) (m_L M)) 16 1)) 2 2 (m_I (m_w2 M (m_up (m_up (m_I M) 2 0 (m_I M 16 0)) 2 1 (m_I (m_w2 M (m_up (m_I M) 2 0 (m_I M 16 0)) (m_L M)) 16 1)) (m_L M)) 16 2)) (m_L M)) 16 5) = A0 := by rw [hA0]; rfl
    rw [e0]
    rw [x_gN_ok (K16 _ _) (q6 _ _), x_gN_ok (K2 _ _) (r6 _ _), x_gN_ok (K2 _ _) (r6 _ _), x_len_ok (k3 _ _), l3, z0, x_cpI_ok (k17 _ _) (k3 _ _) (by rw [l17]; omega) (by rw [l3]; omega) (by omega) (by omega) (by omega), w2_cp]
    rw [x_gN_ok (K16 _ _) (q7 _ _), x_gN_ok (K2 _ _) (r7 _ _), x_gN_ok (K2 _ _) (r7 _ _), x_len_ok (k4 _ _), l4, x_cpI_ok (k18 _ _) (k4 _ _) (by rw [l18]; omega) (by rw [l4]; omega) (by omega) (by omega) (by omega), w2_cp]
    rw [x_gN_ok (K16 _ _) (q8 _ _), x_gN_ok (K2 _ _) (r8 _ _), x_gN_ok (K2 _ _) (r8 _ _), x_len_ok (k5 _ _), l5, x_cpI_ok (k19 _ _) (k5 _ _) (by rw [l19]; omega) (by rw [l5]; omega) (by omega) (by omega) (by omega), w2_cp]
    rw [x_gN_ok (K16 _ _) (q9 _ _), x_gN_ok (K2 _ _) (r9 _ _), x_gN_ok (K2 _ _) (r9 _ _), x_len_ok (k6 _ _), l6, x_cpI_ok (k20 _ _) (k6 _ _) (by rw [l20]; omega) (by rw [l6]; omega) (by omega) (by omega) (by omega), w2_cp]
    rw [x_gN_ok (K16 _ _) (q10 _ _), x_gN_ok (K2 _ _) (r10 _ _), x_gN_ok (K2 _ _) (r10 _ _), x_len_ok (k7 _ _), l7, x_cpL_ok (k21 _ _) (k7 _ _) (by rw [l21]; omega) (by rw [l7]; omega) (by omega) (by omega) (by omega), w2_cpL]
    rw [x_gN_ok (K16 _ _) (q11 _ _), x_gN_ok (K2 _ _) (r11 _ _), x_gN_ok (K2 _ _) (r11 _ _), x_len_ok (k8 _ _), l8, x_cpI_ok (k22 _ _) (k8 _ _) (by rw [l22]; omega) (by rw [l8]; omega) (by omega) (by omega) (by omega), w2_cp]
    rw [x_gN_ok (K16 _ _) (q12 _ _), x_gN_ok (K2 _ _) (r12 _ _), x_gN_ok (K2 _ _) (r12 _ _), x_len_ok (k9 _ _), l9, x_cpI_ok (k23 _ _) (k9 _ _) (by rw [l23]; omega) (by rw [l9]; omega) (by omega) (by omega) (by omega), w2_cp]
    rw [x_gN_ok (K16 _ _) (q13 _ _), x_gN_ok (K2 _ _) (r13 _ _), x_gN_ok (K2 _ _) (r13 _ _), x_len_ok (k10 _ _), l10, x_cpI_ok (k24 _ _) (k10 _ _) (by rw [l24]; omega) (by rw [l10]; omega) (by omega) (by omega) (by omega), w2_cp]
  · rw [cpy_fr (by omega), cpy_fr (by omega), cpy_fr (by omega), cpy_fr (by omega), cpy_fr (by omega), cpy_fr (by omega), cpy_fr (by omega), f0 b (by omega)]
  · have e : cpy (cpy (cpy (cpy (cpy (cpy (cpy A0 17 3 4) 18 4 5) 19 5 7) 20 6 18) 22 8 1000) 23 9 32) 24 10 32 2 = A0 2 := by
      rw [cpy_fr (by omega), cpy_fr (by omega), cpy_fr (by omega), cpy_fr (by omega), cpy_fr (by omega), cpy_fr (by omega), cpy_fr (by omega)]
    rw [e]
    exact g0
  · rw [cpy_fr (by omega), cpy_fr (by omega), cpy_fr (by omega), cpy_fr (by omega), cpy_fr (by omega), cpy_fr (by omega), cpy_at hk, f0 17 (by omega)]
  · rw [cpy_fr (by omega), cpy_fr (by omega), cpy_fr (by omega), cpy_fr (by omega), cpy_fr (by omega), cpy_at hk, cpy_fr (by omega), f0 18 (by omega)]
  · rw [cpy_fr (by omega), cpy_fr (by omega), cpy_fr (by omega), cpy_fr (by omega), cpy_at hk, cpy_fr (by omega), cpy_fr (by omega), f0 19 (by omega)]
  · rw [cpy_fr (by omega), cpy_fr (by omega), cpy_fr (by omega), cpy_at hk, cpy_fr (by omega), cpy_fr (by omega), cpy_fr (by omega), f0 20 (by omega)]
  · rw [cpy_fr (by omega), cpy_fr (by omega), cpy_at hk, cpy_fr (by omega), cpy_fr (by omega), cpy_fr (by omega), cpy_fr (by omega), f0 22 (by omega)]
  · rw [cpy_fr (by omega), cpy_at hk, cpy_fr (by omega), cpy_fr (by omega), cpy_fr (by omega), cpy_fr (by omega), cpy_fr (by omega), f0 23 (by omega)]
  · rw [cpy_at hk, cpy_fr (by omega), cpy_fr (by omega), cpy_fr (by omega), cpy_fr (by omega), cpy_fr (by omega), cpy_fr (by omega), f0 24 (by omega)]
end CCOPY
