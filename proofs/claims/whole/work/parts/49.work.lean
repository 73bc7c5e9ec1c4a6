/-! the model's laws at work: a pure machine over the ints of the memory -/
theorem it_k {α β : Type} {c : Prop} [Decidable c] (k : α → β) (x y : α) : (if c then k x else k y) = k (if c then x else y) := by split <;> rfl
def opA (A : IA) (d : Nat) : IA := m_up (m_up (m_up (m_up (m_up A 144 d (nI 0)) 146 d (nI 0)) 147 d (nI 0)) 148 d (nI 20)) 150 d (nI 0)
def suV (A : IA) (d : Nat) : Int32 := if A 148 d = nI 21 then A 147 d - A 149 d else A 147 d + A 149 d
def suA (A : IA) (d : Nat) : IA := m_up (m_up A 147 d (suV A d)) 150 d (nI 0)
/-- what a comparison comes to, once the sum is taken -/
def teC (B : IA) (d : Nat) : Int32 := if B 146 d = nI 25 then (if B 145 d = B 147 d then nI 1 else nI 0) else if B 146 d = nI 24 then (if B 147 d ≤ B 145 d then nI 0 else nI 1) else B 147 d
def te6 (B : IA) (d : Nat) : Int32 := if B 144 d = nI 26 then (if B 143 d = nI 0 then nI 0 else if teC B d = nI 0 then nI 0 else nI 1) else teC B d
def teV (B : IA) (d : Nat) : Int32 := if B 144 d = nI 27 then (if B 143 d = nI 0 then (if te6 B d = nI 0 then nI 0 else nI 1) else nI 1) else te6 B d
def teA (A : IA) (d : Nat) : IA := m_up (m_up (m_up (m_up (suA A d) 143 d (teV (suA A d) d)) 146 d (nI 0)) 147 d (nI 0)) 148 d (nI 20)
def tmA (A : IA) (d : Nat) (v : Int32) : IA := m_up A 149 d (if A 150 d = nI 0 then v else A 149 d * v)
def fnA (A : IA) : Nat → Int32 → Nat × IA
  | 0, v => (0, tmA A 0 v)
  | d + 1, v => if A 151 (d + 1) = nI 1 then fnA A d (if v = nI 0 then nI 1 else nI 0) else (d + 1, tmA A (d + 1) v)
def evS (c : Nat) (s : Nat × IA) : Nat × IA :=
  if c = 28 ∨ c = 30 then (s.1 + 1, opA (m_up s.2 151 (s.1 + 1) (if c = 30 then nI 1 else nI 0)) (s.1 + 1))
  else if c = 20 ∨ c = 21 then (s.1, m_up (suA s.2 s.1) 148 s.1 (nI c))
  else if c = 22 then (s.1, m_up s.2 150 s.1 (nI c))
  else if c = 24 ∨ c = 25 then (s.1, m_up (m_up (m_up (m_up (suA s.2 s.1) 145 s.1 (suA s.2 s.1 147 s.1)) 146 s.1 (nI c)) 147 s.1 (nI 0)) 148 s.1 (nI 20))
  else if c = 26 ∨ c = 27 then (s.1, m_up (teA s.2 s.1) 144 s.1 (nI c))
  else if c = 29 then fnA (teA s.2 s.1) (s.1 - 1) (teA s.2 s.1 143 s.1)
  else fnA s.2 s.1 (if 100 ≤ c then nI (c - 100) else if c < 20 then s.2 152 c else nI 0)
/-- what a step asks: not too deep, and nothing closed that isn't open -/
def evOk (c : Nat) (d : Nat) : Prop := d < 7 ∧ (((c = 28 ∨ c = 30) ∧ d < 6) ∨ (c = 20 ∨ c = 21) ∨ c = 22 ∨ (c = 24 ∨ c = 25) ∨ (c = 26 ∨ c = 27) ∨ (c = 29 ∧ 0 < d) ∨ c < 20 ∨ (100 ≤ c ∧ c < 20000))
/-- a run over m codes from the k-th on -/
def evR (c : Nat → Nat) : Nat → Nat → Nat × IA → Nat × IA
  | 0, _, s => s
  | m + 1, k, s => evR c m (k + 1) (evS (c k) s)
def evRok (c : Nat → Nat) : Nat → Nat → Nat × IA → Prop
  | 0, _, _ => True
  | m + 1, k, s => evOk (c k) s.1 ∧ evRok c m (k + 1) (evS (c k) s)
section WORK
variable {M : m_M} {A : IA} {d : Nat}
theorem S_opens (h : G M) (hd : d < 7) : F_X12_opens 128 (nI d) (m_wA M A) = some ((), m_wA M (opA A d)) := by
  unfold F_X12_opens
  simp (disch := first | assumption | omega | (simp only [G_sI, G_sL, G_wI, G_wL, wA_G]; assumption)) only [↓gN, ↓x_gI_eq, ↓x_gL_eq, ↓x_gO_eq, ↓x_pI_eq, ↓x_pL_eq, ↓x_pR_eq, ↓x_aI_eq, ↓x_aL_eq, ↓x_aO_eq, ↓x_sI_eq, ↓x_sL_eq, ↓x_len_eq, ↓x_cV_eq, ↓x_b_eq, ↓x_nz_eq, ↓x_c_eq, ↓m_let_eq, ↓x_bd_some, ↓reduceIte, gK, gl, gR, mI_sI, mI_sL, mI_sR, mI_wI, mI_wL, mL_sI, mL_sL, mL_sR, mL_wI, mL_wL, mR_sI, mR_sL, mR_sR, mR_wI, mR_wL, mK_sI, mK_sL, mK_sR, mK_wI, mK_wL, mn_sI, mn_sL, mn_sR, mn_wI, mn_wL, mN_sI, mN_sL, mN_sR, mN_wI, mN_wL, wA_I, wA_L, wA_R, wA_K, wA_n, wA_N, wA_s, if_true, if_false, true_and, and_true, and_self, false_and, and_false, ne_eq, not_true_eq_false, not_false_eq_true, reduceCtorEq, Nat.reduceEqDiff, Nat.reduceLT, Nat.reduceLeDiff, ↓no_1, no_nat, nat_no, no_ge, no_le, no_lt, no_gt, no_no, no_dec, Nat.add_sub_cancel, nlit, nI_neg, nI_ge0, i32_rem2, n_rem, i32_div, nI_sub', nI_cl, nI_p, nI_lt0, nI_add, nI_1, nI_leI, nI_ltI, nI_eq, nI_mul, lg_cmp_n, l_xor, Nat.zero_add, Nat.add_zero, t_lt, f_lt, t_le, f_le, t_eq, f_eq]
  rfl
theorem S_sums (h : G M) (hd : d < 7) : F_X12_sums 128 (nI d) (m_wA M A) = some ((), m_wA M (suA A d)) := by
  unfold F_X12_sums
  refine m_let_e ?_
  intro k hk
  simp (disch := first | assumption | omega | (simp only [G_sI, G_sL, G_wI, G_wL, wA_G]; assumption)) only [↓gN, ↓x_gI_eq, ↓x_gL_eq, ↓x_gO_eq, ↓x_pI_eq, ↓x_pL_eq, ↓x_pR_eq, ↓x_aI_eq, ↓x_aL_eq, ↓x_aO_eq, ↓x_sI_eq, ↓x_sL_eq, ↓x_len_eq, ↓x_cV_eq, ↓x_b_eq, ↓x_nz_eq, ↓x_c_eq, ↓m_let_eq, ↓x_bd_some, ↓reduceIte, gK, gl, gR, mI_sI, mI_sL, mI_sR, mI_wI, mI_wL, mL_sI, mL_sL, mL_sR, mL_wI, mL_wL, mR_sI, mR_sL, mR_sR, mR_wI, mR_wL, mK_sI, mK_sL, mK_sR, mK_wI, mK_wL, mn_sI, mn_sL, mn_sR, mn_wI, mn_wL, mN_sI, mN_sL, mN_sR, mN_wI, mN_wL, wA_I, wA_L, wA_R, wA_K, wA_n, wA_N, wA_s, if_true, if_false, true_and, and_true, and_self, false_and, and_false, ne_eq, not_true_eq_false, not_false_eq_true, reduceCtorEq, Nat.reduceEqDiff, Nat.reduceLT, Nat.reduceLeDiff, ↓no_1, no_nat, nat_no, no_ge, no_le, no_lt, no_gt, no_no, no_dec, Nat.add_sub_cancel, nlit, nI_neg, nI_ge0, i32_rem2, n_rem, i32_div, nI_sub', nI_cl, nI_p, nI_lt0, nI_add, nI_1, nI_leI, nI_ltI, nI_eq, nI_mul, lg_cmp_n, l_xor, Nat.zero_add, Nat.add_zero, t_lt, f_lt, t_le, f_le, t_eq, f_eq]
  repeat rw [it_k (fun x => k 128 (nI d) 147 (nI d) x _)]
  rw [hk]
  simp (disch := first | assumption | omega | (simp only [G_sI, G_sL, G_wI, G_wL, wA_G]; assumption)) only [↓gN, ↓x_gI_eq, ↓x_gL_eq, ↓x_gO_eq, ↓x_pI_eq, ↓x_pL_eq, ↓x_pR_eq, ↓x_aI_eq, ↓x_aL_eq, ↓x_aO_eq, ↓x_sI_eq, ↓x_sL_eq, ↓x_len_eq, ↓x_cV_eq, ↓x_b_eq, ↓x_nz_eq, ↓x_c_eq, ↓m_let_eq, ↓x_bd_some, ↓reduceIte, gK, gl, gR, mI_sI, mI_sL, mI_sR, mI_wI, mI_wL, mL_sI, mL_sL, mL_sR, mL_wI, mL_wL, mR_sI, mR_sL, mR_sR, mR_wI, mR_wL, mK_sI, mK_sL, mK_sR, mK_wI, mK_wL, mn_sI, mn_sL, mn_sR, mn_wI, mn_wL, mN_sI, mN_sL, mN_sR, mN_wI, mN_wL, wA_I, wA_L, wA_R, wA_K, wA_n, wA_N, wA_s, if_true, if_false, true_and, and_true, and_self, false_and, and_false, ne_eq, not_true_eq_false, not_false_eq_true, reduceCtorEq, Nat.reduceEqDiff, Nat.reduceLT, Nat.reduceLeDiff, ↓no_1, no_nat, nat_no, no_ge, no_le, no_lt, no_gt, no_no, no_dec, Nat.add_sub_cancel, nlit, nI_neg, nI_ge0, i32_rem2, n_rem, i32_div, nI_sub', nI_cl, nI_p, nI_lt0, nI_add, nI_1, nI_leI, nI_ltI, nI_eq, nI_mul, lg_cmp_n, l_xor, Nat.zero_add, Nat.add_zero, t_lt, f_lt, t_le, f_le, t_eq, f_eq]
  rfl
theorem S_tests (h : G M) (hd : d < 7) : F_X12_tests 128 (nI d) (m_wA M A) = some ((), m_wA M (teA A d)) := by
  unfold F_X12_tests
  refine m_let_e ?_
  intro k hk
  simp (disch := first | assumption | omega | (simp only [G_sI, G_sL, G_wI, G_wL, wA_G]; assumption)) only [↓gN, ↓x_gI_eq, ↓x_gL_eq, ↓x_gO_eq, ↓x_pI_eq, ↓x_pL_eq, ↓x_pR_eq, ↓x_aI_eq, ↓x_aL_eq, ↓x_aO_eq, ↓x_sI_eq, ↓x_sL_eq, ↓x_len_eq, ↓x_cV_eq, ↓x_b_eq, ↓x_nz_eq, ↓x_c_eq, ↓m_let_eq, ↓x_bd_some, ↓reduceIte, gK, gl, gR, mI_sI, mI_sL, mI_sR, mI_wI, mI_wL, mL_sI, mL_sL, mL_sR, mL_wI, mL_wL, mR_sI, mR_sL, mR_sR, mR_wI, mR_wL, mK_sI, mK_sL, mK_sR, mK_wI, mK_wL, mn_sI, mn_sL, mn_sR, mn_wI, mn_wL, mN_sI, mN_sL, mN_sR, mN_wI, mN_wL, wA_I, wA_L, wA_R, wA_K, wA_n, wA_N, wA_s, if_true, if_false, true_and, and_true, and_self, false_and, and_false, ne_eq, not_true_eq_false, not_false_eq_true, reduceCtorEq, Nat.reduceEqDiff, Nat.reduceLT, Nat.reduceLeDiff, ↓no_1, no_nat, nat_no, no_ge, no_le, no_lt, no_gt, no_no, no_dec, Nat.add_sub_cancel, nlit, nI_neg, nI_ge0, i32_rem2, n_rem, i32_div, nI_sub', nI_cl, nI_p, nI_lt0, nI_add, nI_1, nI_leI, nI_ltI, nI_eq, nI_mul, lg_cmp_n, l_xor, Nat.zero_add, Nat.add_zero, t_lt, f_lt, t_le, f_le, t_eq, f_eq, S_sums h hd]
  repeat rw [it_k (fun x => k 128 (nI d) x _)]
  rw [hk]
  refine m_let_e ?_
  intro k2 hk2
  simp (disch := first | assumption | omega | (simp only [G_sI, G_sL, G_wI, G_wL, wA_G]; assumption)) only [↓gN, ↓x_gI_eq, ↓x_gL_eq, ↓x_gO_eq, ↓x_pI_eq, ↓x_pL_eq, ↓x_pR_eq, ↓x_aI_eq, ↓x_aL_eq, ↓x_aO_eq, ↓x_sI_eq, ↓x_sL_eq, ↓x_len_eq, ↓x_cV_eq, ↓x_b_eq, ↓x_nz_eq, ↓x_c_eq, ↓m_let_eq, ↓x_bd_some, ↓reduceIte, gK, gl, gR, mI_sI, mI_sL, mI_sR, mI_wI, mI_wL, mL_sI, mL_sL, mL_sR, mL_wI, mL_wL, mR_sI, mR_sL, mR_sR, mR_wI, mR_wL, mK_sI, mK_sL, mK_sR, mK_wI, mK_wL, mn_sI, mn_sL, mn_sR, mn_wI, mn_wL, mN_sI, mN_sL, mN_sR, mN_wI, mN_wL, wA_I, wA_L, wA_R, wA_K, wA_n, wA_N, wA_s, if_true, if_false, true_and, and_true, and_self, false_and, and_false, ne_eq, not_true_eq_false, not_false_eq_true, reduceCtorEq, Nat.reduceEqDiff, Nat.reduceLT, Nat.reduceLeDiff, ↓no_1, no_nat, nat_no, no_ge, no_le, no_lt, no_gt, no_no, no_dec, Nat.add_sub_cancel, nlit, nI_neg, nI_ge0, i32_rem2, n_rem, i32_div, nI_sub', nI_cl, nI_p, nI_lt0, nI_add, nI_1, nI_leI, nI_ltI, nI_eq, nI_mul, lg_cmp_n, l_xor, Nat.zero_add, Nat.add_zero, t_lt, f_lt, t_le, f_le, t_eq, f_eq]
  repeat rw [it_k (fun x => k2 128 (nI d) x _)]
  rw [hk2]
  refine m_let_e ?_
  intro k3 hk3
  simp (disch := first | assumption | omega | (simp only [G_sI, G_sL, G_wI, G_wL, wA_G]; assumption)) only [↓gN, ↓x_gI_eq, ↓x_gL_eq, ↓x_gO_eq, ↓x_pI_eq, ↓x_pL_eq, ↓x_pR_eq, ↓x_aI_eq, ↓x_aL_eq, ↓x_aO_eq, ↓x_sI_eq, ↓x_sL_eq, ↓x_len_eq, ↓x_cV_eq, ↓x_b_eq, ↓x_nz_eq, ↓x_c_eq, ↓m_let_eq, ↓x_bd_some, ↓reduceIte, gK, gl, gR, mI_sI, mI_sL, mI_sR, mI_wI, mI_wL, mL_sI, mL_sL, mL_sR, mL_wI, mL_wL, mR_sI, mR_sL, mR_sR, mR_wI, mR_wL, mK_sI, mK_sL, mK_sR, mK_wI, mK_wL, mn_sI, mn_sL, mn_sR, mn_wI, mn_wL, mN_sI, mN_sL, mN_sR, mN_wI, mN_wL, wA_I, wA_L, wA_R, wA_K, wA_n, wA_N, wA_s, if_true, if_false, true_and, and_true, and_self, false_and, and_false, ne_eq, not_true_eq_false, not_false_eq_true, reduceCtorEq, Nat.reduceEqDiff, Nat.reduceLT, Nat.reduceLeDiff, ↓no_1, no_nat, nat_no, no_ge, no_le, no_lt, no_gt, no_no, no_dec, Nat.add_sub_cancel, nlit, nI_neg, nI_ge0, i32_rem2, n_rem, i32_div, nI_sub', nI_cl, nI_p, nI_lt0, nI_add, nI_1, nI_leI, nI_ltI, nI_eq, nI_mul, lg_cmp_n, l_xor, Nat.zero_add, Nat.add_zero, t_lt, f_lt, t_le, f_le, t_eq, f_eq]
  repeat rw [it_k (fun x => k3 128 (nI d) x _)]
  rw [hk3]
  refine m_let_e ?_
  intro k4 hk4
  simp (disch := first | assumption | omega | (simp only [G_sI, G_sL, G_wI, G_wL, wA_G]; assumption)) only [↓gN, ↓x_gI_eq, ↓x_gL_eq, ↓x_gO_eq, ↓x_pI_eq, ↓x_pL_eq, ↓x_pR_eq, ↓x_aI_eq, ↓x_aL_eq, ↓x_aO_eq, ↓x_sI_eq, ↓x_sL_eq, ↓x_len_eq, ↓x_cV_eq, ↓x_b_eq, ↓x_nz_eq, ↓x_c_eq, ↓m_let_eq, ↓x_bd_some, ↓reduceIte, gK, gl, gR, mI_sI, mI_sL, mI_sR, mI_wI, mI_wL, mL_sI, mL_sL, mL_sR, mL_wI, mL_wL, mR_sI, mR_sL, mR_sR, mR_wI, mR_wL, mK_sI, mK_sL, mK_sR, mK_wI, mK_wL, mn_sI, mn_sL, mn_sR, mn_wI, mn_wL, mN_sI, mN_sL, mN_sR, mN_wI, mN_wL, wA_I, wA_L, wA_R, wA_K, wA_n, wA_N, wA_s, if_true, if_false, true_and, and_true, and_self, false_and, and_false, ne_eq, not_true_eq_false, not_false_eq_true, reduceCtorEq, Nat.reduceEqDiff, Nat.reduceLT, Nat.reduceLeDiff, ↓no_1, no_nat, nat_no, no_ge, no_le, no_lt, no_gt, no_no, no_dec, Nat.add_sub_cancel, nlit, nI_neg, nI_ge0, i32_rem2, n_rem, i32_div, nI_sub', nI_cl, nI_p, nI_lt0, nI_add, nI_1, nI_leI, nI_ltI, nI_eq, nI_mul, lg_cmp_n, l_xor, Nat.zero_add, Nat.add_zero, t_lt, f_lt, t_le, f_le, t_eq, f_eq]
  repeat rw [it_k (fun x => k4 128 (nI d) x _)]
  rw [hk4]
  simp (disch := first | assumption | omega | (simp only [G_sI, G_sL, G_wI, G_wL, wA_G]; assumption)) only [↓gN, ↓x_gI_eq, ↓x_gL_eq, ↓x_gO_eq, ↓x_pI_eq, ↓x_pL_eq, ↓x_pR_eq, ↓x_aI_eq, ↓x_aL_eq, ↓x_aO_eq, ↓x_sI_eq, ↓x_sL_eq, ↓x_len_eq, ↓x_cV_eq, ↓x_b_eq, ↓x_nz_eq, ↓x_c_eq, ↓m_let_eq, ↓x_bd_some, ↓reduceIte, gK, gl, gR, mI_sI, mI_sL, mI_sR, mI_wI, mI_wL, mL_sI, mL_sL, mL_sR, mL_wI, mL_wL, mR_sI, mR_sL, mR_sR, mR_wI, mR_wL, mK_sI, mK_sL, mK_sR, mK_wI, mK_wL, mn_sI, mn_sL, mn_sR, mn_wI, mn_wL, mN_sI, mN_sL, mN_sR, mN_wI, mN_wL, wA_I, wA_L, wA_R, wA_K, wA_n, wA_N, wA_s, if_true, if_false, true_and, and_true, and_self, false_and, and_false, ne_eq, not_true_eq_false, not_false_eq_true, reduceCtorEq, Nat.reduceEqDiff, Nat.reduceLT, Nat.reduceLeDiff, ↓no_1, no_nat, nat_no, no_ge, no_le, no_lt, no_gt, no_no, no_dec, Nat.add_sub_cancel, nlit, nI_neg, nI_ge0, i32_rem2, n_rem, i32_div, nI_sub', nI_cl, nI_p, nI_lt0, nI_add, nI_1, nI_leI, nI_ltI, nI_eq, nI_mul, lg_cmp_n, l_xor, Nat.zero_add, Nat.add_zero, t_lt, f_lt, t_le, f_le, t_eq, f_eq]
  rfl
/-- the nots that end with a factor -/
theorem S_fin (h : G M) {K : Nat → Int32 → Int32 → Int32 → Int32 → m_M → Option (Int32 × m_M)} {w z : Int32} (KK : Nat → IA → Option (Int32 × m_M)) (hK : ∀ (d : Nat) (v : Int32), d < 7 → K 128 w (nI d) z v (m_wA M A) = KK d (tmA A d v)) : ∀ (n d : Nat) (v : Int32), d < n → d < 7 → F_X12_worked_268 K n 128 w (nI d) z v (m_wA M A) = KK (fnA A d v).1 (fnA A d v).2 := by
  intro n
  induction n with
  | zero => intro d v hd; omega
  | succ n ih =>
    intro d v hd h7
    rw [F_X12_worked_268]
    cases d with
    | zero =>
      rw [if_pos (by decide)]
      exact hK 0 v (by omega)
    | succ d =>
      rw [if_neg (nI_nle (by omega) (by omega))]
      refine (?_ : _ = _)
      by_cases hb : A 151 (d + 1) = nI 1
      · simp (disch := first | assumption | omega | (simp only [G_sI, G_sL, G_wI, G_wL, wA_G]; assumption)) only [↓gN, ↓x_gI_eq, ↓x_gL_eq, ↓x_gO_eq, ↓x_pI_eq, ↓x_pL_eq, ↓x_pR_eq, ↓x_aI_eq, ↓x_aL_eq, ↓x_aO_eq, ↓x_sI_eq, ↓x_sL_eq, ↓x_len_eq, ↓x_cV_eq, ↓x_b_eq, ↓x_nz_eq, ↓x_c_eq, ↓m_let_eq, ↓x_bd_some, ↓reduceIte, gK, gl, gR, mI_sI, mI_sL, mI_sR, mI_wI, mI_wL, mL_sI, mL_sL, mL_sR, mL_wI, mL_wL, mR_sI, mR_sL, mR_sR, mR_wI, mR_wL, mK_sI, mK_sL, mK_sR, mK_wI, mK_wL, mn_sI, mn_sL, mn_sR, mn_wI, mn_wL, mN_sI, mN_sL, mN_sR, mN_wI, mN_wL, wA_I, wA_L, wA_R, wA_K, wA_n, wA_N, wA_s, if_true, if_false, true_and, and_true, and_self, false_and, and_false, ne_eq, not_true_eq_false, not_false_eq_true, reduceCtorEq, Nat.reduceEqDiff, Nat.reduceLT, Nat.reduceLeDiff, ↓no_1, no_nat, nat_no, no_ge, no_le, no_lt, no_gt, no_no, no_dec, Nat.add_sub_cancel, nlit, nI_neg, nI_ge0, i32_rem2, n_rem, i32_div, nI_sub', nI_cl, nI_p, nI_lt0, nI_add, nI_1, nI_leI, nI_ltI, nI_eq, nI_mul, lg_cmp_n, l_xor, Nat.zero_add, Nat.add_zero, t_lt, f_lt, t_le, f_le, t_eq, f_eq, hb]
        repeat rw [it_k (fun x => F_X12_worked_268 K n 128 w (nI d) z x _)]
        rw [ih d _ (by omega) (by omega)]
        show _ = KK (fnA A (d + 1) v).1 (fnA A (d + 1) v).2
        rw [fnA, if_pos hb]
      · simp (disch := first | assumption | omega | (simp only [G_sI, G_sL, G_wI, G_wL, wA_G]; assumption)) only [↓gN, ↓x_gI_eq, ↓x_gL_eq, ↓x_gO_eq, ↓x_pI_eq, ↓x_pL_eq, ↓x_pR_eq, ↓x_aI_eq, ↓x_aL_eq, ↓x_aO_eq, ↓x_sI_eq, ↓x_sL_eq, ↓x_len_eq, ↓x_cV_eq, ↓x_b_eq, ↓x_nz_eq, ↓x_c_eq, ↓m_let_eq, ↓x_bd_some, ↓reduceIte, gK, gl, gR, mI_sI, mI_sL, mI_sR, mI_wI, mI_wL, mL_sI, mL_sL, mL_sR, mL_wI, mL_wL, mR_sI, mR_sL, mR_sR, mR_wI, mR_wL, mK_sI, mK_sL, mK_sR, mK_wI, mK_wL, mn_sI, mn_sL, mn_sR, mn_wI, mn_wL, mN_sI, mN_sL, mN_sR, mN_wI, mN_wL, wA_I, wA_L, wA_R, wA_K, wA_n, wA_N, wA_s, if_true, if_false, true_and, and_true, and_self, false_and, and_false, ne_eq, not_true_eq_false, not_false_eq_true, reduceCtorEq, Nat.reduceEqDiff, Nat.reduceLT, Nat.reduceLeDiff, ↓no_1, no_nat, nat_no, no_ge, no_le, no_lt, no_gt, no_no, no_dec, Nat.add_sub_cancel, nlit, nI_neg, nI_ge0, i32_rem2, n_rem, i32_div, nI_sub', nI_cl, nI_p, nI_lt0, nI_add, nI_1, nI_leI, nI_ltI, nI_eq, nI_mul, lg_cmp_n, l_xor, Nat.zero_add, Nat.add_zero, t_lt, f_lt, t_le, f_le, t_eq, f_eq, hb]
        rw [hK (d + 1) v h7, fnA, if_neg hb]
theorem opA_fr {a : Nat} (h : a < 143 ∨ 151 < a) : opA A d a = A a := by
  funext j
  simp only [opA, up_at]
  rw [if_neg (by omega), if_neg (by omega), if_neg (by omega), if_neg (by omega), if_neg (by omega)]
theorem suA_fr {a : Nat} (h : a < 143 ∨ 151 < a) : suA A d a = A a := by
  funext j
  simp only [suA, up_at]
  rw [if_neg (by omega), if_neg (by omega)]
theorem teA_fr {a : Nat} (h : a < 143 ∨ 151 < a) : teA A d a = A a := by
  funext j
  simp only [teA, up_at]
  rw [if_neg (by omega), if_neg (by omega), if_neg (by omega), if_neg (by omega), suA_fr h]
theorem up_fr {a b k : Nat} {v : Int32} (h : a ≠ b) : m_up A b k v a = A a := by
  funext j
  rw [up_at, if_neg (by omega)]
theorem fnA_fr {a : Nat} (h : a < 143 ∨ 151 < a) : ∀ (d : Nat) (v : Int32), (fnA A d v).2 a = A a := by
  intro d
  induction d with
  | zero => intro v; exact up_fr (by omega)
  | succ d ih =>
    intro v
    rw [fnA]
    split
    · exact ih _
    · exact up_fr (by omega)
theorem evS_fr {a : Nat} (h : a < 143 ∨ 151 < a) (c : Nat) (s : Nat × IA) : (evS c s).2 a = s.2 a := by
  unfold evS
  split
  · dsimp only
    rw [opA_fr h, up_fr (by omega)]
  split
  · dsimp only
    rw [up_fr (by omega), suA_fr h]
  split
  · dsimp only
    rw [up_fr (by omega)]
  split
  · dsimp only
    rw [up_fr (by omega), up_fr (by omega), up_fr (by omega), up_fr (by omega), suA_fr h]
  split
  · dsimp only
    rw [up_fr (by omega), teA_fr h]
  split
  · rw [fnA_fr h, teA_fr h]
  · rw [fnA_fr h]
section STEP
variable {K : Nat → m_M → Option (Int32 × m_M)} {n line c e k : Nat}
set_option maxHeartbeats 1000000 in
theorem S_w14_op (h : G M) (hl : line < 18) (he : A 139 line = nI e) (h1 : k < e) (h2 : e ≤ 2000) (hc : A 140 k = nI c) (hd : d < 6) (h28 : c = 28 ∨ c = 30) : F_X12_worked_14 K (n + 1) 128 (nI line) (nI d) (nI k) (m_wA M A) = F_X12_worked_14 K n 128 (nI line) (nI (d + 1)) (nI (k + 1)) (m_wA M (opA (m_up A 151 (d + 1) (if c = 30 then nI 1 else nI 0)) (d + 1))) := by
  rw [F_X12_worked_14]
  rcases h28 with rfl | rfl
  · simp (disch := first | assumption | omega | (simp only [G_sI, G_sL, G_wI, G_wL, wA_G]; assumption)) only [↓gN, ↓x_gI_eq, ↓x_gL_eq, ↓x_gO_eq, ↓x_pI_eq, ↓x_pL_eq, ↓x_pR_eq, ↓x_aI_eq, ↓x_aL_eq, ↓x_aO_eq, ↓x_sI_eq, ↓x_sL_eq, ↓x_len_eq, ↓x_cV_eq, ↓x_b_eq, ↓x_nz_eq, ↓x_c_eq, ↓m_let_eq, ↓x_bd_some, ↓reduceIte, gK, gl, gR, mI_sI, mI_sL, mI_sR, mI_wI, mI_wL, mL_sI, mL_sL, mL_sR, mL_wI, mL_wL, mR_sI, mR_sL, mR_sR, mR_wI, mR_wL, mK_sI, mK_sL, mK_sR, mK_wI, mK_wL, mn_sI, mn_sL, mn_sR, mn_wI, mn_wL, mN_sI, mN_sL, mN_sR, mN_wI, mN_wL, wA_I, wA_L, wA_R, wA_K, wA_n, wA_N, wA_s, if_true, if_false, true_and, and_true, and_self, false_and, and_false, ne_eq, not_true_eq_false, not_false_eq_true, reduceCtorEq, Nat.reduceEqDiff, Nat.reduceLT, Nat.reduceLeDiff, ↓no_1, no_nat, nat_no, no_ge, no_le, no_lt, no_gt, no_no, no_dec, Nat.add_sub_cancel, nlit, nI_neg, nI_ge0, i32_rem2, n_rem, i32_div, nI_sub', nI_cl, nI_p, nI_lt0, nI_add, nI_1, nI_leI, nI_ltI, nI_eq, nI_mul, lg_cmp_n, l_xor, Nat.zero_add, Nat.add_zero, t_lt, f_lt, t_le, f_le, t_eq, f_eq, S_opens h, he, hc]
  · simp (disch := first | assumption | omega | (simp only [G_sI, G_sL, G_wI, G_wL, wA_G]; assumption)) only [↓gN, ↓x_gI_eq, ↓x_gL_eq, ↓x_gO_eq, ↓x_pI_eq, ↓x_pL_eq, ↓x_pR_eq, ↓x_aI_eq, ↓x_aL_eq, ↓x_aO_eq, ↓x_sI_eq, ↓x_sL_eq, ↓x_len_eq, ↓x_cV_eq, ↓x_b_eq, ↓x_nz_eq, ↓x_c_eq, ↓m_let_eq, ↓x_bd_some, ↓reduceIte, gK, gl, gR, mI_sI, mI_sL, mI_sR, mI_wI, mI_wL, mL_sI, mL_sL, mL_sR, mL_wI, mL_wL, mR_sI, mR_sL, mR_sR, mR_wI, mR_wL, mK_sI, mK_sL, mK_sR, mK_wI, mK_wL, mn_sI, mn_sL, mn_sR, mn_wI, mn_wL, mN_sI, mN_sL, mN_sR, mN_wI, mN_wL, wA_I, wA_L, wA_R, wA_K, wA_n, wA_N, wA_s, if_true, if_false, true_and, and_true, and_self, false_and, and_false, ne_eq, not_true_eq_false, not_false_eq_true, reduceCtorEq, Nat.reduceEqDiff, Nat.reduceLT, Nat.reduceLeDiff, ↓no_1, no_nat, nat_no, no_ge, no_le, no_lt, no_gt, no_no, no_dec, Nat.add_sub_cancel, nlit, nI_neg, nI_ge0, i32_rem2, n_rem, i32_div, nI_sub', nI_cl, nI_p, nI_lt0, nI_add, nI_1, nI_leI, nI_ltI, nI_eq, nI_mul, lg_cmp_n, l_xor, Nat.zero_add, Nat.add_zero, t_lt, f_lt, t_le, f_le, t_eq, f_eq, S_opens h, he, hc]
set_option maxHeartbeats 1000000 in
theorem S_w14_pm (h : G M) (hl : line < 18) (he : A 139 line = nI e) (h1 : k < e) (h2 : e ≤ 2000) (hc : A 140 k = nI c) (hd : d < 7) (h28 : c = 20 ∨ c = 21) : F_X12_worked_14 K (n + 1) 128 (nI line) (nI d) (nI k) (m_wA M A) = F_X12_worked_14 K n 128 (nI line) (nI d) (nI (k + 1)) (m_wA M (m_up (suA A d) 148 d (nI c))) := by
  rw [F_X12_worked_14]
  rcases h28 with rfl | rfl
  · simp (disch := first | assumption | omega | (simp only [G_sI, G_sL, G_wI, G_wL, wA_G]; assumption)) only [↓gN, ↓x_gI_eq, ↓x_gL_eq, ↓x_gO_eq, ↓x_pI_eq, ↓x_pL_eq, ↓x_pR_eq, ↓x_aI_eq, ↓x_aL_eq, ↓x_aO_eq, ↓x_sI_eq, ↓x_sL_eq, ↓x_len_eq, ↓x_cV_eq, ↓x_b_eq, ↓x_nz_eq, ↓x_c_eq, ↓m_let_eq, ↓x_bd_some, ↓reduceIte, gK, gl, gR, mI_sI, mI_sL, mI_sR, mI_wI, mI_wL, mL_sI, mL_sL, mL_sR, mL_wI, mL_wL, mR_sI, mR_sL, mR_sR, mR_wI, mR_wL, mK_sI, mK_sL, mK_sR, mK_wI, mK_wL, mn_sI, mn_sL, mn_sR, mn_wI, mn_wL, mN_sI, mN_sL, mN_sR, mN_wI, mN_wL, wA_I, wA_L, wA_R, wA_K, wA_n, wA_N, wA_s, if_true, if_false, true_and, and_true, and_self, false_and, and_false, ne_eq, not_true_eq_false, not_false_eq_true, reduceCtorEq, Nat.reduceEqDiff, Nat.reduceLT, Nat.reduceLeDiff, ↓no_1, no_nat, nat_no, no_ge, no_le, no_lt, no_gt, no_no, no_dec, Nat.add_sub_cancel, nlit, nI_neg, nI_ge0, i32_rem2, n_rem, i32_div, nI_sub', nI_cl, nI_p, nI_lt0, nI_add, nI_1, nI_leI, nI_ltI, nI_eq, nI_mul, lg_cmp_n, l_xor, Nat.zero_add, Nat.add_zero, t_lt, f_lt, t_le, f_le, t_eq, f_eq, S_sums h, he, hc]
  · simp (disch := first | assumption | omega | (simp only [G_sI, G_sL, G_wI, G_wL, wA_G]; assumption)) only [↓gN, ↓x_gI_eq, ↓x_gL_eq, ↓x_gO_eq, ↓x_pI_eq, ↓x_pL_eq, ↓x_pR_eq, ↓x_aI_eq, ↓x_aL_eq, ↓x_aO_eq, ↓x_sI_eq, ↓x_sL_eq, ↓x_len_eq, ↓x_cV_eq, ↓x_b_eq, ↓x_nz_eq, ↓x_c_eq, ↓m_let_eq, ↓x_bd_some, ↓reduceIte, gK, gl, gR, mI_sI, mI_sL, mI_sR, mI_wI, mI_wL, mL_sI, mL_sL, mL_sR, mL_wI, mL_wL, mR_sI, mR_sL, mR_sR, mR_wI, mR_wL, mK_sI, mK_sL, mK_sR, mK_wI, mK_wL, mn_sI, mn_sL, mn_sR, mn_wI, mn_wL, mN_sI, mN_sL, mN_sR, mN_wI, mN_wL, wA_I, wA_L, wA_R, wA_K, wA_n, wA_N, wA_s, if_true, if_false, true_and, and_true, and_self, false_and, and_false, ne_eq, not_true_eq_false, not_false_eq_true, reduceCtorEq, Nat.reduceEqDiff, Nat.reduceLT, Nat.reduceLeDiff, ↓no_1, no_nat, nat_no, no_ge, no_le, no_lt, no_gt, no_no, no_dec, Nat.add_sub_cancel, nlit, nI_neg, nI_ge0, i32_rem2, n_rem, i32_div, nI_sub', nI_cl, nI_p, nI_lt0, nI_add, nI_1, nI_leI, nI_ltI, nI_eq, nI_mul, lg_cmp_n, l_xor, Nat.zero_add, Nat.add_zero, t_lt, f_lt, t_le, f_le, t_eq, f_eq, S_sums h, he, hc]
theorem S_w14_ti (h : G M) (hl : line < 18) (he : A 139 line = nI e) (h1 : k < e) (h2 : e ≤ 2000) (hc : A 140 k = nI 22) (hd : d < 7) : F_X12_worked_14 K (n + 1) 128 (nI line) (nI d) (nI k) (m_wA M A) = F_X12_worked_14 K n 128 (nI line) (nI d) (nI (k + 1)) (m_wA M (m_up A 150 d (nI 22))) := by
  rw [F_X12_worked_14]
  simp (disch := first | assumption | omega | (simp only [G_sI, G_sL, G_wI, G_wL, wA_G]; assumption)) only [↓gN, ↓x_gI_eq, ↓x_gL_eq, ↓x_gO_eq, ↓x_pI_eq, ↓x_pL_eq, ↓x_pR_eq, ↓x_aI_eq, ↓x_aL_eq, ↓x_aO_eq, ↓x_sI_eq, ↓x_sL_eq, ↓x_len_eq, ↓x_cV_eq, ↓x_b_eq, ↓x_nz_eq, ↓x_c_eq, ↓m_let_eq, ↓x_bd_some, ↓reduceIte, gK, gl, gR, mI_sI, mI_sL, mI_sR, mI_wI, mI_wL, mL_sI, mL_sL, mL_sR, mL_wI, mL_wL, mR_sI, mR_sL, mR_sR, mR_wI, mR_wL, mK_sI, mK_sL, mK_sR, mK_wI, mK_wL, mn_sI, mn_sL, mn_sR, mn_wI, mn_wL, mN_sI, mN_sL, mN_sR, mN_wI, mN_wL, wA_I, wA_L, wA_R, wA_K, wA_n, wA_N, wA_s, if_true, if_false, true_and, and_true, and_self, false_and, and_false, ne_eq, not_true_eq_false, not_false_eq_true, reduceCtorEq, Nat.reduceEqDiff, Nat.reduceLT, Nat.reduceLeDiff, ↓no_1, no_nat, nat_no, no_ge, no_le, no_lt, no_gt, no_no, no_dec, Nat.add_sub_cancel, nlit, nI_neg, nI_ge0, i32_rem2, n_rem, i32_div, nI_sub', nI_cl, nI_p, nI_lt0, nI_add, nI_1, nI_leI, nI_ltI, nI_eq, nI_mul, lg_cmp_n, l_xor, Nat.zero_add, Nat.add_zero, t_lt, f_lt, t_le, f_le, t_eq, f_eq, he, hc]
set_option maxHeartbeats 1000000 in
theorem S_w14_cm (h : G M) (hl : line < 18) (he : A 139 line = nI e) (h1 : k < e) (h2 : e ≤ 2000) (hc : A 140 k = nI c) (hd : d < 7) (h28 : c = 24 ∨ c = 25) : F_X12_worked_14 K (n + 1) 128 (nI line) (nI d) (nI k) (m_wA M A) = F_X12_worked_14 K n 128 (nI line) (nI d) (nI (k + 1)) (m_wA M (m_up (m_up (m_up (m_up (suA A d) 145 d (suA A d 147 d)) 146 d (nI c)) 147 d (nI 0)) 148 d (nI 20))) := by
  rw [F_X12_worked_14]
  rcases h28 with rfl | rfl
  · simp (disch := first | assumption | omega | (simp only [G_sI, G_sL, G_wI, G_wL, wA_G]; assumption)) only [↓gN, ↓x_gI_eq, ↓x_gL_eq, ↓x_gO_eq, ↓x_pI_eq, ↓x_pL_eq, ↓x_pR_eq, ↓x_aI_eq, ↓x_aL_eq, ↓x_aO_eq, ↓x_sI_eq, ↓x_sL_eq, ↓x_len_eq, ↓x_cV_eq, ↓x_b_eq, ↓x_nz_eq, ↓x_c_eq, ↓m_let_eq, ↓x_bd_some, ↓reduceIte, gK, gl, gR, mI_sI, mI_sL, mI_sR, mI_wI, mI_wL, mL_sI, mL_sL, mL_sR, mL_wI, mL_wL, mR_sI, mR_sL, mR_sR, mR_wI, mR_wL, mK_sI, mK_sL, mK_sR, mK_wI, mK_wL, mn_sI, mn_sL, mn_sR, mn_wI, mn_wL, mN_sI, mN_sL, mN_sR, mN_wI, mN_wL, wA_I, wA_L, wA_R, wA_K, wA_n, wA_N, wA_s, if_true, if_false, true_and, and_true, and_self, false_and, and_false, ne_eq, not_true_eq_false, not_false_eq_true, reduceCtorEq, Nat.reduceEqDiff, Nat.reduceLT, Nat.reduceLeDiff, ↓no_1, no_nat, nat_no, no_ge, no_le, no_lt, no_gt, no_no, no_dec, Nat.add_sub_cancel, nlit, nI_neg, nI_ge0, i32_rem2, n_rem, i32_div, nI_sub', nI_cl, nI_p, nI_lt0, nI_add, nI_1, nI_leI, nI_ltI, nI_eq, nI_mul, lg_cmp_n, l_xor, Nat.zero_add, Nat.add_zero, t_lt, f_lt, t_le, f_le, t_eq, f_eq, S_sums h, he, hc]
  · simp (disch := first | assumption | omega | (simp only [G_sI, G_sL, G_wI, G_wL, wA_G]; assumption)) only [↓gN, ↓x_gI_eq, ↓x_gL_eq, ↓x_gO_eq, ↓x_pI_eq, ↓x_pL_eq, ↓x_pR_eq, ↓x_aI_eq, ↓x_aL_eq, ↓x_aO_eq, ↓x_sI_eq, ↓x_sL_eq, ↓x_len_eq, ↓x_cV_eq, ↓x_b_eq, ↓x_nz_eq, ↓x_c_eq, ↓m_let_eq, ↓x_bd_some, ↓reduceIte, gK, gl, gR, mI_sI, mI_sL, mI_sR, mI_wI, mI_wL, mL_sI, mL_sL, mL_sR, mL_wI, mL_wL, mR_sI, mR_sL, mR_sR, mR_wI, mR_wL, mK_sI, mK_sL, mK_sR, mK_wI, mK_wL, mn_sI, mn_sL, mn_sR, mn_wI, mn_wL, mN_sI, mN_sL, mN_sR, mN_wI, mN_wL, wA_I, wA_L, wA_R, wA_K, wA_n, wA_N, wA_s, if_true, if_false, true_and, and_true, and_self, false_and, and_false, ne_eq, not_true_eq_false, not_false_eq_true, reduceCtorEq, Nat.reduceEqDiff, Nat.reduceLT, Nat.reduceLeDiff, ↓no_1, no_nat, nat_no, no_ge, no_le, no_lt, no_gt, no_no, no_dec, Nat.add_sub_cancel, nlit, nI_neg, nI_ge0, i32_rem2, n_rem, i32_div, nI_sub', nI_cl, nI_p, nI_lt0, nI_add, nI_1, nI_leI, nI_ltI, nI_eq, nI_mul, lg_cmp_n, l_xor, Nat.zero_add, Nat.add_zero, t_lt, f_lt, t_le, f_le, t_eq, f_eq, S_sums h, he, hc]
set_option maxHeartbeats 1000000 in
theorem S_w14_jo (h : G M) (hl : line < 18) (he : A 139 line = nI e) (h1 : k < e) (h2 : e ≤ 2000) (hc : A 140 k = nI c) (hd : d < 7) (h28 : c = 26 ∨ c = 27) : F_X12_worked_14 K (n + 1) 128 (nI line) (nI d) (nI k) (m_wA M A) = F_X12_worked_14 K n 128 (nI line) (nI d) (nI (k + 1)) (m_wA M (m_up (teA A d) 144 d (nI c))) := by
  rw [F_X12_worked_14]
  rcases h28 with rfl | rfl
  · simp (disch := first | assumption | omega | (simp only [G_sI, G_sL, G_wI, G_wL, wA_G]; assumption)) only [↓gN, ↓x_gI_eq, ↓x_gL_eq, ↓x_gO_eq, ↓x_pI_eq, ↓x_pL_eq, ↓x_pR_eq, ↓x_aI_eq, ↓x_aL_eq, ↓x_aO_eq, ↓x_sI_eq, ↓x_sL_eq, ↓x_len_eq, ↓x_cV_eq, ↓x_b_eq, ↓x_nz_eq, ↓x_c_eq, ↓m_let_eq, ↓x_bd_some, ↓reduceIte, gK, gl, gR, mI_sI, mI_sL, mI_sR, mI_wI, mI_wL, mL_sI, mL_sL, mL_sR, mL_wI, mL_wL, mR_sI, mR_sL, mR_sR, mR_wI, mR_wL, mK_sI, mK_sL, mK_sR, mK_wI, mK_wL, mn_sI, mn_sL, mn_sR, mn_wI, mn_wL, mN_sI, mN_sL, mN_sR, mN_wI, mN_wL, wA_I, wA_L, wA_R, wA_K, wA_n, wA_N, wA_s, if_true, if_false, true_and, and_true, and_self, false_and, and_false, ne_eq, not_true_eq_false, not_false_eq_true, reduceCtorEq, Nat.reduceEqDiff, Nat.reduceLT, Nat.reduceLeDiff, ↓no_1, no_nat, nat_no, no_ge, no_le, no_lt, no_gt, no_no, no_dec, Nat.add_sub_cancel, nlit, nI_neg, nI_ge0, i32_rem2, n_rem, i32_div, nI_sub', nI_cl, nI_p, nI_lt0, nI_add, nI_1, nI_leI, nI_ltI, nI_eq, nI_mul, lg_cmp_n, l_xor, Nat.zero_add, Nat.add_zero, t_lt, f_lt, t_le, f_le, t_eq, f_eq, S_tests h, he, hc]
  · simp (disch := first | assumption | omega | (simp only [G_sI, G_sL, G_wI, G_wL, wA_G]; assumption)) only [↓gN, ↓x_gI_eq, ↓x_gL_eq, ↓x_gO_eq, ↓x_pI_eq, ↓x_pL_eq, ↓x_pR_eq, ↓x_aI_eq, ↓x_aL_eq, ↓x_aO_eq, ↓x_sI_eq, ↓x_sL_eq, ↓x_len_eq, ↓x_cV_eq, ↓x_b_eq, ↓x_nz_eq, ↓x_c_eq, ↓m_let_eq, ↓x_bd_some, ↓reduceIte, gK, gl, gR, mI_sI, mI_sL, mI_sR, mI_wI, mI_wL, mL_sI, mL_sL, mL_sR, mL_wI, mL_wL, mR_sI, mR_sL, mR_sR, mR_wI, mR_wL, mK_sI, mK_sL, mK_sR, mK_wI, mK_wL, mn_sI, mn_sL, mn_sR, mn_wI, mn_wL, mN_sI, mN_sL, mN_sR, mN_wI, mN_wL, wA_I, wA_L, wA_R, wA_K, wA_n, wA_N, wA_s, if_true, if_false, true_and, and_true, and_self, false_and, and_false, ne_eq, not_true_eq_false, not_false_eq_true, reduceCtorEq, Nat.reduceEqDiff, Nat.reduceLT, Nat.reduceLeDiff, ↓no_1, no_nat, nat_no, no_ge, no_le, no_lt, no_gt, no_no, no_dec, Nat.add_sub_cancel, nlit, nI_neg, nI_ge0, i32_rem2, n_rem, i32_div, nI_sub', nI_cl, nI_p, nI_lt0, nI_add, nI_1, nI_leI, nI_ltI, nI_eq, nI_mul, lg_cmp_n, l_xor, Nat.zero_add, Nat.add_zero, t_lt, f_lt, t_le, f_le, t_eq, f_eq, S_tests h, he, hc]
set_option maxHeartbeats 1000000 in
theorem S_w14_va (h : G M) (hl : line < 18) (he : A 139 line = nI e) (h1 : k < e) (h2 : e ≤ 2000) (hc : A 140 k = nI c) (hd : d < 7)
    (h28 : ¬ nI c = (28 : Int32)) (h30 : ¬ nI c = (30 : Int32)) (h20 : ¬ nI c = (20 : Int32)) (h21 : ¬ nI c = (21 : Int32)) (h22 : ¬ nI c = (22 : Int32)) (h24 : ¬ nI c = (24 : Int32)) (h25 : ¬ nI c = (25 : Int32)) (h26 : ¬ nI c = (26 : Int32)) (h27 : ¬ nI c = (27 : Int32))
    (hz : (c = 29 ∧ 0 < d) ∨ c < 20 ∨ (100 ≤ c ∧ c < 20000)) :
    F_X12_worked_14 K (n + 1) 128 (nI line) (nI d) (nI k) (m_wA M A) = F_X12_worked_14 K n 128 (nI line) (nI (evS c (d, A)).1) (nI (k + 1)) (m_wA M (evS c (d, A)).2) := by
  have hcb : c < 20000 := by omega
  rw [F_X12_worked_14]
  have K0 : m_K (m_wA M A) 128 = 10 := by simp only [wA_K, gK h]
  have K1 : m_K (m_wA M A) 139 = 12 := by simp only [wA_K, gK h]
  have K2 : m_K (m_wA M A) 140 = 12 := by simp only [wA_K, gK h]
  have R1 : m_R (m_wA M A) 128 19 = some 139 := by simp only [wA_R, gR h]
  have R2 : m_R (m_wA M A) 128 20 = some 140 := by simp only [wA_R, gR h]
  have L1 : line < m_len (m_wA M A) 139 := by simp only [wA_n, gl h]; exact hl
  have L2 : k < m_len (m_wA M A) 140 := by simp only [wA_n, gl h]; omega
  have I1 : m_I (m_wA M A) 139 line = nI e := he
  have I2 : m_I (m_wA M A) 140 k = nI c := hc
  rw [x_gN_ok K0 R1, x_aI_ok K1 L1 (by omega), I1, if_neg (nI_ge h1 (by omega))]
  refine m_let_e ?_
  intro k329 h329
  refine m_let_e ?_
  intro k46 h46
  rw [x_gN_ok K0 R2, x_aI_ok K2 L2 (by omega), I2, if_neg h28, if_neg h30]
  refine m_let_e ?_
  intro k89 h89
  rw [if_neg h20, if_neg h21, if_neg h22]
  refine m_let_e ?_
  intro k137 h137
  rw [if_neg h24, if_neg h25]
  refine m_let_e ?_
  intro k194 h194
  rw [if_neg h26, if_neg h27]
  refine m_let_e ?_
  intro k243 h243
  clear h46 h89 h137 h194
  have hK : ∀ (A' : IA) (K' : Nat → Int32 → Int32 → Int32 → Int32 → m_M → Option (Int32 × m_M)), K' = (fun v62 v63 v64 v65 v66 M20 =>
          m_let (fun (v67 : Nat) (v68 : Int32) (v69 : Int32) (v70 : Int32) (v71 : Nat) (v72 : Int32) (v73 : Int32) (M21 : m_M) =>
            x_sI 12 M21 v71 v72 v73 fun M22 =>
            k329 v67 v68 v69 v70 M22
          ) fun (k328 : Nat → Int32 → Int32 → Int32 → Nat → Int32 → Int32 → m_M → Option (Int32 × m_M)) =>
          x_gN 10 M20 v62 33 fun v74 =>
          x_gN 10 M20 v62 34 fun v75 =>
          x_aI 12 M20 v75 v64 fun v76 =>
          if v76 = 0 then (
            k328 v62 v63 v64 v65 v74 v64 v66 M20
          ) else
          x_gN 10 M20 v62 33 fun v77 =>
          x_aI 12 M20 v77 v64 fun v78 =>
          k328 v62 v63 v64 v65 v74 v64 (v78 * v66) M20) → ∀ (d : Nat) (v : Int32), d < 7 → K' 128 (nI line) (nI d) (nI k) v (m_wA M A') = F_X12_worked_14 K n 128 (nI line) (nI d) (nI (k + 1)) (m_wA M (tmA A' d v)) := by
    intro A' K' hK' d' v hd'
    rw [hK', h329]
    simp (disch := first | assumption | omega | (simp only [G_sI, G_sL, G_wI, G_wL, wA_G]; assumption)) only [↓gN, ↓x_gI_eq, ↓x_gL_eq, ↓x_gO_eq, ↓x_pI_eq, ↓x_pL_eq, ↓x_pR_eq, ↓x_aI_eq, ↓x_aL_eq, ↓x_aO_eq, ↓x_sI_eq, ↓x_sL_eq, ↓x_len_eq, ↓x_cV_eq, ↓x_b_eq, ↓x_nz_eq, ↓x_c_eq, ↓m_let_eq, ↓x_bd_some, ↓reduceIte, gK, gl, gR, mI_sI, mI_sL, mI_sR, mI_wI, mI_wL, mL_sI, mL_sL, mL_sR, mL_wI, mL_wL, mR_sI, mR_sL, mR_sR, mR_wI, mR_wL, mK_sI, mK_sL, mK_sR, mK_wI, mK_wL, mn_sI, mn_sL, mn_sR, mn_wI, mn_wL, mN_sI, mN_sL, mN_sR, mN_wI, mN_wL, wA_I, wA_L, wA_R, wA_K, wA_n, wA_N, wA_s, if_true, if_false, true_and, and_true, and_self, false_and, and_false, ne_eq, not_true_eq_false, not_false_eq_true, reduceCtorEq, Nat.reduceEqDiff, Nat.reduceLT, Nat.reduceLeDiff, ↓no_1, no_nat, nat_no, no_ge, no_le, no_lt, no_gt, no_no, no_dec, Nat.add_sub_cancel, nlit, nI_neg, nI_ge0, i32_rem2, n_rem, i32_div, nI_sub', nI_cl, nI_p, nI_lt0, nI_add, nI_1, nI_leI, nI_ltI, nI_eq, nI_mul, lg_cmp_n, l_xor, Nat.zero_add, Nat.add_zero, t_lt, f_lt, t_le, f_le, t_eq, f_eq]
    by_cases q : A' 150 d' = nI 0
    · rw [if_pos q, tmA, if_pos q]
    · rw [if_neg q, tmA, if_neg q]
  have hk : ∀ (A' : IA) (d' : Nat) (v : Int32), d' < 7 → ¬ nI c = (29 : Int32) → k243 128 (nI line) (nI d') (nI k) (nI c) v (m_wA M A') = F_X12_worked_14 K n 128 (nI line) (nI (fnA A' d' v).1) (nI (k + 1)) (m_wA M (fnA A' d' v).2) := by
    intro A' d' v hd' h29
    rw [h243]
    refine m_let_e ?_
    intro k268 h268
    rw [if_neg h29, h268]
    refine m_let_e ?_
    intro k300 h300
    exact S_fin h (fun d' A' => F_X12_worked_14 K n 128 (nI line) (nI d') (nI (k + 1)) (m_wA M A')) (hK A' k300 h300) _ _ _ (m_FU_lt (by omega)) hd'
  rcases hz with hz | hz | hz
  · obtain ⟨rfl, hd0⟩ := hz
    have K3 : m_K (m_wA M (teA A d)) 128 = 10 := by simp only [wA_K, gK h]
    have K4 : m_K (m_wA M (teA A d)) 143 = 12 := by simp only [wA_K, gK h]
    have R3 : m_R (m_wA M (teA A d)) 128 27 = some 143 := by simp only [wA_R, gR h]
    have L3 : d < m_len (m_wA M (teA A d)) 143 := by simp only [wA_n, gl h]; omega
    have K5 : m_K (m_wA M A) 152 = 12 := by simp only [wA_K, gK h]
    rw [if_pos (by decide), if_pos (by decide), h243]
    refine m_let_e ?_
    intro k268 h268
    rw [if_pos (show nI 29 = (29 : Int32) from rfl), x_cV_ok K0 (S_tests h (by omega)), x_gN_ok K3 R3, x_aI_ok K4 L3 (by omega), m_let_eq, show nI d + (-1 : Int32) = nI (d - 1) from no_dec hd0, h268]
    refine m_let_e ?_
    intro k300 h300
    refine (S_fin h (fun d' A' => F_X12_worked_14 K n 128 (nI line) (nI d') (nI (k + 1)) (m_wA M A')) (hK (teA A d) k300 h300) _ (d - 1) _ (m_FU_lt (by omega)) (by omega)).trans ?_
    rfl
  · have K5 : m_K (m_wA M A) 152 = 12 := by simp only [wA_K, gK h]
    have R5 : m_R (m_wA M A) 128 36 = some 152 := by simp only [wA_R, gR h]
    have L5 : c < m_len (m_wA M A) 152 := by simp only [wA_n, gl h]; exact hz
    rw [if_pos (show nI c < (100 : Int32) from nI_lt (b := 100) (by omega) (by omega)), if_neg (show ¬ (20 : Int32) ≤ nI c from nI_ge (b := 20) hz (by omega)), x_gN_ok K0 R5, x_aI_ok K5 L5 (by omega)]
    rw [hk A d _ hd (fun q => by have q2 := (nI_eq (b := 29) (by omega) (by omega)).mp q; omega)]
    unfold evS
    rw [if_neg (by omega), if_neg (by omega), if_neg (by omega), if_neg (by omega), if_neg (by omega), if_neg (by omega), if_neg (by omega), if_pos hz]
    rfl
  · rw [if_neg (show ¬ nI c < (100 : Int32) from nI_nlt (b := 100) hz.1 (by omega)), show nI c - (100 : Int32) = nI (c - 100) from nI_sub' (b := 100) hz.1]
    rw [hk A d _ hd (fun q => by have q2 := (nI_eq (b := 29) (by omega) (by omega)).mp q; omega)]
    unfold evS
    rw [if_neg (by omega), if_neg (by omega), if_neg (by omega), if_neg (by omega), if_neg (by omega), if_neg (by omega), if_pos hz.1]
theorem S_w14 (h : G M) (hl : line < 18) (he : A 139 line = nI e) (h1 : k < e) (h2 : e ≤ 2000) (hc : A 140 k = nI c) (ho : evOk c d) : F_X12_worked_14 K (n + 1) 128 (nI line) (nI d) (nI k) (m_wA M A) = F_X12_worked_14 K n 128 (nI line) (nI (evS c (d, A)).1) (nI (k + 1)) (m_wA M (evS c (d, A)).2) := by
  obtain ⟨hd, ho⟩ := ho
  rcases ho with ⟨q, q2⟩ | q | q | q | q | q
  · rw [S_w14_op h hl he h1 h2 hc q2 q, evS, if_pos q]
  · rw [S_w14_pm h hl he h1 h2 hc hd q, evS, if_neg (by omega), if_pos q]
  · subst q
    rw [S_w14_ti h hl he h1 h2 hc hd]
    rfl
  · rw [S_w14_cm h hl he h1 h2 hc hd q, evS, if_neg (by omega), if_neg (by omega), if_neg (by omega), if_pos q]
  · rw [S_w14_jo h hl he h1 h2 hc hd q, evS, if_neg (by omega), if_neg (by omega), if_neg (by omega), if_neg (by omega), if_pos q]
  · have hne : ∀ m, m < 31 → c ≠ m → ¬ nI c = nI m := fun m hm hq e => hq ((nI_eq (by omega) (by omega)).mp e)
    exact S_w14_va h hl he h1 h2 hc hd (hne 28 (by omega) (by omega)) (hne 30 (by omega) (by omega)) (hne 20 (by omega) (by omega)) (hne 21 (by omega) (by omega)) (hne 22 (by omega) (by omega)) (hne 24 (by omega) (by omega)) (hne 25 (by omega) (by omega)) (hne 26 (by omega) (by omega)) (hne 27 (by omega) (by omega)) q
end STEP
theorem evR_fr (c : Nat → Nat) {a : Nat} (h : a < 143 ∨ 151 < a) : ∀ (m k : Nat) (s : Nat × IA), (evR c m k s).2 a = s.2 a := by
  intro m
  induction m with
  | zero => intro k s; rfl
  | succ m ih => intro k s; rw [evR, ih, evS_fr h]
theorem S_w14_all (h : G M) {K : Nat → m_M → Option (Int32 × m_M)} {line e : Nat} {c : Nat → Nat} (hl : line < 18) (h2 : e ≤ 2000) : ∀ (m k n : Nat) (s : Nat × IA), k + m = e → m < n → s.2 139 line = nI e → (∀ j, k ≤ j → j < e → s.2 140 j = nI (c j)) → evRok c m k s → F_X12_worked_14 K n 128 (nI line) (nI s.1) (nI k) (m_wA M s.2) = K 128 (m_wA M (evR c m k s).2) := by
  intro m
  induction m with
  | zero =>
    intro k n s hk hn he hc ho
    obtain ⟨n, rfl⟩ : ∃ n', n = n' + 1 := ⟨n - 1, by omega⟩
    have K0 : m_K (m_wA M s.2) 128 = 10 := by simp only [wA_K, gK h]
    have K1 : m_K (m_wA M s.2) 139 = 12 := by simp only [wA_K, gK h]
    have R1 : m_R (m_wA M s.2) 128 19 = some 139 := by simp only [wA_R, gR h]
    have L1 : line < m_len (m_wA M s.2) 139 := by simp only [wA_n, gl h]; exact hl
    have I1 : m_I (m_wA M s.2) 139 line = nI e := he
    rw [F_X12_worked_14, x_gN_ok K0 R1, x_aI_ok K1 L1 (by omega), I1, if_pos (nI_le (by omega) (by omega))]
    rfl
  | succ m ih =>
    intro k n s hk hn he hc ho
    obtain ⟨n, rfl⟩ : ∃ n', n = n' + 1 := ⟨n - 1, by omega⟩
    have hs : s = (s.1, s.2) := rfl
    rw [S_w14 h hl he (by omega) h2 (hc k (Nat.le_refl _) (by omega)) ho.1]
    rw [ih (k + 1) n (evS (c k) (s.1, s.2)) (by omega) (by omega) (by rw [evS_fr (by omega)]; exact he) (fun j hj1 hj2 => by rw [evS_fr (by omega)]; exact hc j (by omega) hj2) ho.2]
    rfl
/-- a law at work -/
theorem S_worked (h : G M) {line a e : Nat} {c : Nat → Nat} (hl : line < 18) (ha : A 138 line = nI a) (he : A 139 line = nI e) (h1 : a ≤ e) (h2 : e ≤ 2000) (hc : ∀ j, a ≤ j → j < e → A 140 j = nI (c j)) (ho : evRok c (e - a) a (0, opA A 0)) :
    F_X12_worked 128 (nI line) (m_wA M A) = some (teA (evR c (e - a) a (0, opA A 0)).2 0 143 0, m_wA M (teA (evR c (e - a) a (0, opA A 0)).2 0)) := by
  have K0 : ∀ B, m_K (m_wA M B) 128 = 10 := fun B => by simp only [wA_K, gK h]
  have K1 : ∀ B, m_K (m_wA M B) 138 = 12 := fun B => by simp only [wA_K, gK h]
  have K2 : ∀ B, m_K (m_wA M B) 143 = 12 := fun B => by simp only [wA_K, gK h]
  have R1 : ∀ B, m_R (m_wA M B) 128 18 = some 138 := fun B => by simp only [wA_R, gR h]
  have R2 : ∀ B, m_R (m_wA M B) 128 27 = some 143 := fun B => by simp only [wA_R, gR h]
  have L1 : ∀ B, line < m_len (m_wA M B) 138 := fun B => by simp only [wA_n, gl h]; exact hl
  have L2 : ∀ B, 0 < m_len (m_wA M B) 143 := fun B => by simp only [wA_n, gl h]; omega
  have I1 : m_I (m_wA M (opA A 0)) 138 line = nI a := by rw [wA_I, opA_fr (by omega)]; exact ha
  unfold F_X12_worked
  rw [x_cV_ok (K0 A) (show F_X12_opens 128 (0 : Int32) (m_wA M A) = some ((), m_wA M (opA A 0)) from S_opens (d := 0) h (by omega)), x_gN_ok (K0 _) (R1 _), x_aI_ok (K1 _) (L1 _) (by omega), I1]
  refine m_let_e ?_
  intro k335 h335
  rw [show (0 : Int32) = nI (0, opA A 0).1 from rfl, show m_wA M (opA A 0) = m_wA M (0, opA A 0).2 from rfl, S_w14_all h hl h2 (e - a) a m_FU (0, opA A 0) (by omega) (m_FU_lt (by omega)) (by show opA A 0 139 line = _; rw [opA_fr (by omega)]; exact he) (fun j h1 h2 => by show opA A 0 140 j = _; rw [opA_fr (by omega)]; exact hc j h1 h2) ho, h335]
  dsimp only
  rw [x_cV_ok (K0 _) (show F_X12_tests 128 (0 : Int32) (m_wA M (evR c (e - a) a (0, opA A 0)).2) = some ((), m_wA M (teA (evR c (e - a) a (0, opA A 0)).2 0)) from S_tests (d := 0) h (by omega)), x_gN_ok (K0 _) (R2 _)]
  rw [show (0 : Int32) = nI 0 from rfl, x_aI_ok (K2 _) (L2 _) (by omega)]
  rfl
end WORK
