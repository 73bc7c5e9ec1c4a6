/-! the class's laws at work -/
def opC (c a b : Int32) : Int32 :=
  if c = -17 then a - b else if c = -16 then a + b else if c = -15 then (if a = b then nI 1 else nI 0) else if c = -14 then (if b ≤ a then nI 0 else nI 1)
  else if c = -13 then (if a = 0 then (if b = 0 then nI 0 else nI 1) else nI 1) else if c = -12 then (if a = 0 then nI 0 else if b = 0 then nI 0 else nI 1) else a * b
/-- a code's word: facts 0 to 4, operators 11 to 18, numbers from 100 on -/
def cw (x : Nat) : Int32 := if x < 5 then NO - nI x else if x < 100 then -(nI x) else nI (x - 100)
def reS (x : Nat) (s : Nat × IA) : Nat × IA :=
  if x = 11 then (s.1, m_up s.2 15 (s.1 - 1) (if s.2 15 (s.1 - 1) = nI 0 then nI 1 else nI 0))
  else if 11 < x ∧ x < 19 then (s.1 - 1, m_up s.2 15 (s.1 - 2) (opC (cw x) (s.2 15 (s.1 - 2)) (s.2 15 (s.1 - 1))))
  else (s.1 + 1, m_up s.2 15 s.1 (if x < 5 then s.2 14 x else nI (x - 100)))
def reOk (x top : Nat) : Prop := top ≤ 64 ∧ ((x = 11 ∧ 0 < top) ∨ ((11 < x ∧ x < 19) ∧ 1 < top) ∨ ((x < 5 ∨ (100 ≤ x ∧ x < 20000)) ∧ top < 64))
def reR (c : Nat → Nat) : Nat → Nat → Nat × IA → Nat × IA
  | 0, _, s => s
  | m + 1, k, s => reR c m (k + 1) (reS (c k) s)
def reRok (c : Nat → Nat) : Nat → Nat → Nat × IA → Prop
  | 0, _, _ => True
  | m + 1, k, s => reOk (c k) s.1 ∧ reRok c m (k + 1) (reS (c k) s)
section RECK
variable {M : m_M} {A : IA}
theorem S_operate (c a b : Int32) : F_X3_operate c a b M = some (opC c a b, M) := by
  unfold F_X3_operate opC
  split; · rfl
  split; · rfl
  split
  · split <;> rfl
  split
  · split <;> rfl
  split
  · simp only [m_let_eq]; split
    · split <;> rfl
    · rfl
  split
  · simp only [m_let_eq]; split
    · rfl
    · split <;> rfl
  · rfl
variable {K : Nat → m_M → Option (Int32 × m_M)} {n x e k top : Nat}
theorem re_len (h : G M) : m_K (m_wA M A) 2 = 3 ∧ m_K (m_wA M A) 8 = 12 ∧ m_K (m_wA M A) 14 = 12 ∧ m_K (m_wA M A) 15 = 12 ∧ m_R (m_wA M A) 2 11 = some 8 ∧ m_R (m_wA M A) 2 17 = some 14 ∧ m_R (m_wA M A) 2 18 = some 15 ∧ m_len (m_wA M A) 8 = 1000 ∧ m_len (m_wA M A) 14 = 5 ∧ m_len (m_wA M A) 15 = 64 := by
  refine ⟨?_, ?_, ?_, ?_, ?_, ?_, ?_, ?_, ?_, ?_⟩ <;> simp only [wA_K, wA_R, wA_n, gK h, gR h, gl h]
theorem S_re (h : G M) (h1 : k < e) (h2 : e ≤ 1000) (hc : A 8 k = cw x) (ho : reOk x top) : F_X3_reckon_35 K (n + 1) 2 (nI top) (nI e) (nI k) (m_wA M A) = F_X3_reckon_35 K n 2 (nI (reS x (top, A)).1) (nI e) (nI (k + 1)) (m_wA M (reS x (top, A)).2) := by
  obtain ⟨ht, ho⟩ := ho
  obtain ⟨K2, K8, K14, K15, R11, R17, R18, L8, L14, L15⟩ := re_len (A := A) h
  rw [F_X3_reckon_35, if_neg (nI_ge h1 (by omega))]
  refine m_let_e ?_
  intro k175 h175
  refine m_let_e ?_
  intro k89 h89
  have I8 : m_I (m_wA M A) 8 k = cw x := hc
  rw [x_gN_ok K2 R11, x_aI_ok K8 (by rw [L8]; omega) (by omega), I8]
  rcases ho with ⟨rfl, ho⟩ | ⟨hx, ho⟩ | ⟨hx, ho⟩
  · rw [if_pos (by decide), if_neg (nI_nle ho (by omega))]
    clear h89
    simp (disch := first | assumption | omega | (simp only [G_sI, G_sL, G_wI, G_wL, wA_G]; assumption)) only [↓gN, ↓x_gI_eq, ↓x_gL_eq, ↓x_gO_eq, ↓x_pI_eq, ↓x_pL_eq, ↓x_pR_eq, ↓x_aI_eq, ↓x_aL_eq, ↓x_aO_eq, ↓x_sI_eq, ↓x_sL_eq, ↓x_len_eq, ↓x_cV_eq, ↓x_b_eq, ↓x_nz_eq, ↓x_c_eq, ↓m_let_eq, ↓x_bd_some, ↓reduceIte, gK, gl, gR, mI_sI, mI_sL, mI_sR, mI_wI, mI_wL, mL_sI, mL_sL, mL_sR, mL_wI, mL_wL, mR_sI, mR_sL, mR_sR, mR_wI, mR_wL, mK_sI, mK_sL, mK_sR, mK_wI, mK_wL, mn_sI, mn_sL, mn_sR, mn_wI, mn_wL, mN_sI, mN_sL, mN_sR, mN_wI, mN_wL, wA_I, wA_L, wA_R, wA_K, wA_n, wA_N, wA_s, if_true, if_false, true_and, and_true, and_self, false_and, and_false, ne_eq, not_true_eq_false, not_false_eq_true, reduceCtorEq, Nat.reduceEqDiff, Nat.reduceLT, Nat.reduceLeDiff, ↓no_1, no_nat, nat_no, no_ge, no_le, no_lt, no_gt, no_no, no_dec, Nat.add_sub_cancel, nlit, nI_neg, nI_ge0, i32_rem2, n_rem, i32_div, nI_sub', nI_cl, nI_p, nI_lt0, nI_add, nI_1, nI_leI, nI_ltI, nI_eq, nI_mul, lg_cmp_n, l_xor, Nat.zero_add, Nat.add_zero, t_lt, f_lt, t_le, f_le, t_eq, f_eq, h175]
    rw [reS, if_pos rfl]
    dsimp only
    split <;> rfl
  · have hx1 : ∀ y, y < 19 → 11 < y → ¬ cw y = (-11 : Int32) ∧ ¬ (-11 : Int32) ≤ cw y := by decide
    rw [if_neg (hx1 x hx.2 hx.1).1, h89]
    refine m_let_e ?_
    intro k134 h134
    rw [if_neg (hx1 x hx.2 hx.1).2, if_neg (show ¬ nI top ≤ (1 : Int32) from nI_ge (a := 1) ho (by omega))]
    clear h89 h134
    simp (disch := first | assumption | omega | (simp only [G_sI, G_sL, G_wI, G_wL, wA_G]; assumption)) only [↓gN, ↓x_gI_eq, ↓x_gL_eq, ↓x_gO_eq, ↓x_pI_eq, ↓x_pL_eq, ↓x_pR_eq, ↓x_aI_eq, ↓x_aL_eq, ↓x_aO_eq, ↓x_sI_eq, ↓x_sL_eq, ↓x_len_eq, ↓x_cV_eq, ↓x_b_eq, ↓x_nz_eq, ↓x_c_eq, ↓m_let_eq, ↓x_bd_some, ↓reduceIte, gK, gl, gR, mI_sI, mI_sL, mI_sR, mI_wI, mI_wL, mL_sI, mL_sL, mL_sR, mL_wI, mL_wL, mR_sI, mR_sL, mR_sR, mR_wI, mR_wL, mK_sI, mK_sL, mK_sR, mK_wI, mK_wL, mn_sI, mn_sL, mn_sR, mn_wI, mn_wL, mN_sI, mN_sL, mN_sR, mN_wI, mN_wL, wA_I, wA_L, wA_R, wA_K, wA_n, wA_N, wA_s, if_true, if_false, true_and, and_true, and_self, false_and, and_false, ne_eq, not_true_eq_false, not_false_eq_true, reduceCtorEq, Nat.reduceEqDiff, Nat.reduceLT, Nat.reduceLeDiff, ↓no_1, no_nat, nat_no, no_ge, no_le, no_lt, no_gt, no_no, no_dec, Nat.add_sub_cancel, nlit, nI_neg, nI_ge0, i32_rem2, n_rem, i32_div, nI_sub', nI_cl, nI_p, nI_lt0, nI_add, nI_1, nI_leI, nI_ltI, nI_eq, nI_mul, lg_cmp_n, l_xor, Nat.zero_add, Nat.add_zero, t_lt, f_lt, t_le, f_le, t_eq, f_eq, S_operate, h175]
    rw [reS, if_neg (by omega), if_pos hx]
    rfl
  · have hx1 : ∀ y, y < 5 → ¬ cw y = (-11 : Int32) ∧ (-11 : Int32) ≤ cw y ∧ ¬ cw y < (-5 : Int32) ∧ cw y < 0 ∧ (-1 : Int32) - cw y = nI y := by decide
    have hx2 : 100 ≤ x → ¬ cw x = (-11 : Int32) ∧ (-11 : Int32) ≤ cw x ∧ ¬ cw x < (-5 : Int32) ∧ ¬ cw x < 0 ∧ cw x = nI (x - 100) := by
      intro hq
      have e1 : cw x = nI (x - 100) := by rw [cw, if_neg (by omega), if_neg (by omega)]
      have hb : x - 100 < 2147483648 := by omega
      rw [e1]
      have hp := nI_pos' hb
      refine ⟨?_, ?_, ?_, nI_pos hb, rfl⟩
      · intro q; rw [q] at hp; exact absurd hp (by decide)
      · exact Int32.le_trans (by decide) hp
      · intro q; exact absurd (Int32.lt_of_le_of_lt hp q) (by decide)
    have hx3 : ¬ cw x = (-11 : Int32) ∧ (-11 : Int32) ≤ cw x ∧ ¬ cw x < (-5 : Int32) := by
      rcases hx with hx | hx
      · exact ⟨(hx1 x hx).1, (hx1 x hx).2.1, (hx1 x hx).2.2.1⟩
      · exact ⟨(hx2 hx.1).1, (hx2 hx.1).2.1, (hx2 hx.1).2.2.1⟩
    rw [if_neg hx3.1, h89]
    refine m_let_e ?_
    intro k134 h134
    rw [if_pos hx3.2.1, h134]
    dsimp only
    rw [if_neg hx3.2.2, if_neg (show ¬ (64 : Int32) ≤ nI top from nI_ge (b := 64) ho (by omega))]
    refine m_let_e ?_
    intro k171 h171
    clear h89 h134
    rw [reS, if_neg (by omega), if_neg (by omega)]
    rcases hx with hx | hx
    · rw [x_gN_ok K2 R18, if_pos (hx1 x hx).2.2.2.1, (hx1 x hx).2.2.2.2, h171, if_pos hx]
      simp (disch := first | assumption | omega | (simp only [G_sI, G_sL, G_wI, G_wL, wA_G]; assumption)) only [↓gN, ↓x_gI_eq, ↓x_gL_eq, ↓x_gO_eq, ↓x_pI_eq, ↓x_pL_eq, ↓x_pR_eq, ↓x_aI_eq, ↓x_aL_eq, ↓x_aO_eq, ↓x_sI_eq, ↓x_sL_eq, ↓x_len_eq, ↓x_cV_eq, ↓x_b_eq, ↓x_nz_eq, ↓x_c_eq, ↓m_let_eq, ↓x_bd_some, ↓reduceIte, gK, gl, gR, mI_sI, mI_sL, mI_sR, mI_wI, mI_wL, mL_sI, mL_sL, mL_sR, mL_wI, mL_wL, mR_sI, mR_sL, mR_sR, mR_wI, mR_wL, mK_sI, mK_sL, mK_sR, mK_wI, mK_wL, mn_sI, mn_sL, mn_sR, mn_wI, mn_wL, mN_sI, mN_sL, mN_sR, mN_wI, mN_wL, wA_I, wA_L, wA_R, wA_K, wA_n, wA_N, wA_s, if_true, if_false, true_and, and_true, and_self, false_and, and_false, ne_eq, not_true_eq_false, not_false_eq_true, reduceCtorEq, Nat.reduceEqDiff, Nat.reduceLT, Nat.reduceLeDiff, ↓no_1, no_nat, nat_no, no_ge, no_le, no_lt, no_gt, no_no, no_dec, Nat.add_sub_cancel, nlit, nI_neg, nI_ge0, i32_rem2, n_rem, i32_div, nI_sub', nI_cl, nI_p, nI_lt0, nI_add, nI_1, nI_leI, nI_ltI, nI_eq, nI_mul, lg_cmp_n, l_xor, Nat.zero_add, Nat.add_zero, t_lt, f_lt, t_le, f_le, t_eq, f_eq, h175]
    · rw [x_gN_ok K2 R18, if_neg (hx2 hx.1).2.2.2.1, (hx2 hx.1).2.2.2.2, h171, if_neg (by omega)]
      simp (disch := first | assumption | omega | (simp only [G_sI, G_sL, G_wI, G_wL, wA_G]; assumption)) only [↓gN, ↓x_gI_eq, ↓x_gL_eq, ↓x_gO_eq, ↓x_pI_eq, ↓x_pL_eq, ↓x_pR_eq, ↓x_aI_eq, ↓x_aL_eq, ↓x_aO_eq, ↓x_sI_eq, ↓x_sL_eq, ↓x_len_eq, ↓x_cV_eq, ↓x_b_eq, ↓x_nz_eq, ↓x_c_eq, ↓m_let_eq, ↓x_bd_some, ↓reduceIte, gK, gl, gR, mI_sI, mI_sL, mI_sR, mI_wI, mI_wL, mL_sI, mL_sL, mL_sR, mL_wI, mL_wL, mR_sI, mR_sL, mR_sR, mR_wI, mR_wL, mK_sI, mK_sL, mK_sR, mK_wI, mK_wL, mn_sI, mn_sL, mn_sR, mn_wI, mn_wL, mN_sI, mN_sL, mN_sR, mN_wI, mN_wL, wA_I, wA_L, wA_R, wA_K, wA_n, wA_N, wA_s, if_true, if_false, true_and, and_true, and_self, false_and, and_false, ne_eq, not_true_eq_false, not_false_eq_true, reduceCtorEq, Nat.reduceEqDiff, Nat.reduceLT, Nat.reduceLeDiff, ↓no_1, no_nat, nat_no, no_ge, no_le, no_lt, no_gt, no_no, no_dec, Nat.add_sub_cancel, nlit, nI_neg, nI_ge0, i32_rem2, n_rem, i32_div, nI_sub', nI_cl, nI_p, nI_lt0, nI_add, nI_1, nI_leI, nI_ltI, nI_eq, nI_mul, lg_cmp_n, l_xor, Nat.zero_add, Nat.add_zero, t_lt, f_lt, t_le, f_le, t_eq, f_eq, h175]
theorem reS_fr {a : Nat} (h : a ≠ 15) (x : Nat) (s : Nat × IA) : (reS x s).2 a = s.2 a := by
  unfold reS
  split
  · exact up_fr h
  split
  · exact up_fr h
  · exact up_fr h
theorem reR_fr (c : Nat → Nat) {a : Nat} (h : a ≠ 15) : ∀ (m k : Nat) (s : Nat × IA), (reR c m k s).2 a = s.2 a := by
  intro m
  induction m with
  | zero => intro k s; rfl
  | succ m ih => intro k s; rw [reR, ih, reS_fr h]
theorem S_re_all (h : G M) {c : Nat → Nat} (h2 : e ≤ 1000) : ∀ (m k n : Nat) (s : Nat × IA), k + m = e → m < n → (∀ j, k ≤ j → j < e → s.2 8 j = cw (c j)) → reRok c m k s → F_X3_reckon_35 K n 2 (nI s.1) (nI e) (nI k) (m_wA M s.2) = K 2 (m_wA M (reR c m k s).2) := by
  intro m
  induction m with
  | zero =>
    intro k n s hk hn hc ho
    obtain ⟨n, rfl⟩ : ∃ n', n = n' + 1 := ⟨n - 1, by omega⟩
    rw [F_X3_reckon_35, if_pos (nI_le (by omega) (by omega))]
    rfl
  | succ m ih =>
    intro k n s hk hn hc ho
    obtain ⟨n, rfl⟩ : ∃ n', n = n' + 1 := ⟨n - 1, by omega⟩
    have hs : s = (s.1, s.2) := rfl
    rw [S_re h (by omega) h2 (hc k (Nat.le_refl _) (by omega)) ho.1]
    rw [ih (k + 1) n (reS (c k) (s.1, s.2)) (by omega) (by omega) (fun j hj1 hj2 => by rw [reS_fr (by omega)]; exact hc j (by omega) hj2) ho.2]
    rfl
theorem S_reckon (h : G M) {c : Nat → Nat} {q w i a mm : Nat} (hi : q * 8 + w = i) (hi2 : i < 32) (ha : A 9 i = nI a) (he : A 10 i = nI e) (hm : A 2 5 = nI mm) (hmm : e ≤ mm) (hmb : mm ≤ 1000) (h1 : a ≤ e) (hc : ∀ j, a ≤ j → j < e → A 8 j = cw (c j)) (ho : reRok c (e - a) a (0, A)) :
    F_X3_reckon 2 (nI q) (nI w) (m_wA M A) = some ((reR c (e - a) a (0, A)).2 15 0, m_wA M (reR c (e - a) a (0, A)).2) := by
  unfold F_X3_reckon F_J9_min_7cf53
  have hmn : (if nI mm < nI e then some (nI mm, m_wA M A) else some (nI e, m_wA M A)) = some (nI e, m_wA M A) := by rw [if_neg (nI_nlt hmm (by omega))]
  have e1 : nI q * (8 : Int32) + nI w = nI i := by rw [show (8 : Int32) = nI 8 from rfl, nI_mul, nI_add, hi]
  rw [e1]
  simp (disch := first | assumption | omega | (simp only [G_sI, G_sL, G_wI, G_wL, wA_G]; assumption)) only [↓gN, ↓x_gI_eq, ↓x_gL_eq, ↓x_gO_eq, ↓x_pI_eq, ↓x_pL_eq, ↓x_pR_eq, ↓x_aI_eq, ↓x_aL_eq, ↓x_aO_eq, ↓x_sI_eq, ↓x_sL_eq, ↓x_len_eq, ↓x_cV_eq, ↓x_b_eq, ↓x_nz_eq, ↓x_c_eq, ↓x_bd_some, ↓reduceIte, gK, gl, gR, mI_sI, mI_sL, mI_sR, mI_wI, mI_wL, mL_sI, mL_sL, mL_sR, mL_wI, mL_wL, mR_sI, mR_sL, mR_sR, mR_wI, mR_wL, mK_sI, mK_sL, mK_sR, mK_wI, mK_wL, mn_sI, mn_sL, mn_sR, mn_wI, mn_wL, mN_sI, mN_sL, mN_sR, mN_wI, mN_wL, wA_I, wA_L, wA_R, wA_K, wA_n, wA_N, wA_s, if_true, if_false, true_and, and_true, and_self, false_and, and_false, ne_eq, not_true_eq_false, not_false_eq_true, reduceCtorEq, Nat.reduceEqDiff, Nat.reduceLT, Nat.reduceLeDiff, ↓no_1, no_nat, nat_no, no_ge, no_le, no_lt, no_gt, no_no, no_dec, Nat.add_sub_cancel, nlit, nI_neg, nI_ge0, i32_rem2, n_rem, i32_div, nI_sub', nI_cl, nI_p, nI_lt0, nI_add, nI_1, nI_leI, nI_ltI, nI_eq, nI_mul, lg_cmp_n, l_xor, Nat.zero_add, Nat.add_zero, t_lt, f_lt, t_le, f_le, t_eq, f_eq, ha, he, hm, hmn]
  refine m_let_e ?_
  intro k181 h181
  rw [show nI 0 = nI (0, A).1 from rfl, show m_wA M A = m_wA M (0, A).2 from rfl, S_re_all h (by omega) (e - a) a m_FU (0, A) (by omega) (m_FU_lt (by omega)) hc ho, h181]
  simp (disch := first | assumption | omega | (simp only [G_sI, G_sL, G_wI, G_wL, wA_G]; assumption)) only [↓gN, ↓x_gI_eq, ↓x_gL_eq, ↓x_gO_eq, ↓x_pI_eq, ↓x_pL_eq, ↓x_pR_eq, ↓x_aI_eq, ↓x_aL_eq, ↓x_aO_eq, ↓x_sI_eq, ↓x_sL_eq, ↓x_len_eq, ↓x_cV_eq, ↓x_b_eq, ↓x_nz_eq, ↓x_c_eq, ↓m_let_eq, ↓x_bd_some, ↓reduceIte, gK, gl, gR, mI_sI, mI_sL, mI_sR, mI_wI, mI_wL, mL_sI, mL_sL, mL_sR, mL_wI, mL_wL, mR_sI, mR_sL, mR_sR, mR_wI, mR_wL, mK_sI, mK_sL, mK_sR, mK_wI, mK_wL, mn_sI, mn_sL, mn_sR, mn_wI, mn_wL, mN_sI, mN_sL, mN_sR, mN_wI, mN_wL, wA_I, wA_L, wA_R, wA_K, wA_n, wA_N, wA_s, if_true, if_false, true_and, and_true, and_self, false_and, and_false, ne_eq, not_true_eq_false, not_false_eq_true, reduceCtorEq, Nat.reduceEqDiff, Nat.reduceLT, Nat.reduceLeDiff, ↓no_1, no_nat, nat_no, no_ge, no_le, no_lt, no_gt, no_no, no_dec, Nat.add_sub_cancel, nlit, nI_neg, nI_ge0, i32_rem2, n_rem, i32_div, nI_sub', nI_cl, nI_p, nI_lt0, nI_add, nI_1, nI_leI, nI_ltI, nI_eq, nI_mul, lg_cmp_n, l_xor, Nat.zero_add, Nat.add_zero, t_lt, f_lt, t_le, f_le, t_eq, f_eq]
end RECK
