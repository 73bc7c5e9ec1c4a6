/-! sets of worlds: the class's -/
theorem x_gN_eq {β : Type} {kd : Nat} {M : m_M} {a q : Nat} {f : Nat → Option β} : x_gN kd M a q f = if m_K M a = kd then (match m_R M a q with
  | some r => f r
  | none => none) else none := rfl
theorem x_aN_eq {β : Type} {kd : Nat} {M : m_M} {a : Nat} {i : Int32} {f : Nat → Option β} : x_aN kd M a i f = if m_K M a = kd ∧ 0 ≤ i ∧ i.toNatClampNeg < m_len M a then (match m_R M a i.toNatClampNeg with
  | some r => f r
  | none => none) else none := rfl
/-- the set at a has its longs at la -/
def Ws (M : m_M) (a la : Nat) : Prop := m_K M a = 8 ∧ m_R M a 0 = some la ∧ m_K M la = 13 ∧ m_len M la = 16
theorem wl_step {M : m_M} {la k : Nat} {g : Nat → Int64} : m_sL (m_wL M la (fun j => if j < k then g j else m_L M la j)) la k (g k) = m_wL M la (fun j => if j < k + 1 then g j else m_L M la j) := by
  rw [m_sL_w, m_wL_wL]
  congr 1
  funext j
  rw [mL_wL, if_pos rfl]
  by_cases h : j = k
  · subst h; simp
  · rw [if_neg h]
    by_cases h2 : j < k
    · rw [if_pos h2, if_pos (by omega)]
    · rw [if_neg h2, if_neg (by omega)]
theorem wl_0 {M : m_M} {la : Nat} {g : Nat → Int64} : M = m_wL M la (fun j => if j < 0 then g j else m_L M la j) := by
  have e : (fun j => if j < 0 then g j else m_L M la j) = m_L M la := by funext j; rw [if_neg (by omega)]
  rw [e, m_wL_id]
theorem wi_step {M : m_M} {la k : Nat} {g : Nat → Int32} : m_sI (m_wI M la (fun j => if j < k then g j else m_I M la j)) la k (g k) = m_wI M la (fun j => if j < k + 1 then g j else m_I M la j) := by
  rw [m_sI_w, m_wI_wI]
  congr 1
  funext j
  rw [mI_wI, if_pos rfl]
  by_cases h : j = k
  · subst h; simp
  · rw [if_neg h]
    by_cases h2 : j < k
    · rw [if_pos h2, if_pos (by omega)]
    · rw [if_neg h2, if_neg (by omega)]
theorem wi_0 {M : m_M} {la : Nat} {g : Nat → Int32} : M = m_wI M la (fun j => if j < 0 then g j else m_I M la j) := by
  have e : (fun j => if j < 0 then g j else m_I M la j) = m_I M la := by funext j; rw [if_neg (by omega)]
  rw [e, m_wI_id]
def w16 (M : m_M) (la : Nat) (g : Nat → Int64) : m_M := m_wL M la (fun j => if j < 16 then g j else m_L M la j)
section SETS
variable {M : m_M} {a b la lb' : Nat}
theorem S_keep (ha : Ws M a la) (hb : Ws M b lb') (hne : lb' ≠ la) : F_X10_keep a b M = some ((), w16 M la (fun k => m_L M la k &&& m_L M lb' k)) := by
  obtain ⟨a1, a2, a3, a4⟩ := ha
  obtain ⟨b1, b2, b3, b4⟩ := hb
  unfold F_X10_keep
  refine up_0 (fun n k s => F_X10_keep_2 n a b (nI k) s = some ((), w16 M la (fun k => m_L M la k &&& m_L M lb' k))) 16 (fun k s => s = m_wL M la (fun j => if j < k then (fun k => m_L M la k &&& m_L M lb' k) j else m_L M la j)) (by omega) wl_0 ?_ ?_
  · intro n k s hk hs ih
    rw [F_X10_keep_2]
    have e := ih _ (wl_step (M := M) (la := la) (k := k) (g := fun k => m_L M la k &&& m_L M lb' k))
    subst hs
    simp (disch := first | assumption | omega | (simp only [G_sI, G_sL, G_wI, G_wL, wA_G]; assumption)) only [↓x_gN_eq, ↓x_gI_eq, ↓x_gL_eq, ↓x_gO_eq, ↓x_pI_eq, ↓x_pL_eq, ↓x_pR_eq, ↓x_aI_eq, ↓x_aL_eq, ↓x_aO_eq, ↓x_sI_eq, ↓x_sL_eq, ↓x_len_eq, ↓x_cV_eq, ↓x_b_eq, ↓x_nz_eq, ↓x_c_eq, ↓m_let_eq, ↓x_bd_some, ↓reduceIte, mI_sI, mI_sL, mI_sR, mI_wI, mI_wL, mL_sI, mL_sL, mL_sR, mL_wI, mL_wL, mR_sI, mR_sL, mR_sR, mR_wI, mR_wL, mK_sI, mK_sL, mK_sR, mK_wI, mK_wL, mn_sI, mn_sL, mn_sR, mn_wI, mn_wL, mN_sI, mN_sL, mN_sR, mN_wI, mN_wL, wA_I, wA_L, wA_R, wA_K, wA_n, wA_N, wA_s, if_true, if_false, true_and, and_true, and_self, false_and, and_false, ne_eq, not_true_eq_false, not_false_eq_true, reduceCtorEq, Nat.reduceEqDiff, Nat.reduceLT, Nat.reduceLeDiff, ↓no_1, no_nat, nat_no, no_ge, no_le, no_lt, no_gt, no_no, no_dec, Nat.add_sub_cancel, nlit, nI_neg, nI_ge0, i32_rem2, n_rem, i32_div, nI_sub', nI_cl, nI_p, nI_lt0, nI_add, nI_1, nI_leI, nI_ltI, nI_eq, nI_mul, lg_cmp_n, l_xor, Nat.zero_add, Nat.add_zero, t_lt, f_lt, t_le, f_le, t_eq, f_eq, a1, a2, a3, a4, b1, b2, b3, b4]
    exact e
  · intro n s hs
    rw [F_X10_keep_2, hs, if_pos (by decide)]
    rfl
theorem S_join (ha : Ws M a la) (hb : Ws M b lb') (hne : lb' ≠ la) : F_X10_join a b M = some ((), w16 M la (fun k => m_L M la k ||| m_L M lb' k)) := by
  obtain ⟨a1, a2, a3, a4⟩ := ha
  obtain ⟨b1, b2, b3, b4⟩ := hb
  unfold F_X10_join
  refine up_0 (fun n k s => F_X10_join_2 n a b (nI k) s = some ((), w16 M la (fun k => m_L M la k ||| m_L M lb' k))) 16 (fun k s => s = m_wL M la (fun j => if j < k then (fun k => m_L M la k ||| m_L M lb' k) j else m_L M la j)) (by omega) wl_0 ?_ ?_
  · intro n k s hk hs ih
    rw [F_X10_join_2]
    have e := ih _ (wl_step (M := M) (la := la) (k := k) (g := fun k => m_L M la k ||| m_L M lb' k))
    subst hs
    simp (disch := first | assumption | omega | (simp only [G_sI, G_sL, G_wI, G_wL, wA_G]; assumption)) only [↓x_gN_eq, ↓x_gI_eq, ↓x_gL_eq, ↓x_gO_eq, ↓x_pI_eq, ↓x_pL_eq, ↓x_pR_eq, ↓x_aI_eq, ↓x_aL_eq, ↓x_aO_eq, ↓x_sI_eq, ↓x_sL_eq, ↓x_len_eq, ↓x_cV_eq, ↓x_b_eq, ↓x_nz_eq, ↓x_c_eq, ↓m_let_eq, ↓x_bd_some, ↓reduceIte, mI_sI, mI_sL, mI_sR, mI_wI, mI_wL, mL_sI, mL_sL, mL_sR, mL_wI, mL_wL, mR_sI, mR_sL, mR_sR, mR_wI, mR_wL, mK_sI, mK_sL, mK_sR, mK_wI, mK_wL, mn_sI, mn_sL, mn_sR, mn_wI, mn_wL, mN_sI, mN_sL, mN_sR, mN_wI, mN_wL, wA_I, wA_L, wA_R, wA_K, wA_n, wA_N, wA_s, if_true, if_false, true_and, and_true, and_self, false_and, and_false, ne_eq, not_true_eq_false, not_false_eq_true, reduceCtorEq, Nat.reduceEqDiff, Nat.reduceLT, Nat.reduceLeDiff, ↓no_1, no_nat, nat_no, no_ge, no_le, no_lt, no_gt, no_no, no_dec, Nat.add_sub_cancel, nlit, nI_neg, nI_ge0, i32_rem2, n_rem, i32_div, nI_sub', nI_cl, nI_p, nI_lt0, nI_add, nI_1, nI_leI, nI_ltI, nI_eq, nI_mul, lg_cmp_n, l_xor, Nat.zero_add, Nat.add_zero, t_lt, f_lt, t_le, f_le, t_eq, f_eq, a1, a2, a3, a4, b1, b2, b3, b4]
    exact e
  · intro n s hs
    rw [F_X10_join_2, hs, if_pos (by decide)]
    rfl
theorem S_drop (ha : Ws M a la) (hb : Ws M b lb') (hne : lb' ≠ la) : F_X10_drop a b M = some ((), w16 M la (fun k => m_L M la k &&& ~~~(m_L M lb' k))) := by
  obtain ⟨a1, a2, a3, a4⟩ := ha
  obtain ⟨b1, b2, b3, b4⟩ := hb
  unfold F_X10_drop
  refine up_0 (fun n k s => F_X10_drop_2 n a b (nI k) s = some ((), w16 M la (fun k => m_L M la k &&& ~~~(m_L M lb' k)))) 16 (fun k s => s = m_wL M la (fun j => if j < k then (fun k => m_L M la k &&& ~~~(m_L M lb' k)) j else m_L M la j)) (by omega) wl_0 ?_ ?_
  · intro n k s hk hs ih
    rw [F_X10_drop_2]
    have e := ih _ (wl_step (M := M) (la := la) (k := k) (g := fun k => m_L M la k &&& ~~~(m_L M lb' k)))
    subst hs
    simp (disch := first | assumption | omega | (simp only [G_sI, G_sL, G_wI, G_wL, wA_G]; assumption)) only [↓x_gN_eq, ↓x_gI_eq, ↓x_gL_eq, ↓x_gO_eq, ↓x_pI_eq, ↓x_pL_eq, ↓x_pR_eq, ↓x_aI_eq, ↓x_aL_eq, ↓x_aO_eq, ↓x_sI_eq, ↓x_sL_eq, ↓x_len_eq, ↓x_cV_eq, ↓x_b_eq, ↓x_nz_eq, ↓x_c_eq, ↓m_let_eq, ↓x_bd_some, ↓reduceIte, mI_sI, mI_sL, mI_sR, mI_wI, mI_wL, mL_sI, mL_sL, mL_sR, mL_wI, mL_wL, mR_sI, mR_sL, mR_sR, mR_wI, mR_wL, mK_sI, mK_sL, mK_sR, mK_wI, mK_wL, mn_sI, mn_sL, mn_sR, mn_wI, mn_wL, mN_sI, mN_sL, mN_sR, mN_wI, mN_wL, wA_I, wA_L, wA_R, wA_K, wA_n, wA_N, wA_s, if_true, if_false, true_and, and_true, and_self, false_and, and_false, ne_eq, not_true_eq_false, not_false_eq_true, reduceCtorEq, Nat.reduceEqDiff, Nat.reduceLT, Nat.reduceLeDiff, ↓no_1, no_nat, nat_no, no_ge, no_le, no_lt, no_gt, no_no, no_dec, Nat.add_sub_cancel, nlit, nI_neg, nI_ge0, i32_rem2, n_rem, i32_div, nI_sub', nI_cl, nI_p, nI_lt0, nI_add, nI_1, nI_leI, nI_ltI, nI_eq, nI_mul, lg_cmp_n, l_xor, Nat.zero_add, Nat.add_zero, t_lt, f_lt, t_le, f_le, t_eq, f_eq, a1, a2, a3, a4, b1, b2, b3, b4]
    exact e
  · intro n s hs
    rw [F_X10_drop_2, hs, if_pos (by decide)]
    rfl
theorem S_wl (n k : Nat) (hn : n ≤ 1024) (hk : k < 16) : F_X10_wholeLong (nI n) (nI k) M = some (wlL n k, M) := by
  unfold F_X10_wholeLong
  by_cases h : 64 * k ≤ n
  · simp (disch := first | assumption | omega | (simp only [G_sI, G_sL, G_wI, G_wL, wA_G]; assumption)) only [↓x_gN_eq, ↓x_gI_eq, ↓x_gL_eq, ↓x_gO_eq, ↓x_pI_eq, ↓x_pL_eq, ↓x_pR_eq, ↓x_aI_eq, ↓x_aL_eq, ↓x_aO_eq, ↓x_sI_eq, ↓x_sL_eq, ↓x_len_eq, ↓x_cV_eq, ↓x_b_eq, ↓x_nz_eq, ↓x_c_eq, ↓m_let_eq, ↓x_bd_some, ↓reduceIte, mI_sI, mI_sL, mI_sR, mI_wI, mI_wL, mL_sI, mL_sL, mL_sR, mL_wI, mL_wL, mR_sI, mR_sL, mR_sR, mR_wI, mR_wL, mK_sI, mK_sL, mK_sR, mK_wI, mK_wL, mn_sI, mn_sL, mn_sR, mn_wI, mn_wL, mN_sI, mN_sL, mN_sR, mN_wI, mN_wL, wA_I, wA_L, wA_R, wA_K, wA_n, wA_N, wA_s, if_true, if_false, true_and, and_true, and_self, false_and, and_false, ne_eq, not_true_eq_false, not_false_eq_true, reduceCtorEq, Nat.reduceEqDiff, Nat.reduceLT, Nat.reduceLeDiff, ↓no_1, no_nat, nat_no, no_ge, no_le, no_lt, no_gt, no_no, no_dec, Nat.add_sub_cancel, nlit, nI_neg, nI_ge0, i32_rem2, n_rem, i32_div, nI_sub', nI_cl, nI_p, nI_lt0, nI_add, nI_1, nI_leI, nI_ltI, nI_eq, nI_mul, lg_cmp_n, l_xor, Nat.zero_add, Nat.add_zero, t_lt, f_lt, t_le, f_le, t_eq, f_eq]
    unfold wlL
    by_cases h2 : 64 * k + 64 ≤ n
    · rw [if_neg (by omega), if_pos h2]
    · rw [if_pos (by omega), if_neg h2]
      by_cases h3 : 64 * k < n
      · rw [if_neg (by omega), if_pos h3]
      · rw [if_pos (by omega), if_neg h3]
  · have e : nI n - nI (64 * k) < 0 := by
      have e1 : nI n - nI (64 * k) = -nI (64 * k - n) := by
        rw [← Int32.neg_sub, nI_sub' (by omega)]
      rw [e1]
      exact negI _ (by omega) (by omega)
    have e2 : (64 : Int32) * nI k = nI (64 * k) := nI_mul 64 k
    rw [e2]
    simp only [m_let_eq]
    rw [if_pos (by rw [show (64 : Int32) = nI 64 from rfl, neg_lt e (by omega)]; trivial), if_pos (Int32.le_of_lt e)]
    unfold wlL
    rw [if_neg (by omega), if_neg (by omega)]
theorem S_turn {n : Nat} (hn : n ≤ 1024) (ha : Ws M a la) : F_X10_turn a (nI n) M = some ((), w16 M la (fun k => ~~~(m_L M la k) &&& wlL n k)) := by
  obtain ⟨a1, a2, a3, a4⟩ := ha
  unfold F_X10_turn
  refine up_0 (fun f k s => F_X10_turn_2 f a (nI n) (nI k) s = some ((), w16 M la (fun k => ~~~(m_L M la k) &&& wlL n k))) 16 (fun k s => s = m_wL M la (fun j => if j < k then (fun k => ~~~(m_L M la k) &&& wlL n k) j else m_L M la j)) (by omega) wl_0 ?_ ?_
  · intro f k s hk hs ih
    rw [F_X10_turn_2]
    have e := ih _ (wl_step (M := M) (la := la) (k := k) (g := fun k => ~~~(m_L M la k) &&& wlL n k))
    subst hs
    simp (disch := first | assumption | omega | (simp only [G_sI, G_sL, G_wI, G_wL, wA_G]; assumption)) only [↓x_gN_eq, ↓x_gI_eq, ↓x_gL_eq, ↓x_gO_eq, ↓x_pI_eq, ↓x_pL_eq, ↓x_pR_eq, ↓x_aI_eq, ↓x_aL_eq, ↓x_aO_eq, ↓x_sI_eq, ↓x_sL_eq, ↓x_len_eq, ↓x_cV_eq, ↓x_b_eq, ↓x_nz_eq, ↓x_c_eq, ↓m_let_eq, ↓x_bd_some, ↓reduceIte, mI_sI, mI_sL, mI_sR, mI_wI, mI_wL, mL_sI, mL_sL, mL_sR, mL_wI, mL_wL, mR_sI, mR_sL, mR_sR, mR_wI, mR_wL, mK_sI, mK_sL, mK_sR, mK_wI, mK_wL, mn_sI, mn_sL, mn_sR, mn_wI, mn_wL, mN_sI, mN_sL, mN_sR, mN_wI, mN_wL, wA_I, wA_L, wA_R, wA_K, wA_n, wA_N, wA_s, if_true, if_false, true_and, and_true, and_self, false_and, and_false, ne_eq, not_true_eq_false, not_false_eq_true, reduceCtorEq, Nat.reduceEqDiff, Nat.reduceLT, Nat.reduceLeDiff, ↓no_1, no_nat, nat_no, no_ge, no_le, no_lt, no_gt, no_no, no_dec, Nat.add_sub_cancel, nlit, nI_neg, nI_ge0, i32_rem2, n_rem, i32_div, nI_sub', nI_cl, nI_p, nI_lt0, nI_add, nI_1, nI_leI, nI_ltI, nI_eq, nI_mul, lg_cmp_n, l_xor, Nat.zero_add, Nat.add_zero, t_lt, f_lt, t_le, f_le, t_eq, f_eq, S_wl n k hn hk, a1, a2, a3, a4]
    exact e
  · intro f s hs
    rw [F_X10_turn_2, hs, if_pos (by decide)]
    rfl
theorem S_fill {n : Nat} (hn : n ≤ 1024) (ha : Ws M a la) : F_X10_fill a (nI n) M = some ((), w16 M la (wlL n)) := by
  obtain ⟨a1, a2, a3, a4⟩ := ha
  unfold F_X10_fill
  refine up_0 (fun f k s => F_X10_fill_2 f a (nI n) (nI k) s = some ((), w16 M la (wlL n))) 16 (fun k s => s = m_wL M la (fun j => if j < k then (wlL n) j else m_L M la j)) (by omega) wl_0 ?_ ?_
  · intro f k s hk hs ih
    rw [F_X10_fill_2]
    have e := ih _ (wl_step (M := M) (la := la) (k := k) (g := wlL n))
    subst hs
    simp (disch := first | assumption | omega | (simp only [G_sI, G_sL, G_wI, G_wL, wA_G]; assumption)) only [↓x_gN_eq, ↓x_gI_eq, ↓x_gL_eq, ↓x_gO_eq, ↓x_pI_eq, ↓x_pL_eq, ↓x_pR_eq, ↓x_aI_eq, ↓x_aL_eq, ↓x_aO_eq, ↓x_sI_eq, ↓x_sL_eq, ↓x_len_eq, ↓x_cV_eq, ↓x_b_eq, ↓x_nz_eq, ↓x_c_eq, ↓m_let_eq, ↓x_bd_some, ↓reduceIte, mI_sI, mI_sL, mI_sR, mI_wI, mI_wL, mL_sI, mL_sL, mL_sR, mL_wI, mL_wL, mR_sI, mR_sL, mR_sR, mR_wI, mR_wL, mK_sI, mK_sL, mK_sR, mK_wI, mK_wL, mn_sI, mn_sL, mn_sR, mn_wI, mn_wL, mN_sI, mN_sL, mN_sR, mN_wI, mN_wL, wA_I, wA_L, wA_R, wA_K, wA_n, wA_N, wA_s, if_true, if_false, true_and, and_true, and_self, false_and, and_false, ne_eq, not_true_eq_false, not_false_eq_true, reduceCtorEq, Nat.reduceEqDiff, Nat.reduceLT, Nat.reduceLeDiff, ↓no_1, no_nat, nat_no, no_ge, no_le, no_lt, no_gt, no_no, no_dec, Nat.add_sub_cancel, nlit, nI_neg, nI_ge0, i32_rem2, n_rem, i32_div, nI_sub', nI_cl, nI_p, nI_lt0, nI_add, nI_1, nI_leI, nI_ltI, nI_eq, nI_mul, lg_cmp_n, l_xor, Nat.zero_add, Nat.add_zero, t_lt, f_lt, t_le, f_le, t_eq, f_eq, S_wl n k hn hk, a1, a2, a3, a4]
    exact e
  · intro f s hs
    rw [F_X10_fill_2, hs, if_pos (by decide)]
    rfl
theorem S_fillL {N : Nat} (hN : N < 100000) (v : Int64) (k : m_K M la = 13) (l : m_len M la = N) : F_J7_fill_d0a16 la v M = some ((), m_wL M la (fun j => if j < N then v else m_L M la j)) := by
  unfold F_J7_fill_d0a16
  rw [x_len_ok k, l]
  refine up_0 (fun f k s => F_J7_fill_d0a16_6 f la v (nI k) (nI N) s = some ((), m_wL M la (fun j => if j < N then v else m_L M la j))) N (fun k s => s = m_wL M la (fun j => if j < k then (fun _ => v) j else m_L M la j)) hN wl_0 ?_ ?_
  · intro f q s hk hs ih
    rw [F_J7_fill_d0a16_6]
    have e := ih _ (wl_step (M := M) (la := la) (k := q) (g := fun _ => v))
    subst hs
    simp (disch := first | assumption | omega | (simp only [G_sI, G_sL, G_wI, G_wL, wA_G]; assumption)) only [↓x_gN_eq, ↓x_gI_eq, ↓x_gL_eq, ↓x_gO_eq, ↓x_pI_eq, ↓x_pL_eq, ↓x_pR_eq, ↓x_aI_eq, ↓x_aL_eq, ↓x_aO_eq, ↓x_sI_eq, ↓x_sL_eq, ↓x_len_eq, ↓x_cV_eq, ↓x_b_eq, ↓x_nz_eq, ↓x_c_eq, ↓m_let_eq, ↓x_bd_some, ↓reduceIte, mI_sI, mI_sL, mI_sR, mI_wI, mI_wL, mL_sI, mL_sL, mL_sR, mL_wI, mL_wL, mR_sI, mR_sL, mR_sR, mR_wI, mR_wL, mK_sI, mK_sL, mK_sR, mK_wI, mK_wL, mn_sI, mn_sL, mn_sR, mn_wI, mn_wL, mN_sI, mN_sL, mN_sR, mN_wI, mN_wL, wA_I, wA_L, wA_R, wA_K, wA_n, wA_N, wA_s, if_true, if_false, true_and, and_true, and_self, false_and, and_false, ne_eq, not_true_eq_false, not_false_eq_true, reduceCtorEq, Nat.reduceEqDiff, Nat.reduceLT, Nat.reduceLeDiff, ↓no_1, no_nat, nat_no, no_ge, no_le, no_lt, no_gt, no_no, no_dec, Nat.add_sub_cancel, nlit, nI_neg, nI_ge0, i32_rem2, n_rem, i32_div, nI_sub', nI_cl, nI_p, nI_lt0, nI_add, nI_1, nI_leI, nI_ltI, nI_eq, nI_mul, lg_cmp_n, l_xor, Nat.zero_add, Nat.add_zero, t_lt, f_lt, t_le, f_le, t_eq, f_eq, k, l]
    exact e
  · intro f s hs
    rw [F_J7_fill_d0a16_6, hs, if_pos (Int32.le_refl _)]
theorem S_fillI {N : Nat} (hN : N < 100000) (v : Int32) (k : m_K M la = 12) (l : m_len M la = N) : F_J7_fill_53178 la v M = some ((), m_wI M la (fun j => if j < N then v else m_I M la j)) := by
  unfold F_J7_fill_53178
  rw [x_len_ok k, l]
  refine up_0 (fun f k s => F_J7_fill_53178_5 f la v (nI k) (nI N) s = some ((), m_wI M la (fun j => if j < N then v else m_I M la j))) N (fun k s => s = m_wI M la (fun j => if j < k then (fun _ => v) j else m_I M la j)) hN wi_0 ?_ ?_
  · intro f q s hk hs ih
    rw [F_J7_fill_53178_5]
    have e := ih _ (wi_step (M := M) (la := la) (k := q) (g := fun _ => v))
    subst hs
    simp (disch := first | assumption | omega | (simp only [G_sI, G_sL, G_wI, G_wL, wA_G]; assumption)) only [↓x_gN_eq, ↓x_gI_eq, ↓x_gL_eq, ↓x_gO_eq, ↓x_pI_eq, ↓x_pL_eq, ↓x_pR_eq, ↓x_aI_eq, ↓x_aL_eq, ↓x_aO_eq, ↓x_sI_eq, ↓x_sL_eq, ↓x_len_eq, ↓x_cV_eq, ↓x_b_eq, ↓x_nz_eq, ↓x_c_eq, ↓m_let_eq, ↓x_bd_some, ↓reduceIte, mI_sI, mI_sL, mI_sR, mI_wI, mI_wL, mL_sI, mL_sL, mL_sR, mL_wI, mL_wL, mR_sI, mR_sL, mR_sR, mR_wI, mR_wL, mK_sI, mK_sL, mK_sR, mK_wI, mK_wL, mn_sI, mn_sL, mn_sR, mn_wI, mn_wL, mN_sI, mN_sL, mN_sR, mN_wI, mN_wL, wA_I, wA_L, wA_R, wA_K, wA_n, wA_N, wA_s, if_true, if_false, true_and, and_true, and_self, false_and, and_false, ne_eq, not_true_eq_false, not_false_eq_true, reduceCtorEq, Nat.reduceEqDiff, Nat.reduceLT, Nat.reduceLeDiff, ↓no_1, no_nat, nat_no, no_ge, no_le, no_lt, no_gt, no_no, no_dec, Nat.add_sub_cancel, nlit, nI_neg, nI_ge0, i32_rem2, n_rem, i32_div, nI_sub', nI_cl, nI_p, nI_lt0, nI_add, nI_1, nI_leI, nI_ltI, nI_eq, nI_mul, lg_cmp_n, l_xor, Nat.zero_add, Nat.add_zero, t_lt, f_lt, t_le, f_le, t_eq, f_eq, k, l]
    exact e
  · intro f s hs
    rw [F_J7_fill_53178_5, hs, if_pos (Int32.le_refl _)]
theorem S_clear (ha : Ws M a la) : F_X10_clear a M = some ((), w16 M la (fun _ => 0)) := by
  obtain ⟨a1, a2, a3, a4⟩ := ha
  unfold F_X10_clear
  simp (disch := first | assumption | omega | (simp only [G_sI, G_sL, G_wI, G_wL, wA_G]; assumption)) only [↓x_gN_eq, ↓x_gI_eq, ↓x_gL_eq, ↓x_gO_eq, ↓x_pI_eq, ↓x_pL_eq, ↓x_pR_eq, ↓x_aI_eq, ↓x_aL_eq, ↓x_aO_eq, ↓x_sI_eq, ↓x_sL_eq, ↓x_len_eq, ↓x_cV_eq, ↓x_b_eq, ↓x_nz_eq, ↓x_c_eq, ↓m_let_eq, ↓x_bd_some, ↓reduceIte, mI_sI, mI_sL, mI_sR, mI_wI, mI_wL, mL_sI, mL_sL, mL_sR, mL_wI, mL_wL, mR_sI, mR_sL, mR_sR, mR_wI, mR_wL, mK_sI, mK_sL, mK_sR, mK_wI, mK_wL, mn_sI, mn_sL, mn_sR, mn_wI, mn_wL, mN_sI, mN_sL, mN_sR, mN_wI, mN_wL, wA_I, wA_L, wA_R, wA_K, wA_n, wA_N, wA_s, if_true, if_false, true_and, and_true, and_self, false_and, and_false, ne_eq, not_true_eq_false, not_false_eq_true, reduceCtorEq, Nat.reduceEqDiff, Nat.reduceLT, Nat.reduceLeDiff, ↓no_1, no_nat, nat_no, no_ge, no_le, no_lt, no_gt, no_no, no_dec, Nat.add_sub_cancel, nlit, nI_neg, nI_ge0, i32_rem2, n_rem, i32_div, nI_sub', nI_cl, nI_p, nI_lt0, nI_add, nI_1, nI_leI, nI_ltI, nI_eq, nI_mul, lg_cmp_n, l_xor, Nat.zero_add, Nat.add_zero, t_lt, f_lt, t_le, f_le, t_eq, f_eq, S_fillL (N := 16) (by omega) 0 a3 a4, a1, a2]
  rfl
theorem S_take (ha : Ws M a la) (hb : Ws M b lb') : F_X10_take a b M = some ((), w16 M la (m_L M lb')) := by
  obtain ⟨a1, a2, a3, a4⟩ := ha
  obtain ⟨b1, b2, b3, b4⟩ := hb
  unfold F_X10_take
  simp (disch := first | assumption | omega | (simp only [G_sI, G_sL, G_wI, G_wL, wA_G]; assumption)) only [↓x_gN_eq, ↓x_gI_eq, ↓x_gL_eq, ↓x_gO_eq, ↓x_pI_eq, ↓x_pL_eq, ↓x_pR_eq, ↓x_aI_eq, ↓x_aL_eq, ↓x_aO_eq, ↓x_sI_eq, ↓x_sL_eq, ↓x_len_eq, ↓x_cV_eq, ↓x_b_eq, ↓x_nz_eq, ↓x_c_eq, ↓m_let_eq, ↓x_bd_some, ↓reduceIte, mI_sI, mI_sL, mI_sR, mI_wI, mI_wL, mL_sI, mL_sL, mL_sR, mL_wI, mL_wL, mR_sI, mR_sL, mR_sR, mR_wI, mR_wL, mK_sI, mK_sL, mK_sR, mK_wI, mK_wL, mn_sI, mn_sL, mn_sR, mn_wI, mn_wL, mN_sI, mN_sL, mN_sR, mN_wI, mN_wL, wA_I, wA_L, wA_R, wA_K, wA_n, wA_N, wA_s, if_true, if_false, true_and, and_true, and_self, false_and, and_false, ne_eq, not_true_eq_false, not_false_eq_true, reduceCtorEq, Nat.reduceEqDiff, Nat.reduceLT, Nat.reduceLeDiff, ↓no_1, no_nat, nat_no, no_ge, no_le, no_lt, no_gt, no_no, no_dec, Nat.add_sub_cancel, nlit, nI_neg, nI_ge0, i32_rem2, n_rem, i32_div, nI_sub', nI_cl, nI_p, nI_lt0, nI_add, nI_1, nI_leI, nI_ltI, nI_eq, nI_mul, lg_cmp_n, l_xor, Nat.zero_add, Nat.add_zero, t_lt, f_lt, t_le, f_le, t_eq, f_eq, a1, a2, b1, b2]
  rw [x_cpL_ok (sp := 0) (dp := 0) (n := 16) b3 a3 (by omega) (by omega) (by omega) (by omega) (by omega)]
  congr 3
  funext j
  show (if 0 ≤ j ∧ j < 0 + 16 then m_L M lb' (0 + (j - 0)) else m_L M la j) = _
  simp
theorem S_size (ha : Ws M a la) : F_X10_size a M = some (nI (sumL (m_L M la) 16), M) := by
  obtain ⟨a1, a2, a3, a4⟩ := ha
  unfold F_X10_size
  refine up_0 (fun f k s => F_X10_size_4 f a s (nI k) M = some (nI (sumL (m_L M la) 16), M)) 16 (fun k s => s = nI (sumL (m_L M la) k)) (by omega) rfl ?_ ?_
  · intro f k s hk hs ih
    rw [F_X10_size_4]
    have e := ih (nI (sumL (m_L M la) (k + 1))) rfl
    subst hs
    simp (disch := first | assumption | omega | (simp only [G_sI, G_sL, G_wI, G_wL, wA_G]; assumption)) only [↓x_gN_eq, ↓x_gI_eq, ↓x_gL_eq, ↓x_gO_eq, ↓x_pI_eq, ↓x_pL_eq, ↓x_pR_eq, ↓x_aI_eq, ↓x_aL_eq, ↓x_aO_eq, ↓x_sI_eq, ↓x_sL_eq, ↓x_len_eq, ↓x_cV_eq, ↓x_b_eq, ↓x_nz_eq, ↓x_c_eq, ↓m_let_eq, ↓x_bd_some, ↓reduceIte, mI_sI, mI_sL, mI_sR, mI_wI, mI_wL, mL_sI, mL_sL, mL_sR, mL_wI, mL_wL, mR_sI, mR_sL, mR_sR, mR_wI, mR_wL, mK_sI, mK_sL, mK_sR, mK_wI, mK_wL, mn_sI, mn_sL, mn_sR, mn_wI, mn_wL, mN_sI, mN_sL, mN_sR, mN_wI, mN_wL, wA_I, wA_L, wA_R, wA_K, wA_n, wA_N, wA_s, if_true, if_false, true_and, and_true, and_self, false_and, and_false, ne_eq, not_true_eq_false, not_false_eq_true, reduceCtorEq, Nat.reduceEqDiff, Nat.reduceLT, Nat.reduceLeDiff, ↓no_1, no_nat, nat_no, no_ge, no_le, no_lt, no_gt, no_no, no_dec, Nat.add_sub_cancel, nlit, nI_neg, nI_ge0, i32_rem2, n_rem, i32_div, nI_sub', nI_cl, nI_p, nI_lt0, nI_add, nI_1, nI_leI, nI_ltI, nI_eq, nI_mul, lg_cmp_n, l_xor, Nat.zero_add, Nat.add_zero, t_lt, f_lt, t_le, f_le, t_eq, f_eq, bc64, a1, a2, a3, a4, pc_lb]
    exact e
  · intro f s hs
    rw [F_X10_size_4, hs, if_pos (by decide)]
theorem S_isLike (ha : Ws M a la) (hb : Ws M b lb') {n : Nat} {P Q : Nat → Bool} (hn : n ≤ 1024) (hP : Rw n P (m_L M la)) (hQ : Rw n Q (m_L M lb')) : F_X10_isLike a b M = some (if ∀ w, w < n → P w = Q w then nI 1 else nI 0, M) := by
  obtain ⟨a1, a2, a3, a4⟩ := ha
  obtain ⟨b1, b2, b3, b4⟩ := hb
  unfold F_X10_isLike
  refine up_0 (fun f k s => F_X10_isLike_2 f a b (nI k) M = some (if ∀ w, w < n → P w = Q w then nI 1 else nI 0, M)) 16 (fun k (_ : Unit) => ∀ j, j < k → m_L M la j = m_L M lb' j) (by omega) (s := ()) (fun j hj => absurd hj (by omega)) ?_ ?_
  · intro f k s hk hs ih
    rw [F_X10_isLike_2]
    simp (disch := first | assumption | omega | (simp only [G_sI, G_sL, G_wI, G_wL, wA_G]; assumption)) only [↓x_gN_eq, ↓x_gI_eq, ↓x_gL_eq, ↓x_gO_eq, ↓x_pI_eq, ↓x_pL_eq, ↓x_pR_eq, ↓x_aI_eq, ↓x_aL_eq, ↓x_aO_eq, ↓x_sI_eq, ↓x_sL_eq, ↓x_len_eq, ↓x_cV_eq, ↓x_b_eq, ↓x_nz_eq, ↓x_c_eq, ↓m_let_eq, ↓x_bd_some, ↓reduceIte, mI_sI, mI_sL, mI_sR, mI_wI, mI_wL, mL_sI, mL_sL, mL_sR, mL_wI, mL_wL, mR_sI, mR_sL, mR_sR, mR_wI, mR_wL, mK_sI, mK_sL, mK_sR, mK_wI, mK_wL, mn_sI, mn_sL, mn_sR, mn_wI, mn_wL, mN_sI, mN_sL, mN_sR, mN_wI, mN_wL, wA_I, wA_L, wA_R, wA_K, wA_n, wA_N, wA_s, if_true, if_false, true_and, and_true, and_self, false_and, and_false, ne_eq, not_true_eq_false, not_false_eq_true, reduceCtorEq, Nat.reduceEqDiff, Nat.reduceLT, Nat.reduceLeDiff, ↓no_1, no_nat, nat_no, no_ge, no_le, no_lt, no_gt, no_no, no_dec, Nat.add_sub_cancel, nlit, nI_neg, nI_ge0, i32_rem2, n_rem, i32_div, nI_sub', nI_cl, nI_p, nI_lt0, nI_add, nI_1, nI_leI, nI_ltI, nI_eq, nI_mul, lg_cmp_n, l_xor, Nat.zero_add, Nat.add_zero, t_lt, f_lt, t_le, f_le, t_eq, f_eq, a1, a2, a3, a4, b1, b2, b3, b4]
    by_cases h : m_L M la k = m_L M lb' k
    · rw [if_pos h]
      exact ih () (fun j hj => if e : j = k then by rw [e]; exact h else hs j (by omega))
    · rw [if_neg h, if_neg (fun q => h ((hP.eq hQ hn).mpr q k hk))]
  · intro f s hs
    rw [F_X10_isLike_2, if_pos (by decide), if_pos ((hP.eq hQ hn).mp hs)]
    rfl
/-- the first of the worlds from w on that is in a set, d worlds at most -/
def fsW (P : Nat → Bool) : Nat → Nat → Nat
  | 0, w => w
  | d + 1, w => if P w then w else fsW P d (w + 1)
theorem fsW_is {P : Nat → Bool} : ∀ (d w x : Nat), w ≤ x → x < w + d → P x = true → (∀ y, w ≤ y → y < x → P y = false) → fsW P d w = x := by
  intro d
  induction d with
  | zero => intro w x h1 h2; omega
  | succ d ih =>
    intro w x h1 h2 h3 h4
    show (if P w then w else fsW P d (w + 1)) = x
    by_cases e : w = x
    · subst e; rw [h3]; rfl
    · rw [h4 w (Nat.le_refl _) (by omega)]
      exact ih (w + 1) x (by omega) (by omega) h3 (fun y hy => h4 y (by omega))
theorem low_nat : ∀ (N v : Nat), v ≠ 0 → v < 2 ^ N → ∃ j, j < N ∧ v.testBit j = true ∧ (∀ i, i < j → v.testBit i = false) ∧ (v &&& (2 ^ N - v)) = 2 ^ j := by
  intro N
  induction N with
  | zero => intro v h0 h; simp at h; omega
  | succ N ih =>
    intro v h0 h
    rw [Nat.pow_succ] at h
    rcases Nat.mod_two_eq_zero_or_one v with e | e
    · obtain ⟨j, hj, h1, h2, h3⟩ := ih (v / 2) (by omega) (by omega)
      refine ⟨j + 1, by omega, ?_, ?_, ?_⟩
      · rw [Nat.testBit_succ]; exact h1
      · intro i hi
        cases i with
        | zero => rw [Nat.testBit_zero]; simp [e]
        | succ i => rw [Nat.testBit_succ]; exact h2 i (by omega)
      · have a1 : (v &&& (2 ^ (N + 1) - v)) / 2 = 2 ^ j := by
          have := Nat.and_div_two_pow (a := v) (b := 2 ^ (N + 1) - v) (n := 1)
          rw [Nat.pow_one] at this
          rw [this, show (2 ^ (N + 1) - v) / 2 = 2 ^ N - v / 2 by rw [Nat.pow_succ]; omega, h3]
        have a2 : (v &&& (2 ^ (N + 1) - v)) % 2 = 0 := by
          have := Nat.and_mod_two_pow (a := v) (b := 2 ^ (N + 1) - v) (n := 1)
          rw [Nat.pow_one] at this
          rw [this, e, Nat.zero_and]
        rw [Nat.pow_succ 2 j]
        omega
    · refine ⟨0, by omega, ?_, fun i hi => absurd hi (Nat.not_lt_zero _), ?_⟩
      · rw [Nat.testBit_zero]; simp [e]
      · have a1 : (v &&& (2 ^ (N + 1) - v)) / 2 = 0 := by
          have := Nat.and_div_two_pow (a := v) (b := 2 ^ (N + 1) - v) (n := 1)
          rw [Nat.pow_one] at this
          rw [this, show (2 ^ (N + 1) - v) / 2 = 2 ^ N - (v / 2 + 1) by rw [Nat.pow_succ]; omega]
          apply Nat.eq_of_testBit_eq
          intro i
          rw [Nat.testBit_and, Nat.testBit_two_pow_sub_succ (by omega), Nat.zero_testBit]
          cases (v / 2).testBit i <;> simp
        have a2 : (v &&& (2 ^ (N + 1) - v)) % 2 = 1 := by
          have := Nat.and_mod_two_pow (a := v) (b := 2 ^ (N + 1) - v) (n := 1)
          rw [Nat.pow_one] at this
          rw [this, e, show (2 ^ (N + 1) - v) % 2 = 1 by rw [Nat.pow_succ]; omega]
          rfl
        rw [Nat.pow_zero]
        omega
theorem pc_low : ∀ (N j : Nat), j ≤ N → pc N (2 ^ j - 1) = j := by
  intro N
  induction N with
  | zero => intro j h; have : j = 0 := by omega
            subst this; rfl
  | succ N ih =>
    intro j h
    show (2 ^ j - 1) % 2 + pc N ((2 ^ j - 1) / 2) = j
    cases j with
    | zero =>
      rw [show (2 ^ 0 - 1) % 2 = 0 from rfl, show (2 ^ 0 - 1) / 2 = 2 ^ 0 - 1 from rfl, ih 0 (by omega)]
    | succ j =>
      have : 0 < 2 ^ j := Nat.pow_pos (by omega)
      rw [show (2 ^ (j + 1) - 1) % 2 = 1 by rw [Nat.pow_succ]; omega, show (2 ^ (j + 1) - 1) / 2 = 2 ^ j - 1 by rw [Nat.pow_succ]; omega, ih j (by omega), Nat.add_comm]
theorem low_l (N : Nat) (hN : N = 64) {x : Int64} (h : x ≠ 0) : ∃ j, j < N ∧ lb x j = true ∧ (∀ i, i < j → lb x i = false) ∧ pc N ((x &&& (-x)) - 1).toUInt64.toNat = j := by
  obtain ⟨j, hj, h1, h2, h3⟩ := low_nat N x.toUInt64.toNat (i64_ne h) (by rw [hN]; exact x.toUInt64.toNat_lt)
  refine ⟨j, hj, h1, h2, ?_⟩
  have e1 : (-x).toUInt64.toNat = 2 ^ N - x.toUInt64.toNat := by
    have := x.toUInt64.toNat_lt
    have h0 := i64_ne h
    rw [Int64.toUInt64_neg, UInt64.toNat_neg]
    show (18446744073709551616 - x.toUInt64.toNat) % 18446744073709551616 = 2 ^ N - x.toUInt64.toNat
    rw [hN]
    omega
  have e2 : (x &&& (-x)).toUInt64.toNat = 2 ^ j := by rw [u64_and, e1, h3]
  have e3 : (1 : Int64).toUInt64.toNat = 1 := by decide
  have : 0 < 2 ^ j := Nat.pow_pos (by omega)
  rw [u64_sub _ _ (by rw [e2, e3]; omega), e2, e3, pc_low N j (by omega)]
theorem S_least (ha : Ws M a la) {n : Nat} {P : Nat → Bool} (hn : n ≤ 1024) (hP : Rw n P (m_L M la)) : F_X10_least a M = some (if cnt P n = 0 then NO else nI (fsW P n 0), M) := by
  obtain ⟨a1, a2, a3, a4⟩ := ha
  unfold F_X10_least
  refine m_let_e ?_
  intro K hK
  refine up_0 (fun f k s => F_X10_least_2 K f a (nI k) M = some (if cnt P n = 0 then NO else nI (fsW P n 0), M)) 16 (fun k (_ : Unit) => ∀ j, j < k → m_L M la j = 0) (by omega) (s := ()) (fun j hj => absurd hj (by omega)) ?_ ?_
  · intro f k s hk hs ih
    rw [F_X10_least_2]
    simp (disch := first | assumption | omega | (simp only [G_sI, G_sL, G_wI, G_wL, wA_G]; assumption)) only [↓x_gN_eq, ↓x_gI_eq, ↓x_gL_eq, ↓x_gO_eq, ↓x_pI_eq, ↓x_pL_eq, ↓x_pR_eq, ↓x_aI_eq, ↓x_aL_eq, ↓x_aO_eq, ↓x_sI_eq, ↓x_sL_eq, ↓x_len_eq, ↓x_cV_eq, ↓x_b_eq, ↓x_nz_eq, ↓x_c_eq, ↓m_let_eq, ↓x_bd_some, ↓reduceIte, mI_sI, mI_sL, mI_sR, mI_wI, mI_wL, mL_sI, mL_sL, mL_sR, mL_wI, mL_wL, mR_sI, mR_sL, mR_sR, mR_wI, mR_wL, mK_sI, mK_sL, mK_sR, mK_wI, mK_wL, mn_sI, mn_sL, mn_sR, mn_wI, mn_wL, mN_sI, mN_sL, mN_sR, mN_wI, mN_wL, wA_I, wA_L, wA_R, wA_K, wA_n, wA_N, wA_s, if_true, if_false, true_and, and_true, and_self, false_and, and_false, ne_eq, not_true_eq_false, not_false_eq_true, reduceCtorEq, Nat.reduceEqDiff, Nat.reduceLT, Nat.reduceLeDiff, ↓no_1, no_nat, nat_no, no_ge, no_le, no_lt, no_gt, no_no, no_dec, Nat.add_sub_cancel, nlit, nI_neg, nI_ge0, i32_rem2, n_rem, i32_div, nI_sub', nI_cl, nI_p, nI_lt0, nI_add, nI_1, nI_leI, nI_ltI, nI_eq, nI_mul, lg_cmp_n, l_xor, Nat.zero_add, Nat.add_zero, t_lt, f_lt, t_le, f_le, t_eq, f_eq, a1, a2, a3, a4]
    by_cases h : m_L M la k = 0
    · rw [if_pos h]
      exact ih () (fun j hj => if e : j = k then by rw [e]; exact h else hs j (by omega))
    · rw [if_neg h]
      obtain ⟨j, hj, h1, h2, h3⟩ := low_l 64 rfl h
      rw [hK]
      simp (disch := first | assumption | omega | (simp only [G_sI, G_sL, G_wI, G_wL, wA_G]; assumption)) only [↓x_gN_eq, ↓x_gI_eq, ↓x_gL_eq, ↓x_gO_eq, ↓x_pI_eq, ↓x_pL_eq, ↓x_pR_eq, ↓x_aI_eq, ↓x_aL_eq, ↓x_aO_eq, ↓x_sI_eq, ↓x_sL_eq, ↓x_len_eq, ↓x_cV_eq, ↓x_b_eq, ↓x_nz_eq, ↓x_c_eq, ↓m_let_eq, ↓x_bd_some, ↓reduceIte, mI_sI, mI_sL, mI_sR, mI_wI, mI_wL, mL_sI, mL_sL, mL_sR, mL_wI, mL_wL, mR_sI, mR_sL, mR_sR, mR_wI, mR_wL, mK_sI, mK_sL, mK_sR, mK_wI, mK_wL, mn_sI, mn_sL, mn_sR, mn_wI, mn_wL, mN_sI, mN_sL, mN_sR, mN_wI, mN_wL, wA_I, wA_L, wA_R, wA_K, wA_n, wA_N, wA_s, if_true, if_false, true_and, and_true, and_self, false_and, and_false, ne_eq, not_true_eq_false, not_false_eq_true, reduceCtorEq, Nat.reduceEqDiff, Nat.reduceLT, Nat.reduceLeDiff, ↓no_1, no_nat, nat_no, no_ge, no_le, no_lt, no_gt, no_no, no_dec, Nat.add_sub_cancel, nlit, nI_neg, nI_ge0, i32_rem2, n_rem, i32_div, nI_sub', nI_cl, nI_p, nI_lt0, nI_add, nI_1, nI_leI, nI_ltI, nI_eq, nI_mul, lg_cmp_n, l_xor, Nat.zero_add, Nat.add_zero, t_lt, f_lt, t_le, f_le, t_eq, f_eq, bc64, a1, a2, a3, a4, h3]
      have hb := hP k hk j hj
      rw [h1] at hb
      simp at hb
      have h0 : ¬ cnt P n = 0 := by
        rw [cnt_0]
        intro q
        have := q (64 * k + j) hb.1
        rw [hb.2] at this
        simp at this
      rw [if_neg h0, fsW_is n 0 (64 * k + j) (Nat.zero_le _) (by omega) hb.2 ?_, Nat.mul_comm]
      intro y _ hy
      have hyb := hP (y / 64) (by omega) (y % 64) (by omega)
      rw [Nat.div_add_mod] at hyb
      have : y < n := by omega
      simp [this] at hyb
      rw [← hyb]
      by_cases e : y / 64 = k
      · rw [e]; exact h2 _ (by omega)
      · rw [hs _ (by omega), lb_0]
  · intro f s hs
    rw [F_X10_least_2, if_pos (by decide), if_pos (cnt_0.mpr ((hP.z hn).mp hs))]
    rfl
theorem fsW_le (P : Nat → Bool) : ∀ d w, fsW P d w ≤ w + d := by
  intro d
  induction d with
  | zero => intro w; exact Nat.le_refl _
  | succ d ih =>
    intro w
    show (if P w then w else fsW P d (w + 1)) ≤ _
    split
    · omega
    · have := ih (w + 1); omega
theorem S_isEmpty (ha : Ws M a la) {n : Nat} {P : Nat → Bool} (hn : n ≤ 1024) (hP : Rw n P (m_L M la)) : F_X10_isEmpty a M = some (if cnt P n = 0 then nI 1 else nI 0, M) := by
  have h := S_least ha hn hP
  obtain ⟨a1, a2, a3, a4⟩ := ha
  have hf := fsW_le P n 0
  unfold F_X10_isEmpty
  rw [x_cV_ok a1 h]
  by_cases h0 : cnt P n = 0
  · rw [if_pos h0, if_pos h0]
    simp (disch := first | assumption | omega | (simp only [G_sI, G_sL, G_wI, G_wL, wA_G]; assumption)) only [↓x_gN_eq, ↓x_gI_eq, ↓x_gL_eq, ↓x_gO_eq, ↓x_pI_eq, ↓x_pL_eq, ↓x_pR_eq, ↓x_aI_eq, ↓x_aL_eq, ↓x_aO_eq, ↓x_sI_eq, ↓x_sL_eq, ↓x_len_eq, ↓x_cV_eq, ↓x_b_eq, ↓x_nz_eq, ↓x_c_eq, ↓m_let_eq, ↓x_bd_some, ↓reduceIte, mI_sI, mI_sL, mI_sR, mI_wI, mI_wL, mL_sI, mL_sL, mL_sR, mL_wI, mL_wL, mR_sI, mR_sL, mR_sR, mR_wI, mR_wL, mK_sI, mK_sL, mK_sR, mK_wI, mK_wL, mn_sI, mn_sL, mn_sR, mn_wI, mn_wL, mN_sI, mN_sL, mN_sR, mN_wI, mN_wL, wA_I, wA_L, wA_R, wA_K, wA_n, wA_N, wA_s, if_true, if_false, true_and, and_true, and_self, false_and, and_false, ne_eq, not_true_eq_false, not_false_eq_true, reduceCtorEq, Nat.reduceEqDiff, Nat.reduceLT, Nat.reduceLeDiff, ↓no_1, no_nat, nat_no, no_ge, no_le, no_lt, no_gt, no_no, no_dec, Nat.add_sub_cancel, nlit, nI_neg, nI_ge0, i32_rem2, n_rem, i32_div, nI_sub', nI_cl, nI_p, nI_lt0, nI_add, nI_1, nI_leI, nI_ltI, nI_eq, nI_mul, lg_cmp_n, l_xor, Nat.zero_add, Nat.add_zero, t_lt, f_lt, t_le, f_le, t_eq, f_eq]
  · rw [if_neg h0, if_neg h0]
    simp (disch := first | assumption | omega | (simp only [G_sI, G_sL, G_wI, G_wL, wA_G]; assumption)) only [↓x_gN_eq, ↓x_gI_eq, ↓x_gL_eq, ↓x_gO_eq, ↓x_pI_eq, ↓x_pL_eq, ↓x_pR_eq, ↓x_aI_eq, ↓x_aL_eq, ↓x_aO_eq, ↓x_sI_eq, ↓x_sL_eq, ↓x_len_eq, ↓x_cV_eq, ↓x_b_eq, ↓x_nz_eq, ↓x_c_eq, ↓m_let_eq, ↓x_bd_some, ↓reduceIte, mI_sI, mI_sL, mI_sR, mI_wI, mI_wL, mL_sI, mL_sL, mL_sR, mL_wI, mL_wL, mR_sI, mR_sL, mR_sR, mR_wI, mR_wL, mK_sI, mK_sL, mK_sR, mK_wI, mK_wL, mn_sI, mn_sL, mn_sR, mn_wI, mn_wL, mN_sI, mN_sL, mN_sR, mN_wI, mN_wL, wA_I, wA_L, wA_R, wA_K, wA_n, wA_N, wA_s, if_true, if_false, true_and, and_true, and_self, false_and, and_false, ne_eq, not_true_eq_false, not_false_eq_true, reduceCtorEq, Nat.reduceEqDiff, Nat.reduceLT, Nat.reduceLeDiff, ↓no_1, no_nat, nat_no, no_ge, no_le, no_lt, no_gt, no_no, no_dec, Nat.add_sub_cancel, nlit, nI_neg, nI_ge0, i32_rem2, n_rem, i32_div, nI_sub', nI_cl, nI_p, nI_lt0, nI_add, nI_1, nI_leI, nI_ltI, nI_eq, nI_mul, lg_cmp_n, l_xor, Nat.zero_add, Nat.add_zero, t_lt, f_lt, t_le, f_le, t_eq, f_eq]
theorem S_has (ha : Ws M a la) {n w : Nat} {P : Nat → Bool} (hn : n ≤ 1024) (hP : Rw n P (m_L M la)) (hw : w < n) : F_X10_has a (nI w) M = some (if P w then nI 1 else nI 0, M) := by
  obtain ⟨a1, a2, a3, a4⟩ := ha
  unfold F_X10_has
  have e := lb_shr (m_L M la (w / 64)) (j := w % 64) (by omega)
  rw [hP.at hw hn] at e
  simp (disch := first | assumption | omega | (simp only [G_sI, G_sL, G_wI, G_wL, wA_G]; assumption)) only [↓x_gN_eq, ↓x_gI_eq, ↓x_gL_eq, ↓x_gO_eq, ↓x_pI_eq, ↓x_pL_eq, ↓x_pR_eq, ↓x_aI_eq, ↓x_aL_eq, ↓x_aO_eq, ↓x_sI_eq, ↓x_sL_eq, ↓x_len_eq, ↓x_cV_eq, ↓x_b_eq, ↓x_nz_eq, ↓x_c_eq, ↓m_let_eq, ↓x_bd_some, ↓reduceIte, mI_sI, mI_sL, mI_sR, mI_wI, mI_wL, mL_sI, mL_sL, mL_sR, mL_wI, mL_wL, mR_sI, mR_sL, mR_sR, mR_wI, mR_wL, mK_sI, mK_sL, mK_sR, mK_wI, mK_wL, mn_sI, mn_sL, mn_sR, mn_wI, mn_wL, mN_sI, mN_sL, mN_sR, mN_wI, mN_wL, wA_I, wA_L, wA_R, wA_K, wA_n, wA_N, wA_s, if_true, if_false, true_and, and_true, and_self, false_and, and_false, ne_eq, not_true_eq_false, not_false_eq_true, reduceCtorEq, Nat.reduceEqDiff, Nat.reduceLT, Nat.reduceLeDiff, ↓no_1, no_nat, nat_no, no_ge, no_le, no_lt, no_gt, no_no, no_dec, Nat.add_sub_cancel, nlit, nI_neg, nI_ge0, i32_rem2, n_rem, i32_div, nI_sub', nI_cl, nI_p, nI_lt0, nI_add, nI_1, nI_leI, nI_ltI, nI_eq, nI_mul, lg_cmp_n, l_xor, Nat.zero_add, Nat.add_zero, t_lt, f_lt, t_le, f_le, t_eq, f_eq, a1, a2, a3, a4, e]
  cases P w <;> simp
/-! the model's rows -/
end SETS
