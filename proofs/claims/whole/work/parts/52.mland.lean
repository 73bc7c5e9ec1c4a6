/-! the model's land -/
theorem no_p : nI 0 - (1 : Int32) = NO := by decide
section MLAND
variable {M : m_M} {A : IA} {l : Ld}
theorem S_shows_l (h : G M) {p : Nat} (hp : 2 ≤ p) (hp4 : p ≤ 4) : ∀ (k f w : Nat) (A : IA), k ≤ 5 → k < f → w < 2147483648 → A 130 0 = nI p → ∃ B, F_X12_shows_11 f 128 (nI w) (nI k - (1 : Int32)) (m_wA M A) = some ((), m_wA M B) ∧ (∀ a, a ≠ 154 → B a = A a) ∧ (∀ t, k ≤ t → B 154 t = A 154 t) ∧ ∀ t, t < k → B 154 t = nI (w / p ^ (k - 1 - t) % p) := by
  intro k
  induction k with
  | zero =>
    intro f w A hk hf hw hA
    obtain ⟨f, rfl⟩ : ∃ f', f = f' + 1 := ⟨f - 1, by omega⟩
    refine ⟨A, ?_, fun a _ => rfl, fun t _ => rfl, fun t ht => absurd ht (by omega)⟩
    rw [F_X12_shows_11, no_p, if_pos (by decide)]
  | succ k ih =>
    intro f w A hk hf hw hA
    obtain ⟨f, rfl⟩ : ∃ f', f = f' + 1 := ⟨f - 1, by omega⟩
    have hd : w / p < 2147483648 := Nat.lt_of_le_of_lt (Nat.div_le_self _ _) hw
    obtain ⟨B, hB, hB1, hB2, hB3⟩ := ih f (w / p) (m_up A 154 k (nI (w % p))) (by omega) (by omega) hd (by rw [up_at, if_neg (by omega)]; exact hA)
    refine ⟨B, ?_, ?_, ?_, ?_⟩
    · rw [F_X12_shows_11, nI_pred]
      have hne : (nI p = nI 0) = False := eq_false (fun q => by rw [nI_eq (by omega) (by omega)] at q; omega)
      have e2 : nI k + NO = nI k - (1 : Int32) := by
        rw [Int32.sub_eq_add_neg]; rfl
      rw [← e2] at hB
      simp (disch := first | assumption | omega | (simp only [G_sI, G_sL, G_wI, G_wL, wA_G]; assumption)) only [↓gN, ↓x_gI_eq, ↓x_gL_eq, ↓x_gO_eq, ↓x_pI_eq, ↓x_pL_eq, ↓x_pR_eq, ↓x_aI_eq, ↓x_aL_eq, ↓x_aO_eq, ↓x_sI_eq, ↓x_sL_eq, ↓x_len_eq, ↓x_cV_eq, ↓x_b_eq, ↓x_nz_eq, ↓x_c_eq, ↓m_let_eq, ↓x_bd_some, ↓reduceIte, gK, gl, gR, mI_sI, mI_sL, mI_sR, mI_wI, mI_wL, mL_sI, mL_sL, mL_sR, mL_wI, mL_wL, mR_sI, mR_sL, mR_sR, mR_wI, mR_wL, mK_sI, mK_sL, mK_sR, mK_wI, mK_wL, mn_sI, mn_sL, mn_sR, mn_wI, mn_wL, mN_sI, mN_sL, mN_sR, mN_wI, mN_wL, wA_I, wA_L, wA_R, wA_K, wA_n, wA_N, wA_s, if_true, if_false, true_and, and_true, and_self, false_and, and_false, ne_eq, not_true_eq_false, not_false_eq_true, reduceCtorEq, Nat.reduceEqDiff, Nat.reduceLT, Nat.reduceLeDiff, ↓no_1, no_nat, nat_no, no_ge, no_le, no_lt, no_gt, no_no, no_dec, Nat.add_sub_cancel, nlit, nI_neg, nI_ge0, i32_rem2, n_rem, i32_div, nI_sub', nI_cl, nI_p, nI_lt0, nI_add, nI_1, nI_leI, nI_ltI, nI_eq, nI_mul, lg_cmp_n, l_xor, Nat.zero_add, Nat.add_zero, t_lt, f_lt, t_le, f_le, t_eq, f_eq, hA, hne, up_at]
      exact hB
    · intro a ha
      rw [hB1 a ha]
      funext j
      rw [up_at, if_neg (by omega)]
    · intro t ht
      rw [hB2 t (by omega), up_at, if_neg (by omega)]
    · intro t ht
      by_cases e : t = k
      · subst e
        rw [hB2 t (Nat.le_refl _), up_at, if_pos ⟨rfl, rfl⟩, show t + 1 - 1 - t = 0 by omega, Nat.pow_zero, Nat.div_one]
      · rw [hB3 t (by omega), Nat.div_div_eq_div_mul, ← Nat.pow_succ', show (k - 1 - t).succ = k + 1 - 1 - t by omega]
/-- where all things are in a world -/
def Wh (l : Ld) (w : Nat) (A : IA) : Prop := ∀ t, t < lH l 1 → A 154 t = nI (whr l w t)
theorem S_shows (h : G M) (hl : LMi l A) (ho : lOk l) {w : Nat} (hw : w < 2147483648) : ∃ B, F_X12_shows 128 (nI w) (m_wA M A) = some ((), m_wA M B) ∧ (∀ a, a ≠ 154 → B a = A a) ∧ Wh l w B := by
  obtain ⟨B, h1, h2, h3, h4⟩ := S_shows_l h ho.1.1 ho.1.2 (lH l 1) m_FU w A ho.2.1 (m_FU_lt (by have := ho.2.1; omega)) hw (hl.1 0 (by omega))
  refine ⟨B, ?_, h2, fun t ht => h4 t ht⟩
  unfold F_X12_shows
  simp (disch := first | assumption | omega | (simp only [G_sI, G_sL, G_wI, G_wL, wA_G]; assumption)) only [↓gN, ↓x_gI_eq, ↓x_gL_eq, ↓x_gO_eq, ↓x_pI_eq, ↓x_pL_eq, ↓x_pR_eq, ↓x_aI_eq, ↓x_aL_eq, ↓x_aO_eq, ↓x_sI_eq, ↓x_sL_eq, ↓x_len_eq, ↓x_cV_eq, ↓x_b_eq, ↓x_nz_eq, ↓x_c_eq, ↓m_let_eq, ↓x_bd_some, ↓reduceIte, gK, gl, gR, mI_sI, mI_sL, mI_sR, mI_wI, mI_wL, mL_sI, mL_sL, mL_sR, mL_wI, mL_wL, mR_sI, mR_sL, mR_sR, mR_wI, mR_wL, mK_sI, mK_sL, mK_sR, mK_wI, mK_wL, mn_sI, mn_sL, mn_sR, mn_wI, mn_wL, mN_sI, mN_sL, mN_sR, mN_wI, mN_wL, wA_I, wA_L, wA_R, wA_K, wA_n, wA_N, wA_s, if_true, if_false, true_and, and_true, and_self, false_and, and_false, ne_eq, not_true_eq_false, not_false_eq_true, reduceCtorEq, Nat.reduceEqDiff, Nat.reduceLT, Nat.reduceLeDiff, ↓no_1, no_nat, nat_no, no_ge, no_le, no_lt, no_gt, no_no, no_dec, Nat.add_sub_cancel, nlit, nI_neg, nI_ge0, i32_rem2, n_rem, i32_div, nI_sub', nI_cl, nI_p, nI_lt0, nI_add, nI_1, nI_leI, nI_ltI, nI_eq, nI_mul, lg_cmp_n, l_xor, Nat.zero_add, Nat.add_zero, t_lt, f_lt, t_le, f_le, t_eq, f_eq, hl.1 1 (by omega)]
  exact h1
/-- a law of the model's at work -/
theorem S_law (h : G M) (hl : LMi l A) {line : Nat} (hk : lnOk l line) (h9 : line < 18) : ∃ B, F_X12_worked 128 (nI line) (m_wA M A) = some (lE l line (A 152), m_wA M B) ∧ ∀ a, (a < 143 ∨ 151 < a) → B a = A a := by
  obtain ⟨c, a, e, h1, h2, h3, h4, h5, h6⟩ := hl.2.2.2.2.1 line hk
  obtain ⟨h7, h8⟩ := h6 A
  refine ⟨teA (evR c (e - a) a (0, opA A 0)).2 0, ?_, ?_⟩
  · rw [S_worked h h9 h3 h4 h1 (by omega) h5 h7, h8]
  · intro b hb
    rw [teA_fr hb, evR_fr c hb]
    exact opA_fr hb
theorem bnd_lt (ho : lOk l) (j a t : Nat) : bnd l j a t < lH l 0 := fmI_lt _ (by have := ho.1.1; omega)
theorem S_bent (h : G M) (hl : LMi l A) (ho : lOk l) {j a t : Nat} (hj : j < lH l 2) (ht : t < lH l 1) (ha : a < 4) : ∃ B, F_X12_bent 128 (nI j) (nI a) (nI t) (m_wA M A) = some (nI (bnd l j a t), m_wA M B) ∧ ∀ b, (b < 143 ∨ 152 < b) → B b = A b := by
  have b1 := ho.2.1
  have b2 := ho.2.2.1
  have b3 := ho.1
  have hw := hl.2.1 t ht
  have hA1 : ∀ b, b < 141 → (m_up (m_up A 152 6 (nI a)) 152 7 (nI (lW l t))) b = A b := fun b hb => by rw [up_fr (by omega), up_fr (by omega)]
  obtain ⟨B, hB, hBf⟩ := S_law h (hl.sc hA1) (line := j) (.inl hj) (by omega)
  refine ⟨B, ?_, fun b hb => by rw [hBf b (by omega), up_fr (by omega), up_fr (by omega)]⟩
  have hE : lE l j (m_up (m_up A 152 6 (nI a)) 152 7 (nI (lW l t)) 152) = lE l j (fB a (lW l t)) := by
    refine ho.2.2.2.2.2.2.2.2.2.2.1 j (by omega) _ _ ?_ ?_
    · rw [up_at, if_neg (by omega), up_at, if_pos ⟨rfl, rfl⟩]; rfl
    · rw [up_at, if_pos ⟨rfl, rfl⟩]; rfl
  rw [hE] at hB
  have hne : (nI (lH l 0) = nI 0) = False := eq_false (fun q => by rw [nI_eq (by omega) (by omega)] at q; omega)
  unfold F_X12_bent
  simp (disch := first | assumption | omega | (simp only [G_sI, G_sL, G_wI, G_wL, wA_G]; assumption)) only [↓gN, ↓x_gI_eq, ↓x_gL_eq, ↓x_gO_eq, ↓x_pI_eq, ↓x_pL_eq, ↓x_pR_eq, ↓x_aI_eq, ↓x_aL_eq, ↓x_aO_eq, ↓x_sI_eq, ↓x_sL_eq, ↓x_len_eq, ↓x_cV_eq, ↓x_b_eq, ↓x_nz_eq, ↓x_c_eq, ↓m_let_eq, ↓x_bd_some, ↓reduceIte, gK, gl, gR, mI_sI, mI_sL, mI_sR, mI_wI, mI_wL, mL_sI, mL_sL, mL_sR, mL_wI, mL_wL, mR_sI, mR_sL, mR_sR, mR_wI, mR_wL, mK_sI, mK_sL, mK_sR, mK_wI, mK_wL, mn_sI, mn_sL, mn_sR, mn_wI, mn_wL, mN_sI, mN_sL, mN_sR, mN_wI, mN_wL, wA_I, wA_L, wA_R, wA_K, wA_n, wA_N, wA_s, if_true, if_false, true_and, and_true, and_self, false_and, and_false, ne_eq, not_true_eq_false, not_false_eq_true, reduceCtorEq, Nat.reduceEqDiff, Nat.reduceLT, Nat.reduceLeDiff, ↓no_1, no_nat, nat_no, no_ge, no_le, no_lt, no_gt, no_no, no_dec, Nat.add_sub_cancel, nlit, nI_neg, nI_ge0, i32_rem2, n_rem, i32_div, nI_sub', nI_cl, nI_p, nI_lt0, nI_add, nI_1, nI_leI, nI_ltI, nI_eq, nI_mul, lg_cmp_n, l_xor, Nat.zero_add, Nat.add_zero, t_lt, f_lt, t_le, f_le, t_eq, f_eq, hw, up_at, hl.1 0 (by omega), hB, hne]
  rw [fm_model (by omega) (by omega)]
  rfl
theorem npl_lt (ho : lOk l) {m a : Nat} (ha : a < lH l 0) : npl l m a < lH l 0 := by
  unfold npl
  dsimp only
  split
  · split
    · exact ha
    · exact bnd_lt ho _ _ _
  · exact bnd_lt ho _ _ _
theorem whr_lt (ho : lOk l) (w t : Nat) : whr l w t < lH l 0 := Nat.mod_lt _ (by have := ho.1.1; omega)
theorem S_placeOf (h : G M) (hl : LMi l A) (ho : lOk l) {m w : Nat} (hm : nOk l m) (hw : Wh l w A) : ∃ B, F_X12_placeOf 128 (nI m) (m_wA M A) = some (nI (npl l m (whr l w (m % 8))), m_wA M B) ∧ ∀ b, (b < 143 ∨ 152 < b) → B b = A b := by
  obtain ⟨m1, m2, m3⟩ := hm
  have b1 := ho.2.1
  have b2 := ho.2.2.1
  have b3 := ho.1
  have hat := whr_lt ho w (m % 8)
  have hI := hw (m % 8) m1
  have hm7 : m < 128 := by omega
  unfold F_X12_placeOf
  refine m_let_P (fun o => ∃ B, o = some (nI (npl l m (whr l w (m % 8))), m_wA M B) ∧ ∀ b, (b < 143 ∨ 152 < b) → B b = A b) ?_
  intro k42 h42
  have hk42 : ∀ (a1 : Nat) (A1 : IA), a1 < 4 → (∀ b, (b < 143 ∨ 152 < b) → A1 b = A b) → ∃ B, k42 128 (nI (m % 8)) (nI a1) (nI (m / 32)) (m_wA M A1) = some (nI (if m / 32 = 0 then a1 else bnd l (m / 32 - 1) a1 (m % 8)), m_wA M B) ∧ ∀ b, (b < 143 ∨ 152 < b) → B b = A b := by
    intro a1 A1 ha1 hA1
    rw [h42]
    by_cases h0 : m / 32 = 0
    · refine ⟨A1, ?_, hA1⟩
      simp (disch := first | assumption | omega | (simp only [G_sI, G_sL, G_wI, G_wL, wA_G]; assumption)) only [↓gN, ↓x_gI_eq, ↓x_gL_eq, ↓x_gO_eq, ↓x_pI_eq, ↓x_pL_eq, ↓x_pR_eq, ↓x_aI_eq, ↓x_aL_eq, ↓x_aO_eq, ↓x_sI_eq, ↓x_sL_eq, ↓x_len_eq, ↓x_cV_eq, ↓x_b_eq, ↓x_nz_eq, ↓x_c_eq, ↓m_let_eq, ↓x_bd_some, ↓reduceIte, gK, gl, gR, mI_sI, mI_sL, mI_sR, mI_wI, mI_wL, mL_sI, mL_sL, mL_sR, mL_wI, mL_wL, mR_sI, mR_sL, mR_sR, mR_wI, mR_wL, mK_sI, mK_sL, mK_sR, mK_wI, mK_wL, mn_sI, mn_sL, mn_sR, mn_wI, mn_wL, mN_sI, mN_sL, mN_sR, mN_wI, mN_wL, wA_I, wA_L, wA_R, wA_K, wA_n, wA_N, wA_s, if_true, if_false, true_and, and_true, and_self, false_and, and_false, ne_eq, not_true_eq_false, not_false_eq_true, reduceCtorEq, Nat.reduceEqDiff, Nat.reduceLT, Nat.reduceLeDiff, ↓no_1, no_nat, nat_no, no_ge, no_le, no_lt, no_gt, no_no, no_dec, Nat.add_sub_cancel, nlit, nI_neg, nI_ge0, i32_rem2, n_rem, i32_div, nI_sub', nI_cl, nI_p, nI_lt0, nI_add, nI_1, nI_leI, nI_ltI, nI_eq, nI_mul, lg_cmp_n, l_xor, Nat.zero_add, Nat.add_zero, t_lt, f_lt, t_le, f_le, t_eq, f_eq, h0]
    · obtain ⟨B, hB, hBf⟩ := S_bent h (hl.sc (fun b hb => hA1 b (by omega))) ho (j := m / 32 - 1) (a := a1) (t := m % 8) (by omega) m1 ha1
      refine ⟨B, ?_, fun b hb => by rw [hBf b hb, hA1 b hb]⟩
      simp (disch := first | assumption | omega | (simp only [G_sI, G_sL, G_wI, G_wL, wA_G]; assumption)) only [↓gN, ↓x_gI_eq, ↓x_gL_eq, ↓x_gO_eq, ↓x_pI_eq, ↓x_pL_eq, ↓x_pR_eq, ↓x_aI_eq, ↓x_aL_eq, ↓x_aO_eq, ↓x_sI_eq, ↓x_sL_eq, ↓x_len_eq, ↓x_cV_eq, ↓x_b_eq, ↓x_nz_eq, ↓x_c_eq, ↓m_let_eq, ↓x_bd_some, ↓reduceIte, gK, gl, gR, mI_sI, mI_sL, mI_sR, mI_wI, mI_wL, mL_sI, mL_sL, mL_sR, mL_wI, mL_wL, mR_sI, mR_sL, mR_sR, mR_wI, mR_wL, mK_sI, mK_sL, mK_sR, mK_wI, mK_wL, mn_sI, mn_sL, mn_sR, mn_wI, mn_wL, mN_sI, mN_sL, mN_sR, mN_wI, mN_wL, wA_I, wA_L, wA_R, wA_K, wA_n, wA_N, wA_s, if_true, if_false, true_and, and_true, and_self, false_and, and_false, ne_eq, not_true_eq_false, not_false_eq_true, reduceCtorEq, Nat.reduceEqDiff, Nat.reduceLT, Nat.reduceLeDiff, ↓no_1, no_nat, nat_no, no_ge, no_le, no_lt, no_gt, no_no, no_dec, Nat.add_sub_cancel, nlit, nI_neg, nI_ge0, i32_rem2, n_rem, i32_div, nI_sub', nI_cl, nI_p, nI_lt0, nI_add, nI_1, nI_leI, nI_ltI, nI_eq, nI_mul, lg_cmp_n, l_xor, Nat.zero_add, Nat.add_zero, t_lt, f_lt, t_le, f_le, t_eq, f_eq, hB]
  clear h42
  have e1 : nI m - nI m / (8 : Int32) * (8 : Int32) = nI (m % 8) := i32_rem (b := 8) (by omega) (by omega)
  have e2 : nI m / (8 : Int32) = nI (m / 8) := i32_div (b := 8) (by omega) (by omega)
  have e3 : nI (m / 8) - nI (m / 8) / (4 : Int32) * (4 : Int32) = nI (m / 8 % 4) := i32_rem (b := 4) (by omega) (by omega)
  have e4 : nI m / (32 : Int32) = nI (m / 32) := i32_div (b := 32) (by omega) (by omega)
  rw [e1, e2, e3, e4]
  unfold npl
  dsimp only
  rw [x_nz_eq, if_neg (by decide), m_let_eq, x_gN_ok (r := 154) (by simp only [wA_K, gK h]) (by simp only [wA_R, gR h]), x_aI_ok (by simp only [wA_K, gK h]) (by simp only [wA_n, gl h]; omega) (by omega), x_nz_eq, if_neg (by decide), x_nz_eq, if_neg (by decide), m_let_eq, x_nz_eq, if_neg (by decide), m_let_eq, wA_I, hI]
  by_cases h0 : m / 8 % 4 = 0
  · rw [if_pos h0, h0, if_pos (by decide)]
    exact hk42 (whr l w (m % 8)) A (by omega) (fun b _ => rfl)
  · rw [if_neg h0]
    obtain ⟨B1, hB1, hBf1⟩ := S_bent h hl ho (j := m / 8 % 4 - 1) (a := whr l w (m % 8)) (t := m % 8) (by omega) m1 (by omega)
    have hlt := bnd_lt ho (m / 8 % 4 - 1) (whr l w (m % 8)) (m % 8)
    rw [if_neg (nI_nle (by omega) (by omega)), show nI (m / 8 % 4) - (1 : Int32) = nI (m / 8 % 4 - 1) from nI_sub' (b := 1) (by omega), x_cV_ok (by simp only [wA_K, gK h]) hB1]
    exact hk42 (bnd l (m / 8 % 4 - 1) (whr l w (m % 8)) (m % 8)) B1 (by omega) hBf1
def bI (b : Bool) : Int32 := if b then nI 1 else nI 0
theorem bI_no {p : Prop} [Decidable p] : (if p then some ((0 : Int32), M) else some ((1 : Int32), M)) = some (bI (decide (¬ p)), M) := by
  by_cases q : p
  · rw [if_pos q]; simp [bI, q]; rfl
  · rw [if_neg q]; simp [bI, q]; rfl
def vIn (l : Ld) (v : Option Nat) : Prop := ∀ k, v = some k → k < lH l 3
theorem S_holdsBy (h : G M) (hl : LMi l A) (ho : lOk l) {m1 m2 w : Nat} {v : Option Nat} (hv : vIn l v) (h1 : nOk l m1) (h2 : nOk l m2) (hw : Wh l w A) : ∃ B, F_X12_holdsBy 128 (iO v) (nI m1) (nI m2) (m_wA M A) = some (bI (hby l v m1 m2 w), m_wA M B) ∧ ∀ b, (b < 143 ∨ 152 < b) → B b = A b := by
  have b1 := ho.2.1
  have b2 := ho.2.2.1
  have b3 := ho.1
  have b4 := ho.2.2.2.1
  have hm1 : m1 < 128 := by have := h1.2.1; have := h1.2.2; omega
  have hm2 : m2 < 128 := by have := h2.2.1; have := h2.2.2; omega
  unfold F_X12_holdsBy
  cases v with
  | none =>
    refine ⟨A, ?_, fun b _ => rfl⟩
    rw [if_neg (by decide)]
    rfl
  | some v =>
    have hv3 := hv v rfl
    show ∃ B, (if 0 ≤ nI v then _ else _) = _ ∧ _
    rw [if_pos (nI_pos' (by omega))]
    refine m_let_P (fun o => ∃ B, o = some (bI (hby l (some v) m1 m2 w), m_wA M B) ∧ ∀ b, (b < 143 ∨ 152 < b) → B b = A b) ?_
    intro k87 h87
    obtain ⟨B1, hB1, hf1⟩ := S_placeOf h hl ho h1 hw
    have hw1 : Wh l w B1 := fun t ht => by rw [hf1 154 (by omega)]; exact hw t ht
    obtain ⟨B2, hB2, hf2⟩ := S_placeOf h (hl.sc (fun b hb => hf1 b (by omega))) ho h2 hw1
    have hq1 := hl.2.1 (m1 % 8) h1.1
    have hq2 := hl.2.1 (m2 % 8) h2.1
    have e1 : nI m1 - nI m1 / (8 : Int32) * (8 : Int32) = nI (m1 % 8) := i32_rem (b := 8) (by omega) (by omega)
    have e2 : nI m2 - nI m2 / (8 : Int32) * (8 : Int32) = nI (m2 % 8) := i32_rem (b := 8) (by omega) (by omega)
    have K0 : ∀ B, m_K (m_wA M B) 128 = 10 := fun B => by simp only [wA_K, gK h]
    have K1 : ∀ B, m_K (m_wA M B) 152 = 12 := fun B => by simp only [wA_K, gK h]
    have K2 : ∀ B, m_K (m_wA M B) 135 = 12 := fun B => by simp only [wA_K, gK h]
    have R1 : ∀ B, m_R (m_wA M B) 128 36 = some 152 := fun B => by simp only [wA_R, gR h]
    have R2 : ∀ B, m_R (m_wA M B) 128 15 = some 135 := fun B => by simp only [wA_R, gR h]
    have L1 : ∀ B, m_len (m_wA M B) 152 = 20 := fun B => by simp only [wA_n, gl h]
    have L2 : ∀ B, m_len (m_wA M B) 135 = 10 := fun B => by simp only [wA_n, gl h]
    have sI : ∀ (B : IA) (j : Nat) (x : Int32) (f : m_M → Option (Int32 × m_M)), j < 20 → x_sI 12 (m_wA M B) 152 (nI j) x f = f (m_wA M (m_up B 152 j x)) := fun B j x f hj => by rw [x_sI_ok (K1 B) (by rw [L1]; exact hj) (by omega)]; rfl
    rw [x_cV_ok (K0 _) hB1, x_cV_ok (K0 _) hB2, x_gN_ok (K0 _) (R1 _), show (1 : Int32) = nI 1 from rfl, sI _ _ _ _ (by omega), x_gN_ok (K0 _) (R1 _), show (2 : Int32) = nI 2 from rfl, sI _ _ _ _ (by omega), x_gN_ok (K0 _) (R1 _), x_gN_ok (K0 _) (R2 _), x_nz_eq, if_neg (by decide), e1, x_aI_ok (K2 _) (by rw [L2]; omega) (by omega), show (3 : Int32) = nI 3 from rfl, sI _ _ _ _ (by omega), x_gN_ok (K0 _) (R1 _), x_gN_ok (K0 _) (R2 _), x_nz_eq, if_neg (by decide), e2, x_aI_ok (K2 _) (by rw [L2]; omega) (by omega), show (4 : Int32) = nI 4 from rfl, sI _ _ _ _ (by omega), x_gN_ok (K0 _) (R1 _), x_nz_eq, if_neg (by decide), x_nz_eq, if_neg (by decide)]
    have i1 : ∀ (x y : Int32), m_I (m_wA M (m_up (m_up B2 152 1 x) 152 2 y)) 135 (m1 % 8) = nI (lW l (m1 % 8)) := fun x y => by
      rw [wA_I, up_fr (by omega), up_fr (by omega), hf2 135 (by omega), hf1 135 (by omega)]; exact hq1
    have i2 : ∀ (x y z : Int32), m_I (m_wA M (m_up (m_up (m_up B2 152 1 x) 152 2 y) 152 3 z)) 135 (m2 % 8) = nI (lW l (m2 % 8)) := fun x y z => by
      rw [wA_I, up_fr (by omega), up_fr (by omega), up_fr (by omega), hf2 135 (by omega), hf1 135 (by omega)]; exact hq2
    rw [i1, i2]
    have hk : ∀ (al : Bool), al = decide (m1 % 8 = m2 % 8) → ∃ B, k87 128 (nI v) 152 (nI 5) (bI al) (m_wA M (m_up (m_up (m_up (m_up B2 152 1 (nI (npl l m1 (whr l w (m1 % 8))))) 152 2 (nI (npl l m2 (whr l w (m2 % 8))))) 152 3 (nI (lW l (m1 % 8)))) 152 4 (nI (lW l (m2 % 8))))) = some (bI (hby l (some v) m1 m2 w), m_wA M B) ∧ ∀ b, (b < 143 ∨ 152 < b) → B b = A b := by
      intro al hal
      rw [h87]
      dsimp only
      rw [sI _ _ _ _ (by omega), show (3 : Int32) + nI v = nI (3 + v) from nI_add 3 v]
      generalize hC : m_up (m_up (m_up (m_up (m_up B2 152 1 (nI (npl l m1 (whr l w (m1 % 8))))) 152 2 (nI (npl l m2 (whr l w (m2 % 8))))) 152 3 (nI (lW l (m1 % 8)))) 152 4 (nI (lW l (m2 % 8)))) 152 5 (bI al) = C
      have hCf : ∀ b, (b < 143 ∨ 152 < b) → C b = A b := fun b hb => by
        rw [← hC, up_fr (by omega), up_fr (by omega), up_fr (by omega), up_fr (by omega), up_fr (by omega), hf2 b hb, hf1 b hb]
      obtain ⟨B, hB, hBf⟩ := S_law h (hl.sc (fun b hb => hCf b (by omega))) (line := 3 + v) (.inr ⟨by omega, by omega⟩) (by omega)
      refine ⟨B, ?_, fun b hb => by rw [hBf b (by omega), hCf b hb]⟩
      have hE : lE l (3 + v) (C 152) = lE l (3 + v) (fV (npl l m1 (whr l w (m1 % 8))) (npl l m2 (whr l w (m2 % 8))) (lW l (m1 % 8)) (lW l (m2 % 8)) (decide (m1 % 8 = m2 % 8))) := by
        refine ho.2.2.2.2.2.2.2.2.2.2.2 (3 + v) (by omega) _ _ ?_
        intro k hk1 hk2
        rw [← hC, hal]
        obtain rfl | rfl | rfl | rfl | rfl : k = 1 ∨ k = 2 ∨ k = 3 ∨ k = 4 ∨ k = 5 := by omega
        all_goals rfl
      rw [x_cV_ok (K0 _) hB, hE]
      exact bI_no
    by_cases q : m1 % 8 = m2 % 8
    · rw [if_pos (by rw [q])]
      exact hk true (by rw [decide_eq_true q])
    · rw [if_neg (fun p => q ((nI_eq (by omega) (by omega)).mp p))]
      exact hk false (by rw [decide_eq_false q])
end MLAND
