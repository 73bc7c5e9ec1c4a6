/-! tables of two things' places, and the worlds of a table -/
def vrbO (l : Ld) (v : Option Nat) (f s a b : Nat) : Bool := match v with
  | none => false
  | some v => vrb l v f s a b
def tbl (l : Ld) (v : Option Nat) (m1 m2 k : Nat) : Bool := decide (k / 4 < lH l 0) && (decide (k % 4 < lH l 0) && vrbO l v (m1 % 8) (m2 % 8) (npl l m1 (k / 4)) (npl l m2 (k % 4)))
theorem wN_le {l : Ld} (ho : lOk l) : wN l ≤ 1024 := by
  unfold wN
  have h1 : lH l 0 ^ lH l 1 ≤ 4 ^ lH l 1 := Nat.pow_le_pow_left ho.1.2 _
  have h2 : 4 ^ lH l 1 ≤ 4 ^ 5 := Nat.pow_le_pow_right (by omega) ho.2.1
  exact Nat.le_trans h1 h2
theorem wN_pos {l : Ld} (ho : lOk l) : 0 < wN l := Nat.pow_pos (by have := ho.1.1; omega)
theorem hby_tbl {l : Ld} (ho : lOk l) (v : Option Nat) (m1 m2 w : Nat) : hby l v m1 m2 w = tbl l v m1 m2 (4 * whr l w (m1 % 8) + whr l w (m2 % 8)) := by
  have b3 := ho.1
  have w1 := whr_lt ho w (m1 % 8)
  have w2 := whr_lt ho w (m2 % 8)
  unfold tbl
  rw [show (4 * whr l w (m1 % 8) + whr l w (m2 % 8)) / 4 = whr l w (m1 % 8) by omega, show (4 * whr l w (m1 % 8) + whr l w (m2 % 8)) % 4 = whr l w (m2 % 8) by omega, decide_eq_true w1, decide_eq_true w2]
  cases v <;> rfl
def LCs (l : Ld) (Lg : Nat → Int64) : Prop := ∀ t a, t < lH l 1 → a < lH l 0 → Rw (wN l) (fun w => decide (whr l w t = a)) (fun i => Lg ((t * 4 + a) * 16 + i))
theorem tb_div (T k : Nat) : T.testBit k = decide (T / 2 ^ k % 2 = 1) := Nat.testBit_eq_decide_div_mod_eq
section TABLE
variable {M : m_M} {l : Ld}
theorem S_table_in (h : G M) (hp : m_I M 2 0 = nI (lH l 0)) (ho : lOk l) {m2 x1 x2 L a row : Nat} {g : Nat → Bool} (hx2 : isN l m2 x2) (ha : a < lH l 0) (hrow : row < 65536) (hg : ∀ b, b < lH l 0 → row / 2 ^ (npl l m2 b) % 2 = if g b then 1 else 0) {K : Nat → Int32 → Int32 → Int32 → Int32 → Int32 → m_M → Option (Int32 × m_M)} : ∀ (d b T f : Nat), b + d = lH l 0 → d < f → T < 65536 →
    ∃ T', F_X3_tableOf_40 K f 2 (nI x1) (nI x2) (nI L) (nI T) (nI a) (nI row) (nI b) M = K 2 (nI x1) (nI x2) (nI L) (nI T') (nI a) M ∧ T' < 65536 ∧ ∀ k, T'.testBit k = (T.testBit k || (decide (k / 4 = a ∧ b ≤ k % 4 ∧ k % 4 < lH l 0) && g (k % 4))) := by
  have b3 := ho.1
  have K2 : m_K M 2 = 3 := by simp only [gK h]
  intro d
  induction d with
  | zero =>
    intro b T f hb hf hT
    obtain ⟨f, rfl⟩ : ∃ f', f = f' + 1 := ⟨f - 1, by omega⟩
    refine ⟨T, ?_, hT, fun k => ?_⟩
    · rw [F_X3_tableOf_40, x_gI_ok K2, hp, if_pos (nI_le (by omega) (by omega))]
    · rw [decide_eq_false (by omega)]; simp
  | succ d ih =>
    intro b T f hb hf hT
    obtain ⟨f, rfl⟩ : ∃ f', f = f' + 1 := ⟨f - 1, by omega⟩
    have hn := npl_lt ho (m := m2) (a := b) (by omega)
    have hv : (if g b then 1 else 0) * 2 ^ (a * 4 + b) < 65536 := by
      have h1 : (2 : Nat) ^ (a * 4 + b) ≤ 2 ^ 15 := Nat.pow_le_pow_right (by omega) (by omega)
      split <;> omega
    obtain ⟨T', e, hT', hk⟩ := ih (b + 1) (T ||| (if g b then 1 else 0) * 2 ^ (a * 4 + b)) f (by omega) (by omega) (Nat.or_lt_two_pow (n := 16) hT hv)
    refine ⟨T', ?_, hT', fun k => ?_⟩
    · rw [F_X3_tableOf_40, x_gI_ok K2, hp, if_neg (nI_ge (by omega) (by omega)), x_bd_ok (S_placeOfC ho hx2 (a := b) (by omega)), m_let_eq, m_let_eq, nI_shr (by omega) (by omega), show (1 : Int32) = nI 1 from rfl, nI_m1, hg b (by omega), show (4 : Int32) = nI 4 from rfl, nI_mul, nI_add, nI_shl (by omega), nI_or, nI_add, e]
    · rw [hk k, Nat.testBit_or]
      have e2 : ((if g b then 1 else 0) * 2 ^ (a * 4 + b)).testBit k = (decide (k = a * 4 + b) && g b) := by
        cases g b
        · simp
        · simp [Nat.testBit_two_pow, eq_comm]
      rw [e2, Bool.or_assoc]
      congr 1
      by_cases q : k = a * 4 + b
      · rw [decide_eq_true q, decide_eq_false (p := k / 4 = a ∧ b + 1 ≤ k % 4 ∧ k % 4 < lH l 0) (by omega), decide_eq_true (p := k / 4 = a ∧ b ≤ k % 4 ∧ k % 4 < lH l 0) (by omega), show k % 4 = b by omega]
        simp
      · rw [decide_eq_false q]
        have e3 : (k / 4 = a ∧ b + 1 ≤ k % 4 ∧ k % 4 < lH l 0) ↔ (k / 4 = a ∧ b ≤ k % 4 ∧ k % 4 < lH l 0) := by omega
        simp only [e3]
        simp
theorem S_table_out (h : G M) (hp : m_I M 2 0 = nI (lH l 0)) (ho : lOk l) {m1 m2 x1 x2 L : Nat} {u : Nat → Nat → Bool} (hx1 : isN l m1 x1) (hx2 : isN l m2 x2) (hL : L < 65536) (hu : ∀ a b, a < lH l 0 → b < lH l 0 → L / 2 ^ (4 * a + b) % 2 = if u a b then 1 else 0) : ∀ (d a T f : Nat), a + d = lH l 0 → d < f → T < 65536 →
    ∃ T', F_X3_tableOf_15 f 2 (nI x1) (nI x2) (nI L) (nI T) (nI a) M = some (nI T', M) ∧ T' < 65536 ∧ ∀ k, T'.testBit k = (T.testBit k || (decide (a ≤ k / 4 ∧ k / 4 < lH l 0 ∧ k % 4 < lH l 0) && u (npl l m1 (k / 4)) (npl l m2 (k % 4)))) := by
  have b3 := ho.1
  have K2 : m_K M 2 = 3 := by simp only [gK h]
  intro d
  induction d with
  | zero =>
    intro a T f hb hf hT
    obtain ⟨f, rfl⟩ : ∃ f', f = f' + 1 := ⟨f - 1, by omega⟩
    refine ⟨T, ?_, hT, fun k => ?_⟩
    · rw [F_X3_tableOf_15, x_gI_ok K2, hp, if_pos (nI_le (by omega) (by omega))]
    · rw [decide_eq_false (by omega)]; simp
  | succ d ih =>
    intro a T f hb hf hT
    obtain ⟨f, rfl⟩ : ∃ f', f = f' + 1 := ⟨f - 1, by omega⟩
    have hn := npl_lt ho (m := m1) (a := a) (by omega)
    have hrow : L / 2 ^ (4 * npl l m1 a) < 65536 := Nat.lt_of_le_of_lt (Nat.div_le_self _ _) hL
    have hg : ∀ b, b < lH l 0 → L / 2 ^ (4 * npl l m1 a) / 2 ^ (npl l m2 b) % 2 = if u (npl l m1 a) (npl l m2 b) then 1 else 0 := by
      intro b hb
      have hn2 := npl_lt ho (m := m2) hb
      rw [Nat.div_div_eq_div_mul, ← Nat.pow_add, hu _ _ hn hn2]
    obtain ⟨T1, e1, hT1, hk1⟩ := S_table_in (x1 := x1) (L := L) (a := a) (g := fun b => u (npl l m1 a) (npl l m2 b)) h hp ho hx2 (by omega) hrow hg (K := fun v10 v11 v12 v13 v14 v15 M2 => m_let (v15 + (1 : Int32)) fun v16 => F_X3_tableOf_15 f v10 v11 v12 v13 v14 v16 M2) (lH l 0) 0 T m_FU (by omega) (m_FU_lt (by omega)) hT
    obtain ⟨T', e, hT', hk⟩ := ih (a + 1) T1 f (by omega) (by omega) hT1
    refine ⟨T', ?_, hT', fun k => ?_⟩
    · rw [F_X3_tableOf_15, x_gI_ok K2, hp, if_neg (nI_ge (by omega) (by omega)), x_bd_ok (S_placeOfC ho hx1 (a := a) (by omega)), m_let_eq, m_let_eq, show (4 : Int32) = nI 4 from rfl, nI_mul, nI_shr (by omega) (by omega), show (0 : Int32) = nI 0 from rfl, e1, m_let_eq, show (1 : Int32) = nI 1 from rfl, nI_add, e]
    · rw [hk k, hk1 k, Bool.or_assoc]
      congr 1
      by_cases q : k / 4 = a
      · rw [decide_eq_false (p := a + 1 ≤ k / 4 ∧ k / 4 < lH l 0 ∧ k % 4 < lH l 0) (by omega), q]
        simp [show a < lH l 0 by omega]
      · rw [decide_eq_false (p := k / 4 = a ∧ 0 ≤ k % 4 ∧ k % 4 < lH l 0) (by omega)]
        have e3 : (a + 1 ≤ k / 4 ∧ k / 4 < lH l 0 ∧ k % 4 < lH l 0) ↔ (a ≤ k / 4 ∧ k / 4 < lH l 0 ∧ k % 4 < lH l 0) := by omega
        simp only [e3]
        simp
theorem S_tableOf (h : G M) (hl : LCi l (m_I M)) (ho : lOk l) {m1 m2 x1 x2 : Nat} {v : Option Nat} (hv : vIn l v) (h1 : m1 % 8 < lH l 1) (h2 : m2 % 8 < lH l 1) (hx1 : isN l m1 x1) (hx2 : isN l m2 x2) : ∃ T, F_X3_tableOf 2 (nI x1) (nI x2) (iO v) M = some (nI T, M) ∧ T < 65536 ∧ ∀ k, T.testBit k = tbl l v m1 m2 k := by
  have b3 := ho.1
  have K2 : m_K M 2 = 3 := by simp only [gK h]
  obtain ⟨L, e1, hL, hu⟩ := S_lawOn h hl ho hv h1 h2 hx1 hx2
  have hu2 : ∀ a b, a < lH l 0 → b < lH l 0 → L / 2 ^ (4 * a + b) % 2 = if vrbO l v (m1 % 8) (m2 % 8) a b then 1 else 0 := by
    intro a b ha hb
    rw [hu a b ha hb]
    cases v <;> rfl
  obtain ⟨T, e, hT, hk⟩ := S_table_out h hl.1.1 ho (u := vrbO l v (m1 % 8) (m2 % 8)) hx1 hx2 hL hu2 (lH l 0) 0 0 m_FU (by omega) (m_FU_lt (by omega)) (by omega)
  refine ⟨T, ?_, hT, fun k => ?_⟩
  · unfold F_X3_tableOf
    rw [x_cV_ok K2 e1]
    exact e
  · rw [hk k, Nat.zero_testBit]
    unfold tbl
    by_cases q1 : k / 4 < lH l 0 <;> by_cases q2 : k % 4 < lH l 0 <;> simp [q1, q2]
theorem row_bit {T a k : Nat} (hk : k < 4) : (T / 2 ^ (a * 4) % 16).testBit k = T.testBit (4 * a + k) := by
  rw [show (16 : Nat) = 2 ^ 4 from rfl, Nat.testBit_mod_two_pow, Nat.testBit_div_two_pow, decide_eq_true hk, show k + a * 4 = 4 * a + k by omega]
  simp
theorem S_spotIndex (a b c : Nat) : F_X3_spotIndex (nI a) (nI b) (nI c) M = some (nI ((a * 4 + b) * 16 + c), M) := by
  unfold F_X3_spotIndex
  rw [show (4 : Int32) = nI 4 from rfl, show (16 : Int32) = nI 16 from rfl, nI_mul, nI_add, nI_mul, nI_add]
theorem S_long_in (h : G M) (hp : m_I M 2 0 = nI (lH l 0)) (ho : lOk l) (hs : LCs l (m_L M 13)) {T fi s i a row : Nat} {wd : Int64} (hsn : s < lH l 1) (hi : i < 16) (hrow : row < 16) {K : Nat → Int32 → Int32 → Int32 → Int32 → Int64 → Int32 → Int64 → m_M → Option (Int64 × m_M)} : ∀ (d b f : Nat) (t : Int64), b + d = lH l 0 → d < f → (∀ j, j < 64 → lb t j = (decide (64 * i + j < wN l) && (decide (whr l (64 * i + j) s < b) && row.testBit (whr l (64 * i + j) s)))) →
    ∃ t', F_X3_longOf_32 K f 2 (nI T) (nI fi) (nI s) (nI i) wd (nI a) (nI row) t (nI b) M = K 2 (nI T) (nI fi) (nI s) (nI i) wd (nI a) t' M ∧ ∀ j, j < 64 → lb t' j = (decide (64 * i + j < wN l) && row.testBit (whr l (64 * i + j) s)) := by
  have b3 := ho.1
  have b1 := ho.2.1
  have K2 : m_K M 2 = 3 := by simp only [gK h]
  have K13 : m_K M 13 = 13 := by simp only [gK h]
  have R16 : m_R M 2 16 = some 13 := by simp only [gR h]
  have L13 : m_len M 13 = 320 := by simp only [gl h]
  intro d
  induction d with
  | zero =>
    intro b f t hb hf ht
    obtain ⟨f, rfl⟩ : ∃ f', f = f' + 1 := ⟨f - 1, by omega⟩
    refine ⟨t, ?_, fun j hj => ?_⟩
    · rw [F_X3_longOf_32, nI_shr (by omega) (by omega), x_gI_ok K2, hp, if_pos (nI_le (a := lH l 0) (b := b) (by omega) (by omega))]
      split <;> rfl
    · rw [ht j hj, decide_eq_true (p := whr l (64 * i + j) s < b) (by have := whr_lt ho (64 * i + j) s; omega), Bool.true_and]
  | succ d ih =>
    intro b f t hb hf ht
    obtain ⟨f, rfl⟩ : ∃ f', f = f' + 1 := ⟨f - 1, by omega⟩
    rw [F_X3_longOf_32, nI_shr (by omega) (by omega)]
    by_cases h0 : row / 2 ^ b = 0
    · refine ⟨t, ?_, fun j hj => ?_⟩
      · rw [h0, if_pos (by decide)]
      · rw [ht j hj]
        by_cases q : whr l (64 * i + j) s < b
        · rw [decide_eq_true q, Bool.true_and]
        · have hz : row.testBit (whr l (64 * i + j) s) = false := by
            rw [tb_div]
            have : row / 2 ^ (whr l (64 * i + j) s) ≤ row / 2 ^ b := Nat.div_le_div_left (Nat.pow_le_pow_right (by omega) (by omega)) (Nat.pow_pos (by omega))
            rw [h0] at this
            rw [Nat.le_zero.mp this]
            rfl
          rw [hz, decide_eq_false q]; simp
    · have hdl : row / 2 ^ b < 16 := Nat.lt_of_le_of_lt (Nat.div_le_self _ _) hrow
      rw [if_neg (show ¬ nI (row / 2 ^ b) = (0 : Int32) from nI_ne0 (Nat.pos_of_ne_zero h0) (Nat.lt_trans hdl (by omega))), x_gI_ok K2, hp, if_neg (nI_ge (by omega) (by omega)), m_let_eq, show (1 : Int32) = nI 1 from rfl, nI_m1]
      have hsw := hs s b hsn (by omega)
      by_cases q : row.testBit b = true
      · have hq : row / 2 ^ b % 2 = 1 := by rw [tb_div] at q; simpa using q
        obtain ⟨t', e, ht'⟩ := ih (b + 1) f (t ||| m_L M 13 ((s * 4 + b) * 16 + i)) (by omega) (by omega) (fun j hj => by
          rw [lb_or, ht j hj, hsw i hi j hj]
          dsimp only
          by_cases w1 : whr l (64 * i + j) s = b
          · rw [w1, decide_eq_true (p := b < b + 1) (by omega), q]; simp
          · rw [decide_eq_false (p := whr l (64 * i + j) s = b) w1]
            have : (whr l (64 * i + j) s < b + 1) ↔ (whr l (64 * i + j) s < b) := by omega
            simp [this])
        refine ⟨t', ?_, ht'⟩
        rw [hq, if_neg (by decide), x_gN_ok K2 R16, x_bd_ok (S_spotIndex s b i), x_aL_ok K13 (by rw [L13]; omega) (by omega), m_let_eq]
        dsimp only
        rw [m_let_eq, nI_add, e]
      · have hq : row / 2 ^ b % 2 = 0 := by
          rw [tb_div] at q
          have : ¬ row / 2 ^ b % 2 = 1 := by simpa using q
          omega
        obtain ⟨t', e, ht'⟩ := ih (b + 1) f t (by omega) (by omega) (fun j hj => by
          rw [ht j hj]
          by_cases w1 : whr l (64 * i + j) s = b
          · rw [w1, decide_eq_true (p := b < b + 1) (by omega), show row.testBit b = false by simpa using q]; simp
          · have : (whr l (64 * i + j) s < b + 1) ↔ (whr l (64 * i + j) s < b) := by omega
            simp [this])
        refine ⟨t', ?_, ht'⟩
        rw [hq, if_pos (by decide)]
        dsimp only
        rw [m_let_eq, nI_add, e]
theorem S_long_out (h : G M) (hp : m_I M 2 0 = nI (lH l 0)) (ho : lOk l) (hs : LCs l (m_L M 13)) {T fi s i : Nat} (hfn : fi < lH l 1) (hsn : s < lH l 1) (hi : i < 16) (hT : T < 65536) : ∀ (d a f : Nat) (t : Int64), a + d = lH l 0 → d < f → (∀ j, j < 64 → lb t j = (decide (64 * i + j < wN l) && (decide (whr l (64 * i + j) fi < a) && T.testBit (4 * whr l (64 * i + j) fi + whr l (64 * i + j) s)))) →
    ∃ t', F_X3_longOf_6 f 2 (nI T) (nI fi) (nI s) (nI i) t (nI a) M = some (t', M) ∧ ∀ j, j < 64 → lb t' j = (decide (64 * i + j < wN l) && T.testBit (4 * whr l (64 * i + j) fi + whr l (64 * i + j) s)) := by
  have b3 := ho.1
  have b1 := ho.2.1
  have K2 : m_K M 2 = 3 := by simp only [gK h]
  have K13 : m_K M 13 = 13 := by simp only [gK h]
  have R16 : m_R M 2 16 = some 13 := by simp only [gR h]
  have L13 : m_len M 13 = 320 := by simp only [gl h]
  intro d
  induction d with
  | zero =>
    intro a f t hb hf ht
    obtain ⟨f, rfl⟩ : ∃ f', f = f' + 1 := ⟨f - 1, by omega⟩
    refine ⟨t, ?_, fun j hj => ?_⟩
    · rw [F_X3_longOf_6, x_gI_ok K2, hp, if_pos (nI_le (by omega) (by omega))]
    · rw [ht j hj, decide_eq_true (p := whr l (64 * i + j) fi < a) (by have := whr_lt ho (64 * i + j) fi; omega), Bool.true_and]
  | succ d ih =>
    intro a f t hb hf ht
    obtain ⟨f, rfl⟩ : ∃ f', f = f' + 1 := ⟨f - 1, by omega⟩
    have hr : T / 2 ^ (a * 4) < 2147483648 := Nat.lt_of_le_of_lt (Nat.div_le_self _ _) (by omega)
    rw [F_X3_longOf_6, x_gI_ok K2, hp, if_neg (nI_ge (by omega) (by omega)), m_let_eq, show (4 : Int32) = nI 4 from rfl, nI_mul, nI_shr (by omega) (by omega), show (15 : Int32) = nI 15 from rfl, nI_m15]
    rw [m_let_eq]
    obtain ⟨t1, e1, ht1⟩ := S_long_in (T := T) (fi := fi) (a := a) (wd := t) h hp ho hs hsn hi (row := T / 2 ^ (a * 4) % 16) (Nat.mod_lt _ (by omega)) (K := fun v10 v11 v12 v13 v14 v15 v16 v17 M1 =>
      x_gN 3 M1 v10 16 fun v18 =>
      x_bd (F_X3_spotIndex v12 v16 v14 M1) fun v19 M2 =>
      x_aL M2 v18 v19 fun v20 =>
      m_let (v15 ||| (v17 &&& v20)) fun v21 =>
      m_let (v16 + (1 : Int32)) fun v22 =>
      F_X3_longOf_6 f v10 v11 v12 v13 v14 v21 v22 M2) (lH l 0) 0 m_FU 0 (by omega) (m_FU_lt (by omega)) (fun j hj => by rw [lb_0]; simp)
    have hsw := hs fi a hfn (by omega)
    obtain ⟨t', e, ht'⟩ := ih (a + 1) f (t ||| (t1 &&& m_L M 13 ((fi * 4 + a) * 16 + i))) (by omega) (by omega) (fun j hj => by
      rw [lb_or, lb_and, ht j hj, ht1 j hj, hsw i hi j hj]
      dsimp only
      have w2 := whr_lt ho (64 * i + j) s
      by_cases w1 : whr l (64 * i + j) fi = a
      · rw [w1, decide_eq_true (p := a < a + 1) (by omega), row_bit (by omega)]
        cases decide (64 * i + j < wN l) <;> cases T.testBit (4 * a + whr l (64 * i + j) s) <;> simp
      · rw [decide_eq_false (p := whr l (64 * i + j) fi = a) w1]
        have : (whr l (64 * i + j) fi < a + 1) ↔ (whr l (64 * i + j) fi < a) := by omega
        simp [this])
    refine ⟨t', ?_, ht'⟩
    rw [show (0 : Int32) = nI 0 from rfl, e1]
    rw [x_gN_ok K2 R16, x_bd_ok (S_spotIndex fi a i), x_aL_ok K13 (by rw [L13]; omega) (by omega), m_let_eq, m_let_eq, show (1 : Int32) = nI 1 from rfl, nI_add, e]
/-- sixty-four worlds of a table -/
theorem S_longOf (h : G M) (hl : LCi l (m_I M)) (ho : lOk l) (hs : LCs l (m_L M 13)) {T fi s i : Nat} (hfn : fi < lH l 1) (hsn : s < lH l 1) (hi : i < 16) (hT : T < 65536) : ∃ t, F_X3_longOf 2 (nI T) (nI fi) (nI s) (nI i) M = some (t, M) ∧ ∀ j, j < 64 → lb t j = (decide (64 * i + j < wN l) && T.testBit (4 * whr l (64 * i + j) fi + whr l (64 * i + j) s)) := by
  have b3 := ho.1
  unfold F_X3_longOf
  exact S_long_out h hl.1.1 ho hs hfn hsn hi hT (lH l 0) 0 m_FU 0 (by omega) (m_FU_lt (by omega)) (fun j hj => by rw [lb_0]; simp)
end TABLE
