/-! the class's land -/
def partN (c : Nat) : Nat := c / 4 + 8 * (c % 4)
/-- a noun as the class has it -/
def isN (l : Ld) (m x : Nat) : Prop := x < 2048 ∧ x % 8 = m % 8 ∧ ∀ a, a < lH l 0 → x / 8 / 4 ^ a % 4 = npl l m a
def LCi (l : Ld) (A : IA) : Prop :=
  (A 2 0 = nI (lH l 0) ∧ A 2 1 = nI (lH l 6) ∧ A 2 2 = nI (lH l 5) ∧ A 2 3 = nI (wN l) ∧ A 2 4 = nI ((wN l + 63) / 64)) ∧ (A 3 0 = nI (lH l 1) ∧ A 3 1 = nI (lH l 2) ∧ A 3 2 = nI (lH l 3) ∧ A 3 3 = nI (lH l 4))
  ∧ (∀ t, t < lH l 1 → A 4 t = nI (lW l t)) ∧ (∀ d, d < lH l 5 → A 5 d = iO (lD l d)) ∧ (∀ k, k < 6 * lH l 4 → A 6 k = nI (lV l k))
  ∧ (∀ j t, j < lH l 2 → t < lH l 1 → ∃ x, A 11 (5 * j + t) = nI x ∧ x < 256 ∧ ∀ a, a < lH l 0 → x / 4 ^ a % 4 = bnd l j a t)
  ∧ (∀ v f s, v < lH l 3 → f < lH l 1 → s < lH l 1 → ∃ x, A 12 ((v * 5 + f) * 5 + s) = nI x ∧ x < 65536 ∧ ∀ a b, a < lH l 0 → b < lH l 0 → x / 2 ^ (4 * a + b) % 2 = if vrb l v f s a b then 1 else 0)
theorem LCi.cong {l : Ld} {A B : IA} (h : LCi l A) (e : ∀ a, 2 ≤ a → a < 13 → B a = A a) : LCi l B := by
  unfold LCi
  rw [e 2 (by omega) (by omega), e 3 (by omega) (by omega), e 4 (by omega) (by omega), e 5 (by omega) (by omega), e 6 (by omega) (by omega), e 11 (by omega) (by omega), e 12 (by omega) (by omega)]
  exact h
/-- a clause's noun that is there -/
def ncOk (l : Ld) (c : Nat) : Prop := c / 4 < lH l 1 ∧ c % 4 ≤ lH l 2
theorem pow4 {p a : Nat} (h : a < p) (hp : p ≤ 4) : a = 0 ∨ a = 1 ∨ a = 2 ∨ a = 3 := by omega
theorem straight : ∀ a, a < 4 → 228 / 4 ^ a % 4 = a := by decide
theorem partN_p {c : Nat} (h : c < 20) : partN c % 8 = c / 4 ∧ partN c / 8 % 4 = c % 4 ∧ partN c / 32 = 0 := by
  revert c
  decide
theorem nOk_of {l : Ld} (ho : lOk l) {c : Nat} (h : ncOk l c) : nOk l (partN c) := by
  have b1 := ho.2.1
  have b2 := ho.2.2.1
  obtain ⟨h1, h2⟩ := h
  obtain ⟨q1, q2, q3⟩ := partN_p (show c < 20 by omega)
  unfold nOk
  rw [q1, q2, q3]
  exact ⟨h1, h2, Nat.zero_le _⟩
section CLAND
variable {M : m_M} {l : Ld}
theorem S_nounOf (h : G M) (hl : LCi l (m_I M)) (ho : lOk l) {c : Nat} (hc : c < 20) : (¬ ncOk l c ∧ F_X3_nounOf 2 (nI c) M = some (NO, M)) ∨ (ncOk l c ∧ ∃ x, F_X3_nounOf 2 (nI c) M = some (nI x, M) ∧ isN l (partN c) x) := by
  have b1 := ho.2.1
  have b2 := ho.2.2.1
  have b3 := ho.1
  obtain ⟨_, ⟨t0, t1, t2, t3⟩, _, _, _, hw, _⟩ := hl
  unfold F_X3_nounOf
  have e1 : nI c / (4 : Int32) = nI (c / 4) := i32_div (b := 4) (by omega) (by omega)
  have e2 : nI c - nI (c / 4) * (4 : Int32) = nI (c % 4) := by rw [show (4 : Int32) = nI 4 from rfl, nI_mul, i32_rem2]
  have K2 : m_K M 2 = 3 := by simp only [gK h]
  have K3 : m_K M 3 = 12 := by simp only [gK h]
  have R6 : m_R M 2 6 = some 3 := by simp only [gR h]
  have L3 : m_len M 3 = 4 := by simp only [gl h]
  rw [x_nz_eq, if_neg (by decide), m_let_eq, x_nz_eq, if_neg (by decide), m_let_eq, if_neg (nI_pos (by omega)), x_gN_ok K2 R6, show (0 : Int32) = nI 0 from rfl, x_aI_ok K3 (by rw [L3]; omega) (by omega), t0, e1, e2]
  by_cases h1 : c / 4 < lH l 1
  · rw [if_neg (nI_ge h1 (by omega)), x_gN_ok K2 R6, show (1 : Int32) = nI 1 from rfl, x_aI_ok K3 (by rw [L3]; omega) (by omega), t1]
    by_cases h0 : c % 4 = 0
    · refine .inr ⟨⟨h1, by omega⟩, 228 * 8 + c / 4, ?_, ?_⟩
      · rw [h0, show nI 0 - nI 1 = NO from by decide, if_pos (of_eq_true (no_lt (by omega))), m_let_eq, if_pos (by decide)]
        dsimp only
        rw [show (3 : Int32) = nI 3 from rfl, show (228 : Int32) = nI 228 from rfl, nI_shl (by omega), nI_orb (s := 3) (by omega)]
      · obtain ⟨q1, q2, q3⟩ := partN_p hc
        refine ⟨by omega, by rw [q1]; omega, ?_⟩
        intro a ha
        have hs := straight a (by omega)
        rw [show (228 * 8 + c / 4) / 8 = 228 by omega, hs]
        unfold npl
        dsimp only
        rw [q2, q3, if_pos h0, if_pos rfl]
    · rw [nI_sub' (by omega)]
      by_cases h2 : c % 4 - 1 < lH l 2
      · obtain ⟨x, hx1, hx2, hx3⟩ := hw (c % 4 - 1) (c / 4) h2 h1
        refine .inr ⟨⟨h1, by omega⟩, x * 8 + c / 4, ?_, ?_⟩
        · have K11 : m_K M 11 = 12 := by simp only [gK h]
          have R14 : m_R M 2 14 = some 11 := by simp only [gR h]
          have L11 : m_len M 11 = 15 := by simp only [gl h]
          rw [if_pos (nI_lt h2 (by omega)), m_let_eq, if_neg (show ¬ nI (c % 4 - 1) < nI 0 from nI_nlt (Nat.zero_le _) (by omega)), x_gN_ok K2 R14, show (5 : Int32) = nI 5 from rfl, nI_mul, nI_add, x_aI_ok K11 (by rw [L11]; omega) (by omega), show (c % 4 - 1) * 5 + c / 4 = 5 * (c % 4 - 1) + c / 4 by omega, hx1]
          dsimp only
          rw [show (3 : Int32) = nI 3 from rfl, nI_shl (by omega), nI_orb (s := 3) (by omega)]
        · obtain ⟨q1, q2, q3⟩ := partN_p hc
          refine ⟨by omega, by rw [q1]; omega, ?_⟩
          intro a ha
          rw [show (x * 8 + c / 4) / 8 = x by omega, hx3 a ha]
          unfold npl
          dsimp only
          rw [q1, q2, q3, if_pos rfl, if_neg h0]
      · refine .inl ⟨fun q => h2 (by have := q.2; omega), ?_⟩
        rw [if_neg (nI_nlt (by omega) (by omega))]
        rfl
  · refine .inl ⟨fun q => h1 q.1, ?_⟩
    rw [if_pos (nI_le (by omega) (by omega))]
    rfl
theorem S_thingOf (ho : lOk l) {m x : Nat} (hm : m % 8 < lH l 1) (hx : isN l m x) : F_X3_thingOf (nI x) M = some (nI (m % 8), M) := by
  have b1 := ho.2.1
  obtain ⟨h1, h2, _⟩ := hx
  unfold F_X3_thingOf F_J9_min_7cf53
  rw [show (7 : Int32) = nI 7 from rfl, nI_m7, h2, if_neg (show ¬ (4 : Int32) < nI (m % 8) from nI_nlt (a := 4) (by omega) (by omega))]
  rfl
theorem S_placeOfC (ho : lOk l) {m x a : Nat} (hx : isN l m x) (ha : a < lH l 0) : F_X3_placeOf (nI x) (nI a) M = some (nI (npl l m a), M) := by
  have b3 := ho.1
  obtain ⟨h1, h2, h3⟩ := hx
  unfold F_X3_placeOf
  rw [show (2 : Int32) = nI 2 from rfl, show (3 : Int32) = nI 3 from rfl, nI_mul, nI_add, nI_shr (by omega) (by omega), nI_m3, ← h3 a ha]
  congr 3
  rw [Nat.div_div_eq_div_mul, Nat.pow_add, show (4 : Nat) ^ a = 2 ^ (2 * a) by rw [Nat.pow_mul]]
theorem S_placeIn_l {p t : Nat} (h : G M) (hp : 2 ≤ p) (hp4 : p ≤ 4) (hA : m_I M 2 0 = nI p) {K : Nat → Int32 → m_M → Option (Int32 × m_M)} : ∀ (d f w : Nat), t + d ≤ 5 → d < f → w < 2147483648 → F_X3_placeIn_12 K f 2 (nI t) (nI w) (nI (t + d)) M = K 2 (nI (w / p ^ d)) M := by
  intro d
  induction d with
  | zero =>
    intro f w hd hf hw
    obtain ⟨f, rfl⟩ : ∃ f', f = f' + 1 := ⟨f - 1, by omega⟩
    rw [F_X3_placeIn_12, if_pos (nI_le (by omega) (by omega)), Nat.pow_zero, Nat.div_one]
  | succ d ih =>
    intro f w hd hf hw
    obtain ⟨f, rfl⟩ : ∃ f', f = f' + 1 := ⟨f - 1, by omega⟩
    have hw2 : w / p < 2147483648 := Nat.lt_of_le_of_lt (Nat.div_le_self _ _) hw
    have K2 : m_K M 2 = 3 := by simp only [gK h]
    rw [F_X3_placeIn_12, if_neg (nI_ge (by omega) (by omega)), m_let_eq, x_gI_ok K2, hA, if_neg (nI_nle (by omega) (by omega)), x_gI_ok K2, hA, x_nz_eq, if_neg (nI_ne0 (by omega) (by omega))]
    dsimp only
    rw [m_let_eq, i32_div hw (by omega), show nI (t + (d + 1)) + (-1 : Int32) = nI (t + d) from no_dec (by omega), ih f (w / p) (by omega) (by omega) hw2, Nat.div_div_eq_div_mul, Nat.pow_succ']
theorem S_placeIn (h : G M) (hl : LCi l (m_I M)) (ho : lOk l) {w t : Nat} (ht : t < lH l 1) (hw : w < 2147483648) : F_X3_placeIn 2 (nI w) (nI t) M = some (nI (whr l w t), M) := by
  have b1 := ho.2.1
  have b3 := ho.1
  obtain ⟨⟨p0, _⟩, ⟨t0, _⟩, _⟩ := hl
  have K2 : m_K M 2 = 3 := by simp only [gK h]
  have K3 : m_K M 3 = 12 := by simp only [gK h]
  have R6 : m_R M 2 6 = some 3 := by simp only [gR h]
  have L3 : m_len M 3 = 4 := by simp only [gl h]
  unfold F_X3_placeIn
  rw [x_gN_ok K2 R6, show (0 : Int32) = nI 0 from rfl, x_aI_ok K3 (by rw [L3]; omega) (by omega), t0, m_let_eq, show nI (lH l 1) - (1 : Int32) = nI (t + (lH l 1 - 1 - t)) from by rw [show (1 : Int32) = nI 1 from rfl, nI_sub' (by omega)]; congr 1; omega]
  refine m_let_e ?_
  intro K hK
  have hb : w / lH l 0 ^ (lH l 1 - 1 - t) < 2147483648 := Nat.lt_of_le_of_lt (Nat.div_le_self _ _) hw
  rw [S_placeIn_l h b3.1 b3.2 p0 _ _ _ (by omega) (m_FU_lt (by omega)) hw, hK]
  dsimp only
  rw [x_gI_ok K2, p0, if_neg (show ¬ nI (lH l 0) ≤ nI 0 from nI_ge (by omega) (by omega)), x_gI_ok K2, p0, x_nz_eq, if_neg (nI_ne0 (by omega) (by omega)), i32_rem hb (by omega)]
  rfl
theorem S_lawOn (h : G M) (hl : LCi l (m_I M)) (ho : lOk l) {m1 m2 x1 x2 : Nat} {v : Option Nat} (hv : vIn l v) (h1 : m1 % 8 < lH l 1) (h2 : m2 % 8 < lH l 1) (hx1 : isN l m1 x1) (hx2 : isN l m2 x2) : ∃ T, F_X3_lawOn 2 (nI x1) (nI x2) (iO v) M = some (nI T, M) ∧ T < 65536 ∧ ∀ a b, a < lH l 0 → b < lH l 0 → T / 2 ^ (4 * a + b) % 2 = (match v with
    | none => 0
    | some v => if vrb l v (m1 % 8) (m2 % 8) a b then 1 else 0) := by
  have b1 := ho.2.1
  have b3 := ho.1
  have b4 := ho.2.2.2.1
  have hb1 := hx1.1
  have hb2 := hx2.1
  obtain ⟨_, ⟨_, _, t2, _⟩, _, _, _, _, hw⟩ := hl
  unfold F_X3_lawOn
  rw [if_neg (nI_pos (by omega)), if_neg (nI_pos (by omega))]
  cases v with
  | none =>
    refine ⟨0, ?_, by omega, fun a b _ _ => by simp⟩
    rw [if_pos (by decide)]
    rfl
  | some v =>
    have hv3 := hv v rfl
    obtain ⟨x, e1, e2, e3⟩ := hw v (m1 % 8) (m2 % 8) hv3 h1 h2
    refine ⟨x, ?_, e2, e3⟩
    have K2 : m_K M 2 = 3 := by simp only [gK h]
    have K3 : m_K M 3 = 12 := by simp only [gK h]
    have R6 : m_R M 2 6 = some 3 := by simp only [gR h]
    have L3 : m_len M 3 = 4 := by simp only [gl h]
    have K12 : m_K M 12 = 12 := by simp only [gK h]
    have R15 : m_R M 2 15 = some 12 := by simp only [gR h]
    have L12 : m_len M 12 = 150 := by simp only [gl h]
    show (if nI v < 0 then _ else _) = _
    rw [if_neg (nI_pos (by omega)), x_gN_ok K2 R6, show (2 : Int32) = nI 2 from rfl, x_aI_ok K3 (by rw [L3]; omega) (by omega), t2]
    show (if nI v < nI (lH l 3) then _ else _) = _
    rw [if_pos (nI_lt hv3 (by omega)), x_gN_ok K2 R15, x_bd_ok (S_thingOf ho h1 hx1), x_bd_ok (S_thingOf ho h2 hx2)]
    unfold F_X3_lawIndex
    show x_bd (some ((nI v * (5 : Int32) + nI (m1 % 8)) * (5 : Int32) + nI (m2 % 8), M)) _ = _
    rw [x_bd_some, show (5 : Int32) = nI 5 from rfl, nI_mul, nI_add, nI_mul, nI_add, x_aI_ok K12 (by rw [L12]; omega) (by omega), e1]
theorem bI_01 (b : Bool) : (if nI (if b then 1 else 0) = 0 then some ((0 : Int32), M) else some (nI 1, M)) = some (bI b, M) := by cases b <;> rfl
theorem whr_ltC (ho : lOk l) (w t : Nat) : whr l w t < lH l 0 := Nat.mod_lt _ (by have := ho.1.1; omega)
theorem npl_ltC (ho : lOk l) {m a : Nat} (ha : a < lH l 0) : npl l m a < lH l 0 := npl_lt ho ha
theorem S_clauseHoldsC (h : G M) (hl : LCi l (m_I M)) (ho : lOk l) {c w : Nat} {v : Option Nat} (hv : vIn l v) (hc : c < 400) (h1 : ncOk l (c / 20)) (h2 : ncOk l (c % 20)) (hw : w < 2147483648) : F_X3_clauseHolds 2 (nI c) (iO v) (nI w) M = some (bI (hby l v (partN (c / 20)) (partN (c % 20)) w), M) := by
  have b3 := ho.1
  obtain ⟨q1, e1⟩ | ⟨_, x1, e1, n1⟩ := S_nounOf h hl ho (c := c / 20) (by omega)
  · exact absurd h1 q1
  obtain ⟨q2, e2⟩ | ⟨_, x2, e2, n2⟩ := S_nounOf h hl ho (c := c % 20) (by omega)
  · exact absurd h2 q2
  obtain ⟨p1, p2, p3⟩ := partN_p (c := c / 20) (by omega)
  obtain ⟨r1, r2, r3⟩ := partN_p (c := c % 20) (by omega)
  have m1 : partN (c / 20) % 8 < lH l 1 := by rw [p1]; exact h1.1
  have m2 : partN (c % 20) % 8 < lH l 1 := by rw [r1]; exact h2.1
  have w1 := whr_ltC ho w (partN (c / 20) % 8)
  have w2 := whr_ltC ho w (partN (c % 20) % 8)
  have y1 := npl_ltC ho (m := partN (c / 20)) w1
  have y2 := npl_ltC ho (m := partN (c % 20)) w2
  obtain ⟨T, e3, e4, e5⟩ := S_lawOn h hl ho hv m1 m2 n1 n2
  have K2 : m_K M 2 = 3 := by simp only [gK h]
  unfold F_X3_clauseHolds
  rw [x_nz_eq, if_neg (by decide), show nI c / (20 : Int32) = nI (c / 20) from i32_div (b := 20) (by omega) (by omega), x_cV_ok K2 e1, x_nz_eq, if_neg (by decide), show nI c - nI (c / 20) * (20 : Int32) = nI (c % 20) from by rw [show (20 : Int32) = nI 20 from rfl, nI_mul, i32_rem2], x_cV_ok K2 e2, x_bd_ok (S_thingOf ho m1 n1), x_cV_ok K2 (S_placeIn h hl ho m1 hw), x_bd_ok (S_placeOfC ho n1 w1), x_bd_ok (S_thingOf ho m2 n2), x_cV_ok K2 (S_placeIn h hl ho m2 hw), x_bd_ok (S_placeOfC ho n2 w2), x_cV_ok K2 e3, show (4 : Int32) = nI 4 from rfl, nI_mul, nI_add, nI_shr (by omega) (by omega), show (1 : Int32) = nI 1 from rfl, nI_m1, show npl l (partN (c / 20)) (whr l w (partN (c / 20) % 8)) * 4 + npl l (partN (c % 20)) (whr l w (partN (c % 20) % 8)) = 4 * npl l (partN (c / 20)) (whr l w (partN (c / 20) % 8)) + npl l (partN (c % 20)) (whr l w (partN (c % 20) % 8)) by omega, e5 _ _ y1 y2]
  cases v with
  | none => rfl
  | some v => exact bI_01 _
end CLAND
