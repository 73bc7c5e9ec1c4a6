/-! the class bends a noun -/
def cnO : Option Nat → Nat
  | none => 0
  | some b => 1 + b
def bnO (l : Ld) (b : Option Nat) (a t : Nat) : Nat := match b with
  | none => a
  | some b => bnd l b a t
def nnO (t : Nat) (i o : Option Nat) : Nat := t + 8 * cnO i + 32 * cnO o
def bOk (l : Ld) (b : Option Nat) : Prop := ∀ j, b = some j → j < lH l 2
section BEND
variable {M M' : m_M} {l : Ld}
theorem bnO_lt (ho : lOk l) {b : Option Nat} {a t : Nat} (ha : a < lH l 0) : bnO l b a t < lH l 0 := by
  cases b with
  | none => exact ha
  | some b => exact bnd_lt ho _ _ _
theorem npl_nnO (ho : lOk l) {t a : Nat} {i o : Option Nat} (ht : t < 8) (hi : bOk l i) (hoo : bOk l o) : npl l (nnO t i o) a = bnO l o (bnO l i a t) t := by
  have b2 := ho.2.2.1
  have h1 : cnO i ≤ 3 := by
    cases i with
    | none => exact Nat.zero_le _
    | some c => have := hi c rfl; show 1 + c ≤ _; omega
  have h2 : cnO o ≤ 3 := by
    cases o with
    | none => exact Nat.zero_le _
    | some c => have := hoo c rfl; show 1 + c ≤ _; omega
  have m8 : nnO t i o % 8 = t := by unfold nnO; omega
  have m1 : nnO t i o / 8 % 4 = cnO i := by unfold nnO; omega
  have m2 : nnO t i o / 32 = cnO o := by unfold nnO; omega
  have e1 : (if cnO i = 0 then a else bnd l (cnO i - 1) a t) = bnO l i a t := by
    cases i with
    | none => exact if_pos rfl
    | some c => rw [if_neg (show ¬ cnO (some c) = 0 from by show ¬ 1 + c = 0; omega), show cnO (some c) - 1 = c from by show 1 + c - 1 = c; omega]; rfl
  unfold npl
  dsimp only
  rw [m8, m1, m2, e1]
  cases o with
  | none => exact if_pos rfl
  | some c => rw [if_neg (show ¬ cnO (some c) = 0 from by show ¬ 1 + c = 0; omega), show cnO (some c) - 1 = c from by show 1 + c - 1 = c; omega]; rfl
theorem nOk_nnO (ho : lOk l) {t : Nat} {i o : Option Nat} (ht : t < lH l 1) (hi : bOk l i) (hoo : bOk l o) : nOk l (nnO t i o) ∧ nnO t i o < 128 := by
  have b1 := ho.2.1
  have b2 := ho.2.2.1
  have h1 : cnO i ≤ lH l 2 := by
    cases i with
    | none => exact Nat.zero_le _
    | some c => have := hi c rfl; show 1 + c ≤ _; omega
  have h2 : cnO o ≤ lH l 2 := by
    cases o with
    | none => exact Nat.zero_le _
    | some c => have := hoo c rfl; show 1 + c ≤ _; omega
  unfold nOk nnO
  omega
theorem S_cbent (hG : G M) (ho : lOk l) (hl : LCi l (m_I M)) {t a : Nat} {b : Option Nat} (ht : t < lH l 1) (ha : a < lH l 0) (hb : bOk l b) : F_X3_bent 2 (nI t) (iO b) (nI a) M = some (nI (bnO l b a t), M) := by
  have b0 := ho.1
  have b1 := ho.2.1
  have b2 := ho.2.2.1
  have K2 : m_K M 2 = 3 := by simp only [gK hG]
  have K3 : m_K M 3 = 12 := by simp only [gK hG]
  have K11 : m_K M 11 = 12 := by simp only [gK hG]
  have L3 : m_len M 3 = 4 := by simp only [gl hG]
  have L11 : m_len M 11 = 15 := by simp only [gl hG]
  have R6 : m_R M 2 6 = some 3 := by simp only [gR hG]
  have R14 : m_R M 2 14 = some 11 := by simp only [gR hG]
  have sh : ∀ x, x < 256 → (nI x >>> (((2 : Int32) * nI a) &&& 31)) &&& (3 : Int32) = nI (x / 4 ^ a % 4) := fun x hx => by
    rw [show (2 : Int32) = nI 2 from rfl, show (3 : Int32) = nI 3 from rfl, nI_mul, nI_shr (by omega) (by omega), nI_m3, show (4 : Nat) ^ a = 2 ^ (2 * a) by rw [Nat.pow_mul]]
  unfold F_X3_bent
  cases b with
  | none =>
    rw [m_let_eq, m_let_eq, if_pos (show iO none < 0 from by decide)]
    dsimp only
    rw [show (228 : Int32) = nI 228 from rfl, sh 228 (by omega), straight a (by omega)]
    rfl
  | some b =>
    have hb' := hb b rfl
    obtain ⟨x, hx1, hx2, hx3⟩ := hl.2.2.2.2.2.1 b t hb' ht
    rw [m_let_eq, m_let_eq, show iO (some b) = nI b from rfl, if_neg (nI_pos (by omega)), x_gN_ok K2 R6, show (1 : Int32) = nI 1 from rfl, x_aI_ok K3 (by rw [L3]; omega) (by omega), hl.2.1.2.1, if_neg (nI_ge hb' (by omega)), x_cV_ok K2 (S_isThingC hG hl ho (by omega)), decide_eq_true ht, if_neg (by decide), x_gN_ok K2 R14, show (5 : Int32) = nI 5 from rfl, nI_mul, nI_add, x_aI_ok K11 (by rw [L11]; omega) (by omega), show b * 5 + t = 5 * b + t by omega, hx1]
    dsimp only
    rw [sh x hx2, hx3 a ha]
    rfl
theorem S_bendNoun6 (hG : G M) (ho : lOk l) (hl : LCi l (m_I M)) {t : Nat} {i o : Option Nat} (ht : t < lH l 1) (hi : bOk l i) (hoo : bOk l o) {k45 : Int32 → Int32 → m_M → Option (Int32 × m_M)} : ∀ (d k f y : Nat), k + d = lH l 0 → d < f → y < 4 ^ k → (∀ a, a < k → y / 4 ^ a % 4 = bnO l o (bnO l i a t) t) →
    ∃ x, F_X3_bendNoun_6 k45 f 2 (nI t) (iO i) (iO o) (nI y) (nI k) M = k45 (nI t) (nI x) M ∧ x < 256 ∧ ∀ a, a < lH l 0 → x / 4 ^ a % 4 = bnO l o (bnO l i a t) t := by
  have b0 := ho.1
  have K2 : m_K M 2 = 3 := by simp only [gK hG]
  intro d
  induction d with
  | zero =>
    intro k f y hk hf hy hh
    obtain ⟨f, rfl⟩ : ∃ f', f = f' + 1 := ⟨f - 1, by omega⟩
    have : 4 ^ k ≤ 4 ^ 4 := Nat.pow_le_pow_right (by omega) (by omega)
    refine ⟨y, ?_, by omega, fun a ha => hh a (by omega)⟩
    rw [F_X3_bendNoun_6, x_gI_ok K2, hl.1.1, if_pos (nI_le (by omega) (by omega))]
  | succ d ih =>
    intro k f y hk hf hy hh
    obtain ⟨f, rfl⟩ : ∃ f', f = f' + 1 := ⟨f - 1, by omega⟩
    have h1 := bnO_lt ho (b := i) (t := t) (a := k) (by omega)
    have h2 := bnO_lt ho (b := o) (t := t) h1
    have hor : nI y ||| (nI (bnO l o (bnO l i k t) t) <<< (((2 : Int32) * nI k) &&& 31)) = nI (bnO l o (bnO l i k t) t * 4 ^ k + y) := by
      rw [show (2 : Int32) = nI 2 from rfl, nI_mul, nI_shl (by omega), show (2 : Nat) ^ (2 * k) = 4 ^ k by rw [Nat.pow_mul], nI_or, Nat.or_comm, ← nI_or]
      have := nI_orb (x := bnO l o (bnO l i k t) t) (y := y) (s := 2 * k) (by rw [Nat.pow_mul]; exact hy)
      rw [Nat.pow_mul] at this
      exact this
    obtain ⟨x, e, e1, e2⟩ := ih (k + 1) f (bnO l o (bnO l i k t) t * 4 ^ k + y) (by omega) (by omega) (by
      have : (bnO l o (bnO l i k t) t + 1) * 4 ^ k ≤ 4 * 4 ^ k := Nat.mul_le_mul_right _ (by omega)
      rw [Nat.pow_succ, Nat.mul_comm (4 ^ k) 4]
      rw [Nat.add_mul, Nat.one_mul] at this
      omega) (fun a ha => by
      by_cases q : a = k
      · rw [q, Nat.mul_comm, Nat.mul_add_div (Nat.pow_pos (by omega)), Nat.div_eq_of_lt hy, Nat.add_zero, Nat.mod_eq_of_lt (by omega)]
      · rw [← hh a (by omega), show bnO l o (bnO l i k t) t * 4 ^ k + y = 4 ^ a * (4 * (bnO l o (bnO l i k t) t * 4 ^ (k - a - 1))) + y by
          rw [show 4 ^ k = 4 ^ a * 4 * 4 ^ (k - a - 1) from by rw [← Nat.pow_succ, ← Nat.pow_add]; congr 1; omega]
          simp only [Nat.mul_assoc, Nat.mul_comm, Nat.mul_left_comm], Nat.mul_add_div (Nat.pow_pos (by omega)), Nat.mul_add_mod])
    refine ⟨x, ?_, e1, e2⟩
    rw [F_X3_bendNoun_6, x_gI_ok K2, hl.1.1, if_neg (nI_ge (by omega) (by omega)), x_cV_ok K2 (S_cbent hG ho hl ht (by omega) hi), x_cV_ok K2 (S_cbent hG ho hl ht h1 hoo), hor, m_let_eq, m_let_eq, nI_1]
    exact e
theorem S_bendNoun (hG : G M) (ho : lOk l) (hl : LCi l (m_I M)) {t : Nat} {i o : Option Nat} (ht : t < lH l 1) (hi : bOk l i) (hoo : bOk l o) : ∃ x, F_X3_bendNoun 2 (nI t) (iO i) (iO o) M = some (nI x, M) ∧ isN l (nnO t i o) x := by
  have b0 := ho.1
  have b1 := ho.2.1
  obtain ⟨x, e, e1, e2⟩ := S_bendNoun6 hG ho hl ht hi hoo (k45 := fun (v1 : Int32) (v2 : Int32) (M1 : m_M) =>
    some ((v2 <<< ((3 : Int32) &&& 31)) ||| v1, M1)) (lH l 0) 0 m_FU 0 (by omega) (m_FU_lt (by omega)) (by decide) (fun a ha => absurd ha (Nat.not_lt_zero _))
  refine ⟨x * 8 + t, ?_, by omega, ?_, fun a ha => ?_⟩
  · unfold F_X3_bendNoun
    rw [m_let_eq]
    refine Eq.trans e ?_
    rw [show (3 : Int32) = nI 3 from rfl, nI_shl (by omega), nI_orb (s := 3) (by omega)]
  · unfold nnO
    omega
  · rw [show (x * 8 + t) / 8 = x by omega, e2 a ha, npl_nnO ho (by omega) hi hoo]
end BEND
