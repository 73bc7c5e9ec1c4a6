/-! a land: heads (places, things, bends, verbs, speakers, days of the week, bribe), weights, week, worths, names, laws -/
abbrev Ld : Type := (Nat → Nat) × (Nat → Nat) × (Nat → Option Nat) × (Nat → Nat) × (Nat → Int64) × (Nat → (Nat → Int32) → Int32)
def lH (l : Ld) : Nat → Nat := l.1
def lW (l : Ld) : Nat → Nat := l.2.1
def lD (l : Ld) : Nat → Option Nat := l.2.2.1
def lV (l : Ld) : Nat → Nat := l.2.2.2.1
def lM (l : Ld) : Nat → Int64 := l.2.2.2.2.1
def lE (l : Ld) : Nat → (Nat → Int32) → Int32 := l.2.2.2.2.2
def iO : Option Nat → Int32
  | none => NO
  | some k => nI k
def wN (l : Ld) : Nat := lH l 0 ^ lH l 1
def whr (l : Ld) (w t : Nat) : Nat := w / lH l 0 ^ (lH l 1 - 1 - t) % lH l 0
/-- the laws that are there -/
def lnOk (l : Ld) (line : Nat) : Prop := line < lH l 2 ∨ (3 ≤ line ∧ line < 3 + lH l 3)
def lOk (l : Ld) : Prop := (2 ≤ lH l 0 ∧ lH l 0 ≤ 4) ∧ lH l 1 ≤ 5 ∧ lH l 2 ≤ 3 ∧ lH l 3 ≤ 6 ∧ lH l 4 ≤ 3 ∧ lH l 5 ≤ 7 ∧ lH l 6 ≤ 99 ∧ (∀ t, lW l t ≤ 99) ∧ (∀ k, lV l k ≤ 99) ∧ (∀ d v, lD l d = some v → v < lH l 3)
  ∧ (∀ j, j < 3 → ∀ fs fs' : Nat → Int32, fs 6 = fs' 6 → fs 7 = fs' 7 → lE l j fs = lE l j fs') ∧ (∀ j, 3 ≤ j → ∀ fs fs' : Nat → Int32, (∀ k, 1 ≤ k → k < 6 → fs k = fs' k) → lE l j fs = lE l j fs')
def fmI (x : Int32) (p : Nat) : Nat := (x.toInt % (p : Int)).toNat
def fB (a w : Nat) : Nat → Int32 := fun k => if k = 6 then nI a else nI w
def bnd (l : Ld) (j a t : Nat) : Nat := fmI (lE l j (fB a (lW l t))) (lH l 0)
def fV (a b w1 w2 : Nat) (al : Bool) : Nat → Int32 := fun k => if k = 1 then nI a else if k = 2 then nI b else if k = 3 then nI w1 else if k = 4 then nI w2 else if al then nI 1 else nI 0
def vrb (l : Ld) (v f s a b : Nat) : Bool := decide (¬ lE l (3 + v) (fV a b (lW l f) (lW l s) (decide (f = s))) = 0)
/-- a noun by number: the thing, 8 times its near bend, 32 times its far one; where it is while its thing is at a -/
def npl (l : Ld) (m a : Nat) : Nat :=
  let a1 := if m / 8 % 4 = 0 then a else bnd l (m / 8 % 4 - 1) a (m % 8)
  if m / 32 = 0 then a1 else bnd l (m / 32 - 1) a1 (m % 8)
def nOk (l : Ld) (m : Nat) : Prop := m % 8 < lH l 1 ∧ m / 8 % 4 ≤ lH l 2 ∧ m / 32 ≤ lH l 2
def hby (l : Ld) (v : Option Nat) (m1 m2 w : Nat) : Bool := match v with
  | none => false
  | some v => vrb l v (m1 % 8) (m2 % 8) (npl l m1 (whr l w (m1 % 8))) (npl l m2 (whr l w (m2 % 8)))
/-- codes of the model that come to E -/
def MEv (c : Nat → Nat) (a e : Nat) (E : (Nat → Int32) → Int32) : Prop := ∀ A : IA, evRok c (e - a) a (0, opA A 0) ∧ teA (evR c (e - a) a (0, opA A 0)).2 0 143 0 = E (A 152)
def MLn (A : IA) (line : Nat) (E : (Nat → Int32) → Int32) : Prop := ∃ (c : Nat → Nat) (a e : Nat), a ≤ e ∧ e ≤ 1000 ∧ A 138 line = nI a ∧ A 139 line = nI e ∧ (∀ j, a ≤ j → j < e → A 140 j = nI (c j)) ∧ MEv c a e E
/-- the model's ints hold a land -/
def LMi (l : Ld) (A : IA) : Prop :=
  (∀ k, k < 7 → A 130 k = nI (lH l k)) ∧ (∀ t, t < lH l 1 → A 135 t = nI (lW l t)) ∧ (∀ d, d < lH l 5 → A 136 d = iO (lD l d)) ∧ (∀ k, k < 6 * lH l 4 → A 137 k = nI (lV l k) ∨ (A 137 k = NO ∧ lV l k = 0))
  ∧ (∀ line, lnOk l line → MLn A line (lE l line)) ∧ A 128 42 = nI (wN l) ∧ A 128 43 = nI ((wN l + 63) / 64)
theorem LMi.cong {l : Ld} {A B : IA} (h : LMi l A) (e : ∀ a, 130 ≤ a → a < 141 → B a = A a) (e2 : B 128 42 = A 128 42) (e3 : B 128 43 = A 128 43) : LMi l B := by
  obtain ⟨h1, h2, h3, h4, h5, h6, h7⟩ := h
  refine ⟨?_, ?_, ?_, ?_, ?_, ?_, ?_⟩
  · rw [e 130 (by omega) (by omega)]; exact h1
  · rw [e 135 (by omega) (by omega)]; exact h2
  · rw [e 136 (by omega) (by omega)]; exact h3
  · rw [e 137 (by omega) (by omega)]; exact h4
  · unfold MLn
    rw [e 138 (by omega) (by omega), e 139 (by omega) (by omega), e 140 (by omega) (by omega)]; exact h5
  · rw [e2]; exact h6
  · rw [e3]; exact h7
theorem LMi.sc {l : Ld} {A B : IA} (h : LMi l A) (e : ∀ a, a < 141 → B a = A a) : LMi l B := h.cong (fun a _ h2 => e a h2) (by rw [e 128 (by omega)]) (by rw [e 128 (by omega)])
theorem fmI_lt (x : Int32) {p : Nat} (hp : 0 < p) : fmI x p < p := by
  unfold fmI
  have h1 := Int.emod_nonneg x.toInt (show (p : Int) ≠ 0 by omega)
  have h2 := Int.emod_lt_of_pos x.toInt (show (0 : Int) < p by omega)
  omega
theorem tdiv_k (x : Int) (p : Nat) : (0 ≤ x ∧ x.tdiv p = x / p) ∨ (x < 0 ∧ x.tdiv p = -((-x) / p)) := by
  by_cases h : 0 ≤ x
  · exact .inl ⟨h, Int.tdiv_eq_ediv_of_nonneg h⟩
  · refine .inr ⟨by omega, ?_⟩
    have e : x = -(-x) := by omega
    rw [e, Int.neg_tdiv, Int.tdiv_eq_ediv_of_nonneg (by omega), Int.neg_neg]
theorem tmod_i {x : Int32} {p : Nat} (h0 : 0 < p) (hp : p < 5) : (x - x / nI p * nI p).toInt = if 0 ≤ x.toInt then x.toInt % p else -((-x.toInt) % p) := by
  have e1 : (nI p).toInt = (p : Int) := nI_toInt (by omega)
  have hx1 := x.minValue_le_toInt
  have hx2 := x.toInt_le
  have a1 : Int32.minValue.toInt = -2147483648 := by decide
  have a2 : Int32.maxValue.toInt = 2147483647 := by decide
  rw [a1] at hx1
  rw [a2] at hx2
  have hd : (x / nI p).toInt = x.toInt.tdiv p := by
    rw [Int32.toInt_div, e1]
    obtain rfl | rfl | rfl | rfl : p = 1 ∨ p = 2 ∨ p = 3 ∨ p = 4 := by omega
    all_goals
      rcases tdiv_k x.toInt _ with ⟨q1, q2⟩ | ⟨q1, q2⟩
      · rw [q2, Int.bmod_eq_of_le (by omega) (by omega)]
      · rw [q2, Int.bmod_eq_of_le (by omega) (by omega)]
  rw [Int32.toInt_sub, Int32.toInt_mul, hd, e1]
  obtain rfl | rfl | rfl | rfl : p = 1 ∨ p = 2 ∨ p = 3 ∨ p = 4 := by omega
  all_goals
    rcases tdiv_k x.toInt _ with ⟨q1, q2⟩ | ⟨q1, q2⟩
    · rw [q2, Int.bmod_eq_of_le (n := x.toInt / _ * _) (by omega) (by omega), Int.bmod_eq_of_le (by omega) (by omega)]
      split <;> omega
    · rw [q2, Int.bmod_eq_of_le (n := -(-x.toInt / _) * _) (by omega) (by omega), Int.bmod_eq_of_le (by omega) (by omega)]
      split <;> omega
theorem i32_of {y : Int32} {k : Nat} (hk : k < 2147483648) (h : y.toInt = k) : y = nI k := Int32.toInt_inj.mp (by rw [h, nI_toInt hk])
theorem fm_model {x : Int32} {p : Nat} (h0 : 0 < p) (hp : p < 5) : ((x - x / nI p * nI p) + nI p) - ((x - x / nI p * nI p) + nI p) / nI p * nI p = nI (fmI x p) := by
  have e := tmod_i (x := x) h0 hp
  have e1 : (nI p).toInt = (p : Int) := nI_toInt (by omega)
  generalize x - x / nI p * nI p = r at *
  have hs : (r + nI p).toInt = r.toInt + p := by
    rw [Int32.toInt_add, e1]
    obtain rfl | rfl | rfl | rfl : p = 1 ∨ p = 2 ∨ p = 3 ∨ p = 4 := by omega
    all_goals
      split at e
      · rw [Int.bmod_eq_of_le (by omega) (by omega)]
      · rw [Int.bmod_eq_of_le (by omega) (by omega)]
  have hl := fmI_lt x h0
  refine i32_of (by omega) ?_
  rw [tmod_i h0 hp, hs, e]
  unfold fmI
  obtain rfl | rfl | rfl | rfl : p = 1 ∨ p = 2 ∨ p = 3 ∨ p = 4 := by omega
  all_goals
    split
    · split <;> omega
    · split <;> omega
theorem xor_neg (x : Int32) {p : Nat} (hp : p < 2147483648) : (0 ≤ (x ^^^ nI p)) = (0 ≤ x.toInt) := by
  apply propext
  rw [Int32.le_iff_toInt_le]
  have e : ∀ y : Int32, ((0 : Int32).toInt ≤ y.toInt) ↔ y.toBitVec.msb = false := by
    intro y
    show (0 : Int) ≤ y.toBitVec.toInt ↔ _
    rw [BitVec.msb_eq_toInt]
    simp
  rw [e, Int32.toBitVec_xor, BitVec.msb_xor]
  have h2 : (nI p).toBitVec.msb = false := (e (nI p)).mp (by rw [nI_toInt hp]; simp)
  rw [h2]
  have h3 := e x
  simp only [Bool.xor_false]
  exact h3.symm
theorem fm_class {x : Int32} {p : Nat} {M : m_M} (h0 : 0 < p) (hp : p < 5) : F_J9_floorMod_7cf53 x (nI p) M = some (nI (fmI x p), M) := by
  have e := tmod_i (x := x) h0 hp
  have e1 : (nI p).toInt = (p : Int) := nI_toInt (by omega)
  have hl := fmI_lt x h0
  unfold F_J9_floorMod_7cf53
  rw [x_nz_eq, if_neg (nI_ne0 h0 (by omega)), m_let_eq]
  generalize x - x / nI p * nI p = r at *
  simp only [xor_neg x (show p < 2147483648 by omega)]
  have hz : r = 0 ↔ r.toInt = 0 := ⟨fun h => by rw [h]; rfl, fun h => Int32.toInt_inj.mp (by rw [h]; rfl)⟩
  simp only [hz]
  have hs : (r + nI p).toInt = r.toInt + p := by
    rw [Int32.toInt_add, e1]
    obtain rfl | rfl | rfl | rfl : p = 1 ∨ p = 2 ∨ p = 3 ∨ p = 4 := by omega
    all_goals
      split at e
      · rw [Int.bmod_eq_of_le (by omega) (by omega)]
      · rw [Int.bmod_eq_of_le (by omega) (by omega)]
  unfold fmI at *
  obtain rfl | rfl | rfl | rfl : p = 1 ∨ p = 2 ∨ p = 3 ∨ p = 4 := by omega
  all_goals
    split
    · rename_i q
      rw [if_pos q] at e
      refine congrArg (fun z => some (z, M)) (i32_of ?_ ?_) <;> omega
    · rename_i q
      rw [if_neg q] at e
      split
      · refine congrArg (fun z => some (z, M)) (i32_of ?_ ?_) <;> omega
      · refine congrArg (fun z => some (z, M)) (i32_of ?_ ?_) <;> omega
