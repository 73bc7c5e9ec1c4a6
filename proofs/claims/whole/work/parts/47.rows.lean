/-! rows: a set of the worlds below n as sixteen longs -/
def Rw (n : Nat) (P : Nat → Bool) (f : Nat → Int64) : Prop := ∀ k, k < 16 → ∀ i, i < 64 → lb (f k) i = (decide (64 * k + i < n) && P (64 * k + i))
def cnt (P : Nat → Bool) : Nat → Nat
  | 0 => 0
  | n + 1 => cnt P n + (if P n then 1 else 0)
theorem cnt_le (P : Nat → Bool) : ∀ n, cnt P n ≤ n := by
  intro n
  induction n with
  | zero => exact Nat.le_refl _
  | succ n ih => show cnt P n + _ ≤ n + 1; split <;> omega
theorem cnt_add (P : Nat → Bool) (m : Nat) : ∀ n, cnt P (m + n) = cnt P m + cnt (fun w => P (m + w)) n := by
  intro n
  induction n with
  | zero => rfl
  | succ n ih => show cnt P (m + n) + _ = cnt P m + (cnt _ n + _); rw [ih]; exact Nat.add_assoc _ _ _
theorem cnt_cong {P Q : Nat → Bool} : ∀ {n : Nat}, (∀ w, w < n → P w = Q w) → cnt P n = cnt Q n := by
  intro n
  induction n with
  | zero => intro _; rfl
  | succ n ih =>
    intro h
    show cnt P n + (if P n then 1 else 0) = cnt Q n + (if Q n then 1 else 0)
    rw [ih (fun w hw => h w (by omega)), h n (by omega)]
theorem cnt_0 {P : Nat → Bool} : ∀ {n : Nat}, cnt P n = 0 ↔ ∀ w, w < n → P w = false := by
  intro n
  induction n with
  | zero => exact ⟨fun _ w hw => absurd hw (Nat.not_lt_zero _), fun _ => rfl⟩
  | succ n ih =>
    constructor
    · intro h w hw
      have h' : cnt P n + (if P n then 1 else 0) = 0 := h
      have h1 : cnt P n = 0 := by omega
      by_cases e : w = n
      · subst e
        cases hp : P w
        · rfl
        · rw [hp] at h'; simp at h'
      · exact ih.mp h1 w (by omega)
    · intro h
      show cnt P n + (if P n then 1 else 0) = 0
      rw [ih.mpr (fun w hw => h w (by omega)), h n (by omega)]
      rfl
theorem cnt_cut (P : Nat → Bool) (n : Nat) : ∀ m, cnt (fun w => decide (w < n) && P w) m = cnt P (min n m) := by
  intro m
  induction m with
  | zero => rw [Nat.min_zero]; rfl
  | succ m ih =>
    show cnt _ m + _ = _
    rw [ih]
    by_cases h : m < n
    · rw [Nat.min_eq_right (by omega), Nat.min_eq_right (by omega)]
      show _ = cnt P m + _
      simp [h]
    · rw [Nat.min_eq_left (by omega), Nat.min_eq_left (by omega)]
      simp [h]
theorem cnt_none (n : Nat) {P : Nat → Bool} (h : ∀ w, w < n → P w = false) : cnt P n = 0 := cnt_0.mpr h
theorem pc_cnt (x : Nat) : ∀ n, pc n x = cnt (fun i => x.testBit i) n := by
  intro n
  induction n generalizing x with
  | zero => rfl
  | succ n ih =>
    show x % 2 + pc n (x / 2) = _
    rw [ih (x / 2), Nat.add_comm n 1, cnt_add]
    have e : cnt (fun i => x.testBit i) 1 = x % 2 := by
      show 0 + (if x.testBit 0 then 1 else 0) = _
      rw [Nat.testBit_zero]
      rcases Nat.mod_two_eq_zero_or_one x with h | h <;> simp [h]
    rw [e]
    congr 1
    apply cnt_cong
    intro w _
    show (x / 2).testBit w = x.testBit (1 + w)
    rw [Nat.add_comm, Nat.testBit_succ]
theorem pc_lb (N : Nat) (a : Int64) : pc N a.toUInt64.toNat = cnt (lb a) N := by
  rw [pc_cnt]
  rfl
/-- the ones of so many longs -/
def sumL (f : Nat → Int64) : Nat → Nat
  | 0 => 0
  | k + 1 => sumL f k + cnt (lb (f k)) 64
theorem sumL_cnt {n : Nat} {P : Nat → Bool} {f : Nat → Int64} (h : Rw n P f) : ∀ k, k ≤ 16 → sumL f k = cnt P (min n (64 * k)) := by
  intro k
  induction k with
  | zero => intro _; rw [Nat.mul_zero, Nat.min_zero]; rfl
  | succ k ih =>
    intro hk
    show sumL f k + cnt (lb (f k)) 64 = _
    rw [ih (by omega), ← cnt_cut, ← cnt_cut, Nat.mul_succ, cnt_add (fun w => decide (w < n) && P w), cnt_cong (P := lb (f k)) (Q := fun i => decide (64 * k + i < n) && P (64 * k + i)) (fun i hi => h k (by omega) i hi)]
theorem sumL_all {n : Nat} {P : Nat → Bool} {f : Nat → Int64} (h : Rw n P f) (hn : n ≤ 1024) : sumL f 16 = cnt P n := by
  rw [sumL_cnt h 16 (Nat.le_refl _), Nat.min_eq_left (by omega)]
theorem sumL_lw {n : Nat} {P : Nat → Bool} {f : Nat → Int64} (h : Rw n P f) (hn : n ≤ 1024) : sumL f ((n + 63) / 64) = cnt P n := by
  rw [sumL_cnt h _ (by omega), Nat.min_eq_left (by omega)]
theorem Rw.ext {n : Nat} {P Q : Nat → Bool} {f g : Nat → Int64} (hf : Rw n P f) (hg : Rw n Q g) (h : ∀ w, w < n → P w = Q w) {k : Nat} (hk : k < 16) : f k = g k := by
  apply lb_ext
  intro i hi
  rw [hf k hk i hi, hg k hk i hi]
  by_cases e : 64 * k + i < n
  · rw [h _ e]
  · simp [e]
theorem Rw.cong {n : Nat} {P Q : Nat → Bool} {f : Nat → Int64} (hf : Rw n P f) (h : ∀ w, w < n → P w = Q w) : Rw n Q f := by
  intro k hk i hi
  rw [hf k hk i hi]
  by_cases e : 64 * k + i < n
  · rw [h _ e]
  · simp [e]
theorem Rw.of {n : Nat} {P : Nat → Bool} {f g : Nat → Int64} (hf : Rw n P f) (h : ∀ k, k < 16 → g k = f k) : Rw n P g := by
  intro k hk i hi
  rw [h k hk]
  exact hf k hk i hi
theorem Rw.and {n : Nat} {P Q : Nat → Bool} {f g : Nat → Int64} (hf : Rw n P f) (hg : Rw n Q g) : Rw n (fun w => P w && Q w) (fun k => f k &&& g k) := by
  intro k hk i hi
  show lb (f k &&& g k) i = _
  rw [lb_and, hf k hk i hi, hg k hk i hi]
  cases decide (64 * k + i < n) <;> simp
theorem Rw.or {n : Nat} {P Q : Nat → Bool} {f g : Nat → Int64} (hf : Rw n P f) (hg : Rw n Q g) : Rw n (fun w => P w || Q w) (fun k => f k ||| g k) := by
  intro k hk i hi
  show lb (f k ||| g k) i = _
  rw [lb_or, hf k hk i hi, hg k hk i hi]
  cases decide (64 * k + i < n) <;> simp
theorem Rw.drop {n : Nat} {P Q : Nat → Bool} {f g : Nat → Int64} (hf : Rw n P f) (hg : Rw n Q g) : Rw n (fun w => P w && !Q w) (fun k => f k &&& ~~~(g k)) := by
  intro k hk i hi
  show lb (f k &&& ~~~(g k)) i = _
  rw [lb_and, lb_not _ hi, hf k hk i hi, hg k hk i hi]
  cases decide (64 * k + i < n) <;> simp
theorem Rw.not {n : Nat} {P Q : Nat → Bool} {f g : Nat → Int64} (hf : Rw n P f) (hg : Rw n Q g) : Rw n (fun w => !P w && Q w) (fun k => ~~~(f k) &&& g k) := by
  intro k hk i hi
  show lb (~~~(f k) &&& g k) i = _
  rw [lb_and, lb_not _ hi, hf k hk i hi, hg k hk i hi]
  cases decide (64 * k + i < n) <;> simp
theorem Rw.zero (n : Nat) : Rw n (fun _ => false) (fun _ => 0) := by
  intro k _ i _
  show lb 0 i = _
  rw [lb_0]; simp
theorem Rw.at {n : Nat} {P : Nat → Bool} {f : Nat → Int64} (h : Rw n P f) {w : Nat} (hw : w < n) (hn : n ≤ 1024) : lb (f (w / 64)) (w % 64) = P w := by
  rw [h (w / 64) (by omega) (w % 64) (by omega), Nat.div_add_mod]
  simp [hw]
theorem Rw.beyond {n : Nat} {P : Nat → Bool} {f : Nat → Int64} (h : Rw n P f) {k : Nat} (hk : k < 16) (hl : (n + 63) / 64 ≤ k) : f k = 0 := by
  apply lb_ext
  intro i hi
  rw [h k hk i hi, lb_0]
  have : ¬ 64 * k + i < n := by omega
  simp [this]
theorem Rw.z {n : Nat} {P : Nat → Bool} {f : Nat → Int64} (h : Rw n P f) (hn : n ≤ 1024) : (∀ k, k < 16 → f k = 0) ↔ ∀ w, w < n → P w = false := by
  constructor
  · intro h0 w hw
    rw [← h.at hw hn, h0 _ (by omega), lb_0]
  · intro h0 k hk
    exact h.ext (Rw.zero n) h0 hk
theorem Rw.zl {n : Nat} {P : Nat → Bool} {f : Nat → Int64} (h : Rw n P f) (hn : n ≤ 1024) : (∀ k, k < (n + 63) / 64 → f k = 0) ↔ ∀ w, w < n → P w = false := by
  rw [← h.z hn]
  constructor
  · intro h0 k hk
    by_cases e : k < (n + 63) / 64
    · exact h0 k e
    · exact h.beyond hk (by omega)
  · intro h0 k hk; exact h0 k (by omega)
theorem Rw.eq {n : Nat} {P Q : Nat → Bool} {f g : Nat → Int64} (hf : Rw n P f) (hg : Rw n Q g) (hn : n ≤ 1024) : (∀ k, k < 16 → f k = g k) ↔ ∀ w, w < n → P w = Q w := by
  constructor
  · intro h w hw
    rw [← hf.at hw hn, ← hg.at hw hn, h _ (by omega)]
  · intro h k hk
    exact hf.ext hg h hk
theorem Rw.eql {n : Nat} {P Q : Nat → Bool} {f g : Nat → Int64} (hf : Rw n P f) (hg : Rw n Q g) (hn : n ≤ 1024) : (∀ k, k < (n + 63) / 64 → f k = g k) ↔ ∀ w, w < n → P w = Q w := by
  rw [← hf.eq hg hn]
  constructor
  · intro h0 k hk
    by_cases e : k < (n + 63) / 64
    · exact h0 k e
    · rw [hf.beyond hk (by omega), hg.beyond hk (by omega)]
  · intro h0 k hk; exact h0 k (by omega)
/-- all worlds, as the class has them and as the model has them -/
def wlL (n k : Nat) : Int64 := if 64 * k + 64 ≤ n then -1 else if 64 * k < n then ((1 : Int64) <<< ((nI (n - 64 * k)).toInt64 &&& 63)) - 1 else 0
theorem Rw.whole (n : Nat) : Rw n (fun _ => true) (wlL n) := by
  intro k hk i hi
  unfold wlL
  split
  · rw [lb_m1 hi]; simp; omega
  · split
    · rw [lb_low (by omega) hi]; simp; omega
    · rw [lb_0]; simp; omega
/-- a row whose bits are set one by one -/
theorem Rw.set {n : Nat} {P : Nat → Bool} {f : Nat → Int64} {m : Nat} (hf : Rw m P f) (hm : m < n) (hn : n ≤ 1024) (b : Bool) : Rw (m + 1) (fun w => if w = m then b else P w) (fun k => if k = m / 64 ∧ b = true then f k ||| ((1 : Int64) <<< ((nI (m % 64)).toInt64 &&& 63)) else f k) := by
  intro k hk i hi
  show lb (if k = m / 64 ∧ b = true then f k ||| ((1 : Int64) <<< ((nI (m % 64)).toInt64 &&& 63)) else f k) i = (decide (64 * k + i < m + 1) && (if 64 * k + i = m then b else P (64 * k + i)))
  by_cases hb : b = true
  · by_cases e : k = m / 64
    · rw [if_pos ⟨e, hb⟩, lb_or, hf k hk i hi, lb_one (Nat.mod_lt _ (by omega)) hi]
      by_cases h2 : i = m % 64
      · have h3 : 64 * k + i = m := by omega
        simp [h2, hb, h3]
        simp [show 64 * k + m % 64 = m by omega]
      · have h3 : 64 * k + i ≠ m := by omega
        have h4 : (64 * k + i < m + 1) = (64 * k + i < m) := by apply propext; omega
        simp [h2, h3, h4]
    · rw [if_neg (fun q => e q.1), hf k hk i hi]
      have h3 : 64 * k + i ≠ m := by omega
      have h4 : (64 * k + i < m + 1) = (64 * k + i < m) := by apply propext; omega
      simp [h3, h4]
  · rw [if_neg (fun q => hb q.2), hf k hk i hi]
    have hb' : b = false := by cases b <;> simp_all
    by_cases h3 : 64 * k + i = m
    · simp [h3, hb']
    · have h4 : (64 * k + i < m + 1) = (64 * k + i < m) := by apply propext; omega
      simp [h3, h4]
theorem Rw.up0 (P : Nat → Bool) : Rw 0 P (fun _ => 0) := by
  intro k _ i _
  show lb 0 i = _
  rw [lb_0]; simp
