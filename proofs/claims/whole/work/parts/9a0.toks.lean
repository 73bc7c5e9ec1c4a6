/-! tokens of the tape -/
def isBl (c : Nat) : Bool := decide (c = 10) || decide (c = 32)
def isLt (c : Nat) : Bool := decide (97 ≤ c) && decide (c ≤ 122)
def isDg (c : Nat) : Bool := decide (48 ≤ c) && decide (c ≤ 57)
def isSg (c : Nat) : Bool := (decide (40 ≤ c) && decide (c ≤ 43)) || decide (c = 45) || (decide (59 ≤ c) && decide (c ≤ 61))
/-- the first place from q on, of d, where P does not hold -/
def rnW (P : Nat → Bool) (T : Nat → Nat) : Nat → Nat → Nat
  | 0, q => q
  | d + 1, q => if P (T q) then rnW P T d (q + 1) else q
def pkN (T : Nat → Nat) (s : Nat) : Nat → Nat
  | 0 => 0
  | k + 1 => pkN T s k * 27 + (T (s + k) - 96)
def nmN (T : Nat → Nat) (s : Nat) : Nat → Nat
  | 0 => 0
  | k + 1 => nmN T s k * 10 + (T (s + k) - 48)
/-- start, behind, kind (0 end, 1 none, 2 word, 3 number, 4 sign), word, number -/
abbrev Tok : Type := Nat × Nat × Nat × Int64 × Nat
def tokF (T : Nat → Nat) (n s : Nat) : Tok :=
  if s < n then
    if isLt (T s) then (s, rnW isLt T (n - s) s, if rnW isLt T (n - s) s - s ≤ 8 then 2 else 1, lN (pkN T s (rnW isLt T (n - s) s - s)), 0)
    else if isDg (T s) then (s, rnW isDg T (n - s) s, if rnW isDg T (n - s) s - s ≤ 4 then 3 else 1, 0, nmN T s (rnW isDg T (n - s) s - s))
    else (s, s + 1, if isSg (T s) then 4 else 1, 0, 0)
  else (s, s, 0, 0, 0)
def tokAt (T : Nat → Nat) (n q : Nat) : Tok := tokF T n (rnW isBl T (n - q) q)
/-- a tape of n signs -/
def TX (T : Nat → Nat) (n : Nat) (A : Nat → Int32) : Prop := ∀ j, j < n → A j = nI (T j) ∧ (T j = 10 ∨ (32 ≤ T j ∧ T j ≤ 126))
section TOKS
variable {T : Nat → Nat} {n : Nat}
theorem rnW_le {P : Nat → Bool} : ∀ (d q : Nat), q ≤ rnW P T d q ∧ rnW P T d q ≤ q + d := by
  intro d
  induction d with
  | zero => intro q; exact ⟨Nat.le_refl _, Nat.le_refl _⟩
  | succ d ih =>
    intro q
    rw [rnW]
    split
    · have := ih (q + 1)
      omega
    · omega
theorem rnW_in {P : Nat → Bool} : ∀ (d q j : Nat), q ≤ j → j < rnW P T d q → P (T j) = true := by
  intro d
  induction d with
  | zero => intro q j h1 h2; rw [rnW] at h2; omega
  | succ d ih =>
    intro q j h1 h2
    rw [rnW] at h2
    split at h2
    · by_cases z : j = q
      · rw [z]; assumption
      · exact ih (q + 1) j (by omega) h2
    · omega
theorem rnW_s {P : Nat → Bool} {d q : Nat} (hd : 0 < d) (hp : P (T q) = true) : rnW P T d q = rnW P T (d - 1) (q + 1) := by
  obtain ⟨d, rfl⟩ : ∃ d', d = d' + 1 := ⟨d - 1, by omega⟩
  rw [rnW, if_pos hp]
  rfl
theorem rnW_n {P : Nat → Bool} {d q : Nat} (hp : ¬ P (T q) = true) : rnW P T d q = q := by
  cases d with
  | zero => rfl
  | succ d => rw [rnW, if_neg hp]
theorem rnW_0 {P : Nat → Bool} {q : Nat} : rnW P T 0 q = q := rfl
theorem nmN_lt : ∀ (k s : Nat), (∀ j, j < k → isDg (T (s + j)) = true) → nmN T s k < 10 ^ k := by
  intro k
  induction k with
  | zero => intro s _; exact Nat.one_pos
  | succ k ih =>
    intro s h
    have h1 := ih s (fun j hj => h j (by omega))
    have h2 := h k (by omega)
    unfold isDg at h2
    rw [Bool.and_eq_true, decide_eq_true_eq, decide_eq_true_eq] at h2
    rw [nmN, Nat.pow_succ]
    omega
theorem tokF_start {s : Nat} : (tokF T n s).1 = s := by
  unfold tokF
  split
  · split
    · rfl
    · split <;> rfl
  · rfl
/-- what is known of a token -/
theorem tok_ok (q : Nat) (hq : q ≤ n) : q ≤ (tokAt T n q).1 ∧ (tokAt T n q).1 ≤ n ∧ (tokAt T n q).1 ≤ (tokAt T n q).2.1 ∧ (tokAt T n q).2.1 ≤ n ∧ ((tokAt T n q).2.2.1 = 0 ∨ (tokAt T n q).1 < (tokAt T n q).2.1) ∧ (tokAt T n q).2.2.1 ≤ 4 ∧ ((tokAt T n q).2.2.1 = 3 → (tokAt T n q).2.2.2.2 < 10000) ∧ ((tokAt T n q).2.2.1 ≠ 0 → (tokAt T n q).1 < n) := by
  have h1 := rnW_le (P := isBl) (T := T) (n - q) q
  unfold tokAt
  generalize rnW isBl T (n - q) q = s at h1 ⊢
  have h2 := rnW_le (P := isLt) (T := T) (n - s) s
  have h3 := rnW_le (P := isDg) (T := T) (n - s) s
  unfold tokF
  by_cases a : s < n
  · rw [if_pos a]
    by_cases b : isLt (T s) = true
    · rw [if_pos b]
      have h4 := rnW_le (P := isLt) (T := T) (n - s - 1) (s + 1)
      rw [← rnW_s (by omega) b] at h4
      dsimp only
      refine ⟨h1.1, by omega, by omega, by omega, .inr (by omega), ?_, fun h => ?_, fun _ => a⟩
      · split <;> omega
      · split at h <;> omega
    · rw [if_neg b]
      by_cases c : isDg (T s) = true
      · rw [if_pos c]
        have h4 := rnW_le (P := isDg) (T := T) (n - s - 1) (s + 1)
        rw [← rnW_s (by omega) c] at h4
        dsimp only
        refine ⟨h1.1, by omega, by omega, by omega, .inr (by omega), ?_, fun h => ?_, fun _ => a⟩
        · split <;> omega
        · have h5 : rnW isDg T (n - s) s - s ≤ 4 := by
            split at h
            · assumption
            · omega
          have h6 := nmN_lt (T := T) (rnW isDg T (n - s) s - s) s (fun j hj => rnW_in (n - s) s (s + j) (by omega) (by omega))
          have h7 : 10 ^ (rnW isDg T (n - s) s - s) ≤ 10 ^ 4 := Nat.pow_le_pow_right (by omega) h5
          omega
      · rw [if_neg c]
        dsimp only
        refine ⟨h1.1, by omega, by omega, by omega, .inr (by omega), ?_, fun h => ?_, fun _ => a⟩
        · split <;> omega
        · split at h <;> omega
  · rw [if_neg a]
    dsimp only
    exact ⟨h1.1, by omega, by omega, by omega, .inl rfl, by omega, fun h => by omega, fun h => absurd rfl h⟩
theorem TX.lt {A : Nat → Int32} (h : TX T n A) {j : Nat} (hj : j < n) : A j = nI (T j) ∧ T j < 127 := by
  obtain ⟨h1, h2⟩ := h j hj
  exact ⟨h1, by omega⟩
end TOKS
