/-! programs that end well: what they end with -/
def wq {α : Type} (o : Option (α × m_M)) (Q : α → m_M → Prop) : Prop := match o with
  | some r => Q r.1 r.2
  | none => False
theorem wq_some {α : Type} {v : α} {M : m_M} {Q : α → m_M → Prop} : wq (some (v, M)) Q = Q v M := rfl
theorem wq_none {α : Type} {Q : α → m_M → Prop} : wq none Q = False := rfl
theorem wq_bd {α β : Type} {o : Option (α × m_M)} {f : α → m_M → Option (β × m_M)} {Q : β → m_M → Prop} : wq (x_bd o f) Q = wq o (fun v M => wq (f v M) Q) := by
  cases o <;> rfl
theorem wq_cV {α β : Type} {kd : Nat} {M : m_M} {a : Nat} {o : Option (α × m_M)} {f : α → m_M → Option (β × m_M)} {Q : β → m_M → Prop} (h : m_K M a = kd) : wq (x_cV kd M a o f) Q = wq o (fun v M => wq (f v M) Q) := by
  unfold x_cV; rw [if_pos h, wq_bd]
theorem wq_le {α : Type} {o : Option (α × m_M)} {Q R : α → m_M → Prop} (h : wq o Q) (k : ∀ v M, Q v M → R v M) : wq o R := by
  cases o with
  | none => exact h.elim
  | some r => exact k _ _ h
theorem wq_ex {α : Type} {o : Option (α × m_M)} {Q : α → m_M → Prop} (h : wq o Q) : ∃ v M, o = some (v, M) ∧ Q v M := by
  cases o with
  | none => exact h.elim
  | some r => exact ⟨r.1, r.2, rfl, h⟩
theorem wq_of {α : Type} {o : Option (α × m_M)} {Q : α → m_M → Prop} {v : α} {M : m_M} (h : o = some (v, M)) (k : Q v M) : wq o Q := by rw [h]; exact k
theorem wq_is {α : Type} {o : Option (α × m_M)} {v : α} {M : m_M} (h : wq o (fun v' M' => v' = v ∧ M' = M)) : o = some (v, M) := by
  cases o with
  | none => exact h.elim
  | some r => rw [← h.1, ← h.2]
theorem m_let_e {α γ : Type} {v : α} {f : α → γ} {r : γ} (h : ∀ k, k = v → f k = r) : m_let v f = r := h v rfl
theorem m_let_P {α γ : Type} {v : α} {f : α → γ} (P : γ → Prop) (h : ∀ k, k = v → P (f k)) : P (m_let v f) := h v rfl
theorem m_let_w {α β : Type} {v : β} {f : β → Option (α × m_M)} {Q : α → m_M → Prop} (h : ∀ k, k = v → wq (f k) Q) : wq (m_let v f) Q := h v rfl
/-- a loop that counts up to N -/
theorem up_l {S : Type} (φ : Nat → Nat → S → Prop) (N : Nat) (Inv : Nat → S → Prop)
    (hs : ∀ n k s, k < N → Inv k s → (∀ t, Inv (k + 1) t → φ n (k + 1) t) → φ (n + 1) k s)
    (he : ∀ n s, Inv N s → φ (n + 1) N s) : ∀ d k n s, k + d = N → d < n → Inv k s → φ n k s := by
  intro d
  induction d with
  | zero =>
    intro k n s hk hn h
    cases n with
    | zero => omega
    | succ n =>
      have hk : k = N := by omega
      subst hk
      exact he n s h
  | succ d ih =>
    intro k n s hk hn h
    cases n with
    | zero => omega
    | succ n => exact hs n k s (by omega) h (fun t ht => ih (k + 1) n t (by omega) (by omega) ht)
/-- from 0, with all the fuel -/
theorem up_0 {S : Type} (φ : Nat → Nat → S → Prop) (N : Nat) (Inv : Nat → S → Prop) {s : S} (hN : N < 100000) (h0 : Inv 0 s)
    (hs : ∀ n k s, k < N → Inv k s → (∀ t, Inv (k + 1) t → φ n (k + 1) t) → φ (n + 1) k s)
    (he : ∀ n s, Inv N s → φ (n + 1) N s) : φ m_FU 0 s := up_l φ N Inv hs he N 0 m_FU s (by omega) (m_FU_lt hN) h0
/-- a loop that counts down from N to 0: k is what is left -/
theorem dn_l {S : Type} (φ : Nat → Nat → S → Prop) (Inv : Nat → S → Prop)
    (hs : ∀ n k s, Inv (k + 1) s → (∀ t, Inv k t → φ n k t) → φ (n + 1) (k + 1) s)
    (he : ∀ n s, Inv 0 s → φ (n + 1) 0 s) : ∀ k n s, k < n → Inv k s → φ n k s := by
  intro k
  induction k with
  | zero =>
    intro n s hn h
    cases n with
    | zero => omega
    | succ n => exact he n s h
  | succ k ih =>
    intro n s hn h
    cases n with
    | zero => omega
    | succ n => exact hs n k s h (fun t ht => ih n t (by omega) ht)
/-! numbers -/
theorem nI_sub' {a b : Nat} (h : b ≤ a) : nI a - nI b = nI (a - b) := by
  have e : nI a = nI (a - b) + nI b := by rw [nI_add]; congr 1; omega
  rw [e, Int32.add_sub_cancel]
theorem i32_div {a b : Nat} (ha : a < 2147483648) (hb : b < 2147483648) : nI a / nI b = nI (a / b) := by
  apply Int32.toInt_inj.mp
  have hd : a / b ≤ a := Nat.div_le_self a b
  rw [Int32.toInt_div, nI_toInt ha, nI_toInt hb, nI_toInt (by omega), ← Int.ofNat_tdiv]
  generalize a / b = q at *
  rw [Int.bmod_eq_of_le]
  · omega
  · omega
theorem i32_rem {a b : Nat} (ha : a < 2147483648) (hb : b < 2147483648) : nI a - nI a / nI b * nI b = nI (a % b) := by
  rw [i32_div ha hb, nI_mul, nI_sub' (Nat.div_mul_le_self a b)]
  congr 1
  have := Nat.div_add_mod a b
  rw [Nat.mul_comm] at this
  omega
theorem i32_rem2 (a b : Nat) : nI a - nI (a / b * b) = nI (a % b) := by
  rw [nI_sub' (Nat.div_mul_le_self a b)]
  congr 1
  have := Nat.div_add_mod a b
  rw [Nat.mul_comm] at this
  omega
theorem n_rem (a b : Nat) : a - a / b * b = a % b := by
  have := Nat.div_add_mod a b
  rw [Nat.mul_comm] at this
  omega
theorem nI_neg {n : Nat} (h : n < 2147483648) : (nI n < 0) = False := eq_false (nI_pos h)
theorem nI_ge0 {n : Nat} (h : n < 2147483648) : (0 ≤ nI n) = True := eq_true (nI_pos' h)
theorem t_lt {a b : Nat} (h : a < b) : (a < b) = True := eq_true h
theorem f_lt {a b : Nat} (h : b ≤ a) : (a < b) = False := eq_false (Nat.not_lt.mpr h)
theorem t_le {a b : Nat} (h : a ≤ b) : (a ≤ b) = True := eq_true h
theorem f_le {a b : Nat} (h : b < a) : (a ≤ b) = False := eq_false (Nat.not_le.mpr h)
theorem t_eq {a b : Nat} (h : a = b) : (a = b) = True := eq_true h
theorem f_eq {a b : Nat} (h : a ≠ b) : (a = b) = False := eq_false h
/-- numerals -/
theorem nlit : (0 : Int32) = nI 0 ∧ (1 : Int32) = nI 1 ∧ (2 : Int32) = nI 2 ∧ (3 : Int32) = nI 3 ∧ (4 : Int32) = nI 4 ∧ (5 : Int32) = nI 5 ∧ (6 : Int32) = nI 6 ∧ (7 : Int32) = nI 7 ∧ (8 : Int32) = nI 8 ∧ (9 : Int32) = nI 9 ∧ (10 : Int32) = nI 10 ∧ (11 : Int32) = nI 11 ∧ (12 : Int32) = nI 12 ∧ (13 : Int32) = nI 13 ∧ (14 : Int32) = nI 14 ∧ (15 : Int32) = nI 15 ∧ (16 : Int32) = nI 16 ∧ (17 : Int32) = nI 17 ∧ (18 : Int32) = nI 18 ∧ (19 : Int32) = nI 19 ∧ (20 : Int32) = nI 20 ∧ (21 : Int32) = nI 21 ∧ (22 : Int32) = nI 22 ∧ (23 : Int32) = nI 23 ∧ (24 : Int32) = nI 24 ∧ (25 : Int32) = nI 25 ∧ (26 : Int32) = nI 26 ∧ (27 : Int32) = nI 27 ∧ (28 : Int32) = nI 28 ∧ (29 : Int32) = nI 29 ∧ (30 : Int32) = nI 30 ∧ (31 : Int32) = nI 31 ∧ (32 : Int32) = nI 32 ∧ (33 : Int32) = nI 33 ∧ (34 : Int32) = nI 34 ∧ (35 : Int32) = nI 35 ∧ (36 : Int32) = nI 36 ∧ (37 : Int32) = nI 37 ∧ (38 : Int32) = nI 38 ∧ (39 : Int32) = nI 39 ∧ (40 : Int32) = nI 40 ∧ (41 : Int32) = nI 41 ∧ (42 : Int32) = nI 42 ∧ (43 : Int32) = nI 43 ∧ (44 : Int32) = nI 44 ∧ (45 : Int32) = nI 45 ∧ (46 : Int32) = nI 46 ∧ (47 : Int32) = nI 47 ∧ (48 : Int32) = nI 48 ∧ (49 : Int32) = nI 49 ∧ (50 : Int32) = nI 50 ∧ (51 : Int32) = nI 51 ∧ (52 : Int32) = nI 52 ∧ (53 : Int32) = nI 53 ∧ (54 : Int32) = nI 54 ∧ (55 : Int32) = nI 55 ∧ (56 : Int32) = nI 56 ∧ (57 : Int32) = nI 57 ∧ (58 : Int32) = nI 58 ∧ (59 : Int32) = nI 59 ∧ (60 : Int32) = nI 60 ∧ (61 : Int32) = nI 61 ∧ (62 : Int32) = nI 62 ∧ (63 : Int32) = nI 63 ∧ (64 : Int32) = nI 64 ∧ (96 : Int32) = nI 96 ∧ (97 : Int32) = nI 97 ∧ (99 : Int32) = nI 99 ∧ (100 : Int32) = nI 100 ∧ (101 : Int32) = nI 101 ∧ (112 : Int32) = nI 112 ∧ (122 : Int32) = nI 122 ∧ (126 : Int32) = nI 126 ∧ (127 : Int32) = nI 127 ∧ (128 : Int32) = nI 128 ∧ (192 : Int32) = nI 192 ∧ (255 : Int32) = nI 255 ∧ (400 : Int32) = nI 400 ∧ (512 : Int32) = nI 512 ∧ (800 : Int32) = nI 800 ∧ (999 : Int32) = nI 999 ∧ (1000 : Int32) = nI 1000 ∧ (1024 : Int32) = nI 1024 ∧ (2000 : Int32) = nI 2000 ∧ (9999 : Int32) = nI 9999 ∧ (65536 : Int32) = nI 65536 := by
  refine ⟨?_, ?_, ?_, ?_, ?_, ?_, ?_, ?_, ?_, ?_, ?_, ?_, ?_, ?_, ?_, ?_, ?_, ?_, ?_, ?_, ?_, ?_, ?_, ?_, ?_, ?_, ?_, ?_, ?_, ?_, ?_, ?_, ?_, ?_, ?_, ?_, ?_, ?_, ?_, ?_, ?_, ?_, ?_, ?_, ?_, ?_, ?_, ?_, ?_, ?_, ?_, ?_, ?_, ?_, ?_, ?_, ?_, ?_, ?_, ?_, ?_, ?_, ?_, ?_, ?_, ?_, ?_, ?_, ?_, ?_, ?_, ?_, ?_, ?_, ?_, ?_, ?_, ?_, ?_, ?_, ?_, ?_, ?_, ?_, ?_, ?_⟩ <;> rfl
theorem lg_cmp_n (x y : Int64) : (lg_cmp x y = nI 0) = (x = y) := propext (lg_cmp_eq x y)
theorem negI : ∀ m, m < 1025 → 0 < m → -nI m < 0 := by decide +kernel
/-- none -/
def NO : Int32 := -1
theorem no_1 : (-1 : Int32) = NO := rfl
theorem no_nat {n : Nat} (h : n < 2147483648) : (NO = nI n) = False := eq_false (fun e => by
  have h2 := nI_pos' h
  rw [← e] at h2
  exact absurd h2 (by decide))
theorem nat_no {n : Nat} (h : n < 2147483648) : (nI n = NO) = False := eq_false (fun e => by
  have h2 := no_nat h
  rw [← e] at h2
  simp at h2)
theorem no_ge {n : Nat} (h : n < 2147483648) : (nI n ≤ NO) = False := eq_false (fun e => by
  have h2 := nI_pos' h
  have h3 := Int32.le_trans h2 e
  exact absurd h3 (by decide))
theorem no_le {n : Nat} (h : n < 2147483648) : (NO ≤ nI n) = True := eq_true (by
  have h2 := nI_pos' h
  exact Int32.le_trans (by decide) h2)
theorem no_lt {n : Nat} (h : n < 2147483648) : (NO < nI n) = True := eq_true (by
  have h2 := nI_pos' h
  exact Int32.lt_of_lt_of_le (by decide) h2)
theorem no_gt {n : Nat} (h : n < 2147483648) : (nI n < NO) = False := eq_false (fun e => by
  have h2 := nI_pos' h
  have h3 := Int32.lt_of_le_of_lt h2 e
  exact absurd h3 (by decide))
theorem no_dec {n : Nat} (h : 0 < n) : nI n + NO = nI (n - 1) := by
  obtain ⟨m, rfl⟩ : ∃ m, n = m + 1 := ⟨n - 1, by omega⟩
  rw [nI_succ, Int32.add_assoc, show (1 : Int32) + NO = 0 from by decide, Int32.add_zero]
  rfl
theorem no_no : (NO = NO) = True := eq_true rfl
/-- an int is a number, or below 0 -/
theorem i_cases (x : Int32) : (∃ k : Nat, k < 2147483648 ∧ x = nI k) ∨ x < 0 := by
  by_cases h : x < 0
  · exact .inr h
  · exact .inl (nI_of h)
theorem neg_le {x : Int32} (h : x < 0) {n : Nat} (hn : n < 2147483648) : (x ≤ nI n) = True := eq_true (Int32.le_of_lt (Int32.lt_of_lt_of_le h (nI_pos' hn)))
theorem neg_lt {x : Int32} (h : x < 0) {n : Nat} (hn : n < 2147483648) : (x < nI n) = True := eq_true (Int32.lt_of_lt_of_le h (nI_pos' hn))
theorem neg_ge {x : Int32} (h : x < 0) {n : Nat} (hn : n < 2147483648) : (nI n ≤ x) = False := eq_false (fun e => Int32.lt_irrefl (Int32.lt_of_lt_of_le (Int32.lt_of_lt_of_le h (nI_pos' hn)) e))
theorem neg_gt {x : Int32} (h : x < 0) {n : Nat} (hn : n < 2147483648) : (nI n < x) = False := eq_false (fun e => by
  have := neg_ge h hn
  rw [eq_true (Int32.le_of_lt e)] at this
  simp at this)
theorem neg_eq {x : Int32} (h : x < 0) {n : Nat} (hn : n < 2147483648) : (x = nI n) = False := eq_false (fun e => by
  rw [e] at h
  exact nI_pos hn h)
theorem lb_ext0 {x y : Int64} (h : ∀ i, i < 64 → x.toBitVec.getLsbD i = y.toBitVec.getLsbD i) : x = y := by
  apply Int64.toBitVec_inj.mp
  apply BitVec.eq_of_getLsbD_eq
  intro i hi
  exact h i hi
theorem l_xor (x : Int64) : x ^^^ (-1) = ~~~x := by
  apply lb_ext0
  intro i hi
  show (x ^^^ (-1)).toBitVec.getLsbD i = (~~~x).toBitVec.getLsbD i
  rw [Int64.toBitVec_xor, Int64.toBitVec_not, BitVec.getLsbD_xor, BitVec.getLsbD_not, show (-1 : Int64).toBitVec = BitVec.allOnes 64 from by decide, BitVec.getLsbD_allOnes]
  simp [hi]
/-! bits of longs -/
def lb (x : Int64) (i : Nat) : Bool := x.toBitVec.getLsbD i
theorem lb_ext {x y : Int64} (h : ∀ i, i < 64 → lb x i = lb y i) : x = y := by
  apply Int64.toBitVec_inj.mp
  apply BitVec.eq_of_getLsbD_eq
  intro i hi
  exact h i hi
theorem lb_and (x y : Int64) (i : Nat) : lb (x &&& y) i = (lb x i && lb y i) := by simp [lb]
theorem lb_or (x y : Int64) (i : Nat) : lb (x ||| y) i = (lb x i || lb y i) := by simp [lb]
theorem lb_not (x : Int64) {i : Nat} (h : i < 64) : lb (~~~x) i = !lb x i := by simp [lb, h]
theorem lb_0 (i : Nat) : lb 0 i = false := by simp [lb]
theorem lb_m1 {i : Nat} (h : i < 64) : lb (-1) i = true := by
  show (-1#64).getLsbD i = true
  rw [show (-1#64) = BitVec.allOnes 64 from by decide, BitVec.getLsbD_allOnes]
  simp [h]
theorem lb_eq0 {x : Int64} : x = 0 ↔ ∀ i, i < 64 → lb x i = false := by
  constructor
  · intro h i _; rw [h, lb_0]
  · intro h; apply lb_ext; intro i hi; rw [h i hi, lb_0]
theorem shl_k : ∀ j, j < 64 → ((nI j).toInt64 &&& 63) = (lN j) := by decide +kernel
theorem lb_1s : ∀ j, j < 64 → ∀ i, i < 64 → lb ((1 : Int64) <<< (lN j)) i = decide (i = j) := by decide +kernel
theorem lb_one {j i : Nat} (hj : j < 64) (hi : i < 64) : lb ((1 : Int64) <<< ((nI j).toInt64 &&& 63)) i = decide (i = j) := by
  rw [shl_k j hj, lb_1s j hj i hi]
theorem lb_low1 : ∀ j, j < 64 → ∀ i, i < 64 → lb (((1 : Int64) <<< (lN j)) - 1) i = decide (i < j) := by decide +kernel
theorem lb_low {j i : Nat} (hj : j < 64) (hi : i < 64) : lb (((1 : Int64) <<< ((nI j).toInt64 &&& 63)) - 1) i = decide (i < j) := by
  rw [shl_k j hj, lb_low1 j hj i hi]
theorem lb_shr (x : Int64) {j : Nat} (hj : j < 64) : ((x >>> ((nI j).toInt64 &&& 63)) &&& (1 : Int64)) = if lb x j then 1 else 0 := by
  rw [shl_k j hj]
  apply lb_ext
  intro i hi
  rw [lb_and]
  have e : lb (1 : Int64) i = decide (i = 0) := by
    have := lb_1s 0 (by omega) i hi
    rw [show (1 : Int64) <<< lN 0 = 1 from by decide] at this
    exact this
  rw [e]
  by_cases h0 : i = 0
  · subst h0
    have e2 : lb (x >>> lN j) 0 = lb x j := by
      show (x >>> lN j).toBitVec.getLsbD 0 = _
      rw [Int64.toBitVec_shiftRight]
      have e3 : (lN j).toBitVec.smod 64 = BitVec.ofNat 64 j := by
        revert j; decide +kernel
      rw [e3]
      show (BitVec.sshiftRight x.toBitVec (BitVec.ofNat 64 j).toNat).getLsbD 0 = _
      rw [BitVec.getLsbD_sshiftRight]
      simp [lb, Nat.mod_eq_of_lt (show j < 2 ^ 64 by omega), hj]
    rw [e2]
    cases lb x j <;> simp [lb_0, lb] 
  · cases lb x j <;> simp [h0, lb_0, e]
/-! the ints of a memory replaced -/
abbrev IA : Type := Nat → Nat → Int32
def m_wA (M : m_M) (A : IA) : m_M := (M.1, A, M.2.2)
section WA
variable {M : m_M} {A : IA}
theorem wA_I : m_I (m_wA M A) = A := Eq.trans rfl rfl
theorem wA_L : m_L (m_wA M A) = m_L M := Eq.trans rfl rfl
theorem wA_R : m_R (m_wA M A) = m_R M := Eq.trans rfl rfl
theorem wA_K : m_K (m_wA M A) = m_K M := Eq.trans rfl rfl
theorem wA_n : m_len (m_wA M A) = m_len M := Eq.trans rfl rfl
theorem wA_N : m_N (m_wA M A) = m_N M := Eq.trans rfl rfl
theorem wA_G : G (m_wA M A) = G M := Eq.trans rfl rfl
theorem wA_s {a k : Nat} {v : Int32} : m_sI (m_wA M A) a k v = m_wA M (m_up A a k v) := Eq.trans rfl rfl
theorem wA_0 : m_wA M (m_I M) = M := Eq.trans rfl rfl
theorem wA_w {B : IA} : m_wA (m_wA M A) B = m_wA M B := Eq.trans rfl rfl
end WA
theorem up_at (A : IA) (a k : Nat) (v : Int32) (b j : Nat) : m_up A a k v b j = if b = a ∧ j = k then v else A b j := Eq.trans rfl rfl
