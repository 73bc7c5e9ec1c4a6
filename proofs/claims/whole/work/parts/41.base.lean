/-! THE PURE PART. Base: what is read of a memory that was written; rows of programs when their checks hold; loops. -/
theorem mI_sI (M : m_M) (a k : Nat) (v : Int32) (b j : Nat) : m_I (m_sI M a k v) b j = if b = a ∧ j = k then v else m_I M b j := rfl
theorem mI_sL (M : m_M) (a k : Nat) (v : Int64) : m_I (m_sL M a k v) = m_I M := rfl
theorem mI_sR (M : m_M) (a k : Nat) (v : Option Nat) : m_I (m_sR M a k v) = m_I M := rfl
theorem mI_wI (M : m_M) (a : Nat) (f : Nat → Int32) (b j : Nat) : m_I (m_wI M a f) b j = if b = a then f j else m_I M b j := rfl
theorem mI_wL (M : m_M) (a : Nat) (f : Nat → Int64) : m_I (m_wL M a f) = m_I M := rfl
theorem mL_sI (M : m_M) (a k : Nat) (v : Int32) : m_L (m_sI M a k v) = m_L M := rfl
theorem mL_sL (M : m_M) (a k : Nat) (v : Int64) (b j : Nat) : m_L (m_sL M a k v) b j = if b = a ∧ j = k then v else m_L M b j := rfl
theorem mL_sR (M : m_M) (a k : Nat) (v : Option Nat) : m_L (m_sR M a k v) = m_L M := rfl
theorem mL_wI (M : m_M) (a : Nat) (f : Nat → Int32) : m_L (m_wI M a f) = m_L M := rfl
theorem mL_wL (M : m_M) (a : Nat) (f : Nat → Int64) (b j : Nat) : m_L (m_wL M a f) b j = if b = a then f j else m_L M b j := rfl
theorem mR_sI (M : m_M) (a k : Nat) (v : Int32) : m_R (m_sI M a k v) = m_R M := rfl
theorem mR_sL (M : m_M) (a k : Nat) (v : Int64) : m_R (m_sL M a k v) = m_R M := rfl
theorem mR_sR (M : m_M) (a k : Nat) (v : Option Nat) (b j : Nat) : m_R (m_sR M a k v) b j = if b = a ∧ j = k then v else m_R M b j := rfl
theorem mR_wI (M : m_M) (a : Nat) (f : Nat → Int32) : m_R (m_wI M a f) = m_R M := rfl
theorem mR_wL (M : m_M) (a : Nat) (f : Nat → Int64) : m_R (m_wL M a f) = m_R M := rfl
theorem mK_sI (M : m_M) (a k : Nat) (v : Int32) : m_K (m_sI M a k v) = m_K M := rfl
theorem mK_sL (M : m_M) (a k : Nat) (v : Int64) : m_K (m_sL M a k v) = m_K M := rfl
theorem mK_sR (M : m_M) (a k : Nat) (v : Option Nat) : m_K (m_sR M a k v) = m_K M := rfl
theorem mK_wI (M : m_M) (a : Nat) (f : Nat → Int32) : m_K (m_wI M a f) = m_K M := rfl
theorem mK_wL (M : m_M) (a : Nat) (f : Nat → Int64) : m_K (m_wL M a f) = m_K M := rfl
theorem mn_sI (M : m_M) (a k : Nat) (v : Int32) : m_len (m_sI M a k v) = m_len M := rfl
theorem mn_sL (M : m_M) (a k : Nat) (v : Int64) : m_len (m_sL M a k v) = m_len M := rfl
theorem mn_sR (M : m_M) (a k : Nat) (v : Option Nat) : m_len (m_sR M a k v) = m_len M := rfl
theorem mn_wI (M : m_M) (a : Nat) (f : Nat → Int32) : m_len (m_wI M a f) = m_len M := rfl
theorem mn_wL (M : m_M) (a : Nat) (f : Nat → Int64) : m_len (m_wL M a f) = m_len M := rfl
theorem mN_sI (M : m_M) (a k : Nat) (v : Int32) : m_N (m_sI M a k v) = m_N M := rfl
theorem mN_sL (M : m_M) (a k : Nat) (v : Int64) : m_N (m_sL M a k v) = m_N M := rfl
theorem mN_sR (M : m_M) (a k : Nat) (v : Option Nat) : m_N (m_sR M a k v) = m_N M := rfl
theorem mN_wI (M : m_M) (a : Nat) (f : Nat → Int32) : m_N (m_wI M a f) = m_N M := rfl
theorem mN_wL (M : m_M) (a : Nat) (f : Nat → Int64) : m_N (m_wL M a f) = m_N M := rfl
theorem m_ext {M M' : m_M} (h1 : M.1 = M'.1) (h2 : ∀ b j, m_I M b j = m_I M' b j) (h3 : ∀ b j, m_L M b j = m_L M' b j) (h4 : ∀ b j, m_R M b j = m_R M' b j) : M = M' := by
  obtain ⟨a, b, c, d⟩ := M
  obtain ⟨a', b', c', d'⟩ := M'
  cases h1
  have e2 : b = b' := by funext x y; exact h2 x y
  have e3 : c = c' := by funext x y; exact h3 x y
  have e4 : d = d' := by funext x y; exact h4 x y
  rw [e2, e3, e4]
theorem m_sI_w (M : m_M) (a k : Nat) (v : Int32) : m_sI M a k v = m_wI M a (fun j => if j = k then v else m_I M a j) := by
  refine m_ext rfl (fun b j => ?_) (fun b j => rfl) (fun b j => rfl)
  rw [mI_sI, mI_wI]
  by_cases h : b = a
  · subst h; by_cases h2 : j = k <;> simp [h2]
  · simp [h]
theorem m_sL_w (M : m_M) (a k : Nat) (v : Int64) : m_sL M a k v = m_wL M a (fun j => if j = k then v else m_L M a j) := by
  refine m_ext rfl (fun b j => rfl) (fun b j => ?_) (fun b j => rfl)
  rw [mL_sL, mL_wL]
  by_cases h : b = a
  · subst h; by_cases h2 : j = k <;> simp [h2]
  · simp [h]
theorem m_wI_wI (M : m_M) (a : Nat) (f g : Nat → Int32) : m_wI (m_wI M a f) a g = m_wI M a g := by
  refine m_ext rfl (fun b j => ?_) (fun b j => rfl) (fun b j => rfl)
  simp only [mI_wI]; by_cases h : b = a <;> simp [h]
theorem m_wL_wL (M : m_M) (a : Nat) (f g : Nat → Int64) : m_wL (m_wL M a f) a g = m_wL M a g := by
  refine m_ext rfl (fun b j => rfl) (fun b j => ?_) (fun b j => rfl)
  simp only [mL_wL]; by_cases h : b = a <;> simp [h]
theorem m_wI_id (M : m_M) (a : Nat) : m_wI M a (m_I M a) = M := by
  refine m_ext rfl (fun b j => ?_) (fun b j => rfl) (fun b j => rfl)
  simp only [mI_wI]; by_cases h : b = a <;> simp [h]
theorem m_wL_id (M : m_M) (a : Nat) : m_wL M a (m_L M a) = M := by
  refine m_ext rfl (fun b j => rfl) (fun b j => ?_) (fun b j => rfl)
  simp only [mL_wL]; by_cases h : b = a <;> simp [h]
/-! a program's step, its checks given -/
section S_OK
variable {β : Type} {kd : Nat} {M : m_M} {a q : Nat}
theorem x_gI_ok {f : Int32 → Option β} (h : m_K M a = kd) : x_gI kd M a q f = f (m_I M a q) := by unfold x_gI; rw [if_pos h]
theorem x_gL_ok {f : Int64 → Option β} (h : m_K M a = kd) : x_gL kd M a q f = f (m_L M a q) := by unfold x_gL; rw [if_pos h]
theorem x_gN_ok {f : Nat → Option β} {r : Nat} (h : m_K M a = kd) (h2 : m_R M a q = some r) : x_gN kd M a q f = f r := by unfold x_gN; rw [if_pos h, h2]
theorem x_gO_ok {f : Option Nat → Option β} (h : m_K M a = kd) : x_gO kd M a q f = f (m_R M a q) := by unfold x_gO; rw [if_pos h]
theorem x_pI_ok {f : m_M → Option β} {v : Int32} (h : m_K M a = kd) : x_pI kd M a q v f = f (m_sI M a q v) := by unfold x_pI; rw [if_pos h]
theorem x_pL_ok {f : m_M → Option β} {v : Int64} (h : m_K M a = kd) : x_pL kd M a q v f = f (m_sL M a q v) := by unfold x_pL; rw [if_pos h]
theorem x_pR_ok {f : m_M → Option β} {v : Option Nat} (h : m_K M a = kd) : x_pR kd M a q v f = f (m_sR M a q v) := by unfold x_pR; rw [if_pos h]
theorem nI_cl {n : Nat} (h : n < 2147483648) : (nI n).toNatClampNeg = n := nI_clamp h
theorem x_aI_ok {f : Int32 → Option β} {n : Nat} (h : m_K M a = kd) (h2 : n < m_len M a) (h3 : n < 2147483648) : x_aI kd M a (nI n) f = f (m_I M a n) := by
  unfold x_aI; rw [nI_cl h3, if_pos ⟨h, nI_pos' h3, h2⟩]
theorem x_aL_ok {f : Int64 → Option β} {n : Nat} (h : m_K M a = 13) (h2 : n < m_len M a) (h3 : n < 2147483648) : x_aL M a (nI n) f = f (m_L M a n) := by
  unfold x_aL; rw [nI_cl h3, if_pos ⟨h, nI_pos' h3, h2⟩]
theorem x_aN_ok {f : Nat → Option β} {n r : Nat} (h : m_K M a = kd) (h2 : n < m_len M a) (h3 : n < 2147483648) (h4 : m_R M a n = some r) : x_aN kd M a (nI n) f = f r := by
  unfold x_aN; rw [nI_cl h3, if_pos ⟨h, nI_pos' h3, h2⟩, h4]
theorem x_aO_ok {f : Option Nat → Option β} {n : Nat} (h : m_K M a = kd) (h2 : n < m_len M a) (h3 : n < 2147483648) : x_aO kd M a (nI n) f = f (m_R M a n) := by
  unfold x_aO; rw [nI_cl h3, if_pos ⟨h, nI_pos' h3, h2⟩]
theorem x_sI_ok {f : m_M → Option β} {n : Nat} {v : Int32} (h : m_K M a = kd) (h2 : n < m_len M a) (h3 : n < 2147483648) : x_sI kd M a (nI n) v f = f (m_sI M a n v) := by
  unfold x_sI; rw [nI_cl h3, if_pos ⟨h, nI_pos' h3, h2⟩]
theorem x_sL_ok {f : m_M → Option β} {n : Nat} {v : Int64} (h : m_K M a = 13) (h2 : n < m_len M a) (h3 : n < 2147483648) : x_sL M a (nI n) v f = f (m_sL M a n v) := by
  unfold x_sL; rw [nI_cl h3, if_pos ⟨h, nI_pos' h3, h2⟩]
theorem x_len_ok {f : Int32 → Option β} (h : m_K M a = kd) : x_len kd M a f = f (nI (m_len M a)) := by unfold x_len; rw [if_pos h]; rfl
theorem x_cV_ok {α : Type} {o : Option (α × m_M)} {f : α → m_M → Option β} {v : α} {M' : m_M} (h : m_K M a = kd) (h2 : o = some (v, M')) : x_cV kd M a o f = f v M' := by unfold x_cV; rw [if_pos h, h2]; rfl
theorem x_bd_ok {α : Type} {o : Option (α × m_M)} {f : α → m_M → Option β} {v : α} {M' : m_M} (h2 : o = some (v, M')) : x_bd o f = f v M' := by rw [h2]; rfl
theorem x_cpI_ok {f : m_M → Option β} {a0 a sp dp n : Nat} (h1 : m_K M a0 = 12) (h2 : m_K M a = 12) (h3 : sp + n ≤ m_len M a0) (h4 : dp + n ≤ m_len M a) (h5 : sp < 2147483648) (h6 : dp < 2147483648) (h7 : n < 2147483648) : x_cpI M a0 (nI sp) a (nI dp) (nI n) f = f (m_wI M a (va_cpy (m_I M a0) (m_I M a) sp dp n)) := by
  unfold x_cpI; rw [nI_cl h5, nI_cl h6, nI_cl h7, if_pos ⟨⟨h1, h2⟩, ⟨nI_pos' h5, nI_pos' h6, nI_pos' h7⟩, h3, h4⟩]
theorem x_cpL_ok {f : m_M → Option β} {a0 a sp dp n : Nat} (h1 : m_K M a0 = 13) (h2 : m_K M a = 13) (h3 : sp + n ≤ m_len M a0) (h4 : dp + n ≤ m_len M a) (h5 : sp < 2147483648) (h6 : dp < 2147483648) (h7 : n < 2147483648) : x_cpL M a0 (nI sp) a (nI dp) (nI n) f = f (m_wL M a (va_cpy (m_L M a0) (m_L M a) sp dp n)) := by
  unfold x_cpL; rw [nI_cl h5, nI_cl h6, nI_cl h7, if_pos ⟨⟨h1, h2⟩, ⟨nI_pos' h5, nI_pos' h6, nI_pos' h7⟩, h3, h4⟩]
end S_OK
/-! loops that count up -/
def m_it {S : Type} (step : Nat → S → S) : Nat → Nat → S → S
  | _, 0, s => s
  | k, d + 1, s => m_it step (k + 1) d (step k s)
theorem m_loop {S β : Type} (F : Nat → Nat → S → β) (step : Nat → S → S) (fin : S → β) (N : Nat) (Inv : Nat → S → Prop)
    (hs : ∀ n k s, Inv k s → k < N → F (n + 1) k s = F n (k + 1) (step k s)) (hi : ∀ k s, Inv k s → k < N → Inv (k + 1) (step k s)) (he : ∀ n s, Inv N s → F (n + 1) N s = fin s) :
    ∀ d k n s, k + d = N → d < n → Inv k s → F n k s = fin (m_it step k d s) := by
  intro d
  induction d with
  | zero =>
    intro k n s hk hn h
    cases n with
    | zero => omega
    | succ n =>
      have hk : k = N := by omega
      subst hk
      exact he n s h
  | succ d ih =>
    intro k n s hk hn h
    cases n with
    | zero => omega
    | succ n =>
      rw [hs n k s h (by omega)]
      exact ih (k + 1) n _ (by omega) (by omega) (hi k s h (by omega))
/-- a loop that may end early -/
def m_itx {S β : Type} (step : Nat → S → S ⊕ β) (fin : S → β) : Nat → Nat → S → β
  | _, 0, s => fin s
  | k, d + 1, s => match step k s with
    | .inl t => m_itx step fin (k + 1) d t
    | .inr r => r
theorem m_loopx {S β : Type} (F : Nat → Nat → S → β) (step : Nat → S → S ⊕ β) (fin : S → β) (N : Nat) (Inv : Nat → S → Prop)
    (hs : ∀ n k s, Inv k s → k < N → F (n + 1) k s = (match step k s with
      | .inl t => F n (k + 1) t
      | .inr r => r)) (hi : ∀ k s t, Inv k s → k < N → step k s = .inl t → Inv (k + 1) t) (he : ∀ n s, Inv N s → F (n + 1) N s = fin s) :
    ∀ d k n s, k + d = N → d < n → Inv k s → F n k s = m_itx step fin k d s := by
  intro d
  induction d with
  | zero =>
    intro k n s hk hn h
    cases n with
    | zero => omega
    | succ n =>
      have hk : k = N := by omega
      subst hk
      exact he n s h
  | succ d ih =>
    intro k n s hk hn h
    cases n with
    | zero => omega
    | succ n =>
      rw [hs n k s h (by omega)]
      simp only [m_itx]
      cases hst : step k s with
      | inl t => exact ih (k + 1) n t (by omega) (by omega) (hi k s t h (by omega) hst)
      | inr r => rfl
theorem m_it_L (a : Nat) (g : Nat → m_M → Int64) (hg : ∀ i j v M, j < i → g i (m_sL M a j v) = g i M) : ∀ (d k : Nat) (M : m_M), m_it (fun k M => m_sL M a k (g k M)) k d M = m_wL M a (fun i => if k ≤ i ∧ i < k + d then g i M else m_L M a i) := by
  intro d
  induction d with
  | zero =>
    intro k M
    have e : (fun i => if k ≤ i ∧ i < k + 0 then g i M else m_L M a i) = m_L M a := by funext i; rw [if_neg (by omega)]
    rw [e, m_wL_id]; rfl
  | succ d ih =>
    intro k M
    show m_it _ (k + 1) d (m_sL M a k (g k M)) = _
    rw [ih, m_sL_w, m_wL_wL]
    congr 1
    funext i
    rw [← m_sL_w]
    by_cases h1 : k + 1 ≤ i ∧ i < k + 1 + d
    · rw [if_pos h1, if_pos (by omega), hg i k _ M (by omega)]
    · rw [if_neg h1, mL_sL]
      by_cases h2 : i = k
      · rw [if_pos ⟨rfl, h2⟩, if_pos (by omega), h2]
      · rw [if_neg (fun h => h2 h.2), if_neg (by omega)]
theorem m_it_I (a : Nat) (g : Nat → m_M → Int32) (hg : ∀ i j v M, j < i → g i (m_sI M a j v) = g i M) : ∀ (d k : Nat) (M : m_M), m_it (fun k M => m_sI M a k (g k M)) k d M = m_wI M a (fun i => if k ≤ i ∧ i < k + d then g i M else m_I M a i) := by
  intro d
  induction d with
  | zero =>
    intro k M
    have e : (fun i => if k ≤ i ∧ i < k + 0 then g i M else m_I M a i) = m_I M a := by funext i; rw [if_neg (by omega)]
    rw [e, m_wI_id]; rfl
  | succ d ih =>
    intro k M
    show m_it _ (k + 1) d (m_sI M a k (g k M)) = _
    rw [ih, m_sI_w, m_wI_wI]
    congr 1
    funext i
    rw [← m_sI_w]
    by_cases h1 : k + 1 ≤ i ∧ i < k + 1 + d
    · rw [if_pos h1, if_pos (by omega), hg i k _ M (by omega)]
    · rw [if_neg h1, mI_sI]
      by_cases h2 : i = k
      · rw [if_pos ⟨rfl, h2⟩, if_pos (by omega), h2]
      · rw [if_neg (fun h => h2 h.2), if_neg (by omega)]
theorem m_FU_eq : m_FU = 99999 + 1 := rfl
theorem m_FU_lt {d : Nat} (h : d < 100000) : d < m_FU := h
