/-! the class takes a saying out of its row, or puts one in -/
def m_xR (M : m_M) (R : Nat → Nat → Option Nat) : m_M := (M.1, M.2.1, M.2.2.1, R)
section SHIFT
variable {M : m_M} {R : Nat → Nat → Option Nat}
theorem xR_R : m_R (m_xR M R) = R := rfl
theorem xR_I : m_I (m_xR M R) = m_I M := rfl
theorem xR_L : m_L (m_xR M R) = m_L M := rfl
theorem xR_K : m_K (m_xR M R) = m_K M := rfl
theorem xR_n : m_len (m_xR M R) = m_len M := rfl
theorem xR_N : m_N (m_xR M R) = m_N M := rfl
theorem xR_T : m_T (m_xR M R) = m_T M := rfl
theorem xR_0 : m_xR M (m_R M) = M := rfl
theorem xR_sR {a k : Nat} {v : Option Nat} : m_sR (m_xR M R) a k v = m_xR M (m_up R a k v) := rfl
theorem upR_at (B : Nat → Nat → Option Nat) (a k : Nat) (v : Option Nat) (b j : Nat) : m_up B a k v b j = if b = a ∧ j = k then v else B b j := rfl
theorem x_sR_ok {β : Type} {kd kr a n r : Nat} {f : m_M → Option β} (h : m_K M a = kd) (h2 : n < m_len M a) (h3 : n < 2147483648) (h4 : m_K M r = kr) : x_sR kd kr M a (nI n) (some r) f = f (m_sR M a n (some r)) := by
  unfold x_sR
  rw [nI_cl h3, if_pos ⟨⟨h, nI_pos' h3, h2⟩, by show decide (m_K M r = kr) = true; rw [h4]; exact decide_eq_true rfl⟩]
theorem G.xR (h : G M) (hR : ∀ a, a ≠ 82 → a ≠ 83 → a ≠ 87 → a < 178 → R a = m_R M a) : G (m_xR M R) := by
  refine ⟨h.1, h.2.1, fun x hx => ?_⟩
  have hk : ∀ y ∈ g_Rl, y.1 ≠ 82 ∧ y.1 ≠ 83 ∧ y.1 ≠ 87 ∧ y.1 < 178 := by decide +kernel
  obtain ⟨k1, k2, k3, k4⟩ := hk x hx
  rw [xR_R, hR _ k1 k2 k3 k4]
  exact h.2.2 x hx
/-- the row of what is said holds sayings up to c -/
def okR (M : m_M) (c : Nat) : Prop := ∀ i, i < c → ∃ x, m_R M 82 i = some x ∧ m_K M x = 6
theorem S_rm25 (h : G M) {p c : Nat} (hc : c < 12) (h80 : m_I M 80 1 = nI c) (hs : okR M (c + 1)) : ∀ (d k f : Nat), p + k + d = c → d < f →
    F_X1_removeSaid_25 f 80 (nI (p + k)) (m_xR M (mvR (m_R M) 82 (p + 1) p k)) = some ((), m_xR M (mvR (m_R M) 82 (p + 1) p (c - p))) := by
  obtain ⟨_, _, K80, R7, _, K82, L82, _⟩ := bk_cells h
  have R7' : ∀ k, m_R (m_xR M (mvR (m_R M) 82 (p + 1) p k)) 80 7 = some 82 := fun k => by rw [xR_R, mvR_fr (by omega)]; exact R7
  intro d
  induction d with
  | zero =>
    intro k f hk hf
    obtain ⟨f, rfl⟩ : ∃ f', f = f' + 1 := ⟨f - 1, by omega⟩
    rw [F_X1_removeSaid_25, x_gI_ok (by rw [xR_K]; exact K80), xR_I, h80, if_pos (nI_le (by omega) (by omega)), show c - p = k by omega]
  | succ d ih =>
    intro k f hk hf
    obtain ⟨f, rfl⟩ : ∃ f', f = f' + 1 := ⟨f - 1, by omega⟩
    have e := ih (k + 1) f (by omega) (by omega)
    obtain ⟨x, x1, x2⟩ := hs (p + 1 + k) (by omega)
    have e2 : mvR (m_R M) 82 (p + 1) p k 82 (p + k + 1) = some x := by rw [mvR_out (by omega), show p + k + 1 = p + 1 + k by omega]; exact x1
    have e3 : m_up (mvR (m_R M) 82 (p + 1) p k) 82 (p + k) (some x) = mvR (m_R M) 82 (p + 1) p (k + 1) := by
      funext b y
      rw [upR_at, mvR_at, mvR_at]
      by_cases q : b = 82 ∧ y = p + k
      · rw [if_pos q, if_pos ⟨q.1, by omega, by omega⟩, q.2, show p + 1 + (p + k - p) = p + 1 + k by omega, x1]
      · rw [if_neg q]
        by_cases z : b = 82 ∧ p ≤ y ∧ y < p + k
        · rw [if_pos z, if_pos ⟨z.1, z.2.1, by omega⟩]
        · rw [if_neg z, if_neg (fun w => z ⟨w.1, w.2.1, by have := fun e => q ⟨w.1, e⟩; omega⟩)]
    rw [F_X1_removeSaid_25, x_gI_ok (by rw [xR_K]; exact K80), xR_I, h80, if_neg (nI_ge (by omega) (by omega)), x_gN_ok (by rw [xR_K]; exact K80) (R7' k), x_gN_ok (by rw [xR_K]; exact K80) (R7' k), nI_1, x_aN_ok (by rw [xR_K]; exact K82) (by rw [xR_n, L82]; omega) (by omega) (show m_R (m_xR M (mvR (m_R M) 82 (p + 1) p k)) 82 (p + k + 1) = some x from e2), x_sR_ok (by rw [xR_K]; exact K82) (by rw [xR_n, L82]; omega) (by omega) (by rw [xR_K]; exact x2), xR_sR, e3, m_let_eq]
    exact e
theorem S_removeSaid (h : G M) {p c : Nat} (hp : p ≤ c) (hc : c < 12) (h80 : m_I M 80 1 = nI (c + 1)) (hs : okR M (c + 1)) : F_X1_removeSaid 80 (nI p) M = some ((), m_xR (m_sI M 80 1 (nI c)) (mvR (m_R M) 82 (p + 1) p (c - p))) := by
  obtain ⟨_, _, K80, _⟩ := bk_cells h
  have e := S_rm25 (M := m_sI M 80 1 (nI c)) (p := p) h hc (by rw [mI_sI, if_pos ⟨rfl, rfl⟩]) hs (c - p) 0 m_FU (by omega) (m_FU_lt (by omega))
  rw [mvR_0] at e
  unfold F_X1_removeSaid
  rw [if_neg (nI_pos (by omega)), x_gI_ok K80, h80, if_pos (nI_lt (by omega) (by omega)), x_gI_ok K80, h80, show (1 : Int32) = nI 1 from rfl, nI_sub' (by omega), show c + 1 - 1 = c by omega, x_pI_ok K80]
  exact e
theorem S_in28 {k53 : Nat → Int32 → Nat → m_M → Option (Int32 × m_M)} (h : G M) {p c r : Nat} (hc : c < 12) (hs : okR M c) : ∀ (d v f : Nat), p + d = v → v ≤ c → d < f →
    F_X1_insertSaid_28 k53 f 80 (nI p) r (nI v) (m_xR M (mvR (m_R M) 82 v (v + 1) (c - v))) = k53 80 (nI p) r (m_xR M (mvR (m_R M) 82 p (p + 1) (c - p))) := by
  obtain ⟨_, _, K80, R7, _, K82, L82, _⟩ := bk_cells h
  have R7' : ∀ v, m_R (m_xR M (mvR (m_R M) 82 v (v + 1) (c - v))) 80 7 = some 82 := fun k => by rw [xR_R, mvR_fr (by omega)]; exact R7
  intro d
  induction d with
  | zero =>
    intro v f hk hv hf
    obtain ⟨f, rfl⟩ : ∃ f', f = f' + 1 := ⟨f - 1, by omega⟩
    obtain rfl : p = v := by omega
    rw [F_X1_insertSaid_28, if_pos (nI_le (by omega) (by omega))]
  | succ d ih =>
    intro v f hk hv hf
    obtain ⟨f, rfl⟩ : ∃ f', f = f' + 1 := ⟨f - 1, by omega⟩
    have e := ih (v - 1) f (by omega) (by omega) (by omega)
    obtain ⟨x, x1, x2⟩ := hs (v - 1) (by omega)
    have e2 : mvR (m_R M) 82 v (v + 1) (c - v) 82 (v - 1) = some x := by rw [mvR_out (by omega)]; exact x1
    have e3 : m_up (mvR (m_R M) 82 v (v + 1) (c - v)) 82 v (some x) = mvR (m_R M) 82 (v - 1) (v - 1 + 1) (c - (v - 1)) := by
      funext b y
      rw [upR_at, mvR_at, mvR_at]
      by_cases q : b = 82 ∧ y = v
      · rw [if_pos q, if_pos ⟨q.1, by omega, by omega⟩, q.2, show v - 1 + (v - (v - 1 + 1)) = v - 1 by omega, x1]
      · rw [if_neg q]
        by_cases z : b = 82 ∧ v + 1 ≤ y ∧ y < v + 1 + (c - v)
        · rw [if_pos z, if_pos ⟨z.1, by omega, by omega⟩, show v - 1 + (y - (v - 1 + 1)) = v + (y - (v + 1)) by omega]
        · rw [if_neg z, if_neg (fun w => z ⟨w.1, by have := fun e => q ⟨w.1, e⟩; omega, by omega⟩)]
    rw [F_X1_insertSaid_28, if_neg (nI_ge (by omega) (by omega)), x_gN_ok (by rw [xR_K]; exact K80) (R7' v), x_gN_ok (by rw [xR_K]; exact K80) (R7' v), show nI v - (1 : Int32) = nI (v - 1) from nI_sub' (b := 1) (by omega), x_aN_ok (by rw [xR_K]; exact K82) (by rw [xR_n, L82]; omega) (by omega) (show m_R (m_xR M (mvR (m_R M) 82 v (v + 1) (c - v))) 82 (v - 1) = some x from e2), x_sR_ok (by rw [xR_K]; exact K82) (by rw [xR_n, L82]; omega) (by omega) (by rw [xR_K]; exact x2), xR_sR, e3, m_let_eq, show nI v + (-1 : Int32) = nI (v - 1) from no_dec (by omega)]
    exact e
def inR (R : Nat → Nat → Option Nat) (p c r : Nat) : Nat → Nat → Option Nat := m_up (mvR R 82 p (p + 1) (c - p)) 82 p (some r)
theorem S_insertSaid (h : G M) {p c r : Nat} (hp : p ≤ c) (hc : c < 12) (h80 : m_I M 80 1 = nI c) (hs : okR M c) (hr : m_K M r = 6) : F_X1_insertSaid 80 (nI p) r M = some (nI 1, m_sI (m_xR M (inR (m_R M) p c r)) 80 1 (nI (c + 1))) := by
  obtain ⟨_, _, K80, R7, _, K82, L82, _⟩ := bk_cells h
  unfold F_X1_insertSaid
  rw [if_neg (nI_pos (by omega)), x_gI_ok K80, h80, if_neg (nI_nlt (by omega) (by omega)), x_gI_ok K80, h80, if_pos (show nI c < (12 : Int32) from nI_lt (b := 12) (by omega) (by omega)), x_gI_ok K80, h80, m_let_eq]
  have e := S_in28 (r := r) (k53 := fun (v4 : Nat) (v5 : Int32) (v6 : Nat) (M1 : m_M) =>
      x_gN 1 M1 v4 7 fun v7 =>
      x_sR 16 6 M1 v7 v5 (some v6) fun M2 =>
      x_gI 1 M2 v4 1 fun v8 =>
      x_pI 1 M2 v4 1 (v8 + (1 : Int32)) fun M3 =>
      some ((1 : Int32), M3)) h (p := p) hc hs (c - p) c m_FU (by omega) (Nat.le_refl c) (m_FU_lt (by omega))
  rw [Nat.sub_self, mvR_0, xR_0] at e
  refine Eq.trans e ?_
  rw [x_gN_ok (by rw [xR_K]; exact K80) (show m_R (m_xR M (mvR (m_R M) 82 p (p + 1) (c - p))) 80 7 = some 82 by rw [xR_R, mvR_fr (by omega)]; exact R7), x_sR_ok (by rw [xR_K]; exact K82) (by rw [xR_n, L82]; omega) (by omega) (by rw [xR_K]; exact hr), xR_sR, x_gI_ok (by rw [xR_K]; exact K80), xR_I, h80, nI_1, x_pI_ok (by rw [xR_K]; exact K80)]
  rfl
end SHIFT
