/-! the model moves what is told from one row to another -/
def mvR {V : Type} (B : Nat → Nat → V) (a i j n : Nat) : Nat → Nat → V := fun b x => if b = a ∧ j ≤ x ∧ x < j + n then B a (i + (x - j)) else B b x
theorem mvR_at {V : Type} (B : Nat → Nat → V) (a i j n b x : Nat) : mvR B a i j n b x = if b = a ∧ j ≤ x ∧ x < j + n then B a (i + (x - j)) else B b x := rfl
theorem mvR_0 {V : Type} (B : Nat → Nat → V) (a i j : Nat) : mvR B a i j 0 = B := by
  funext b x
  rw [mvR_at, if_neg (by omega)]
theorem mvR_fr {V : Type} {B : Nat → Nat → V} {a i j n b : Nat} (h : b ≠ a) : mvR B a i j n b = B b := by
  funext x
  rw [mvR_at, if_neg (fun q => h q.1)]
theorem mvR_out {V : Type} {B : Nat → Nat → V} {a i j n x : Nat} (h : x < j ∨ j + n ≤ x) : mvR B a i j n a x = B a x := by
  rw [mvR_at, if_neg (by omega)]
theorem mvR_in {V : Type} {B : Nat → Nat → V} {a i j n k : Nat} (h : k < n) : mvR B a i j n a (j + k) = B a (i + k) := by
  rw [mvR_at, if_pos ⟨rfl, by omega, by omega⟩]
  congr 1
  omega
theorem mvR_cg {V : Type} {B C : Nat → Nat → V} {a i j n : Nat} (h : B a = C a) : mvR B a i j n a = mvR C a i j n a := by
  funext x
  rw [mvR_at, mvR_at, h]
section MOVES
variable {M : m_M} {A : IA} {B : Nat → Nat → Int64}
theorem mvR_up {V : Type} {B C : Nat → Nat → V} {a i j n k : Nat} (hk : k < n) (hd : i + n ≤ j ∨ j + n ≤ i) (hC : ∀ b x, C b x = if b = a ∧ x = j + k then mvR B a i j k a (i + k) else mvR B a i j k b x) : C = mvR B a i j (k + 1) := by
  funext b x
  rw [hC]
  by_cases q : b = a ∧ x = j + k
  · rw [if_pos q, mvR_out (by omega), mvR_at, if_pos ⟨q.1, by omega, by omega⟩, q.2]
    congr 1
    omega
  · rw [if_neg q, mvR_at, mvR_at]
    by_cases p : b = a ∧ j ≤ x ∧ x < j + k
    · rw [if_pos p, if_pos ⟨p.1, p.2.1, by omega⟩]
    · rw [if_neg p, if_neg (fun z => p ⟨z.1, z.2.1, by have := fun e => q ⟨z.1, e⟩; omega⟩)]
theorem S_movesRow3 {a n r q len : Nat} (K : m_K M a = 13) (hL : m_len M a = len) (h1 : n * r + n ≤ len) (h2 : n * q + n ≤ len) (hl : len < 20000) (hd : n * r + n ≤ n * q ∨ n * q + n ≤ n * r) : ∀ (d k f : Nat), k + d = n → d < f →
    F_X12_movesRow_3 f a (nI n) (nI r) (nI q) (nI k) (m_w2 M A (mvR B a (n * r) (n * q) k)) = some ((), m_w2 M A (mvR B a (n * r) (n * q) n)) := by
  intro d
  induction d with
  | zero =>
    intro k f hk hf
    obtain ⟨f, rfl⟩ : ∃ f', f = f' + 1 := ⟨f - 1, by omega⟩
    obtain rfl : k = n := by omega
    rw [F_X12_movesRow_3, if_pos (nI_le (Nat.le_refl k) (by omega))]
  | succ d ih =>
    intro k f hk hf
    obtain ⟨f, rfl⟩ : ∃ f', f = f' + 1 := ⟨f - 1, by omega⟩
    have e := ih (k + 1) f (by omega) (by omega)
    rw [F_X12_movesRow_3, if_neg (nI_ge (by omega) (by omega)), nI_mul, nI_add, nI_mul, nI_add, x_aL_ok (by rw [w2_K]; exact K) (by rw [w2_n, hL]; omega) (by omega), x_sL_ok (by rw [w2_K]; exact K) (by rw [w2_n, hL]; omega) (by omega), w2_L, w2_sL, m_let_eq, nI_1, mvR_up (n := n) (C := upB (mvR B a (n * r) (n * q) k) a (n * q + k) (mvR B a (n * r) (n * q) k a (n * r + k))) (by omega) hd (fun b x => upB_at _ _ _ _ _ _)]
    exact e
theorem S_movesInts3 {a n r q len : Nat} (K : m_K M a = 12) (hL : m_len M a = len) (h1 : n * r + n ≤ len) (h2 : n * q + n ≤ len) (hl : len < 20000) (hd : n * r + n ≤ n * q ∨ n * q + n ≤ n * r) : ∀ (d k f : Nat), k + d = n → d < f →
    F_X12_movesInts_3 f a (nI n) (nI r) (nI q) (nI k) (m_w2 M (mvR A a (n * r) (n * q) k) B) = some ((), m_w2 M (mvR A a (n * r) (n * q) n) B) := by
  intro d
  induction d with
  | zero =>
    intro k f hk hf
    obtain ⟨f, rfl⟩ : ∃ f', f = f' + 1 := ⟨f - 1, by omega⟩
    obtain rfl : k = n := by omega
    rw [F_X12_movesInts_3, if_pos (nI_le (Nat.le_refl k) (by omega))]
  | succ d ih =>
    intro k f hk hf
    obtain ⟨f, rfl⟩ : ∃ f', f = f' + 1 := ⟨f - 1, by omega⟩
    have e := ih (k + 1) f (by omega) (by omega)
    rw [F_X12_movesInts_3, if_neg (nI_ge (by omega) (by omega)), nI_mul, nI_add, nI_mul, nI_add, x_aI_ok (by rw [w2_K]; exact K) (by rw [w2_n, hL]; omega) (by omega), x_sI_ok (by rw [w2_K]; exact K) (by rw [w2_n, hL]; omega) (by omega), w2_I, w2_sI, m_let_eq, nI_1, mvR_up (n := n) (C := m_up (mvR A a (n * r) (n * q) k) a (n * q + k) (mvR A a (n * r) (n * q) k a (n * r + k))) (by omega) hd (fun b x => up_at _ _ _ _ _ _)]
    exact e
theorem S_movesRow {a n r q len : Nat} (K : m_K M a = 13) (hL : m_len M a = len) (h1 : n * r + n ≤ len) (h2 : n * q + n ≤ len) (hl : len < 20000) (hd : n * r + n ≤ n * q ∨ n * q + n ≤ n * r) : F_X12_movesRow a (nI n) (nI r) (nI q) (m_w2 M A B) = some ((), m_w2 M A (mvR B a (n * r) (n * q) n)) := by
  have e := S_movesRow3 (A := A) (B := B) K hL h1 h2 hl hd n 0 m_FU (by omega) (m_FU_lt (by omega))
  rw [mvR_0] at e
  exact e
theorem S_movesInts {a n r q len : Nat} (K : m_K M a = 12) (hL : m_len M a = len) (h1 : n * r + n ≤ len) (h2 : n * q + n ≤ len) (hl : len < 20000) (hd : n * r + n ≤ n * q ∨ n * q + n ≤ n * r) : F_X12_movesInts a (nI n) (nI r) (nI q) (m_w2 M A B) = some ((), m_w2 M (mvR A a (n * r) (n * q) n) B) := by
  have e := S_movesInts3 (A := A) (B := B) K hL h1 h2 hl hd n 0 m_FU (by omega) (m_FU_lt (by omega))
  rw [mvR_0] at e
  exact e
def tA (A : IA) (r q : Nat) : IA := mvR (mvR (mvR A 157 (12 * r) (12 * q) 12) 160 (4 * r) (4 * q) 4) 161 (2 * r) (2 * q) 2
def tB (B : Nat → Nat → Int64) (r q : Nat) : Nat → Nat → Int64 := mvR (mvR (mvR B 156 (192 * r) (192 * q) 192) 158 (64 * r) (64 * q) 64) 159 (64 * r) (64 * q) 64
theorem S_laysTold (h : G M) {r q : Nat} (hr : r < 17) (hq : q < 17) (hne : r ≠ q) : F_X12_laysTold 128 (nI r) (nI q) (m_w2 M A B) = some ((), m_w2 M (tA A r q) (tB B r q)) := by
  have K0 : ∀ A B, m_K (m_w2 M A B) 128 = 10 := fun A B => by simp only [w2_K, gK h]
  have R46 : ∀ A B, m_R (m_w2 M A B) 128 46 = some 156 := fun A B => by simp only [w2_R, gR h]
  have R47 : ∀ A B, m_R (m_w2 M A B) 128 47 = some 157 := fun A B => by simp only [w2_R, gR h]
  have R48 : ∀ A B, m_R (m_w2 M A B) 128 48 = some 158 := fun A B => by simp only [w2_R, gR h]
  have R49 : ∀ A B, m_R (m_w2 M A B) 128 49 = some 159 := fun A B => by simp only [w2_R, gR h]
  have R50 : ∀ A B, m_R (m_w2 M A B) 128 50 = some 160 := fun A B => by simp only [w2_R, gR h]
  have R51 : ∀ A B, m_R (m_w2 M A B) 128 51 = some 161 := fun A B => by simp only [w2_R, gR h]
  have a1 : m_K M 156 = 13 := by simp only [gK h]
  have a2 : m_len M 156 = 3264 := by simp only [gl h]
  have b1 : m_K M 157 = 12 := by simp only [gK h]
  have b2 : m_len M 157 = 204 := by simp only [gl h]
  have c1 : m_K M 158 = 13 := by simp only [gK h]
  have c2 : m_len M 158 = 1088 := by simp only [gl h]
  have d1 : m_K M 159 = 13 := by simp only [gK h]
  have d2 : m_len M 159 = 1088 := by simp only [gl h]
  have f1 : m_K M 160 = 12 := by simp only [gK h]
  have f2 : m_len M 160 = 68 := by simp only [gl h]
  have g1 : m_K M 161 = 12 := by simp only [gK h]
  have g2 : m_len M 161 = 34 := by simp only [gl h]
  unfold F_X12_laysTold
  rw [show (192 : Int32) = nI 192 from rfl, show (12 : Int32) = nI 12 from rfl, show (64 : Int32) = nI 64 from rfl, show (4 : Int32) = nI 4 from rfl, show (2 : Int32) = nI 2 from rfl]
  rw [x_gN_ok (K0 _ _) (R46 _ _), x_bd_ok (S_movesRow a1 a2 (by omega) (by omega) (by omega) (by omega)),
    x_gN_ok (K0 _ _) (R47 _ _), x_bd_ok (S_movesInts b1 b2 (by omega) (by omega) (by omega) (by omega)),
    x_gN_ok (K0 _ _) (R48 _ _), x_bd_ok (S_movesRow c1 c2 (by omega) (by omega) (by omega) (by omega)),
    x_gN_ok (K0 _ _) (R49 _ _), x_bd_ok (S_movesRow d1 d2 (by omega) (by omega) (by omega) (by omega)),
    x_gN_ok (K0 _ _) (R50 _ _), x_bd_ok (S_movesInts f1 f2 (by omega) (by omega) (by omega) (by omega)),
    x_gN_ok (K0 _ _) (R51 _ _), x_bd_ok (S_movesInts g1 g2 (by omega) (by omega) (by omega) (by omega))]
  rfl
theorem tA_fr {r q a : Nat} (h1 : a ≠ 157) (h2 : a ≠ 160) (h3 : a ≠ 161) : tA A r q a = A a := by
  unfold tA
  rw [mvR_fr h3, mvR_fr h2, mvR_fr h1]
theorem tB_fr {r q a : Nat} (h1 : a ≠ 156) (h2 : a ≠ 158) (h3 : a ≠ 159) : tB B r q a = B a := by
  unfold tB
  rw [mvR_fr h3, mvR_fr h2, mvR_fr h1]
theorem tA_157 {r q : Nat} : tA A r q 157 = mvR A 157 (12 * r) (12 * q) 12 157 := by
  unfold tA
  rw [mvR_fr (by omega), mvR_fr (by omega)]
theorem tA_160 {r q : Nat} : tA A r q 160 = mvR A 160 (4 * r) (4 * q) 4 160 := by
  unfold tA
  rw [mvR_fr (by omega)]
  exact mvR_cg (mvR_fr (by omega))
theorem tA_161 {r q : Nat} : tA A r q 161 = mvR A 161 (2 * r) (2 * q) 2 161 := by
  unfold tA
  exact mvR_cg ((mvR_fr (by omega)).trans (mvR_fr (by omega)))
theorem tB_156 {r q : Nat} : tB B r q 156 = mvR B 156 (192 * r) (192 * q) 192 156 := by
  unfold tB
  rw [mvR_fr (by omega), mvR_fr (by omega)]
theorem tB_158 {r q : Nat} : tB B r q 158 = mvR B 158 (64 * r) (64 * q) 64 158 := by
  unfold tB
  rw [mvR_fr (by omega)]
  exact mvR_cg (mvR_fr (by omega))
theorem tB_159 {r q : Nat} : tB B r q 159 = mvR B 159 (64 * r) (64 * q) 64 159 := by
  unfold tB
  exact mvR_cg ((mvR_fr (by omega)).trans (mvR_fr (by omega)))
theorem TlM.mv {l : Ld} {t : Tl} {r q : Nat} (h : TlM l t r A B) : TlM l t q (tA A r q) (tB B r q) := by
  obtain ⟨⟨h1, h2⟩, ⟨h3, h4⟩, h5, h6⟩ := h
  refine ⟨⟨h1, h2⟩, ⟨?_, ?_⟩, fun i hi => ⟨?_, ?_⟩, fun i hi => ⟨?_, ?_, ?_⟩⟩
  · rw [tA_161]; exact (mvR_in (k := 0) (by omega)).trans h3
  · rw [tA_161, mvR_in (by omega)]; exact h4
  · rw [tA_157, mvR_in (by omega)]; exact (h5 i hi).1
  · refine (h5 i hi).2.of (fun k hk => ?_)
    rw [tB_156, Nat.add_assoc, mvR_in (by omega), Nat.add_assoc]
  · rw [tA_160, mvR_in (by omega)]; exact (h6 i hi).1
  · refine (h6 i hi).2.1.of (fun k hk => ?_)
    rw [tB_158, Nat.add_assoc, mvR_in (by omega), Nat.add_assoc]
  · refine (h6 i hi).2.2.of (fun k hk => ?_)
    rw [tB_159, Nat.add_assoc, mvR_in (by omega), Nat.add_assoc]
theorem TlM.mvo {l : Ld} {t : Tl} {r q p : Nat} (h : TlM l t p A B) (hp : p ≠ q) : TlM l t p (tA A r q) (tB B r q) := by
  obtain ⟨⟨h1, h2⟩, ⟨h3, h4⟩, h5, h6⟩ := h
  refine ⟨⟨h1, h2⟩, ⟨?_, ?_⟩, fun i hi => ⟨?_, ?_⟩, fun i hi => ⟨?_, ?_, ?_⟩⟩
  · rw [tA_161, mvR_out (by omega)]; exact h3
  · rw [tA_161, mvR_out (by omega)]; exact h4
  · rw [tA_157, mvR_out (by omega)]; exact (h5 i hi).1
  · refine (h5 i hi).2.of (fun k hk => ?_)
    rw [tB_156, mvR_out (by omega)]
  · rw [tA_160, mvR_out (by omega)]; exact (h6 i hi).1
  · refine (h6 i hi).2.1.of (fun k hk => ?_)
    rw [tB_158, mvR_out (by omega)]
  · refine (h6 i hi).2.2.of (fun k hk => ?_)
    rw [tB_159, mvR_out (by omega)]
end MOVES
