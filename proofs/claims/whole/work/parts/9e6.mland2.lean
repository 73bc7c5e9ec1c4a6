/-! a land told: the model -/
def mvA (A : IA) (a n k : Nat) : IA := fun b j => if b = a ∧ j < k then A a (n + j) else A b j
def mvB (B : Nat → Nat → Int64) (a n k : Nat) : Nat → Nat → Int64 := fun b j => if b = a ∧ j < k then B a (n + j) else B b j
def mvL (A : IA) (k : Nat) : IA := fun b j => if (b = 138 ∨ b = 139) ∧ j < k then A b (9 + j) - nI 1000 else A b j
section MLAND2
variable {M M' : m_M} {A : IA} {B : Nat → Nat → Int64} {s : St} {T : Nat → Nat} {n q : Nat} {l : Ld} {bt : Bool × Bool} {D : Nat}
theorem mvA_at {a n k j : Nat} (h : j < k) : mvA A a n k a j = A a (n + j) := if_pos ⟨rfl, h⟩
theorem mvA_fr {a n k b : Nat} (h : b ≠ a) : mvA A a n k b = A b := by funext j; exact if_neg (fun z => h z.1)
theorem mvB_at {a n k j : Nat} (h : j < k) : mvB B a n k a j = B a (n + j) := if_pos ⟨rfl, h⟩
theorem mvB_fr {a n k b : Nat} (h : b ≠ a) : mvB B a n k b = B b := by funext j; exact if_neg (fun z => h z.1)
theorem mvL_at {k j b : Nat} (hb : b = 138 ∨ b = 139) (h : j < k) : mvL A k b j = A b (9 + j) - nI 1000 := if_pos ⟨hb, h⟩
theorem mvL_fr {k b : Nat} (h : b ≠ 138) (h2 : b ≠ 139) : mvL A k b = A b := by funext j; exact if_neg (fun z => by omega)
theorem S_moves2 {a n : Nat} (K : m_K M a = 12) (L : 2 * n ≤ m_len M a) (hn : n ≤ 1000) : F_X12_moves a (nI n) (m_w2 M A B) = some ((), m_w2 M (mvA A a n n) B) := by
  have key : ∀ (d k f : Nat), k + d = n → d < f → F_X12_moves_2 f a (nI n) (nI k) (m_w2 M (mvA A a n k) B) = some ((), m_w2 M (mvA A a n n) B) := by
    intro d
    induction d with
    | zero =>
      intro k f hk hf
      obtain ⟨f, rfl⟩ : ∃ f', f = f' + 1 := ⟨f - 1, by omega⟩
      obtain rfl : k = n := by omega
      rw [F_X12_moves_2, if_pos (Int32.le_refl _)]
    | succ d ih =>
      intro k f hk hf
      obtain ⟨f, rfl⟩ : ∃ f', f = f' + 1 := ⟨f - 1, by omega⟩
      have Kx : ∀ A B, m_K (m_w2 M A B) a = 12 := fun A B => K
      have Lx : ∀ A B, m_len (m_w2 M A B) a = m_len M a := fun A B => rfl
      rw [F_X12_moves_2, if_neg (nI_ge (by omega) (by omega)), nI_add, x_aI_ok (Kx _ _) (by rw [Lx]; omega) (by omega), w2_I, x_sI_ok (Kx _ _) (by rw [Lx]; omega) (by omega), w2_sI, m_let_eq, nI_1, ← ih (k + 1) f (by omega) (by omega)]
      congr 2
      funext b j
      rw [up_at]
      unfold mvA
      by_cases z : b = a ∧ j = k
      · rw [if_pos z, if_neg (by omega), if_pos (by omega), z.2]
      · rw [if_neg z]
        by_cases y : b = a ∧ j < k
        · rw [if_pos y, if_pos (by omega)]
        · rw [if_neg y, if_neg (by omega)]
  unfold F_X12_moves
  have e0 : mvA A a n 0 = A := by funext b j; exact if_neg (by omega)
  have := key n 0 m_FU (by omega) (m_FU_lt (by omega))
  rw [e0] at this
  exact this
theorem S_moves3 {a n : Nat} (K : m_K M a = 13) (L : 2 * n ≤ m_len M a) (hn : n ≤ 1000) : F_X12_movesNames a (nI n) (m_w2 M A B) = some ((), m_w2 M A (mvB B a n n)) := by
  have key : ∀ (d k f : Nat), k + d = n → d < f → F_X12_movesNames_2 f a (nI n) (nI k) (m_w2 M A (mvB B a n k)) = some ((), m_w2 M A (mvB B a n n)) := by
    intro d
    induction d with
    | zero =>
      intro k f hk hf
      obtain ⟨f, rfl⟩ : ∃ f', f = f' + 1 := ⟨f - 1, by omega⟩
      obtain rfl : k = n := by omega
      rw [F_X12_movesNames_2, if_pos (Int32.le_refl _)]
    | succ d ih =>
      intro k f hk hf
      obtain ⟨f, rfl⟩ : ∃ f', f = f' + 1 := ⟨f - 1, by omega⟩
      have Kx : ∀ A B, m_K (m_w2 M A B) a = 13 := fun A B => K
      have Lx : ∀ A B, m_len (m_w2 M A B) a = m_len M a := fun A B => rfl
      rw [F_X12_movesNames_2, if_neg (nI_ge (by omega) (by omega)), nI_add, x_aL_ok (Kx _ _) (by rw [Lx]; omega) (by omega), w2_L, x_sL_ok (Kx _ _) (by rw [Lx]; omega) (by omega), w2_sL, m_let_eq, nI_1, ← ih (k + 1) f (by omega) (by omega)]
      congr 2
      funext b j
      rw [upB_at]
      unfold mvB
      by_cases z : b = a ∧ j = k
      · rw [if_pos z, if_neg (by omega), if_pos (by omega), z.2]
      · rw [if_neg z]
        by_cases y : b = a ∧ j < k
        · rw [if_pos y, if_pos (by omega)]
        · rw [if_neg y, if_neg (by omega)]
  unfold F_X12_movesNames
  have e0 : mvB B a n 0 = B := by funext b j; exact if_neg (by omega)
  have := key n 0 m_FU (by omega) (m_FU_lt (by omega))
  rw [e0] at this
  exact this
theorem S_lays72 (h : G M) : ∀ (d k f : Nat), k + d = 9 → d < f → F_X12_lays_72 f 128 (nI k) (m_w2 M (mvL A k) B) = some ((), m_w2 M (mvL A 9) B) := by
  have K128 : ∀ A B, m_K (m_w2 M A B) 128 = 10 := fun A B => by simp only [w2_K, gK h]
  have K138 : ∀ A B, m_K (m_w2 M A B) 138 = 12 := fun A B => by simp only [w2_K, gK h]
  have K139 : ∀ A B, m_K (m_w2 M A B) 139 = 12 := fun A B => by simp only [w2_K, gK h]
  have L138 : ∀ A B, m_len (m_w2 M A B) 138 = 18 := fun A B => by simp only [w2_n, gl h]
  have L139 : ∀ A B, m_len (m_w2 M A B) 139 = 18 := fun A B => by simp only [w2_n, gl h]
  have R18 : ∀ A B, m_R (m_w2 M A B) 128 18 = some 138 := fun A B => by simp only [w2_R, gR h]
  have R19 : ∀ A B, m_R (m_w2 M A B) 128 19 = some 139 := fun A B => by simp only [w2_R, gR h]
  intro d
  induction d with
  | zero =>
    intro k f hk hf
    obtain ⟨f, rfl⟩ : ∃ f', f = f' + 1 := ⟨f - 1, by omega⟩
    obtain rfl : k = 9 := by omega
    rw [F_X12_lays_72, if_pos (by decide)]
  | succ d ih =>
    intro k f hk hf
    obtain ⟨f, rfl⟩ : ∃ f', f = f' + 1 := ⟨f - 1, by omega⟩
    rw [F_X12_lays_72, if_neg (show ¬ (9 : Int32) ≤ nI k from nI_ge (b := 9) (by omega) (by omega)), x_gN_ok (K128 _ _) (R18 _ _), x_gN_ok (K128 _ _) (R18 _ _), show (9 : Int32) = nI 9 from rfl, nI_add, x_aI_ok (K138 _ _) (by rw [L138]; omega) (by omega), w2_I, show (1000 : Int32) = nI 1000 from rfl, x_sI_ok (K138 _ _) (by rw [L138]; omega) (by omega), w2_sI, x_gN_ok (K128 _ _) (R19 _ _), x_gN_ok (K128 _ _) (R19 _ _), x_aI_ok (K139 _ _) (by rw [L139]; omega) (by omega), w2_I, x_sI_ok (K139 _ _) (by rw [L139]; omega) (by omega), w2_sI, m_let_eq, nI_1, ← ih (k + 1) f (by omega) (by omega)]
    congr 2
    funext b j
    rw [up_at, up_at, up_at]
    unfold mvL
    by_cases z : b = 139 ∧ j = k
    · rw [if_pos z, if_neg (show ¬ (139 = 138 ∧ 9 + k = k) by omega), if_neg (by omega), if_pos (by omega), z.1, z.2]
    · rw [if_neg z]
      by_cases y : b = 138 ∧ j = k
      · rw [if_pos y, if_neg (by omega), if_pos (by omega), y.1, y.2]
      · rw [if_neg y]
        by_cases x : (b = 138 ∨ b = 139) ∧ j < k
        · rw [if_pos x, if_pos (by omega)]
        · rw [if_neg x, if_neg (by omega)]
theorem S_mlays (h : G M) : ∃ A' B', F_X12_lays 128 (m_w2 M A B) = some ((), m_w2 M A' B') ∧ ((∀ j, j < 8 → A' 130 j = A 130 (8 + j)) ∧ (∀ j, j < 5 → A' 135 j = A 135 (5 + j)) ∧ (∀ j, j < 7 → A' 136 j = A 136 (7 + j)) ∧ (∀ j, j < 18 → A' 137 j = A 137 (18 + j)) ∧ (∀ j, j < 1000 → A' 140 j = A 140 (1000 + j)) ∧ (∀ j, j < 9 → A' 138 j = A 138 (9 + j) - nI 1000 ∧ A' 139 j = A 139 (9 + j) - nI 1000)) ∧ (∀ b, (b < 130 ∨ 140 < b) → A' b = A b) ∧ ((∀ j, j < 5 → B' 131 j = B 131 (5 + j)) ∧ ∀ j, j < 3 → B' 132 j = B 132 (3 + j)) ∧ ∀ b, (b < 131 ∨ 133 < b) → B' b = B b := by
  have K128 : ∀ A B, m_K (m_w2 M A B) 128 = 10 := fun A B => by simp only [w2_K, gK h]
  have R : ∀ k x, m_R M 128 k = some x → ∀ A B, m_R (m_w2 M A B) 128 k = some x := fun k x hx A B => hx
  have r10 := R 10 130 (by simp only [gR h])
  have r11 := R 11 131 (by simp only [gR h])
  have r12 := R 12 132 (by simp only [gR h])
  have r13 := R 13 133 (by simp only [gR h])
  have r15 := R 15 135 (by simp only [gR h])
  have r16 := R 16 136 (by simp only [gR h])
  have r17 := R 17 137 (by simp only [gR h])
  have r20 := R 20 140 (by simp only [gR h])
  have L130 : m_len M 130 = 16 := by simp only [gl h]
  have L131 : m_len M 131 = 10 := by simp only [gl h]
  have L132 : m_len M 132 = 6 := by simp only [gl h]
  have L133 : m_len M 133 = 12 := by simp only [gl h]
  have L135 : m_len M 135 = 10 := by simp only [gl h]
  have L136 : m_len M 136 = 14 := by simp only [gl h]
  have L137 : m_len M 137 = 36 := by simp only [gl h]
  have L140 : m_len M 140 = 2000 := by simp only [gl h]
  have e130 : ∀ A B, F_X12_moves 130 (8 : Int32) (m_w2 M A B) = some ((), m_w2 M (mvA A 130 8 8) B) := fun A B => S_moves2 (n := 8) (by simp only [gK h]) (by rw [L130]; omega) (by omega)
  have e135 : ∀ A B, F_X12_moves 135 (5 : Int32) (m_w2 M A B) = some ((), m_w2 M (mvA A 135 5 5) B) := fun A B => S_moves2 (n := 5) (by simp only [gK h]) (by rw [L135]; omega) (by omega)
  have e136 : ∀ A B, F_X12_moves 136 (7 : Int32) (m_w2 M A B) = some ((), m_w2 M (mvA A 136 7 7) B) := fun A B => S_moves2 (n := 7) (by simp only [gK h]) (by rw [L136]; omega) (by omega)
  have e137 : ∀ A B, F_X12_moves 137 (18 : Int32) (m_w2 M A B) = some ((), m_w2 M (mvA A 137 18 18) B) := fun A B => S_moves2 (n := 18) (by simp only [gK h]) (by rw [L137]; omega) (by omega)
  have e140 : ∀ A B, F_X12_moves 140 (1000 : Int32) (m_w2 M A B) = some ((), m_w2 M (mvA A 140 1000 1000) B) := fun A B => S_moves2 (n := 1000) (by simp only [gK h]) (by rw [L140]; omega) (by omega)
  have e131 : ∀ A B, F_X12_movesNames 131 (5 : Int32) (m_w2 M A B) = some ((), m_w2 M A (mvB B 131 5 5)) := fun A B => S_moves3 (n := 5) (by simp only [gK h]) (by rw [L131]; omega) (by omega)
  have e132 : ∀ A B, F_X12_movesNames 132 (3 : Int32) (m_w2 M A B) = some ((), m_w2 M A (mvB B 132 3 3)) := fun A B => S_moves3 (n := 3) (by simp only [gK h]) (by rw [L132]; omega) (by omega)
  have e133 : ∀ A B, F_X12_movesNames 133 (6 : Int32) (m_w2 M A B) = some ((), m_w2 M A (mvB B 133 6 6)) := fun A B => S_moves3 (n := 6) (by simp only [gK h]) (by rw [L133]; omega) (by omega)
  obtain ⟨A5, hA5⟩ : ∃ A5, A5 = mvA (mvA (mvA (mvA (mvA A 130 8 8) 135 5 5) 136 7 7) 137 18 18) 140 1000 1000 := ⟨_, rfl⟩
  obtain ⟨B3, hB3⟩ : ∃ B3, B3 = mvB (mvB (mvB B 131 5 5) 132 3 3) 133 6 6 := ⟨_, rfl⟩
  refine ⟨mvL A5 9, B3, ?_, ⟨fun j hj => ?_, fun j hj => ?_, fun j hj => ?_, fun j hj => ?_, fun j hj => ?_, fun j hj => ⟨?_, ?_⟩⟩, fun b hb => ?_, ⟨fun j hj => ?_, fun j hj => ?_⟩, fun b hb => ?_⟩
  · unfold F_X12_lays
    rw [x_gN_ok (K128 _ _) (r10 _ _), x_bd_ok (e130 _ _), x_gN_ok (K128 _ _) (r11 _ _), x_bd_ok (e131 _ _), x_gN_ok (K128 _ _) (r12 _ _), x_bd_ok (e132 _ _), x_gN_ok (K128 _ _) (r13 _ _), x_bd_ok (e133 _ _), x_gN_ok (K128 _ _) (r15 _ _), x_bd_ok (e135 _ _), x_gN_ok (K128 _ _) (r16 _ _), x_bd_ok (e136 _ _), x_gN_ok (K128 _ _) (r17 _ _), x_bd_ok (e137 _ _), x_gN_ok (K128 _ _) (r20 _ _), x_bd_ok (e140 _ _), ← hA5, ← hB3]
    have e0 : mvL A5 0 = A5 := by funext b j; exact if_neg (by omega)
    have := S_lays72 (A := A5) (B := B3) h 9 0 m_FU (by omega) (m_FU_lt (by omega))
    rw [e0] at this
    exact this
  · rw [mvL_fr (by omega) (by omega), hA5, mvA_fr (by omega), mvA_fr (by omega), mvA_fr (by omega), mvA_fr (by omega), mvA_at hj]
  · rw [mvL_fr (by omega) (by omega), hA5, mvA_fr (by omega), mvA_fr (by omega), mvA_fr (by omega), mvA_at hj, mvA_fr (by omega)]
  · rw [mvL_fr (by omega) (by omega), hA5, mvA_fr (by omega), mvA_fr (by omega), mvA_at hj, mvA_fr (by omega), mvA_fr (by omega)]
  · rw [mvL_fr (by omega) (by omega), hA5, mvA_fr (by omega), mvA_at hj, mvA_fr (by omega), mvA_fr (by omega), mvA_fr (by omega)]
  · rw [mvL_fr (by omega) (by omega), hA5, mvA_at hj, mvA_fr (by omega), mvA_fr (by omega), mvA_fr (by omega), mvA_fr (by omega)]
  · rw [mvL_at (.inl rfl) hj, hA5, mvA_fr (by omega), mvA_fr (by omega), mvA_fr (by omega), mvA_fr (by omega), mvA_fr (by omega)]
  · rw [mvL_at (.inr rfl) hj, hA5, mvA_fr (by omega), mvA_fr (by omega), mvA_fr (by omega), mvA_fr (by omega), mvA_fr (by omega)]
  · rw [mvL_fr (by omega) (by omega), hA5, mvA_fr (by omega), mvA_fr (by omega), mvA_fr (by omega), mvA_fr (by omega), mvA_fr (by omega)]
  · rw [hB3, mvB_fr (by omega), mvB_fr (by omega), mvB_at hj]
  · rw [hB3, mvB_fr (by omega), mvB_at hj, mvB_fr (by omega)]
  · rw [hB3, mvB_fr (by omega), mvB_fr (by omega), mvB_fr (by omega)]
theorem S_me7_l (h : G M) (h0 : A 130 0 = nI (lH l 0)) (h1 : A 130 1 = nI (lH l 1)) (ho : lOk l) {K : Nat → m_M → Option (Unit × m_M)} : ∀ (d i f : Nat), i + d = lH l 1 → d < f → F_X12_measures_7 K f 128 (nI i) (m_w2 M (m_up A 128 42 (nI (lH l 0 ^ i))) B) = K 128 (m_w2 M (m_up A 128 42 (nI (wN l))) B) := by
  have b1 := ho.2.1
  have K2 : ∀ A B, m_K (m_w2 M A B) 128 = 10 := fun A B => by simp only [w2_K, gK h]
  have K3 : ∀ A B, m_K (m_w2 M A B) 130 = 12 := fun A B => by simp only [w2_K, gK h]
  have L3 : ∀ A B, m_len (m_w2 M A B) 130 = 16 := fun A B => by simp only [w2_n, gl h]
  have R6 : ∀ A B, m_R (m_w2 M A B) 128 10 = some 130 := fun A B => by simp only [w2_R, gR h]
  intro d
  induction d with
  | zero =>
    intro i f hi hf
    obtain ⟨f, rfl⟩ : ∃ f', f = f' + 1 := ⟨f - 1, by omega⟩
    obtain rfl : i = lH l 1 := by omega
    rw [F_X12_measures_7, x_gN_ok (K2 _ _) (R6 _ _), show x_aI 12 (m_w2 M (m_up A 128 42 (nI (lH l 0 ^ lH l 1))) B) 130 (1 : Int32) = x_aI 12 (m_w2 M (m_up A 128 42 (nI (lH l 0 ^ lH l 1))) B) 130 (nI 1) from rfl, x_aI_ok (K3 _ _) (by rw [L3]; omega) (by omega), w2_I, up_fr (by omega), h1, if_pos (Int32.le_refl _)]
    rfl
  | succ d ih =>
    intro i f hi hf
    obtain ⟨f, rfl⟩ : ∃ f', f = f' + 1 := ⟨f - 1, by omega⟩
    rw [F_X12_measures_7, x_gN_ok (K2 _ _) (R6 _ _), show x_aI 12 (m_w2 M (m_up A 128 42 (nI (lH l 0 ^ i))) B) 130 (1 : Int32) = x_aI 12 (m_w2 M (m_up A 128 42 (nI (lH l 0 ^ i))) B) 130 (nI 1) from rfl, x_aI_ok (K3 _ _) (by rw [L3]; omega) (by omega), w2_I, up_fr (by omega), h1, if_neg (nI_ge (by omega) (by omega)), x_gI_ok (K2 _ _), w2_I, up_at, if_pos ⟨rfl, rfl⟩, x_gN_ok (K2 _ _) (R6 _ _), show (0 : Int32) = nI 0 from rfl, x_aI_ok (K3 _ _) (by rw [L3]; omega) (by omega), w2_I, up_fr (by omega), h0, x_pI_ok (K2 _ _), w2_sI, nI_mul, ← Nat.pow_succ, m_let_eq, nI_1, ← ih (i + 1) f (by omega) (by omega)]
    congr 2
    funext b k
    rw [up_at, up_at, up_at]
    by_cases z : b = 128 ∧ k = 42
    · rw [if_pos z, if_pos z]
    · rw [if_neg z, if_neg z, if_neg z]
theorem S_measures (h : G M) (h0 : A 130 0 = nI (lH l 0)) (h1 : A 130 1 = nI (lH l 1)) (ho : lOk l) : F_X12_measures 128 (m_w2 M A B) = some ((), m_w2 M (m_up (m_up A 128 42 (nI (wN l))) 128 43 (nI ((wN l + 63) / 64))) B) := by
  have bw := wN_le ho
  have K2 : ∀ A B, m_K (m_w2 M A B) 128 = 10 := fun A B => by simp only [w2_K, gK h]
  unfold F_X12_measures
  rw [x_pI_ok (K2 _ _), w2_sI]
  refine m_let_e ?_
  intro k38 h38
  have e := S_me7_l (B := B) h h0 h1 ho (K := k38) (lH l 1) 0 m_FU (by omega) (m_FU_lt (by have := ho.2.1; omega))
  have e' : F_X12_measures_7 k38 m_FU 128 (0 : Int32) (m_w2 M (m_up A 128 42 (1 : Int32)) B) = _ := e
  rw [e', h38]
  dsimp only
  rw [x_gI_ok (K2 _ _), w2_I, up_at, if_pos ⟨rfl, rfl⟩, x_nz_eq, if_neg (by decide), show (63 : Int32) = nI 63 from rfl, show (64 : Int32) = nI 64 from rfl, nI_add, i32_div (by omega) (by omega), x_pI_ok (K2 _ _), w2_sI]
theorem MLn_of {c line : Nat} {E : (Nat → Int32) → Int32} {A' : IA} (h : MLw c A line E) (hc : c ≤ 1000) (h138 : A' 138 line = A 138 (9 + line) - nI 1000) (h139 : A' 139 line = A 139 (9 + line) - nI 1000) (h140 : ∀ j, j < 1000 → A' 140 j = A 140 (1000 + j)) : MLn A' line E := by
  obtain ⟨a, mc, V, b1, b2, b3, b4, b5, b6, b7⟩ := h
  refine ⟨fun j => mc.getD (j - (a - 1000)) 0, a - 1000, a - 1000 + mc.length, by omega, by omega, h138.trans ((congrArg (fun x => x - nI 1000) b3).trans (nI_sub' (by omega))), h139.trans ((congrArg (fun x => x - nI 1000) b4).trans ((nI_sub' (by omega)).trans (congrArg nI (by omega)))), fun j h1 h2 => ?_, ?_⟩
  · rw [h140 j (by omega)]
    have := b5 (j - (a - 1000)) (by omega)
    rw [show a + (j - (a - 1000)) = 1000 + j by omega] at this
    exact this
  · rw [b7]
    refine S0_law b6 (by omega) (fun j hj => ?_)
    show mc.getD (a - 1000 + j - (a - 1000)) 0 = mc.getD j 0
    rw [show a - 1000 + j - (a - 1000) = j by omega]
theorem M_laid (hG : G M) : ∀ (d i f : Nat) (A : IA), i + d = 4 → d < f → (∀ j, j < i → A 169 j = bI false) → ∃ A', F_X12_land_65 f 128 (nI i) (m_w2 M A B) = some (nI 0, m_w2 M A' B) ∧ (∀ b, b ≠ 169 → A' b = A b) ∧ ∀ j, j < 4 → A' 169 j = bI false := by
  have K0 : ∀ A B, m_K (m_w2 M A B) 128 = 10 := fun A B => by simp only [w2_K, gK hG]
  have R61 : ∀ A B, m_R (m_w2 M A B) 128 61 = some 169 := fun A B => by simp only [w2_R, gR hG]
  have K169 : ∀ A B, m_K (m_w2 M A B) 169 = 14 := fun A B => by simp only [w2_K, gK hG]
  have L169 : ∀ A B, m_len (m_w2 M A B) 169 = 4 := fun A B => by simp only [w2_n, gl hG]
  intro d
  induction d with
  | zero =>
    intro i f A hi hf hA
    obtain ⟨f, rfl⟩ : ∃ f', f = f' + 1 := ⟨f - 1, by omega⟩
    obtain rfl : i = 4 := by omega
    exact ⟨A, by rw [F_X12_land_65, if_pos (by decide)]; rfl, fun _ _ => rfl, hA⟩
  | succ d ih =>
    intro i f A hi hf hA
    obtain ⟨f, rfl⟩ : ∃ f', f = f' + 1 := ⟨f - 1, by omega⟩
    obtain ⟨A', u1, u2, u3⟩ := ih (i + 1) f (m_up A 169 i (bI false)) (by omega) (by omega) (fun j hj => by
      rw [up_at]
      by_cases z : j = i
      · rw [if_pos ⟨rfl, z⟩]
      · rw [if_neg (fun w => z w.2)]; exact hA j (by omega))
    refine ⟨A', ?_, fun b hb => by rw [u2 b hb, up_fr hb], u3⟩
    rw [F_X12_land_65, if_neg (show ¬ (4 : Int32) ≤ nI i from nI_ge (b := 4) (by omega) (by omega)), x_gN_ok (K0 _ _) (R61 _ _), x_sI_ok (K169 _ _) (by rw [L169]; omega) (by omega), nar0, w2_sI, m_let_eq, nI_1]
    exact u1
end MLAND2
