/-! a land settled: the class's land whole -/
def wyE (l : Ld) (A : IA) (j t : Nat) : Prop := ∃ x, A 11 (5 * j + t) = nI x ∧ x < 256 ∧ ∀ a, a < lH l 0 → x / 4 ^ a % 4 = bnd l j a t
def lwE (l : Ld) (A : IA) (v f s : Nat) : Prop := ∃ x, A 12 ((v * 5 + f) * 5 + s) = nI x ∧ x < 65536 ∧ ∀ a b, a < lH l 0 → b < lH l 0 → x / 2 ^ (4 * a + b) % 2 = if vrb l v f s a b then 1 else 0
section CLAND2
variable {M M' : m_M} {A A' : IA} {B : Nat → Nat → Int64} {l : Ld}
theorem S_set18 (h : G M) (ho : lOk l) {K : Nat → Int32 → m_M → Option (Unit × m_M)} {j : Nat} (hj : j < lH l 2) : ∀ (d t f : Nat) (A : IA), t + d = lH l 1 → d < f → LC0 l A → (∀ j' t', t' < lH l 1 → (j' < j ∨ j' = j ∧ t' < t) → wyE l A j' t') → ∃ A', F_X3_settle_18 K f 2 (nI j) (nI t) (m_w2 M A B) = K 2 (nI j) (m_w2 M A' B) ∧ LC0 l A' ∧ (∀ j' t', t' < lH l 1 → j' < j + 1 → wyE l A' j' t') ∧ sA A A' ∧ A' 12 = A 12 := by
  have b1 := ho.2.1
  have b2 := ho.2.2.1
  have K2 : ∀ A B, m_K (m_w2 M A B) 2 = 3 := fun A B => by simp only [w2_K, gK h]
  have K3 : ∀ A B, m_K (m_w2 M A B) 3 = 12 := fun A B => by simp only [w2_K, gK h]
  have L3 : ∀ A B, m_len (m_w2 M A B) 3 = 4 := fun A B => by simp only [w2_n, gl h]
  have R6 : ∀ A B, m_R (m_w2 M A B) 2 6 = some 3 := fun A B => by simp only [w2_R, gR h]
  have K11 : ∀ A B, m_K (m_w2 M A B) 11 = 12 := fun A B => by simp only [w2_K, gK h]
  have L11 : ∀ A B, m_len (m_w2 M A B) 11 = 15 := fun A B => by simp only [w2_n, gl h]
  have R14 : ∀ A B, m_R (m_w2 M A B) 2 14 = some 11 := fun A B => by simp only [w2_R, gR h]
  intro d
  induction d with
  | zero =>
    intro t f A ht hf hL hW
    obtain ⟨f, rfl⟩ : ∃ f', f = f' + 1 := ⟨f - 1, by omega⟩
    refine ⟨A, ?_, hL, fun j' t' ht' hj' => hW j' t' ht' (by omega), sA.rfl', rfl⟩
    rw [F_X3_settle_18, x_gN_ok (K2 _ _) (R6 _ _), show (0 : Int32) = nI 0 from rfl, x_aI_ok (K3 _ _) (by rw [L3]; omega) (by omega), w2_I, hL.1.2.1, if_pos (nI_le (by omega) (by omega))]
  | succ d ih =>
    intro t f A ht hf hL hW
    obtain ⟨f, rfl⟩ : ∃ f', f = f' + 1 := ⟨f - 1, by omega⟩
    obtain ⟨x, A1, e1, e2, e3, e4⟩ := S_way (B := B) h ho hj (show t < lH l 1 by omega) hL
    have f1 : sA A A1 := fun b _ _ x y => e4 b x y
    have f2 : sA A1 (m_up A1 11 (5 * j + t) (nI x)) := fun b y _ _ _ => up_fr y
    have f3 := f1.trans f2
    obtain ⟨A', u1, u2, u3, u4, u5⟩ := ih (t + 1) f (m_up A1 11 (5 * j + t) (nI x)) (by omega) (by omega) (hL.cong f3) (fun j' t' ht' hj' => by
      by_cases z : j' = j ∧ t' = t
      · obtain ⟨z1, z2⟩ := z
        rw [z1, z2]
        exact ⟨x, by rw [up_at, if_pos ⟨rfl, rfl⟩], e2, e3⟩
      · obtain ⟨y, y1, y2⟩ := hW j' t' ht' (by omega)
        refine ⟨y, ?_, y2⟩
        rw [up_at, if_neg (by omega), e4 11 (by omega) (by omega)]
        exact y1)
    refine ⟨A', ?_, u2, u3, f3.trans u4, by rw [u5, up_fr (by omega), e4 12 (by omega) (by omega)]⟩
    rw [F_X3_settle_18, x_gN_ok (K2 _ _) (R6 _ _), show (0 : Int32) = nI 0 from rfl, x_aI_ok (K3 _ _) (by rw [L3]; omega) (by omega), w2_I, hL.1.2.1, if_neg (nI_ge (by omega) (by omega)), x_gN_ok (K2 _ _) (R14 _ _), x_cV_ok (K2 _ _) e1, show (5 : Int32) = nI 5 from rfl, nI_mul, nI_add, Nat.mul_comm j 5, x_sI_ok (K11 _ _) (by rw [L11]; omega) (by omega), w2_sI, m_let_eq, nI_1]
    exact u1
theorem S_set6 (h : G M) (ho : lOk l) {K : Nat → m_M → Option (Unit × m_M)} : ∀ (d j f : Nat) (A : IA), j + d = lH l 2 → d < f → LC0 l A → (∀ j' t', t' < lH l 1 → j' < j → wyE l A j' t') → ∃ A', F_X3_settle_6 K f 2 (nI j) (m_w2 M A B) = K 2 (m_w2 M A' B) ∧ LC0 l A' ∧ (∀ j' t', t' < lH l 1 → j' < lH l 2 → wyE l A' j' t') ∧ sA A A' ∧ A' 12 = A 12 := by
  have b1 := ho.2.1
  have b2 := ho.2.2.1
  have K2 : ∀ A B, m_K (m_w2 M A B) 2 = 3 := fun A B => by simp only [w2_K, gK h]
  have K3 : ∀ A B, m_K (m_w2 M A B) 3 = 12 := fun A B => by simp only [w2_K, gK h]
  have L3 : ∀ A B, m_len (m_w2 M A B) 3 = 4 := fun A B => by simp only [w2_n, gl h]
  have R6 : ∀ A B, m_R (m_w2 M A B) 2 6 = some 3 := fun A B => by simp only [w2_R, gR h]
  intro d
  induction d with
  | zero =>
    intro j f A hj hf hL hW
    obtain ⟨f, rfl⟩ : ∃ f', f = f' + 1 := ⟨f - 1, by omega⟩
    refine ⟨A, ?_, hL, fun j' t' ht' hj' => hW j' t' ht' (by omega), sA.rfl', rfl⟩
    rw [F_X3_settle_6, x_gN_ok (K2 _ _) (R6 _ _), show (1 : Int32) = nI 1 from rfl, x_aI_ok (K3 _ _) (by rw [L3]; omega) (by omega), w2_I, hL.1.2.2.1, if_pos (nI_le (by omega) (by omega))]
  | succ d ih =>
    intro j f A hj hf hL hW
    obtain ⟨f, rfl⟩ : ∃ f', f = f' + 1 := ⟨f - 1, by omega⟩
    rw [F_X3_settle_6, x_gN_ok (K2 _ _) (R6 _ _), show x_aI 12 (m_w2 M A B) 3 (1 : Int32) = x_aI 12 (m_w2 M A B) 3 (nI 1) from rfl, x_aI_ok (K3 _ _) (by rw [L3]; omega) (by omega), w2_I, hL.1.2.2.1, if_neg (nI_ge (by omega) (by omega))]
    refine m_let_P (fun o => ∃ A', o = K 2 (m_w2 M A' B) ∧ LC0 l A' ∧ (∀ j' t', t' < lH l 1 → j' < lH l 2 → wyE l A' j' t') ∧ sA A A' ∧ A' 12 = A 12) ?_
    intro k50 h50
    obtain ⟨A1, e1, e2, e3, e4, e5⟩ := S_set18 (B := B) h ho (K := k50) (show j < lH l 2 by omega) (lH l 1) 0 m_FU A (by omega) (m_FU_lt (by omega)) hL (fun j' t' ht' hj' => hW j' t' ht' (by omega))
    obtain ⟨A', u1, u2, u3, u4, u5⟩ := ih (j + 1) f A1 (by omega) (by omega) e2 e3
    refine ⟨A', ?_, u2, u3, e4.trans u4, by rw [u5, e5]⟩
    have e1' : F_X3_settle_18 k50 m_FU 2 (nI j) (0 : Int32) (m_w2 M A B) = _ := e1
    rw [e1', h50]
    dsimp only
    rw [m_let_eq, nI_1]
    exact u1
theorem S_laws14 (h : G M) (ho : lOk l) {K : Nat → Int32 → Int32 → m_M → Option (Unit × m_M)} {v F : Nat} (hv : v < lH l 3) (hF : F < lH l 1) : ∀ (d S f : Nat) (A : IA), S + d = lH l 1 → d < f → LC0 l A → (∀ v' f' s', f' < lH l 1 → s' < lH l 1 → (v' < v ∨ v' = v ∧ (f' < F ∨ f' = F ∧ s' < S)) → lwE l A v' f' s') → ∃ A', F_X3_settleLaws_14 K f 2 (nI v) (nI F) (nI S) (m_w2 M A B) = K 2 (nI v) (nI F) (m_w2 M A' B) ∧ LC0 l A' ∧ (∀ v' f' s', f' < lH l 1 → s' < lH l 1 → (v' < v ∨ v' = v ∧ f' < F + 1) → lwE l A' v' f' s') ∧ sA A A' ∧ A' 11 = A 11 := by
  have b1 := ho.2.1
  have b3 := ho.2.2.2.1
  have K2 : ∀ A B, m_K (m_w2 M A B) 2 = 3 := fun A B => by simp only [w2_K, gK h]
  have K3 : ∀ A B, m_K (m_w2 M A B) 3 = 12 := fun A B => by simp only [w2_K, gK h]
  have L3 : ∀ A B, m_len (m_w2 M A B) 3 = 4 := fun A B => by simp only [w2_n, gl h]
  have R6 : ∀ A B, m_R (m_w2 M A B) 2 6 = some 3 := fun A B => by simp only [w2_R, gR h]
  have K12 : ∀ A B, m_K (m_w2 M A B) 12 = 12 := fun A B => by simp only [w2_K, gK h]
  have L12 : ∀ A B, m_len (m_w2 M A B) 12 = 150 := fun A B => by simp only [w2_n, gl h]
  have R15 : ∀ A B, m_R (m_w2 M A B) 2 15 = some 12 := fun A B => by simp only [w2_R, gR h]
  intro d
  induction d with
  | zero =>
    intro S f A hp hf hL hW
    obtain ⟨f, rfl⟩ : ∃ f', f = f' + 1 := ⟨f - 1, by omega⟩
    refine ⟨A, ?_, hL, fun v' f' s' hf' hs' hv' => hW v' f' s' hf' hs' (by omega), sA.rfl', rfl⟩
    rw [F_X3_settleLaws_14, x_gN_ok (K2 _ _) (R6 _ _), show (0 : Int32) = nI 0 from rfl, x_aI_ok (K3 _ _) (by rw [L3]; omega) (by omega), w2_I, hL.1.2.1, if_pos (nI_le (by omega) (by omega))]
  | succ d ih =>
    intro S f A hp hf hL hW
    obtain ⟨f, rfl⟩ : ∃ f', f = f' + 1 := ⟨f - 1, by omega⟩
    have hS : S < lH l 1 := by omega
    obtain ⟨x, A1, e1, e2, e3, e4⟩ := S_lawOf (B := B) h ho hv hF hS hL
    have f1 : sA A A1 := fun b _ _ x y => e4 b x y
    have f2 : sA A1 (m_up A1 12 ((v * 5 + F) * 5 + S) (nI x)) := fun b _ y _ _ => up_fr y
    have f3 := f1.trans f2
    obtain ⟨A', u1, u2, u3, u4, u5⟩ := ih (S + 1) f (m_up A1 12 ((v * 5 + F) * 5 + S) (nI x)) (by omega) (by omega) (hL.cong f3) (fun v' f' s' hf' hs' hv' => by
      by_cases z : v' = v ∧ f' = F ∧ s' = S
      · obtain ⟨z1, z2, z3⟩ := z
        rw [z1, z2, z3]
        exact ⟨x, by rw [up_at, if_pos ⟨rfl, rfl⟩], e2, e3⟩
      · obtain ⟨y, y1, y2⟩ := hW v' f' s' hf' hs' (by omega)
        refine ⟨y, ?_, y2⟩
        rw [up_at, if_neg (fun w => z (by
          have w2 := w.2
          refine ⟨?_, ?_, ?_⟩ <;> omega)), e4 12 (by omega) (by omega)]
        exact y1)
    refine ⟨A', ?_, u2, u3, f3.trans u4, by rw [u5, up_fr (by omega), e4 11 (by omega) (by omega)]⟩
    have ei : F_X3_lawIndex (nI v) (nI F) (nI S) (m_w2 M A B) = some (nI ((v * 5 + F) * 5 + S), m_w2 M A B) := by
      unfold F_X3_lawIndex
      rw [show (5 : Int32) = nI 5 from rfl, nI_mul, nI_add, nI_mul, nI_add]
    rw [F_X3_settleLaws_14, x_gN_ok (K2 _ _) (R6 _ _), show (0 : Int32) = nI 0 from rfl, x_aI_ok (K3 _ _) (by rw [L3]; omega) (by omega), w2_I, hL.1.2.1, if_neg (nI_ge (by omega) (by omega)), x_gN_ok (K2 _ _) (R15 _ _), x_bd_ok ei, x_cV_ok (K2 _ _) e1, x_sI_ok (K12 _ _) (by rw [L12]; omega) (by omega), w2_sI, m_let_eq, nI_1]
    exact u1
theorem S_laws2 (h : G M) (ho : lOk l) {v : Nat} (hv : v < lH l 3) : ∀ (d F f : Nat) (A : IA), F + d = lH l 1 → d < f → LC0 l A → (∀ v' f' s', f' < lH l 1 → s' < lH l 1 → (v' < v ∨ v' = v ∧ f' < F) → lwE l A v' f' s') → ∃ A', F_X3_settleLaws_2 f 2 (nI v) (nI F) (m_w2 M A B) = some ((), m_w2 M A' B) ∧ LC0 l A' ∧ (∀ v' f' s', f' < lH l 1 → s' < lH l 1 → v' < v + 1 → lwE l A' v' f' s') ∧ sA A A' ∧ A' 11 = A 11 := by
  have b1 := ho.2.1
  have b3 := ho.2.2.2.1
  have K2 : ∀ A B, m_K (m_w2 M A B) 2 = 3 := fun A B => by simp only [w2_K, gK h]
  have K3 : ∀ A B, m_K (m_w2 M A B) 3 = 12 := fun A B => by simp only [w2_K, gK h]
  have L3 : ∀ A B, m_len (m_w2 M A B) 3 = 4 := fun A B => by simp only [w2_n, gl h]
  have R6 : ∀ A B, m_R (m_w2 M A B) 2 6 = some 3 := fun A B => by simp only [w2_R, gR h]
  intro d
  induction d with
  | zero =>
    intro F f A hp hf hL hW
    obtain ⟨f, rfl⟩ : ∃ f', f = f' + 1 := ⟨f - 1, by omega⟩
    refine ⟨A, ?_, hL, fun v' f' s' hf' hs' hv' => hW v' f' s' hf' hs' (by omega), sA.rfl', rfl⟩
    rw [F_X3_settleLaws_2, x_gN_ok (K2 _ _) (R6 _ _), show (0 : Int32) = nI 0 from rfl, x_aI_ok (K3 _ _) (by rw [L3]; omega) (by omega), w2_I, hL.1.2.1, if_pos (nI_le (by omega) (by omega))]
  | succ d ih =>
    intro F f A hp hf hL hW
    obtain ⟨f, rfl⟩ : ∃ f', f = f' + 1 := ⟨f - 1, by omega⟩
    rw [F_X3_settleLaws_2, x_gN_ok (K2 _ _) (R6 _ _), show x_aI 12 (m_w2 M A B) 3 (0 : Int32) = x_aI 12 (m_w2 M A B) 3 (nI 0) from rfl, x_aI_ok (K3 _ _) (by rw [L3]; omega) (by omega), w2_I, hL.1.2.1, if_neg (nI_ge (by omega) (by omega))]
    refine m_let_P (fun o => ∃ A', o = some ((), m_w2 M A' B) ∧ LC0 l A' ∧ (∀ v' f' s', f' < lH l 1 → s' < lH l 1 → v' < v + 1 → lwE l A' v' f' s') ∧ sA A A' ∧ A' 11 = A 11) ?_
    intro k48 h48
    obtain ⟨A1, e1, e2, e3, e4, e5⟩ := S_laws14 (B := B) h ho (K := k48) hv (show F < lH l 1 by omega) (lH l 1) 0 m_FU A (by omega) (m_FU_lt (by omega)) hL (fun v' f' s' hf' hs' hv' => hW v' f' s' hf' hs' (by omega))
    obtain ⟨A', u1, u2, u3, u4, u5⟩ := ih (F + 1) f A1 (by omega) (by omega) e2 e3
    refine ⟨A', ?_, u2, u3, e4.trans u4, by rw [u5, e5]⟩
    have e1' : F_X3_settleLaws_14 k48 m_FU 2 (nI v) (nI F) (0 : Int32) (m_w2 M A B) = _ := e1
    rw [e1', h48]
    dsimp only
    rw [m_let_eq, nI_1]
    exact u1
theorem S_setLaws (h : G M) (ho : lOk l) {v : Nat} (hv : v < lH l 3) (hL : LC0 l A) (hW : ∀ v' f' s', f' < lH l 1 → s' < lH l 1 → v' < v → lwE l A v' f' s') : ∃ A', F_X3_settleLaws 2 (nI v) (m_w2 M A B) = some ((), m_w2 M A' B) ∧ LC0 l A' ∧ (∀ v' f' s', f' < lH l 1 → s' < lH l 1 → v' < v + 1 → lwE l A' v' f' s') ∧ sA A A' ∧ A' 11 = A 11 := by
  have b1 := ho.2.1
  unfold F_X3_settleLaws
  exact S_laws2 (B := B) h ho hv (lH l 1) 0 m_FU A (by omega) (m_FU_lt (by omega)) hL (fun v' f' s' hf' hs' hv' => hW v' f' s' hf' hs' (by omega))
theorem S_set58 (h : G M) (ho : lOk l) : ∀ (d v f : Nat) (A : IA), v + d = lH l 3 → d < f → LC0 l A → (∀ v' f' s', f' < lH l 1 → s' < lH l 1 → v' < v → lwE l A v' f' s') → ∃ A', F_X3_settle_58 f 2 (nI v) (m_w2 M A B) = some ((), m_w2 M A' B) ∧ LC0 l A' ∧ (∀ v' f' s', f' < lH l 1 → s' < lH l 1 → v' < lH l 3 → lwE l A' v' f' s') ∧ sA A A' ∧ A' 11 = A 11 := by
  have b1 := ho.2.1
  have b3 := ho.2.2.2.1
  have K2 : ∀ A B, m_K (m_w2 M A B) 2 = 3 := fun A B => by simp only [w2_K, gK h]
  have K3 : ∀ A B, m_K (m_w2 M A B) 3 = 12 := fun A B => by simp only [w2_K, gK h]
  have L3 : ∀ A B, m_len (m_w2 M A B) 3 = 4 := fun A B => by simp only [w2_n, gl h]
  have R6 : ∀ A B, m_R (m_w2 M A B) 2 6 = some 3 := fun A B => by simp only [w2_R, gR h]
  intro d
  induction d with
  | zero =>
    intro v f A hj hf hL hW
    obtain ⟨f, rfl⟩ : ∃ f', f = f' + 1 := ⟨f - 1, by omega⟩
    refine ⟨A, ?_, hL, fun v' f' s' hf' hs' hv' => hW v' f' s' hf' hs' (by omega), sA.rfl', rfl⟩
    rw [F_X3_settle_58, x_gN_ok (K2 _ _) (R6 _ _), show (2 : Int32) = nI 2 from rfl, x_aI_ok (K3 _ _) (by rw [L3]; omega) (by omega), w2_I, hL.1.2.2.2, if_pos (nI_le (by omega) (by omega))]
  | succ d ih =>
    intro v f A hj hf hL hW
    obtain ⟨f, rfl⟩ : ∃ f', f = f' + 1 := ⟨f - 1, by omega⟩
    obtain ⟨A1, e1, e2, e3, e4, e5⟩ := S_setLaws (B := B) h ho (show v < lH l 3 by omega) hL hW
    obtain ⟨A', u1, u2, u3, u4, u5⟩ := ih (v + 1) f A1 (by omega) (by omega) e2 e3
    refine ⟨A', ?_, u2, u3, e4.trans u4, by rw [u5, e5]⟩
    rw [F_X3_settle_58, x_gN_ok (K2 _ _) (R6 _ _), show (2 : Int32) = nI 2 from rfl, x_aI_ok (K3 _ _) (by rw [L3]; omega) (by omega), w2_I, hL.1.2.2.2, if_neg (nI_ge (by omega) (by omega)), x_cV_ok (K2 _ _) e1, m_let_eq, nI_1]
    exact u1
theorem S_settle (h : G M) (ho : lOk l) (hL : LC0 l A) (h21 : A 2 1 = nI (lH l 6)) (h22 : A 2 2 = nI (lH l 5)) (h33 : A 3 3 = nI (lH l 4)) (h5 : ∀ d, d < lH l 5 → A 5 d = iO (lD l d)) (h6 : ∀ k, k < 6 * lH l 4 → A 6 k = nI (lV l k)) : ∃ A' B', F_X3_settle 2 (m_w2 M A B) = some ((), m_w2 M A' B') ∧ LCi l A' ∧ LCs l (B' 13) ∧ (∀ b, b ≠ 13 → B' b = B b) ∧ ∀ b, b ≠ 2 → b ≠ 11 → b ≠ 12 → b ≠ 14 → b ≠ 15 → A' b = A b := by
  have b2 := ho.2.2.1
  have b3 := ho.2.2.2.1
  have K2 : ∀ A B, m_K (m_w2 M A B) 2 = 3 := fun A B => by simp only [w2_K, gK h]
  obtain ⟨B1, e1, e2, e3⟩ := S_settleW (A := A) (B := B) h hL.1.1 hL.1.2.1 ho
  obtain ⟨A1, hA1⟩ : ∃ A1, A1 = m_up (m_up A 2 3 (nI (wN l))) 2 4 (nI ((wN l + 63) / 64)) := ⟨_, rfl⟩
  rw [← hA1] at e1
  have f1 : ∀ b, b ≠ 2 → A1 b = A b := fun b hb => by rw [hA1, up_fr hb, up_fr hb]
  have f2 : ∀ k, k ≠ 3 → k ≠ 4 → A1 2 k = A 2 k := fun k x y => by rw [hA1, up_at, if_neg (fun z => y z.2), up_at, if_neg (fun z => x z.2)]
  have rk : ∀ {isB : Bool} {i : Nat} {E : (Nat → Int32) → Int32}, RkL isB A i E → RkL isB A1 i E := by
    intro isB i E hr
    obtain ⟨c, a, e, mm, V, ⟨r1, r2, r3⟩, r4, r5, r6⟩ := hr
    exact ⟨c, a, e, mm, V, ⟨by rw [f1 9 (by omega)]; exact r1, by rw [f1 10 (by omega)]; exact r2, by rw [f2 5 (by omega) (by omega)]; exact r3⟩, r4, by rw [f1 8 (by omega)]; exact r5, r6⟩
  have hL1 : LC0 l A1 := by
    obtain ⟨⟨c1, c2, c3, c4⟩, c5, c6, c7⟩ := hL
    exact ⟨⟨by rw [f2 0 (by omega) (by omega)]; exact c1, by rw [f1 3 (by omega)]; exact c2, by rw [f1 3 (by omega)]; exact c3, by rw [f1 3 (by omega)]; exact c4⟩, by rw [f1 4 (by omega)]; exact c5, fun j hj => rk (c6 j hj), fun v hv => rk (c7 v hv)⟩
  unfold F_X3_settle
  rw [x_cV_ok (K2 _ _) e1]
  refine m_let_P (fun o => ∃ A' B', o = some ((), m_w2 M A' B') ∧ LCi l A' ∧ LCs l (B' 13) ∧ (∀ b, b ≠ 13 → B' b = B b) ∧ ∀ b, b ≠ 2 → b ≠ 11 → b ≠ 12 → b ≠ 14 → b ≠ 15 → A' b = A b) ?_
  intro k56 h56
  obtain ⟨A2, u1, u2, u3, u4, u5⟩ := S_set6 (B := B1) h ho (K := k56) (lH l 2) 0 m_FU A1 (by omega) (m_FU_lt (by omega)) hL1 (fun j' t' _ hj' => absurd hj' (Nat.not_lt_zero _))
  obtain ⟨A3, w1, w2, w3, w4, w5⟩ := S_set58 (B := B1) h ho (lH l 3) 0 m_FU A2 (by omega) (m_FU_lt (by omega)) u2 (fun v' f' s' _ _ hv' => absurd hv' (Nat.not_lt_zero _))
  have f3 := u4.trans w4
  have g : ∀ b, b ≠ 2 → b ≠ 11 → b ≠ 12 → b ≠ 14 → b ≠ 15 → A3 b = A b := fun b x y z u w => by rw [f3 b y z u w, f1 b x]
  have g2 : A3 2 = A1 2 := f3 2 (by omega) (by omega) (by omega) (by omega)
  refine ⟨A3, B1, ?_, ?_, e3, e2, g⟩
  · have u1' : F_X3_settle_6 k56 m_FU 2 (0 : Int32) (m_w2 M A1 B1) = _ := u1
    rw [u1', h56]
    exact w1
  · refine ⟨⟨w2.1.1, by rw [g2, f2 1 (by omega) (by omega)]; exact h21, by rw [g2, f2 2 (by omega) (by omega)]; exact h22, by rw [g2, hA1, up_at, if_neg (by omega), up_at, if_pos ⟨rfl, rfl⟩], by rw [g2, hA1, up_at, if_pos ⟨rfl, rfl⟩]⟩, ⟨w2.1.2.1, w2.1.2.2.1, w2.1.2.2.2, by rw [g 3 (by omega) (by omega) (by omega) (by omega) (by omega)]; exact h33⟩, w2.2.1, by rw [g 5 (by omega) (by omega) (by omega) (by omega) (by omega)]; exact h5, by rw [g 6 (by omega) (by omega) (by omega) (by omega) (by omega)]; exact h6, fun j t hj ht => ?_, fun v f s hv hf hs => w3 v f s hf hs hv⟩
    have := u3 j t ht hj
    unfold wyE at this
    rw [w5]
    exact this
end CLAND2
