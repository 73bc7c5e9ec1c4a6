/-! mark, the class's side: a book is copied -/
section COPY
variable {M M' : m_M} {s : St}
def isBase (b : Nat) : Prop := b = 80 ∨ b = 96 ∨ b = 104 ∨ b = 112 ∨ b = 120
theorem bkc (hG : G M) {b : Nat} (hb : isBase b) : m_K M b = 1 ∧ m_R M b 7 = some (b + 2) ∧ m_R M b 8 = some (b + 3) ∧ m_R M b 9 = some (b + 4) ∧ m_K M (b + 2) = 16 ∧ m_len M (b + 2) = 12 ∧ m_K M (b + 3) = 16 ∧ m_len M (b + 3) = 4 ∧ m_K M (b + 4) = 12 ∧ m_len M (b + 4) = 20 := by
  rcases hb with rfl | rfl | rfl | rfl | rfl
  all_goals
    refine ⟨?_, ?_, ?_, ?_, ?_, ?_, ?_, ?_, ?_, ?_⟩ <;> simp only [gK hG, gR hG, gl hG]
def cpM {V : Type} (B : Nat → Nat → V) (a b k : Nat) : Nat → Nat → V := fun c j => if c = a ∧ j < k then B b j else B c j
theorem cpM_at {V : Type} (B : Nat → Nat → V) (a b k c j : Nat) : cpM B a b k c j = if c = a ∧ j < k then B b j else B c j := rfl
theorem cpM_fr {V : Type} {B : Nat → Nat → V} {a b k c : Nat} (h : c ≠ a) : cpM B a b k c = B c := by
  funext j
  rw [cpM_at, if_neg (fun z => h z.1)]
theorem cpM_0 {V : Type} {B : Nat → Nat → V} {a b : Nat} : cpM B a b 0 = B := by
  funext c j
  rw [cpM_at, if_neg (by omega)]
theorem cpM_up {B : Nat → Nat → Option Nat} {a b k : Nat} : m_up (cpM B a b k) a k (B b k) = cpM B a b (k + 1) := by
  funext c j
  rw [upR_at, cpM_at, cpM_at]
  by_cases q : c = a ∧ j = k
  · rw [if_pos q, if_pos ⟨q.1, by omega⟩, q.2]
  · rw [if_neg q]
    by_cases z : c = a ∧ j < k
    · rw [if_pos z, if_pos ⟨z.1, by omega⟩]
    · rw [if_neg z, if_neg (fun w => z ⟨w.1, by have := fun e => q ⟨w.1, e⟩; omega⟩)]
theorem x_sRo_ok {β : Type} {kd kr a n : Nat} {v : Option Nat} {f : m_M → Option β} (h : m_K M a = kd) (h2 : n < m_len M a) (h3 : n < 2147483648) (h4 : ∀ r, v = some r → m_K M r = kr) : x_sR kd kr M a (nI n) v f = f (m_sR M a n v) := by
  unfold x_sR
  have h5 : v.all (fun r => decide (m_K M r = kr)) = true := by
    cases v with
    | none => rfl
    | some r => show decide (m_K M r = kr) = true; rw [h4 r rfl]; exact decide_eq_true rfl
  rw [nI_cl h3, if_pos ⟨⟨h, nI_pos' h3, h2⟩, h5⟩]
theorem S_cp47 {k71 : Nat → Nat → m_M → Option (Unit × m_M)} {A : IA} {R : Nat → Nat → Option Nat} {a b : Nat} (hab : a ≠ b) (ha : m_K M a = 1) (hb : m_K M b = 1) (ra : R a 7 = some (a + 2)) (rb : R b 7 = some (b + 2)) (ka : m_K M (a + 2) = 16) (kb : m_K M (b + 2) = 16) (la : m_len M (a + 2) = 12) (lb : m_len M (b + 2) = 12) (h1 : a ≠ a + 2) (h2 : b ≠ a + 2) (hk : ∀ j x, R (b + 2) j = some x → m_K M x = 6) : ∀ (d k f : Nat), k + d = 12 → d < f →
    F_X1_copyFrom_47 k71 f a b (nI k) (m_x3 M A (cpM R (a + 2) (b + 2) k)) = k71 a b (m_x3 M A (cpM R (a + 2) (b + 2) 12)) := by
  intro d
  induction d with
  | zero =>
    intro k f hk2 hf
    obtain ⟨f, rfl⟩ : ∃ f', f = f' + 1 := ⟨f - 1, by omega⟩
    obtain rfl : k = 12 := by omega
    rw [F_X1_copyFrom_47, if_pos (by decide)]
  | succ d ih =>
    intro k f hk2 hf
    obtain ⟨f, rfl⟩ : ∃ f', f = f' + 1 := ⟨f - 1, by omega⟩
    have e := ih (k + 1) f (by omega) (by omega)
    have eb : cpM R (a + 2) (b + 2) k (b + 2) = R (b + 2) := cpM_fr (by omega)
    rw [F_X1_copyFrom_47, if_neg (show ¬ (12 : Int32) ≤ nI k from nI_ge (b := 12) (by omega) (by omega)), x_gN_ok (by rw [x3_K]; exact ha) (by rw [x3_R, cpM_fr h1]; exact ra), x_gN_ok (by rw [x3_K]; exact hb) (by rw [x3_R, cpM_fr h2]; exact rb), x_aO_ok (by rw [x3_K]; exact kb) (by rw [x3_n, lb]; omega) (by omega), x3_R, eb, x_sRo_ok (by rw [x3_K]; exact ka) (by rw [x3_n, la]; omega) (by omega) (fun r hr => by rw [x3_K]; exact hk k r hr), x3_sR, cpM_up, m_let_eq, nI_1]
    exact e
theorem S_cp73 {k96 : Nat → Nat → m_M → Option (Unit × m_M)} {A : IA} {R : Nat → Nat → Option Nat} {a b : Nat} (hab : a ≠ b) (ha : m_K M a = 1) (hb : m_K M b = 1) (ra : R a 8 = some (a + 3)) (rb : R b 8 = some (b + 3)) (ka : m_K M (a + 3) = 16) (kb : m_K M (b + 3) = 16) (la : m_len M (a + 3) = 4) (lb : m_len M (b + 3) = 4) (h1 : a ≠ a + 3) (h2 : b ≠ a + 3) (hk : ∀ j x, R (b + 3) j = some x → m_K M x = 6) : ∀ (d k f : Nat), k + d = 4 → d < f →
    F_X1_copyFrom_73 k96 f a b (nI k) (m_x3 M A (cpM R (a + 3) (b + 3) k)) = k96 a b (m_x3 M A (cpM R (a + 3) (b + 3) 4)) := by
  intro d
  induction d with
  | zero =>
    intro k f hk2 hf
    obtain ⟨f, rfl⟩ : ∃ f', f = f' + 1 := ⟨f - 1, by omega⟩
    obtain rfl : k = 4 := by omega
    rw [F_X1_copyFrom_73, if_pos (by decide)]
  | succ d ih =>
    intro k f hk2 hf
    obtain ⟨f, rfl⟩ : ∃ f', f = f' + 1 := ⟨f - 1, by omega⟩
    have e := ih (k + 1) f (by omega) (by omega)
    have eb : cpM R (a + 3) (b + 3) k (b + 3) = R (b + 3) := cpM_fr (by omega)
    rw [F_X1_copyFrom_73, if_neg (show ¬ (4 : Int32) ≤ nI k from nI_ge (b := 4) (by omega) (by omega)), x_gN_ok (by rw [x3_K]; exact ha) (by rw [x3_R, cpM_fr h1]; exact ra), x_gN_ok (by rw [x3_K]; exact hb) (by rw [x3_R, cpM_fr h2]; exact rb), x_aO_ok (by rw [x3_K]; exact kb) (by rw [x3_n, lb]; omega) (by omega), x3_R, eb, x_sRo_ok (by rw [x3_K]; exact ka) (by rw [x3_n, la]; omega) (by omega) (fun r hr => by rw [x3_K]; exact hk k r hr), x3_sR, cpM_up, m_let_eq, nI_1]
    exact e
def cpA (A : IA) (a b : Nat) : IA := cpM (m_up (m_up (m_up (m_up (m_up A a 0 (A b 0)) a 1 (A b 1)) a 2 (A b 2)) a 3 (A b 3)) a 4 (nI 0)) (a + 4) (b + 4) 20
def cpR (R : Nat → Nat → Option Nat) (a b : Nat) : Nat → Nat → Option Nat := cpM (cpM (m_up R a 5 (R b 5)) (a + 2) (b + 2) 12) (a + 3) (b + 3) 4
theorem S_copyFrom (hG : G M) (hk : RefK M) {a b fr : Nat} (ha : isBase a) (hb : isBase b) (hab : a ≠ b) (hfr : m_R M b 5 = some fr) : F_X1_copyFrom a b M = some ((), m_x3 M (cpA (m_I M) a b) (cpR (m_R M) a b)) := by
  obtain ⟨a1, a2, a3, a4, a5, a6, a7, a8, a9, a10⟩ := bkc hG ha
  obtain ⟨b1, b2, b3, b4, b5, b6, b7, b8, b9, b10⟩ := bkc hG hb
  have hn : (a = 80 ∨ (96 ≤ a ∧ a ≤ 120 ∧ a % 8 = 0)) ∧ (b = 80 ∨ (96 ≤ b ∧ b ≤ 120 ∧ b % 8 = 0)) := ⟨by unfold isBase at ha; omega, by unfold isBase at hb; omega⟩
  have Ka : ∀ A R, m_K (m_x3 M A R) a = 1 := fun A R => a1
  have Kb : ∀ A R, m_K (m_x3 M A R) b = 1 := fun A R => b1
  have hk2 : ∀ j x, m_R M (b + 2) j = some x → m_K M x = 6 := fun j x hx => (hk (b + 2) (by omega) b5 j x hx).2
  have hk3 : ∀ j x, m_R M (b + 3) j = some x → m_K M x = 6 := fun j x hx => (hk (b + 3) (by omega) b7 j x hx).2
  have u5 : ∀ c, c ≠ a → ∀ v, m_up (m_R M) a 5 v c = m_R M c := fun c hc v => by funext j; rw [upR_at, if_neg (fun z => hc z.1)]
  have ua : ∀ j, j ≠ 5 → ∀ v, m_up (m_R M) a 5 v a j = m_R M a j := fun j hj v => by rw [upR_at, if_neg (fun z => hj z.2)]
  have e73 : ∀ (A : IA) (k96 : Nat → Nat → m_M → Option (Unit × m_M)), F_X1_copyFrom_73 k96 m_FU a b (nI 0) (m_x3 M A (cpM (m_up (m_R M) a 5 (some fr)) (a + 2) (b + 2) 12)) = k96 a b (m_x3 M A (cpR (m_R M) a b)) := by
    intro A k96
    have e := S_cp73 (k96 := k96) (M := M) (A := A) (R := cpM (m_up (m_R M) a 5 (some fr)) (a + 2) (b + 2) 12) hab a1 b1 (by rw [cpM_fr (by omega), ua 8 (by omega)]; exact a3) (by rw [cpM_fr (by omega), u5 b (by omega)]; exact b3) a7 b7 a8 b8 (by omega) (by omega) (fun j x hx => by rw [cpM_fr (by omega), u5 (b + 3) (by omega)] at hx; exact hk3 j x hx) 4 0 m_FU (by omega) (m_FU_lt (by omega))
    rw [cpM_0] at e
    unfold cpR
    rw [hfr]
    exact e
  have e47 : ∀ (A : IA) (k71 : Nat → Nat → m_M → Option (Unit × m_M)), F_X1_copyFrom_47 k71 m_FU a b (nI 0) (m_x3 M A (m_up (m_R M) a 5 (some fr))) = k71 a b (m_x3 M A (cpM (m_up (m_R M) a 5 (some fr)) (a + 2) (b + 2) 12)) := by
    intro A k71
    have e := S_cp47 (k71 := k71) (M := M) (A := A) (R := m_up (m_R M) a 5 (some fr)) hab a1 b1 (by rw [ua 7 (by omega)]; exact a2) (by rw [u5 b (by omega)]; exact b2) a5 b5 a6 b6 (by omega) (by omega) (fun j x hx => by rw [u5 (b + 2) (by omega)] at hx; exact hk2 j x hx) 12 0 m_FU (by omega) (m_FU_lt (by omega))
    rw [cpM_0] at e
    exact e
  unfold F_X1_copyFrom
  have u : ∀ {A : IA} {k : Nat} {v : Int32}, m_up A a k v b = A b := fun {A k v} => up_fr (by omega)
  have gb : ∀ {β : Type} {A : IA} {R : Nat → Nat → Option Nat} {k : Nat} {f : Int32 → Option β}, x_gI 1 (m_x3 M A R) b k f = f (A b k) := fun {β A R k f} => by rw [x_gI_ok (Kb _ _), x3_I]
  have kb9 : ∀ A R, m_K (m_x3 M A R) (b + 4) = 12 := fun A R => b9
  have ka9 : ∀ A R, m_K (m_x3 M A R) (a + 4) = 12 := fun A R => a9
  have r5 : ∀ A, m_R (m_x3 M A (m_R M)) b 5 = some fr := fun A => hfr
  rw [x_gI_ok b1, x_pI_ok a1, show ∀ v, m_sI M a 0 v = m_x3 M (m_up (m_I M) a 0 v) (m_R M) from fun _ => rfl, gb, u, x_pI_ok (Ka _ _), x3_sI, gb, u, u, x_pI_ok (Ka _ _), x3_sI, gb, u, u, u, x_pI_ok (Ka _ _), x3_sI, x_pI_ok (Ka _ _), x3_sI, x_gN_ok (Kb _ _) (r5 _), x_pR_ok (Ka _ _), x3_sR, m_let_eq, show (0 : Int32) = nI 0 from rfl, e47, m_let_eq, e73]
  have r9 : ∀ A, m_R (m_x3 M A (cpR (m_R M) a b)) a 9 = some (a + 4) := fun A => by
    rw [x3_R]
    unfold cpR
    rw [cpM_fr (by omega), cpM_fr (by omega), ua 9 (by omega)]; exact a4
  have r9b : ∀ A, m_R (m_x3 M A (cpR (m_R M) a b)) b 9 = some (b + 4) := fun A => by
    rw [x3_R]
    unfold cpR
    rw [cpM_fr (by omega), cpM_fr (by omega), u5 b (by omega)]; exact b4
  have u4 : ∀ {A : IA} {c k : Nat} {v : Int32}, c ≠ a → m_up A a k v c = A c := fun {A c k v} h => up_fr h
  rw [x_gN_ok (Kb _ _) (r9b _), x_gN_ok (Ka _ _) (r9 _), show (20 : Int32) = nI 20 from rfl, x_cpI_ok (kb9 _ _) (ka9 _ _) (by rw [x3_n, b10]; omega) (by rw [x3_n, a10]; omega) (by omega) (by omega) (by omega)]
  congr 1
  congr 1
  show m_x3 M _ _ = m_x3 M _ _
  congr 1
  funext c j
  rw [x3_I]
  unfold cpA
  rw [cpM_at]
  by_cases q : c = a + 4
  · rw [if_pos q]
    unfold va_cpy
    by_cases z : j < 20
    · rw [if_pos ⟨by omega, by omega⟩, if_pos ⟨q, z⟩]
      congr 1
      omega
    · rw [if_neg (by omega), if_neg (by omega), q]
  · rw [if_neg q, if_neg (by omega)]
    rfl
end COPY
