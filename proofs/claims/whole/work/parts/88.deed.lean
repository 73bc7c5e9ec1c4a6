/-! the class notes a deed -/
section DEED
variable {M : m_M}
/-- ints and references anew -/
def m_x3 (M : m_M) (A : IA) (R : Nat → Nat → Option Nat) : m_M := m_wA (m_xR M R) A
theorem x3_R {A : IA} {R : Nat → Nat → Option Nat} : m_R (m_x3 M A R) = R := rfl
theorem x3_I {A : IA} {R : Nat → Nat → Option Nat} : m_I (m_x3 M A R) = A := rfl
theorem x3_K {A : IA} {R : Nat → Nat → Option Nat} : m_K (m_x3 M A R) = m_K M := rfl
theorem x3_n {A : IA} {R : Nat → Nat → Option Nat} : m_len (m_x3 M A R) = m_len M := rfl
theorem x3_sR {A : IA} {R : Nat → Nat → Option Nat} {a k : Nat} {v : Option Nat} : m_sR (m_x3 M A R) a k v = m_x3 M A (m_up R a k v) := rfl
theorem x3_sI {A : IA} {R : Nat → Nat → Option Nat} {a k : Nat} {v : Int32} : m_sI (m_x3 M A R) a k v = m_x3 M (m_up A a k v) R := rfl
theorem x3_0 : m_x3 M (m_I M) (m_R M) = M := rfl
theorem mvR_s {V : Type} {B : Nat → Nat → V} {a k : Nat} : (fun b x => if b = a ∧ x = k then B a (k + 1) else mvR B a 1 0 k b x) = mvR B a 1 0 (k + 1) := by
  funext b y
  rw [mvR_at, mvR_at]
  by_cases q : b = a ∧ y = k
  · rw [if_pos q, if_pos ⟨q.1, by omega, by omega⟩, q.2, show 1 + (k - 0) = k + 1 by omega]
  · rw [if_neg q]
    by_cases z : b = a ∧ 0 ≤ y ∧ y < 0 + k
    · rw [if_pos z, if_pos ⟨z.1, z.2.1, by omega⟩]
    · rw [if_neg z, if_neg (fun w => z ⟨w.1, w.2.1, by have := fun e => q ⟨w.1, e⟩; omega⟩)]
def dA (A : IA) (k : Nat) : IA := mvR (mvR A 85 1 0 k) 86 1 0 k
def dR (R : Nat → Nat → Option Nat) (k : Nat) : Nat → Nat → Option Nat := mvR R 87 1 0 k
theorem dA_fr {A : IA} {k a : Nat} (h1 : a ≠ 85) (h2 : a ≠ 86) : dA A k a = A a := by
  unfold dA
  rw [mvR_fr h2, mvR_fr h1]
theorem dA_85 {A : IA} {k : Nat} : dA A k 85 = mvR A 85 1 0 k 85 := by
  unfold dA
  rw [mvR_fr (by omega)]
theorem dA_86 {A : IA} {k : Nat} : dA A k 86 = mvR A 86 1 0 k 86 := by
  unfold dA
  exact mvR_cg (mvR_fr (by omega))
theorem dA_s {A : IA} {k : Nat} : m_up (m_up (dA A k) 85 k (A 85 (k + 1))) 86 k (A 86 (k + 1)) = dA A (k + 1) := by
  funext b x
  rw [up_at, up_at]
  by_cases q : b = 86
  · subst q
    rw [dA_86, dA_86, ← mvR_s]
    by_cases z : x = k
    · rw [if_pos ⟨rfl, z⟩]; exact (if_pos ⟨rfl, z⟩).symm
    · rw [if_neg (fun w => z w.2), if_neg (by omega)]; exact (if_neg (fun w => z w.2)).symm
  · rw [if_neg (fun w => q w.1)]
    by_cases p : b = 85
    · subst p
      rw [dA_85, dA_85, ← mvR_s]
    · rw [if_neg (fun w => p w.1), dA_fr p q, dA_fr p q]
theorem S_deed18 {k81 : Nat → Int32 → Int32 → Nat → m_M → Option (Unit × m_M)} (h : G M) (h4 : m_I M 80 4 = nI 11) (hs : ∀ i, i < 12 → ∃ x, m_R M 87 i = some x ∧ m_K M x = 6) {a b : Int32} {r : Nat} : ∀ (d k f : Nat), k + d = 11 → d < f →
    F_X1_noteDeed_18 k81 f 80 a b r (nI k) (m_x3 M (dA (m_I M) k) (dR (m_R M) k)) = k81 80 a b r (m_x3 M (dA (m_I M) 11) (dR (m_R M) 11)) := by
  have K80 : m_K M 80 = 1 := by simp only [gK h]
  have K85 : m_K M 85 = 12 := by simp only [gK h]
  have K86 : m_K M 86 = 12 := by simp only [gK h]
  have K87 : m_K M 87 = 16 := by simp only [gK h]
  have L85 : m_len M 85 = 12 := by simp only [gl h]
  have L86 : m_len M 86 = 12 := by simp only [gl h]
  have L87 : m_len M 87 = 12 := by simp only [gl h]
  have R10 : ∀ A k, m_R (m_x3 M A (dR (m_R M) k)) 80 10 = some 85 := fun A k => by rw [x3_R]; unfold dR; rw [mvR_fr (by omega)]; simp only [gR h]
  have R11 : ∀ A k, m_R (m_x3 M A (dR (m_R M) k)) 80 11 = some 86 := fun A k => by rw [x3_R]; unfold dR; rw [mvR_fr (by omega)]; simp only [gR h]
  have R12 : ∀ A k, m_R (m_x3 M A (dR (m_R M) k)) 80 12 = some 87 := fun A k => by rw [x3_R]; unfold dR; rw [mvR_fr (by omega)]; simp only [gR h]
  have k80 : ∀ A R, m_K (m_x3 M A R) 80 = 1 := fun _ _ => K80
  have k85 : ∀ A R, m_K (m_x3 M A R) 85 = 12 := fun _ _ => K85
  have k86 : ∀ A R, m_K (m_x3 M A R) 86 = 12 := fun _ _ => K86
  have k87 : ∀ A R, m_K (m_x3 M A R) 87 = 16 := fun _ _ => K87
  intro d
  induction d with
  | zero =>
    intro k f hk hf
    obtain ⟨f, rfl⟩ : ∃ f', f = f' + 1 := ⟨f - 1, by omega⟩
    rw [F_X1_noteDeed_18, x_gI_ok (k80 _ _), x3_I, dA_fr (by omega) (by omega), h4, if_pos (nI_le (by omega) (by omega)), show k = 11 by omega]
  | succ d ih =>
    intro k f hk hf
    obtain ⟨f, rfl⟩ : ∃ f', f = f' + 1 := ⟨f - 1, by omega⟩
    have e := ih (k + 1) f (by omega) (by omega)
    obtain ⟨x, x1, x2⟩ := hs (k + 1) (by omega)
    have e85 : dA (m_I M) k 85 (k + 1) = m_I M 85 (k + 1) := by rw [dA_85, mvR_out (by omega)]
    have e86 : ∀ v, m_up (dA (m_I M) k) 85 k v 86 (k + 1) = m_I M 86 (k + 1) := fun v => by rw [up_fr (by omega), dA_86, mvR_out (by omega)]
    have e87 : dR (m_R M) k 87 (k + 1) = some x := by unfold dR; rw [mvR_out (by omega)]; exact x1
    have eR : m_up (dR (m_R M) k) 87 k (some x) = dR (m_R M) (k + 1) := by
      unfold dR
      rw [← mvR_s, x1]
      rfl
    rw [F_X1_noteDeed_18, x_gI_ok (k80 _ _), x3_I, dA_fr (by omega) (by omega), h4, if_neg (nI_ge (by omega) (by omega)),
      x_gN_ok (k80 _ _) (R10 _ k), x_gN_ok (k80 _ _) (R10 _ k), nI_1, x_aI_ok (k85 _ _) (by rw [x3_n, L85]; omega) (by omega), x3_I, e85, x_sI_ok (k85 _ _) (by rw [x3_n, L85]; omega) (by omega), x3_sI,
      x_gN_ok (k80 _ _) (R11 _ k), x_gN_ok (k80 _ _) (R11 _ k), x_aI_ok (k86 _ _) (by rw [x3_n, L86]; omega) (by omega), x3_I, e86, x_sI_ok (k86 _ _) (by rw [x3_n, L86]; omega) (by omega), x3_sI,
      x_gN_ok (k80 _ _) (R12 _ k), x_gN_ok (k80 _ _) (R12 _ k), x_aN_ok (k87 _ _) (by rw [x3_n, L87]; omega) (by omega) (show m_R (m_x3 M _ (dR (m_R M) k)) 87 (k + 1) = some x from e87), x_sR_ok (k87 _ _) (by rw [x3_n, L87]; omega) (by omega) (by rw [x3_K]; exact x2), x3_sR, dA_s, eR, m_let_eq]
    exact e
def dAdd (M : m_M) (n : Nat) (a b : Int32) (r : Nat) : m_M := m_sI (m_x3 M (m_up (m_up (m_I M) 85 n a) 86 n b) (m_up (m_R M) 87 n (some r))) 80 4 (nI (n + 1))
theorem S_noteDeed (h : G M) {n : Nat} (hn : n ≤ 12) (h4 : m_I M 80 4 = nI n) (hs : ∀ i, i < n → ∃ x, m_R M 87 i = some x ∧ m_K M x = 6) {a b : Int32} {r : Nat} (hr : m_K M r = 6) :
    F_X1_noteDeed 80 a b r M = some ((), if n < 12 then dAdd M n a b r else dAdd (m_x3 (m_sI M 80 4 (nI 11)) (dA (m_I (m_sI M 80 4 (nI 11))) 11) (dR (m_R M) 11)) 11 a b r) := by
  have K80 : m_K M 80 = 1 := by simp only [gK h]
  have kk : ∀ (M' : m_M) (n : Nat) (k81 : Nat → Int32 → Int32 → Nat → m_M → Option (Unit × m_M)), (k81 = fun (v1 : Nat) (v2 : Int32) (v3 : Int32) (v4 : Nat) (M1 : m_M) =>
    x_gN 1 M1 v1 10 fun v5 =>
    x_gI 1 M1 v1 4 fun v6 =>
    x_sI 12 M1 v5 v6 v2 fun M2 =>
    x_gN 1 M2 v1 11 fun v7 =>
    x_gI 1 M2 v1 4 fun v8 =>
    x_sI 12 M2 v7 v8 v3 fun M3 =>
    x_gN 1 M3 v1 12 fun v9 =>
    x_gI 1 M3 v1 4 fun v10 =>
    x_sR 16 6 M3 v9 v10 (some v4) fun M4 =>
    x_gI 1 M4 v1 4 fun v11 =>
    x_pI 1 M4 v1 4 (v11 + (1 : Int32)) fun M5 =>
    some ((), M5)) → G M' → n < 12 → m_I M' 80 4 = nI n → m_K M' r = 6 → k81 80 a b r M' = some ((), dAdd M' n a b r) := by
    intro M' n k81 hk hG hn h4 hr
    have c80 : m_K M' 80 = 1 := by simp only [gK hG]
    have c85 : m_K M' 85 = 12 := by simp only [gK hG]
    have c86 : m_K M' 86 = 12 := by simp only [gK hG]
    have c87 : m_K M' 87 = 16 := by simp only [gK hG]
    have L85 : m_len M' 85 = 12 := by simp only [gl hG]
    have L86 : m_len M' 86 = 12 := by simp only [gl hG]
    have L87 : m_len M' 87 = 12 := by simp only [gl hG]
    have R10 : m_R M' 80 10 = some 85 := by simp only [gR hG]
    have R11 : m_R M' 80 11 = some 86 := by simp only [gR hG]
    have R12 : m_R M' 80 12 = some 87 := by simp only [gR hG]
    have i1 : ∀ v, m_I (m_sI M' 85 n v) 80 4 = nI n := fun v => by rw [mI_sI, if_neg (by omega)]; exact h4
    have i2 : ∀ v w, m_I (m_sI (m_sI M' 85 n v) 86 n w) 80 4 = nI n := fun v w => by rw [mI_sI, if_neg (by omega)]; exact i1 v
    rw [hk]
    dsimp only
    rw [x_gN_ok c80 R10, x_gI_ok c80, h4, x_sI_ok c85 (by rw [L85]; omega) (by omega),
      x_gN_ok (show m_K (m_sI M' 85 n a) 80 = 1 from c80) (show m_R (m_sI M' 85 n a) 80 11 = some 86 from R11), x_gI_ok (show m_K (m_sI M' 85 n a) 80 = 1 from c80), i1, x_sI_ok (show m_K (m_sI M' 85 n a) 86 = 12 from c86) (show n < m_len M' 86 by rw [L86]; omega) (by omega),
      x_gN_ok (show m_K (m_sI (m_sI M' 85 n a) 86 n b) 80 = 1 from c80) (show m_R (m_sI (m_sI M' 85 n a) 86 n b) 80 12 = some 87 from R12), x_gI_ok (show m_K (m_sI (m_sI M' 85 n a) 86 n b) 80 = 1 from c80), i2, x_sR_ok (show m_K (m_sI (m_sI M' 85 n a) 86 n b) 87 = 16 from c87) (show n < m_len M' 87 by rw [L87]; omega) (by omega) (show m_K (m_sI (m_sI M' 85 n a) 86 n b) r = 6 from hr),
      x_gI_ok (show m_K (m_sR (m_sI (m_sI M' 85 n a) 86 n b) 87 n (some r)) 80 = 1 from c80), mI_sR, i2, nI_1, x_pI_ok (show m_K (m_sR (m_sI (m_sI M' 85 n a) 86 n b) 87 n (some r)) 80 = 1 from c80)]
    rfl
  unfold F_X1_noteDeed
  refine m_let_P (fun o => o = some ((), if n < 12 then dAdd M n a b r else dAdd (m_x3 (m_sI M 80 4 (nI 11)) (dA (m_I (m_sI M 80 4 (nI 11))) 11) (dR (m_R M) 11)) 11 a b r)) ?_
  intro k81 hk
  rw [x_gI_ok K80, h4]
  by_cases q : n < 12
  · rw [if_pos (show nI n < (12 : Int32) from nI_lt (b := 12) q (by omega)), if_pos q]
    exact kk M n k81 hk h q h4 hr
  · rw [if_neg (show ¬ nI n < (12 : Int32) from nI_nlt (b := 12) (by omega) (by omega)), if_neg q, x_pI_ok K80]
    have hM6 : m_I (m_sI M 80 4 (nI 11)) 80 4 = nI 11 := by rw [mI_sI, if_pos ⟨rfl, rfl⟩]
    have e := S_deed18 (k81 := k81) (M := m_sI M 80 4 (nI 11)) h hM6 (fun i hi => hs i (by omega)) (a := a) (b := b) (r := r) 11 0 m_FU (by omega) (m_FU_lt (by omega))
    unfold dA dR at e
    rw [mvR_0, mvR_0, mvR_0, x3_0] at e
    refine Eq.trans e ?_
    have e2 := kk (m_x3 (m_sI M 80 4 (nI 11)) (dA (m_I (m_sI M 80 4 (nI 11))) 11) (dR (m_R M) 11)) 11 k81 hk ?_ (by omega) (by rw [x3_I, dA_fr (by omega) (by omega)]; exact hM6) hr
    · exact e2
    · have : G (m_xR M (dR (m_R M) 11)) := G.xR h (fun a _ _ h3 _ => by unfold dR; exact mvR_fr h3)
      exact this
end DEED
