/-! unsay, the model's side: the rows move up -/
section MUNSAY
variable {M : m_M} {s : St}
theorem mvR_up2 {V : Type} {B C : Nat → Nat → V} {a i j k : Nat} (hd : j ≤ i) (hC : ∀ b x, C b x = if b = a ∧ x = j + k then mvR B a i j k a (i + k) else mvR B a i j k b x) : C = mvR B a i j (k + 1) := by
  funext b x
  rw [hC]
  by_cases q : b = a ∧ x = j + k
  · rw [if_pos q, mvR_out (by omega), mvR_at, if_pos ⟨q.1, by omega, by omega⟩, q.2]
    congr 1
    omega
  · rw [if_neg q, mvR_at, mvR_at]
    by_cases p : b = a ∧ j ≤ x ∧ x < j + k
    · rw [if_pos p, if_pos ⟨p.1, p.2.1, by omega⟩]
    · rw [if_neg p, if_neg (fun z => p ⟨z.1, z.2.1, by have := fun e => q ⟨z.1, e⟩; omega⟩)]
theorem S_un30 (h : G M) {k61 : Nat → Int32 → m_M → Option (Int32 × m_M)} {A : IA} {B : Nat → Nat → Int64} {v : Int32} {p : Nat} : ∀ (d k f : Nat), p + 16 + k + d = 192 → d < f →
    F_X12_unsay_30 k61 f 128 v (nI (p + k)) (m_w2 M A (mvR B 156 (p + 16) p k)) = k61 128 v (m_w2 M A (mvR B 156 (p + 16) p (176 - p))) := by
  have K0 : ∀ A B, m_K (m_w2 M A B) 128 = 10 := fun A B => by simp only [w2_K, gK h]
  have R46 : ∀ A B, m_R (m_w2 M A B) 128 46 = some 156 := fun A B => by simp only [w2_R, gR h]
  have K156 : ∀ A B, m_K (m_w2 M A B) 156 = 13 := fun A B => by simp only [w2_K, gK h]
  have L156 : ∀ A B, m_len (m_w2 M A B) 156 = 3264 := fun A B => by simp only [w2_n, gl h]
  intro d
  induction d with
  | zero =>
    intro k f hk hf
    obtain ⟨f, rfl⟩ : ∃ f', f = f' + 1 := ⟨f - 1, by omega⟩
    rw [F_X12_unsay_30, show (16 : Int32) = nI 16 from rfl, nI_add, if_pos (show (192 : Int32) ≤ nI (p + k + 16) from nI_le (a := 192) (by omega) (by omega)), show 176 - p = k by omega]
  | succ d ih =>
    intro k f hk hf
    obtain ⟨f, rfl⟩ : ∃ f', f = f' + 1 := ⟨f - 1, by omega⟩
    have e := ih (k + 1) f (by omega) (by omega)
    rw [F_X12_unsay_30, show (16 : Int32) = nI 16 from rfl, nI_add, if_neg (show ¬ (192 : Int32) ≤ nI (p + k + 16) from nI_ge (b := 192) (by omega) (by omega)), x_gN_ok (K0 _ _) (R46 _ _), x_gN_ok (K0 _ _) (R46 _ _), x_aL_ok (K156 _ _) (by rw [L156]; omega) (by omega), x_sL_ok (K156 _ _) (by rw [L156]; omega) (by omega), w2_L, w2_sL, m_let_eq, nI_1, mvR_up2 (i := p + 16) (j := p) (k := k) (C := upB (mvR B 156 (p + 16) p k) 156 (p + k) (mvR B 156 (p + 16) p k 156 (p + k + 16))) (by omega) (fun b x => by rw [upB_at, show p + k + 16 = p + 16 + k by omega])]
    exact e
theorem S_un63 (h : G M) {k89 : Nat → m_M → Option (Int32 × m_M)} {A : IA} {B : Nat → Nat → Int64} {p : Nat} : ∀ (d k f : Nat), p + k + d = 11 → d < f →
    F_X12_unsay_63 k89 f 128 (nI (p + k)) (m_w2 M (mvR A 157 (p + 1) p k) B) = k89 128 (m_w2 M (mvR A 157 (p + 1) p (11 - p)) B) := by
  have K0 : ∀ A B, m_K (m_w2 M A B) 128 = 10 := fun A B => by simp only [w2_K, gK h]
  have R47 : ∀ A B, m_R (m_w2 M A B) 128 47 = some 157 := fun A B => by simp only [w2_R, gR h]
  have K157 : ∀ A B, m_K (m_w2 M A B) 157 = 12 := fun A B => by simp only [w2_K, gK h]
  have L157 : ∀ A B, m_len (m_w2 M A B) 157 = 204 := fun A B => by simp only [w2_n, gl h]
  intro d
  induction d with
  | zero =>
    intro k f hk hf
    obtain ⟨f, rfl⟩ : ∃ f', f = f' + 1 := ⟨f - 1, by omega⟩
    rw [F_X12_unsay_63, if_pos (show (11 : Int32) ≤ nI (p + k) from nI_le (a := 11) (by omega) (by omega)), show 11 - p = k by omega]
  | succ d ih =>
    intro k f hk hf
    obtain ⟨f, rfl⟩ : ∃ f', f = f' + 1 := ⟨f - 1, by omega⟩
    have e := ih (k + 1) f (by omega) (by omega)
    rw [F_X12_unsay_63, if_neg (show ¬ (11 : Int32) ≤ nI (p + k) from nI_ge (b := 11) (by omega) (by omega)), x_gN_ok (K0 _ _) (R47 _ _), x_gN_ok (K0 _ _) (R47 _ _), nI_1, x_aI_ok (K157 _ _) (by rw [L157]; omega) (by omega), x_sI_ok (K157 _ _) (by rw [L157]; omega) (by omega), w2_I, w2_sI, m_let_eq, mvR_up2 (i := p + 1) (j := p) (k := k) (C := m_up (mvR A 157 (p + 1) p k) 157 (p + k) (mvR A 157 (p + 1) p k 157 (p + k + 1))) (by omega) (fun b x => by rw [up_at, show p + k + 1 = p + 1 + k by omega])]
    exact e
end MUNSAY
