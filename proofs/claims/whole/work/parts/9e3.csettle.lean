/-! a land settled: the class's ways and laws -/
def RkL (isB : Bool) (A : IA) (i : Nat) (E : (Nat → Int32) → Int32) : Prop := ∃ (c : Nat → Nat) (a e mm : Nat) (V : EV), (A 9 i = nI a ∧ A 10 i = nI e ∧ A 2 5 = nI mm) ∧ (e ≤ mm ∧ mm ≤ 1000 ∧ a ≤ e) ∧ (∀ j, a ≤ j → j < e → A 8 j = cw (c j)) ∧ (∀ A' : IA, reRok c (e - a) a (0, A') ∧ (reR c (e - a) a (0, A')).2 15 0 = V (A' 14) ∧ ∀ b, b ≠ 15 → (reR c (e - a) a (0, A')).2 b = A' b) ∧ vLoc isB V ∧ E = fun fs => V (fun x => fs (ofB isB + x))
def LC0 (l : Ld) (A : IA) : Prop := (A 2 0 = nI (lH l 0) ∧ A 3 0 = nI (lH l 1) ∧ A 3 1 = nI (lH l 2) ∧ A 3 2 = nI (lH l 3)) ∧ (∀ t, t < lH l 1 → A 4 t = nI (lW l t)) ∧ (∀ j, j < lH l 2 → RkL true A (8 + j) (lE l j)) ∧ ∀ v, v < lH l 3 → RkL false A (16 + v) (lE l (3 + v))
def sA (A A' : IA) : Prop := ∀ b, b ≠ 11 → b ≠ 12 → b ≠ 14 → b ≠ 15 → A' b = A b
section CSETTLE
variable {M M' : m_M} {A A' : IA} {B : Nat → Nat → Int64} {l : Ld}
theorem sA.rfl' : sA A A := fun _ _ _ _ _ => rfl
theorem sA.trans {A1 A2 A3 : IA} (h1 : sA A1 A2) (h2 : sA A2 A3) : sA A1 A3 := fun b x y z w => (h2 b x y z w).trans (h1 b x y z w)
theorem RkL.cong {isB : Bool} {i : Nat} {E : (Nat → Int32) → Int32} (h : RkL isB A i E) (f : sA A A') : RkL isB A' i E := by
  obtain ⟨c, a, e, mm, V, ⟨h1, h2, h3⟩, h4, h5, h6⟩ := h
  refine ⟨c, a, e, mm, V, ⟨by rw [f 9 (by omega) (by omega) (by omega) (by omega)]; exact h1, by rw [f 10 (by omega) (by omega) (by omega) (by omega)]; exact h2, by rw [f 2 (by omega) (by omega) (by omega) (by omega)]; exact h3⟩, h4, by rw [f 8 (by omega) (by omega) (by omega) (by omega)]; exact h5, h6⟩
theorem LC0.cong (h : LC0 l A) (f : sA A A') : LC0 l A' := by
  obtain ⟨⟨h1, h2, h3, h4⟩, h5, h6, h7⟩ := h
  have e2 := f 2 (by omega) (by omega) (by omega) (by omega)
  have e3 := f 3 (by omega) (by omega) (by omega) (by omega)
  have e4 := f 4 (by omega) (by omega) (by omega) (by omega)
  exact ⟨⟨by rw [e2]; exact h1, by rw [e3]; exact h2, by rw [e3]; exact h3, by rw [e3]; exact h4⟩, by rw [e4]; exact h5, fun j hj => (h6 j hj).cong f, fun v hv => (h7 v hv).cong f⟩
theorem RkL_of {isB : Bool} {i : Nat} {cc : List Nat} {A0 : IA} {E : (Nat → Int32) → Int32} (h : CLw isB cc A0 i E) (h9 : A 9 i = A0 23 i) (h10 : A 10 i = A0 24 i) (h5 : A 2 5 = nI cc.length) (hl : cc.length ≤ 1000) (h8 : ∀ j, j < cc.length → A 8 j = cw (cc.getD j 0)) : RkL isB A i E := by
  obtain ⟨a, c1, V, b1, b2, b3, b4, b5, b6, b7⟩ := h
  refine ⟨fun j => cc.getD j 0, a, a + c1.length, cc.length, V, ⟨by rw [h9]; exact b2, by rw [h10]; exact b3, h5⟩, ⟨b1, hl, by omega⟩, fun j _ hj => h8 j (by omega), fun A' => ?_, b6, b7⟩
  have hL : LsN (fun j => cc.getD j 0) a c1 := fun j hj => b4 j hj
  obtain ⟨e1, e2⟩ := reR_L c1 a (0, A') hL
  obtain ⟨s1, s2, s3, s4, s5⟩ := b5.2 0 A' (by omega)
  rw [show a + c1.length - a = c1.length by omega, e1]
  exact ⟨e2 s1, s3, s5⟩
theorem S_rk (h : G M) {isB : Bool} {q w i : Nat} {E : (Nat → Int32) → Int32} (hr : RkL isB A i E) (hi : q * 8 + w = i) (hi2 : i < 32) {fs : Nat → Int32} (hfs : ∀ x, x < (if isB = true then 2 else 5) → A 14 x = fs (ofB isB + x)) : ∃ A', F_X3_reckon 2 (nI q) (nI w) (m_w2 M A B) = some (E fs, m_w2 M A' B) ∧ ∀ b, b ≠ 15 → A' b = A b := by
  obtain ⟨c, a, e, mm, V, ⟨h1, h2, h3⟩, ⟨h4, h5, h6⟩, h7, h8, h9, h10⟩ := hr
  obtain ⟨r1, r2, r3⟩ := h8 A
  have hG : G (m_wB M B) := h
  have := S_reckon (M := m_wB M B) hG hi hi2 h1 h2 h3 h4 h5 h6 h7 r1
  refine ⟨(reR c (e - a) a (0, A)).2, ?_, r3⟩
  show F_X3_reckon 2 (nI q) (nI w) (m_wA (m_wB M B) A) = _
  rw [this, r2, h10]
  have : V (A 14) = V (fun x => fs (ofB isB + x)) := h9 _ _ hfs
  rw [this]
  rfl
theorem dig4 : ∀ k, k < 4 → ∀ a, a < 4 → ∀ d x, d < 4 → x < 4 ^ k → (d * 4 ^ k + x) / 4 ^ a % 4 = if a = k then d else if a < k then x / 4 ^ a % 4 else 0 := by
  intro k hk a ha d x hd hx
  rcases (show k = 0 ∨ k = 1 ∨ k = 2 ∨ k = 3 by omega) with rfl | rfl | rfl | rfl <;> rcases (show a = 0 ∨ a = 1 ∨ a = 2 ∨ a = 3 by omega) with rfl | rfl | rfl | rfl <;> simp at hx ⊢ <;> omega
theorem S_way_l (h : G M) (ho : lOk l) {j t : Nat} (hj : j < lH l 2) (ht : t < lH l 1) : ∀ (d k f x : Nat) (A : IA), k + d = lH l 0 → d < f → LC0 l A → A 14 1 = nI (lW l t) → x < 4 ^ k → (∀ a, a < k → x / 4 ^ a % 4 = bnd l j a t) → ∃ x' A', F_X3_wayOf_17 f 2 (nI j) (nI x) (nI k) (m_w2 M A B) = some (nI x', m_w2 M A' B) ∧ x' < 4 ^ lH l 0 ∧ (∀ a, a < lH l 0 → x' / 4 ^ a % 4 = bnd l j a t) ∧ ∀ b, b ≠ 14 → b ≠ 15 → A' b = A b := by
  have b0 := ho.1
  have b2 := ho.2.2.1
  have K2 : ∀ A B, m_K (m_w2 M A B) 2 = 3 := fun A B => by simp only [w2_K, gK h]
  have K14 : ∀ A B, m_K (m_w2 M A B) 14 = 12 := fun A B => by simp only [w2_K, gK h]
  have L14 : ∀ A B, m_len (m_w2 M A B) 14 = 5 := fun A B => by simp only [w2_n, gl h]
  have R17 : ∀ A B, m_R (m_w2 M A B) 2 17 = some 14 := fun A B => by simp only [w2_R, gR h]
  intro d
  induction d with
  | zero =>
    intro k f x A hk hf hL h1 hx hd
    obtain ⟨f, rfl⟩ : ∃ f', f = f' + 1 := ⟨f - 1, by omega⟩
    obtain rfl : k = lH l 0 := by omega
    exact ⟨x, A, by rw [F_X3_wayOf_17, x_gI_ok (K2 _ _), w2_I, hL.1.1, if_pos (Int32.le_refl _)], hx, hd, fun _ _ _ => rfl⟩
  | succ d ih =>
    intro k f x A hk hf hL h1 hx hd
    obtain ⟨f, rfl⟩ : ∃ f', f = f' + 1 := ⟨f - 1, by omega⟩
    have f1 : sA A (m_up A 14 0 (nI k)) := fun b _ _ hb _ => up_fr hb
    have hL1 := hL.cong f1
    obtain ⟨A2, e1, e2⟩ := S_rk (B := B) h (hL1.2.2.1 j hj) (q := 1) (w := j) (by omega) (by omega) (fs := fB k (lW l t)) (fun y hy => by
      have hy : y < 2 := hy
      rcases (show y = 0 ∨ y = 1 by omega) with rfl | rfl
      · rw [up_at, if_pos ⟨rfl, rfl⟩]; rfl
      · rw [up_at, if_neg (by omega), h1]; rfl)
    have f2 : sA (m_up A 14 0 (nI k)) A2 := fun b _ _ _ hb => e2 b hb
    have hL2 := hL1.cong f2
    obtain ⟨v, hv⟩ : ∃ v, v = lE l j (fB k (lW l t)) := ⟨_, rfl⟩
    have hbn : bnd l j k t = fmI v (lH l 0) := by rw [hv]; rfl
    have hb4 : bnd l j k t < 4 := by rw [hbn]; have := fmI_lt v (show 0 < lH l 0 by omega); omega
    have em : F_J9_max_7cf53 (nI (lH l 0)) (1 : Int32) (m_w2 M A2 B) = some (nI (lH l 0), m_w2 M A2 B) := by
      unfold F_J9_max_7cf53
      rw [if_neg (show ¬ nI (lH l 0) < (1 : Int32) from nI_nlt (b := 1) (by omega) (by omega))]
    have hx4 : nI x ||| nI (bnd l j k t) <<< ((nI 2 * nI k) &&& (31 : Int32)) = nI (bnd l j k t * 4 ^ k + x) := by
      have e4 : (2 : Nat) ^ (2 * k) = 4 ^ k := by rw [Nat.pow_mul]
      rw [nI_mul, nI_shl (by omega), nI_or, Nat.or_comm, ← nI_or, nI_orb (by rw [e4]; exact hx), e4]
    obtain ⟨x', A', u1, u2, u3, u4⟩ := ih (k + 1) f (bnd l j k t * 4 ^ k + x) A2 (by omega) (by omega) hL2 (by rw [e2 14 (by omega), up_at, if_neg (by omega)]; exact h1) (by
      rw [Nat.pow_succ]
      have h3 : bnd l j k t * 4 ^ k ≤ 3 * 4 ^ k := Nat.mul_le_mul_right _ (by omega)
      omega) (fun a ha => by
      rw [dig4 k (by omega) a (by omega) _ _ hb4 hx]
      by_cases z : a = k
      · rw [if_pos z, z]
      · rw [if_neg z, if_pos (by omega)]; exact hd a (by omega))
    refine ⟨x', A', ?_, u2, u3, fun b hb1 hb2 => by rw [u4 b hb1 hb2, e2 b hb2, up_fr hb1]⟩
    rw [F_X3_wayOf_17, x_gI_ok (K2 _ _), w2_I, hL.1.1, if_neg (nI_ge (by omega) (by omega)), x_gN_ok (K2 _ _) (R17 _ _), show (0 : Int32) = nI 0 from rfl, x_sI_ok (K14 _ _) (by rw [L14]; omega) (by omega), w2_sI, x_cV_ok (K2 _ _) (show F_X3_reckon 2 (1 : Int32) (nI j) _ = _ from e1), x_gI_ok (K2 _ _), w2_I, hL2.1.1, x_bd_ok em, x_bd_ok (fm_class (by omega) (by omega)), ← hv, ← hbn, m_let_eq, m_let_eq, show (2 : Int32) = nI 2 from rfl, hx4, nI_1]
    exact u1
theorem S_way (h : G M) (ho : lOk l) {j t : Nat} (hj : j < lH l 2) (ht : t < lH l 1) (hL : LC0 l A) : ∃ x A', F_X3_wayOf 2 (nI j) (nI t) (m_w2 M A B) = some (nI x, m_w2 M A' B) ∧ x < 256 ∧ (∀ a, a < lH l 0 → x / 4 ^ a % 4 = bnd l j a t) ∧ ∀ b, b ≠ 14 → b ≠ 15 → A' b = A b := by
  have b0 := ho.1
  have b1 := ho.2.1
  have K2 : ∀ A B, m_K (m_w2 M A B) 2 = 3 := fun A B => by simp only [w2_K, gK h]
  have K14 : ∀ A B, m_K (m_w2 M A B) 14 = 12 := fun A B => by simp only [w2_K, gK h]
  have L14 : ∀ A B, m_len (m_w2 M A B) 14 = 5 := fun A B => by simp only [w2_n, gl h]
  have R17 : ∀ A B, m_R (m_w2 M A B) 2 17 = some 14 := fun A B => by simp only [w2_R, gR h]
  have K4 : ∀ A B, m_K (m_w2 M A B) 4 = 12 := fun A B => by simp only [w2_K, gK h]
  have L4 : ∀ A B, m_len (m_w2 M A B) 4 = 5 := fun A B => by simp only [w2_n, gl h]
  have R7 : ∀ A B, m_R (m_w2 M A B) 2 7 = some 4 := fun A B => by simp only [w2_R, gR h]
  have f1 : sA A (m_up A 14 1 (nI (lW l t))) := fun b _ _ hb _ => up_fr hb
  obtain ⟨x, A', u1, u2, u3, u4⟩ := S_way_l (B := B) h ho hj ht (lH l 0) 0 m_FU 0 (m_up A 14 1 (nI (lW l t))) (by omega) (m_FU_lt (by omega)) (hL.cong f1) (by rw [up_at, if_pos ⟨rfl, rfl⟩]) (by decide) (fun a ha => absurd ha (Nat.not_lt_zero _))
  refine ⟨x, A', ?_, ?_, u3, fun b hb1 hb2 => by rw [u4 b hb1 hb2, up_fr hb1]⟩
  · unfold F_X3_wayOf
    rw [x_gN_ok (K2 _ _) (R17 _ _), x_gN_ok (K2 _ _) (R7 _ _), x_aI_ok (K4 _ _) (by rw [L4]; omega) (by omega), w2_I, hL.2.1 t ht, show (1 : Int32) = nI 1 from rfl, x_sI_ok (K14 _ _) (by rw [L14]; omega) (by omega), w2_sI]
    exact u1
  · have : (4 : Nat) ^ lH l 0 ≤ 4 ^ 4 := Nat.pow_le_pow_right (by omega) b0.2
    omega
/-- a law's table of two places -/
theorem S_law58 (h : G M) (ho : lOk l) {v f0 s0 : Nat} (hv : v < lH l 3) {K : Nat → Int32 → Int32 → Int32 → m_M → Option (Int32 × m_M)} {a : Nat} (ha : a < lH l 0) : ∀ (d b f T : Nat) (A : IA), b + d = lH l 0 → d < f → LC0 l A → (A 14 2 = nI (lW l f0) ∧ A 14 3 = nI (lW l s0) ∧ A 14 4 = nI (if f0 = s0 then 1 else 0)) → T < 65536 → ∃ T' A', F_X3_lawOf_58 K f 2 (nI v) (nI T) (nI a) (nI b) (m_w2 M A B) = K 2 (nI v) (nI T') (nI a) (m_w2 M A' B) ∧ T' < 65536 ∧ (∀ k, T'.testBit k = (T.testBit k || (decide (k / 4 = a ∧ b ≤ k % 4 ∧ k % 4 < lH l 0) && vrb l v f0 s0 a (k % 4)))) ∧ LC0 l A' ∧ (A' 14 2 = nI (lW l f0) ∧ A' 14 3 = nI (lW l s0) ∧ A' 14 4 = nI (if f0 = s0 then 1 else 0)) ∧ ∀ c, c ≠ 14 → c ≠ 15 → A' c = A c := by
  have b0 := ho.1
  have b3 := ho.2.2.2.1
  have K2 : ∀ A B, m_K (m_w2 M A B) 2 = 3 := fun A B => by simp only [w2_K, gK h]
  have K14 : ∀ A B, m_K (m_w2 M A B) 14 = 12 := fun A B => by simp only [w2_K, gK h]
  have L14 : ∀ A B, m_len (m_w2 M A B) 14 = 5 := fun A B => by simp only [w2_n, gl h]
  have R17 : ∀ A B, m_R (m_w2 M A B) 2 17 = some 14 := fun A B => by simp only [w2_R, gR h]
  intro d
  induction d with
  | zero =>
    intro b f T A hb hf hL hA hT
    obtain ⟨f, rfl⟩ : ∃ f', f = f' + 1 := ⟨f - 1, by omega⟩
    refine ⟨T, A, ?_, hT, fun k => ?_, hL, hA, fun _ _ _ => rfl⟩
    · rw [F_X3_lawOf_58, x_gI_ok (K2 _ _), w2_I, hL.1.1, if_pos (nI_le (by omega) (by omega))]
    · rw [decide_eq_false (by omega)]; simp
  | succ d ih =>
    intro b f T A hb hf hL hA hT
    obtain ⟨f, rfl⟩ : ∃ f', f = f' + 1 := ⟨f - 1, by omega⟩
    have f1 : sA A (m_up (m_up A 14 0 (nI a)) 14 1 (nI b)) := fun c _ _ hc _ => by rw [up_fr hc, up_fr hc]
    have hL1 := hL.cong f1
    obtain ⟨A2, e1, e2⟩ := S_rk (B := B) h (hL1.2.2.2 v hv) (q := 2) (w := v) (by omega) (by omega) (fs := fV a b (lW l f0) (lW l s0) (decide (f0 = s0))) (fun y hy => by
      have hy : y < 5 := hy
      rcases (show y = 0 ∨ y = 1 ∨ y = 2 ∨ y = 3 ∨ y = 4 by omega) with rfl | rfl | rfl | rfl | rfl
      · rfl
      · rfl
      · rw [up_at, if_neg (by omega), up_at, if_neg (by omega), hA.1]; rfl
      · rw [up_at, if_neg (by omega), up_at, if_neg (by omega), hA.2.1]; rfl
      · rw [up_at, if_neg (by omega), up_at, if_neg (by omega), hA.2.2]
        show _ = if decide (f0 = s0) = true then nI 1 else nI 0
        by_cases z : f0 = s0
        · rw [if_pos z, decide_eq_true z, if_pos rfl]
        · rw [if_neg z, decide_eq_false z, if_neg (by decide)])
    have f2 : sA (m_up (m_up A 14 0 (nI a)) 14 1 (nI b)) A2 := fun c _ _ _ hc => e2 c hc
    have hL2 := hL1.cong f2
    have hA2 : A2 14 2 = nI (lW l f0) ∧ A2 14 3 = nI (lW l s0) ∧ A2 14 4 = nI (if f0 = s0 then 1 else 0) := by
      rw [e2 14 (by omega)]
      exact hA
    obtain ⟨u, hu⟩ : ∃ u, u = vrb l v f0 s0 a b := ⟨_, rfl⟩
    have hvr : vrb l v f0 s0 a b = decide (¬ lE l (3 + v) (fV a b (lW l f0) (lW l s0) (decide (f0 = s0))) = 0) := rfl
    have hv1 : (if u = true then 1 else 0) * 2 ^ (a * 4 + b) < 65536 := by
      have h1 : (2 : Nat) ^ (a * 4 + b) ≤ 2 ^ 15 := Nat.pow_le_pow_right (by omega) (by omega)
      split <;> omega
    obtain ⟨T', A', g1, g2, g3, g4, g5, g6⟩ := ih (b + 1) f (T ||| (if u = true then 1 else 0) * 2 ^ (a * 4 + b)) A2 (by omega) (by omega) hL2 hA2 (Nat.or_lt_two_pow (n := 16) hT hv1)
    refine ⟨T', A', ?_, g2, fun k => ?_, g4, g5, fun c hc1 hc2 => by rw [g6 c hc1 hc2, e2 c hc2, up_fr hc1, up_fr hc1]⟩
    · rw [F_X3_lawOf_58, x_gI_ok (K2 _ _), w2_I, hL.1.1, if_neg (nI_ge (by omega) (by omega))]
      refine m_let_e ?_
      intro k106 h106
      rw [x_gN_ok (K2 _ _) (R17 _ _), show (0 : Int32) = nI 0 from rfl, x_sI_ok (K14 _ _) (by rw [L14]; omega) (by omega), w2_sI, x_gN_ok (K2 _ _) (R17 _ _), show (1 : Int32) = nI 1 from rfl, x_sI_ok (K14 _ _) (by rw [L14]; omega) (by omega), w2_sI, x_cV_ok (K2 _ _) (show F_X3_reckon 2 (2 : Int32) (nI v) _ = _ from e1)]
      by_cases z : lE l (3 + v) (fV a b (lW l f0) (lW l s0) (decide (f0 = s0))) = nI 0
      · have hu0 : u = false := by rw [hu, hvr]; exact decide_eq_false (fun w => w z)
        rw [if_pos z, h106]
        dsimp only
        rw [m_let_eq, nI_1]
        rw [hu0] at g1
        have e5 : (T ||| (if false = true then 1 else 0) * 2 ^ (a * 4 + b)) = T := by simp
        rw [e5] at g1
        exact g1
      · have hu1 : u = true := by rw [hu, hvr]; exact decide_eq_true z
        rw [if_neg z, show (4 : Int32) = nI 4 from rfl, nI_mul, nI_add, nI_shl (by omega), nI_or, m_let_eq, h106]
        dsimp only
        rw [m_let_eq, nI_1]
        rw [hu1, if_pos rfl] at g1
        exact g1
    · rw [g3 k, Nat.testBit_or]
      have e2 : ((if u = true then 1 else 0) * 2 ^ (a * 4 + b)).testBit k = (decide (k = a * 4 + b) && u) := by
        cases u
        · simp
        · simp [Nat.testBit_two_pow, eq_comm]
      rw [e2, Bool.or_assoc]
      congr 1
      by_cases q : k = a * 4 + b
      · rw [decide_eq_true q, decide_eq_false (p := k / 4 = a ∧ b + 1 ≤ k % 4 ∧ k % 4 < lH l 0) (by omega), decide_eq_true (p := k / 4 = a ∧ b ≤ k % 4 ∧ k % 4 < lH l 0) (by omega), show k % 4 = b by omega, hu]
        simp
      · rw [decide_eq_false q]
        have e3 : (k / 4 = a ∧ b + 1 ≤ k % 4 ∧ k % 4 < lH l 0) ↔ (k / 4 = a ∧ b ≤ k % 4 ∧ k % 4 < lH l 0) := by omega
        simp only [e3]
        simp
theorem S_law46 (h : G M) (ho : lOk l) {v f0 s0 : Nat} (hv : v < lH l 3) : ∀ (d a f T : Nat) (A : IA), a + d = lH l 0 → d < f → LC0 l A → (A 14 2 = nI (lW l f0) ∧ A 14 3 = nI (lW l s0) ∧ A 14 4 = nI (if f0 = s0 then 1 else 0)) → T < 65536 → ∃ T' A', F_X3_lawOf_46 f 2 (nI v) (nI T) (nI a) (m_w2 M A B) = some (nI T', m_w2 M A' B) ∧ T' < 65536 ∧ (∀ k, T'.testBit k = (T.testBit k || (decide (a ≤ k / 4 ∧ k / 4 < lH l 0 ∧ k % 4 < lH l 0) && vrb l v f0 s0 (k / 4) (k % 4)))) ∧ ∀ c, c ≠ 14 → c ≠ 15 → A' c = A c := by
  have b0 := ho.1
  have K2 : ∀ A B, m_K (m_w2 M A B) 2 = 3 := fun A B => by simp only [w2_K, gK h]
  intro d
  induction d with
  | zero =>
    intro a f T A hb hf hL hA hT
    obtain ⟨f, rfl⟩ : ∃ f', f = f' + 1 := ⟨f - 1, by omega⟩
    refine ⟨T, A, ?_, hT, fun k => ?_, fun _ _ _ => rfl⟩
    · rw [F_X3_lawOf_46, x_gI_ok (K2 _ _), w2_I, hL.1.1, if_pos (nI_le (by omega) (by omega))]
    · rw [decide_eq_false (by omega)]; simp
  | succ d ih =>
    intro a f T A hb hf hL hA hT
    obtain ⟨f, rfl⟩ : ∃ f', f = f' + 1 := ⟨f - 1, by omega⟩
    rw [F_X3_lawOf_46, x_gI_ok (K2 _ _), w2_I, hL.1.1, if_neg (nI_ge (by omega) (by omega))]
    refine m_let_P (fun o => ∃ T' A', o = some (nI T', m_w2 M A' B) ∧ T' < 65536 ∧ (∀ k, T'.testBit k = (T.testBit k || (decide (a ≤ k / 4 ∧ k / 4 < lH l 0 ∧ k % 4 < lH l 0) && vrb l v f0 s0 (k / 4) (k % 4)))) ∧ ∀ c, c ≠ 14 → c ≠ 15 → A' c = A c) ?_
    intro k112 h112
    obtain ⟨T1, A1, g1, g2, g3, g4, g5, g6⟩ := S_law58 (B := B) h ho hv (K := k112) (show a < lH l 0 by omega) (lH l 0) 0 m_FU T A (by omega) (m_FU_lt (by omega)) hL hA hT
    obtain ⟨T', A', u1, u2, u3, u4⟩ := ih (a + 1) f T1 A1 (by omega) (by omega) g4 g5 g2
    refine ⟨T', A', ?_, u2, fun k => ?_, fun c hc1 hc2 => by rw [u4 c hc1 hc2, g6 c hc1 hc2]⟩
    · have g1' : F_X3_lawOf_58 k112 m_FU 2 (nI v) (nI T) (nI a) (0 : Int32) (m_w2 M A B) = _ := g1
      rw [g1', h112]
      dsimp only
      rw [m_let_eq, nI_1]
      exact u1
    · rw [u3 k, g3 k, Bool.or_assoc]
      congr 1
      by_cases z : k / 4 = a
      · rw [decide_eq_false (p := a + 1 ≤ k / 4 ∧ k / 4 < lH l 0 ∧ k % 4 < lH l 0) (by omega)]
        by_cases y : k % 4 < lH l 0
        · rw [decide_eq_true (p := k / 4 = a ∧ 0 ≤ k % 4 ∧ k % 4 < lH l 0) (by omega), decide_eq_true (p := a ≤ k / 4 ∧ k / 4 < lH l 0 ∧ k % 4 < lH l 0) (by omega), z]
          simp
        · rw [decide_eq_false (p := k / 4 = a ∧ 0 ≤ k % 4 ∧ k % 4 < lH l 0) (by omega), decide_eq_false (p := a ≤ k / 4 ∧ k / 4 < lH l 0 ∧ k % 4 < lH l 0) (by omega)]
          simp
      · rw [decide_eq_false (p := k / 4 = a ∧ 0 ≤ k % 4 ∧ k % 4 < lH l 0) (by omega)]
        have e3 : (a + 1 ≤ k / 4 ∧ k / 4 < lH l 0 ∧ k % 4 < lH l 0) ↔ (a ≤ k / 4 ∧ k / 4 < lH l 0 ∧ k % 4 < lH l 0) := by omega
        simp only [e3]
        simp
theorem S_lawOf (h : G M) (ho : lOk l) {v f0 s0 : Nat} (hv : v < lH l 3) (hf0 : f0 < lH l 1) (hs0 : s0 < lH l 1) (hL : LC0 l A) : ∃ x A', F_X3_lawOf 2 (nI v) (nI f0) (nI s0) (m_w2 M A B) = some (nI x, m_w2 M A' B) ∧ x < 65536 ∧ (∀ a b, a < lH l 0 → b < lH l 0 → x / 2 ^ (4 * a + b) % 2 = if vrb l v f0 s0 a b then 1 else 0) ∧ ∀ c, c ≠ 14 → c ≠ 15 → A' c = A c := by
  have b0 := ho.1
  have b1 := ho.2.1
  have K2 : ∀ A B, m_K (m_w2 M A B) 2 = 3 := fun A B => by simp only [w2_K, gK h]
  have K14 : ∀ A B, m_K (m_w2 M A B) 14 = 12 := fun A B => by simp only [w2_K, gK h]
  have L14 : ∀ A B, m_len (m_w2 M A B) 14 = 5 := fun A B => by simp only [w2_n, gl h]
  have R17 : ∀ A B, m_R (m_w2 M A B) 2 17 = some 14 := fun A B => by simp only [w2_R, gR h]
  have K4 : ∀ A B, m_K (m_w2 M A B) 4 = 12 := fun A B => by simp only [w2_K, gK h]
  have L4 : ∀ A B, m_len (m_w2 M A B) 4 = 5 := fun A B => by simp only [w2_n, gl h]
  have R7 : ∀ A B, m_R (m_w2 M A B) 2 7 = some 4 := fun A B => by simp only [w2_R, gR h]
  obtain ⟨A1, hA1⟩ : ∃ A1, A1 = m_up (m_up (m_up A 14 2 (nI (lW l f0))) 14 3 (nI (lW l s0))) 14 4 (nI (if f0 = s0 then 1 else 0)) := ⟨_, rfl⟩
  have f1 : sA A A1 := fun b _ _ hb _ => by rw [hA1, up_fr hb, up_fr hb, up_fr hb]
  obtain ⟨x, A', u1, u2, u3, u4⟩ := S_law46 (B := B) h ho hv (f0 := f0) (s0 := s0) (lH l 0) 0 m_FU 0 A1 (by omega) (m_FU_lt (by omega)) (hL.cong f1) (by rw [hA1]; exact ⟨rfl, rfl, rfl⟩) (by decide)
  refine ⟨x, A', ?_, u2, fun a b ha hb => ?_, fun c hc1 hc2 => by rw [u4 c hc1 hc2, hA1, up_fr hc1, up_fr hc1, up_fr hc1]⟩
  · unfold F_X3_lawOf
    refine m_let_e ?_
    intro k42 h42
    rw [x_gN_ok (K2 _ _) (R17 _ _), x_gN_ok (K2 _ _) (R7 _ _), x_aI_ok (K4 _ _) (by rw [L4]; omega) (by omega), w2_I, hL.2.1 f0 hf0, show (2 : Int32) = nI 2 from rfl, x_sI_ok (K14 _ _) (by rw [L14]; omega) (by omega), w2_sI, x_gN_ok (K2 _ _) (R17 _ _), x_gN_ok (K2 _ _) (R7 _ _), x_aI_ok (K4 _ _) (by rw [L4]; omega) (by omega), w2_I, up_fr (by omega), hL.2.1 s0 hs0, show (3 : Int32) = nI 3 from rfl, x_sI_ok (K14 _ _) (by rw [L14]; omega) (by omega), w2_sI, x_gN_ok (K2 _ _) (R17 _ _)]
    have fin : ∀ b : Nat, b = (if f0 = s0 then 1 else 0) → k42 2 (nI v) (0 : Int32) 14 (4 : Int32) (nI b) (m_w2 M (m_up (m_up A 14 2 (nI (lW l f0))) 14 3 (nI (lW l s0))) B) = some (nI x, m_w2 M A' B) := by
      intro b hb
      rw [h42]
      dsimp only
      rw [show (4 : Int32) = nI 4 from rfl, x_sI_ok (K14 _ _) (by rw [L14]; omega) (by omega), w2_sI, hb, ← hA1]
      exact u1
    by_cases z : f0 = s0
    · rw [if_pos (by rw [z])]
      exact fin 1 (by rw [if_pos z])
    · rw [if_neg (fun w => z ((nI_eq (by omega) (by omega)).mp w))]
      exact fin 0 (by rw [if_neg z])
  · have := u3 (4 * a + b)
    rw [tb_div, Nat.zero_testBit, Bool.false_or, decide_eq_true (p := 0 ≤ (4 * a + b) / 4 ∧ (4 * a + b) / 4 < lH l 0 ∧ (4 * a + b) % 4 < lH l 0) (by omega), Bool.true_and, show (4 * a + b) / 4 = a by omega, show (4 * a + b) % 4 = b by omega] at this
    have h2 : x / 2 ^ (4 * a + b) % 2 < 2 := Nat.mod_lt _ (by omega)
    cases hu : vrb l v f0 s0 a b with
    | true =>
      rw [hu] at this
      rw [if_pos rfl]
      exact of_decide_eq_true this
    | false =>
      rw [hu] at this
      have := of_decide_eq_false this
      rw [if_neg (by decide)]
      omega
end CSETTLE
