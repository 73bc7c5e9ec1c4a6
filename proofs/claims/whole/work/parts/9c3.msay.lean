/-! sayable: the model -/
def exN (n : Nat) (g : Nat → Bool) : Bool := !anN n (fun i => !g i)
theorem exN_iff {n : Nat} {g : Nat → Bool} : exN n g = true ↔ ∃ i, i < n ∧ g i = true := by
  unfold exN
  constructor
  · intro h
    cases q : anN n (fun i => !g i)
    · by_cases z : ∃ i, i < n ∧ g i = true
      · exact z
      · rw [anN_all.mpr (fun i hi => by
          cases y : g i
          · rfl
          · exact absurd ⟨i, hi, y⟩ z)] at q
        cases q
    · rw [q] at h; cases h
  · rintro ⟨i, hi, h⟩
    rw [anN_not hi (by rw [h]; rfl)]
    rfl
theorem exN_f {n : Nat} {g : Nat → Bool} (h : ∀ i, i < n → g i = false) : exN n g = false := by
  unfold exN
  rw [anN_all.mpr (fun i hi => by rw [h i hi]; rfl)]
  rfl
theorem exN_eq {n m : Nat} {g f : Nat → Bool} (h : (∃ i, i < n ∧ g i = true) ↔ ∃ i, i < m ∧ f i = true) : exN n g = exN m f := by
  cases q : exN n g <;> cases z : exN m f
  · rfl
  · rw [exN_iff.mpr (h.mpr (exN_iff.mp z))] at q; cases q
  · rw [exN_iff.mpr (h.mp (exN_iff.mp q))] at z; cases z
  · rfl
/-- whether a literal by a verb means just that a thing is at a place -/
def sayL (l : Ld) (v : Option Nat) (t p a : Nat) : Bool := ccOk l (a / 2) && decide (∀ w, w < wN l → lT l v a w = decide (whr l w t = p))
def sayB (l : Ld) (t p v : Nat) : Bool := exN 800 (sayL l (some v) t p)
def sayK (l : Ld) (v j : Nat) : Nat := if sayB l (j / 4) (j % 4) v then 2 ^ v else 0
def sayN (l : Ld) (n j : Nat) : Nat := if j / 4 < lH l 1 ∧ j % 4 < lH l 0 then knN (sayB l (j / 4) (j % 4)) n else 0
section MSAY
variable {M M' : m_M} {l : Ld}
theorem M_tz (h : G M) {A : IA} {x y : Int32} {C : Nat → Int32 → Int32 → m_M → Option (Int32 × m_M)} : ∀ (d k f : Nat) (B : Nat → Nat → Int64), k + d = 16 → d < f →
    ∃ B', F_X12_isLiteral_2 C f 128 x y (nI k) (m_w2 M A B) = C 128 x y (m_w2 M A B') ∧ (∀ b, b ≠ 171 → B' b = B b) ∧ (∀ j, j < k → B' 171 j = B 171 j) ∧ ∀ j, k ≤ j → j < 16 → B' 171 j = 0 := by
  have K0 : ∀ A B, m_K (m_w2 M A B) 128 = 10 := fun A B => by simp only [w2_K, gK h]
  have R63 : ∀ A B, m_R (m_w2 M A B) 128 63 = some 171 := fun A B => by simp only [w2_R, gR h]
  have K171 : ∀ A B, m_K (m_w2 M A B) 171 = 13 := fun A B => by simp only [w2_K, gK h]
  have L171 : ∀ A B, m_len (m_w2 M A B) 171 = 16 := fun A B => by simp only [w2_n, gl h]
  intro d
  induction d with
  | zero =>
    intro k f B hk hf
    obtain ⟨f, rfl⟩ : ∃ f', f = f' + 1 := ⟨f - 1, by omega⟩
    refine ⟨B, ?_, fun _ _ => rfl, fun _ _ => rfl, fun j h1 h2 => absurd h1 (by omega)⟩
    rw [F_X12_isLiteral_2, if_pos (show (16 : Int32) ≤ nI k from nI_le (a := 16) (by omega) (by omega))]
  | succ d ih =>
    intro k f B hk hf
    obtain ⟨f, rfl⟩ : ∃ f', f = f' + 1 := ⟨f - 1, by omega⟩
    obtain ⟨B', e, e1, e2, e3⟩ := ih (k + 1) f (upB B 171 k 0) (by omega) (by omega)
    refine ⟨B', ?_, fun b hb => by rw [e1 b hb, upB_fr hb], fun j hj => by rw [e2 j (by omega), upB_at, if_neg (by omega)], fun j h1 h2 => ?_⟩
    · rw [F_X12_isLiteral_2, if_neg (show ¬ (16 : Int32) ≤ nI k from nI_ge (b := 16) (by omega) (by omega)), x_gN_ok (K0 _ _) (R63 _ _), x_sL_ok (K171 _ _) (by rw [L171]; omega) (by omega), w2_sL, m_let_eq, nI_1]
      exact e
    · by_cases z : j = k
      · rw [z, e2 _ (by omega), upB_at, if_pos ⟨rfl, rfl⟩]
      · exact e3 j (by omega) h2
theorem M_tw (h : G M) (ho : lOk l) {t p : Nat} (ht : t < lH l 1) (hp : p < lH l 0) {C : Nat → m_M → Option (Int32 × m_M)} : ∀ (d k f : Nat) (A : IA) (B : Nat → Nat → Int64), k + d = wN l → d < f → LMi l A → Rw k (fun w => decide (whr l w t = p)) (B 171) →
    ∃ A' B', F_X12_isLiteral_23 C f 128 (nI t) (nI p) (nI k) (m_w2 M A B) = C 128 (m_w2 M A' B') ∧ (∀ a, ¬ scr a → A' a = A a) ∧ (∀ b, b ≠ 171 → B' b = B b) ∧ Rw (wN l) (fun w => decide (whr l w t = p)) (B' 171) := by
  have hn := wN_le ho
  have h5 := ho.2.1
  have h4 := ho.1.2
  have K0 : ∀ A B, m_K (m_w2 M A B) 128 = 10 := fun A B => by simp only [w2_K, gK h]
  have R63 : ∀ A B, m_R (m_w2 M A B) 128 63 = some 171 := fun A B => by simp only [w2_R, gR h]
  have K171 : ∀ A B, m_K (m_w2 M A B) 171 = 13 := fun A B => by simp only [w2_K, gK h]
  have L171 : ∀ A B, m_len (m_w2 M A B) 171 = 16 := fun A B => by simp only [w2_n, gl h]
  have R44 : ∀ A B, m_R (m_w2 M A B) 128 44 = some 154 := fun A B => by simp only [w2_R, gR h]
  have K154 : ∀ A B, m_K (m_w2 M A B) 154 = 12 := fun A B => by simp only [w2_K, gK h]
  have L154 : ∀ A B, m_len (m_w2 M A B) 154 = 5 := fun A B => by simp only [w2_n, gl h]
  intro d
  induction d with
  | zero =>
    intro k f A B hk hf hl hr
    obtain ⟨f, rfl⟩ : ∃ f', f = f' + 1 := ⟨f - 1, by omega⟩
    obtain rfl : k = wN l := by omega
    refine ⟨A, B, ?_, fun _ _ => rfl, fun _ _ => rfl, hr⟩
    rw [F_X12_isLiteral_23, x_gI_ok (K0 _ _), w2_I, hl.2.2.2.2.2.1, if_pos (nI_le (Nat.le_refl _) (by omega))]
  | succ d ih =>
    intro k f A B hk hf hl hr
    obtain ⟨f, rfl⟩ : ∃ f', f = f' + 1 := ⟨f - 1, by omega⟩
    have hG1 : G (m_wB M B) := h
    obtain ⟨A1, s1, s2, s3⟩ := S_shows (M := m_wB M B) hG1 hl ho (w := k) (by omega)
    have f1 : ∀ a, ¬ scr a → A1 a = A a := fun a ha => s2 a (by unfold scr at ha; omega)
    have s1' : F_X12_shows 128 (nI k) (m_w2 M A B) = some ((), m_w2 M A1 B) := s1
    have hw4 := whr_lt ho k t
    have hr0 : Rw k (fun w => decide (whr l w t = p)) (fun k => B 171 (0 + k)) := hr.of (fun k _ => by rw [Nat.zero_add])
    have hrs := row_set (at0 := 0) (row := 171) hr0 (show k < wN l by omega) hn
    have go : ∀ B2, Rw (k + 1) (fun w => decide (whr l w t = p)) (fun k => B2 171 (0 + k)) → (∀ b, b ≠ 171 → B2 b = B b) → ∃ A' B', F_X12_isLiteral_23 C f 128 (nI t) (nI p) (nI (k + 1)) (m_w2 M A1 B2) = C 128 (m_w2 M A' B') ∧ (∀ a, ¬ scr a → A' a = A a) ∧ (∀ b, b ≠ 171 → B' b = B b) ∧ Rw (wN l) (fun w => decide (whr l w t = p)) (B' 171) := by
      intro B2 h1 h2
      obtain ⟨A', B', e, e1, e2, e4⟩ := ih (k + 1) f A1 B2 (by omega) (by omega) (hl.fr f1) (h1.of (fun k _ => by rw [Nat.zero_add]))
      exact ⟨A', B', e, fun a ha => by rw [e1 a ha, f1 a ha], fun b hb => by rw [e2 b hb, h2 b hb], e4⟩
    rw [F_X12_isLiteral_23, x_gI_ok (K0 _ _), w2_I, hl.2.2.2.2.2.1, if_neg (nI_ge (by omega) (by omega))]
    refine m_let_P (fun o => ∃ A' B', o = C 128 (m_w2 M A' B') ∧ (∀ a, ¬ scr a → A' a = A a) ∧ (∀ b, b ≠ 171 → B' b = B b) ∧ Rw (wN l) (fun w => decide (whr l w t = p)) (B' 171)) ?_
    intro K1 hK1
    rw [x_cV_ok (K0 _ _) s1', x_gN_ok (K0 _ _) (R44 _ _), x_aI_ok (K154 _ _) (by rw [L154]; omega) (by omega), w2_I, s3 t ht]
    by_cases hb : whr l k t = p
    · rw [decide_eq_true hb, if_pos rfl] at hrs
      have e64 : nI k - nI (k / 64) * (64 : Int32) = nI (k % 64) := by rw [show (64 : Int32) = nI 64 from rfl, nI_mul, i32_rem2]
      rw [if_pos (by rw [hb]), x_gN_ok (K0 _ _) (R63 _ _), x_nz_eq, if_neg (by decide), show nI k / (64 : Int32) = nI (k / 64) from i32_div (b := 64) (by omega) (by omega), x_aL_ok (K171 _ _) (by rw [L171]; omega) (by omega), w2_L, x_nz_eq, if_neg (by decide), x_sL_ok (K171 _ _) (by rw [L171]; omega) (by omega), w2_sL, hK1]
      dsimp only
      rw [m_let_eq, nI_1, e64]
      exact go _ (hrs.of (fun j _ => by rw [Nat.zero_add, Nat.zero_add])) (fun b hb2 => by rw [upB_fr hb2])
    · rw [decide_eq_false hb, if_neg (by decide)] at hrs
      rw [if_neg (fun z => hb ((nI_eq (by omega) (by omega)).mp z)), hK1]
      dsimp only
      rw [m_let_eq, nI_1]
      exact go B hrs (fun _ _ => rfl)
theorem M_isLit (h : G M) (ho : lOk l) {v : Option Nat} {t p : Nat} (ht : t < lH l 1) (hp : p < lH l 0) {A : IA} {B : Nat → Nat → Int64} (hl : LMi l A) (hL : LitM l v 172 B) : ∃ A' B', F_X12_isLiteral 128 (nI t) (nI p) (m_w2 M A B) = some (bI (exN 800 (sayL l v t p)), m_w2 M A' B') ∧ (∀ a, ¬ scr a → A' a = A a) ∧ ∀ b, b ≠ 171 → B' b = B b := by
  have hn := wN_le ho
  have K0 : ∀ A B, m_K (m_w2 M A B) 128 = 10 := fun A B => by simp only [w2_K, gK h]
  have R63 : ∀ A B, m_R (m_w2 M A B) 128 63 = some 171 := fun A B => by simp only [w2_R, gR h]
  have R64 : ∀ A B, m_R (m_w2 M A B) 128 64 = some 172 := fun A B => by simp only [w2_R, gR h]
  have K171 : ∀ A B, m_K (m_w2 M A B) 171 = 13 := fun A B => by simp only [w2_K, gK h]
  have L171 : ∀ A B, m_len (m_w2 M A B) 171 = 16 := fun A B => by simp only [w2_n, gl h]
  have K172 : ∀ A B, m_K (m_w2 M A B) 172 = 13 := fun A B => by simp only [w2_K, gK h]
  have L172 : ∀ A B, m_len (m_w2 M A B) 172 = 12800 := fun A B => by simp only [w2_n, gl h]
  unfold F_X12_isLiteral
  refine m_let_P (fun o => ∃ A' B', o = some (bI (exN 800 (sayL l v t p)), m_w2 M A' B') ∧ (∀ a, ¬ scr a → A' a = A a) ∧ ∀ b, b ≠ 171 → B' b = B b) ?_
  intro K1 hK1
  obtain ⟨B1, e, e1, _, e2⟩ := M_tz h (A := A) (x := nI t) (y := nI p) (C := K1) 16 0 m_FU B (by omega) (m_FU_lt (by omega))
  have e' : F_X12_isLiteral_2 K1 m_FU 128 (nI t) (nI p) (0 : Int32) (m_w2 M A B) = _ := e
  rw [e', hK1]
  dsimp only
  refine m_let_P (fun o => ∃ A' B', o = some (bI (exN 800 (sayL l v t p)), m_w2 M A' B') ∧ (∀ a, ¬ scr a → A' a = A a) ∧ ∀ b, b ≠ 171 → B' b = B b) ?_
  intro K2 hK2
  obtain ⟨A2, B2, g, g1, g2, g3⟩ := M_tw h ho ht hp (C := K2) (wN l) 0 m_FU A B1 (by omega) (m_FU_lt (by omega)) hl ((Rw.up0 _).of (fun j hj => e2 j (by omega) hj))
  have g' : F_X12_isLiteral_23 K2 m_FU 128 (nI t) (nI p) (0 : Int32) (m_w2 M A B1) = _ := g
  rw [g', hK2]
  dsimp only
  have hl2 := hl.fr g1
  have hL2 : LitM l v 172 B2 := fun a ha hc => (hL a ha hc).of (fun k _ => by rw [g2 172 (by omega), e1 172 (by omega)])
  have key : ∀ (d k f : Nat), k + d = 800 → d < f → (∀ j, j < k → sayL l v t p j = false) → F_X12_isLiteral_72 f 128 (nI k) (m_w2 M A2 B2) = some (bI (exN 800 (sayL l v t p)), m_w2 M A2 B2) := by
    intro d
    induction d with
    | zero =>
      intro k f hk hf hh
      obtain ⟨f, rfl⟩ : ∃ f', f = f' + 1 := ⟨f - 1, by omega⟩
      obtain rfl : k = 800 := by omega
      rw [F_X12_isLiteral_72, if_pos (by decide), exN_f hh]
      rfl
    | succ d ih =>
      intro k f hk hf hh
      obtain ⟨f, rfl⟩ : ∃ f', f = f' + 1 := ⟨f - 1, by omega⟩
      have go : sayL l v t p k = false → F_X12_isLiteral_72 f 128 (nI (k + 1)) (m_w2 M A2 B2) = some (bI (exN 800 (sayL l v t p)), m_w2 M A2 B2) := fun h1 => ih (k + 1) f (by omega) (by omega) (fun j hj => by
        by_cases z : j = k
        · rw [z]; exact h1
        · exact hh j (by omega))
      have ic : F_X12_isClause 128 (nI (k / 2)) (m_w2 M A2 B2) = some (bI (ccOk l (k / 2)), m_w2 M A2 B2) := S_isClauseM (M := m_w2 M A2 B2) h hl2 ho (by omega)
      rw [F_X12_isLiteral_72, if_neg (show ¬ (800 : Int32) ≤ nI k from nI_ge (b := 800) (by omega) (by omega))]
      refine m_let_e ?_
      intro K3 hK3
      rw [x_nz_eq, if_neg (by decide), show nI k / (2 : Int32) = nI (k / 2) from i32_div (b := 2) (by omega) (by omega), x_cV_ok (K0 _ _) ic]
      cases q : ccOk l (k / 2)
      · rw [if_pos (by decide), hK3]
        dsimp only
        rw [m_let_eq, nI_1]
        exact go (by unfold sayL; rw [q]; rfl)
      · have al := S_areAlike (M := m_w2 M A2 B2) h hl2 ho (K172 _ _) (L172 _ _) (at1 := 16 * k) (by omega) (by omega) (K171 _ _) (L171 _ _) (at2 := 0) (by omega) (by omega) (P := lT l v k) (Q := fun w => decide (whr l w t = p)) (by rw [w2_L]; exact hL2 k (by omega) q) (by rw [w2_L]; exact g3.of (fun j _ => by rw [Nat.zero_add]))
        have al' : F_X12_areAlike 128 172 (nI (16 * k)) 171 (0 : Int32) (m_w2 M A2 B2) = _ := al
        rw [if_neg (by decide), x_gN_ok (K0 _ _) (R64 _ _), x_gN_ok (K0 _ _) (R63 _ _), show (16 : Int32) = nI 16 from rfl, nI_mul, x_cV_ok (K0 _ _) al']
        by_cases y : ∀ w, w < wN l → lT l v k w = decide (whr l w t = p)
        · rw [if_pos y, if_neg (by decide), exN_iff.mpr ⟨k, by omega, by unfold sayL; rw [q, decide_eq_true y]; rfl⟩]
          rfl
        · rw [if_neg y, if_pos (by decide), hK3]
          dsimp only
          rw [m_let_eq, nI_1]
          exact go (by unfold sayL; rw [decide_eq_false y, Bool.and_false])
  refine ⟨A2, B2, ?_, g1, fun b hb => by rw [g2 b hb, e1 b hb]⟩
  exact key 800 0 m_FU (by omega) (m_FU_lt (by omega)) (fun j hj => absurd hj (by omega))
theorem LMi.fr2 {A A' : IA} (hl : LMi l A) (h : ∀ a, ¬ scr a → a ≠ 176 → A' a = A a) : LMi l A' := hl.sc (fun a ha => h a (by unfold scr; omega) (by omega))
theorem M_sy56 (h : G M) (ho : lOk l) {v t : Nat} (hv : v < lH l 3) (ht : t < lH l 1) {C : Nat → Int32 → Int32 → m_M → Option (Unit × m_M)} : ∀ (d k f : Nat) (g : Nat → Nat) (A : IA) (B : Nat → Nat → Int64), k + d = lH l 0 → d < f → LMi l A → LitM l (some v) 172 B → (∀ j, j < 20 → A 176 j = nI (g j)) →
    ∃ A' B', F_X12_seeksSayable_56 C f 128 (nI v) (nI t) (nI k) (m_w2 M A B) = C 128 (nI v) (nI t) (m_w2 M A' B') ∧ (∀ a, ¬ scr a → a ≠ 176 → A' a = A a) ∧ (∀ b, b ≠ 171 → B' b = B b) ∧ ∀ j, j < 20 → A' 176 j = nI (if j / 4 = t ∧ k ≤ j % 4 ∧ j % 4 < lH l 0 then g j ||| sayK l v j else g j) := by
  have h5 := ho.2.1
  have h4 := ho.1.2
  have h6 := ho.2.2.2.1
  have K0 : ∀ A B, m_K (m_w2 M A B) 128 = 10 := fun A B => by simp only [w2_K, gK h]
  have R10 : ∀ A B, m_R (m_w2 M A B) 128 10 = some 130 := fun A B => by simp only [w2_R, gR h]
  have K130 : ∀ A B, m_K (m_w2 M A B) 130 = 12 := fun A B => by simp only [w2_K, gK h]
  have L130 : ∀ A B, m_len (m_w2 M A B) 130 = 16 := fun A B => by simp only [w2_n, gl h]
  have R72 : ∀ A B, m_R (m_w2 M A B) 128 72 = some 176 := fun A B => by simp only [w2_R, gR h]
  have K176 : ∀ A B, m_K (m_w2 M A B) 176 = 12 := fun A B => by simp only [w2_K, gK h]
  have L176 : ∀ A B, m_len (m_w2 M A B) 176 = 20 := fun A B => by simp only [w2_n, gl h]
  intro d
  induction d with
  | zero =>
    intro k f g A B hk hf hl hL hg
    obtain ⟨f, rfl⟩ : ∃ f', f = f' + 1 := ⟨f - 1, by omega⟩
    obtain rfl : k = lH l 0 := by omega
    refine ⟨A, B, ?_, fun _ _ _ => rfl, fun _ _ => rfl, fun j hj => ?_⟩
    · rw [F_X12_seeksSayable_56, x_gN_ok (K0 _ _) (R10 _ _), aI_lit (x := (0 : Int32)) (n := 0) (K130 _ _) (by rw [L130]; omega) rfl (by omega), w2_I, hl.1 0 (by omega), if_pos (nI_le (Nat.le_refl _) (by omega))]
    · rw [if_neg (by omega)]; exact hg j hj
  | succ d ih =>
    intro k f g A B hk hf hl hL hg
    obtain ⟨f, rfl⟩ : ∃ f', f = f' + 1 := ⟨f - 1, by omega⟩
    obtain ⟨A1, B1, e, e1, e2⟩ := M_isLit h ho (v := some v) ht (show k < lH l 0 by omega) hl hL
    have hl1 := hl.fr e1
    have hg1 : ∀ j, j < 20 → m_up A1 176 (4 * t + k) (nI (g (4 * t + k) ||| sayK l v (4 * t + k))) 176 j = nI (if j = 4 * t + k then g j ||| sayK l v j else g j) := fun j hj => by
      rw [up_at]
      by_cases z : j = 4 * t + k
      · rw [if_pos ⟨rfl, z⟩, if_pos z, z]
      · rw [if_neg (fun y => z y.2), if_neg z, e1 176 (by unfold scr; omega)]
        exact hg j hj
    have fr1 : ∀ a, ¬ scr a → a ≠ 176 → m_up A1 176 (4 * t + k) (nI (g (4 * t + k) ||| sayK l v (4 * t + k))) a = A a := fun a ha h1 => by
      rw [← e1 a ha]
      funext j
      rw [up_at, if_neg (fun y => h1 y.1)]
    obtain ⟨A', B', x, x1, x2, x3⟩ := ih (k + 1) f (fun j => if j = 4 * t + k then g j ||| sayK l v j else g j) (m_up A1 176 (4 * t + k) (nI (g (4 * t + k) ||| sayK l v (4 * t + k)))) B1 (by omega) (by omega) (hl.fr2 fr1) (fun a ha hc => (hL a ha hc).of (fun j _ => by rw [e2 172 (by omega)])) hg1
    refine ⟨A', B', ?_, fun a ha h1 => by rw [x1 a ha h1, fr1 a ha h1], fun b hb => by rw [x2 b hb, e2 b hb], fun j hj => ?_⟩
    · rw [F_X12_seeksSayable_56, x_gN_ok (K0 _ _) (R10 _ _), aI_lit (x := (0 : Int32)) (n := 0) (K130 _ _) (by rw [L130]; omega) rfl (by omega), w2_I, hl.1 0 (by omega), if_neg (nI_ge (by omega) (by omega))]
      refine m_let_e ?_
      intro K1 hK1
      have e' : F_X12_isLiteral 128 (nI t) (nI k) (m_w2 M A B) = some (bI (sayB l t k v), m_w2 M A1 B1) := e
      rw [x_gN_ok (K0 _ _) (R72 _ _), show (4 : Int32) = nI 4 from rfl, nI_mul, nI_add, x_aI_ok (K176 _ _) (by rw [L176]; omega) (by omega), w2_I, hg _ (by omega), x_cV_ok (K0 _ _) e']
      have fin : ∀ y : Int32, y = nI (sayK l v (4 * t + k)) → K1 128 (nI v) (nI t) (nI k) 176 (nI (4 * t + k)) (nI (g (4 * t + k))) y (m_w2 M A1 B1) = C 128 (nI v) (nI t) (m_w2 M A' B') := fun y hy => by
        rw [hK1]
        dsimp only
        rw [hy, nI_or, x_sI_ok (K176 _ _) (by rw [L176]; omega) (by omega), w2_sI, m_let_eq, nI_1]
        exact x
      have e3 : (4 * t + k) / 4 = t := by omega
      have e4 : (4 * t + k) % 4 = k := by omega
      cases q : sayB l t k v
      · rw [if_pos (by decide)]
        exact fin _ (by unfold sayK; rw [e3, e4, q]; rfl)
      · rw [if_neg (by decide)]
        exact fin _ (by unfold sayK; rw [e3, e4, q, show (1 : Int32) = nI 1 from rfl, nI_shl (by omega), Nat.one_mul]; rfl)
    · rw [x3 j hj]
      by_cases z : j = 4 * t + k
      · rw [if_neg (by omega), if_pos z, if_pos (by omega)]
      · rw [if_neg z]
        by_cases y : j / 4 = t ∧ k + 1 ≤ j % 4 ∧ j % 4 < lH l 0
        · rw [if_pos y, if_pos (by omega)]
        · rw [if_neg y, if_neg (by omega)]
theorem M_sy44 (h : G M) (ho : lOk l) {v : Nat} (hv : v < lH l 3) {C : Nat → Int32 → m_M → Option (Unit × m_M)} : ∀ (d k f : Nat) (g : Nat → Nat) (A : IA) (B : Nat → Nat → Int64), k + d = lH l 1 → d < f → LMi l A → LitM l (some v) 172 B → (∀ j, j < 20 → A 176 j = nI (g j)) →
    ∃ A' B', F_X12_seeksSayable_44 C f 128 (nI v) (nI k) (m_w2 M A B) = C 128 (nI v) (m_w2 M A' B') ∧ (∀ a, ¬ scr a → a ≠ 176 → A' a = A a) ∧ (∀ b, b ≠ 171 → B' b = B b) ∧ ∀ j, j < 20 → A' 176 j = nI (if k ≤ j / 4 ∧ j / 4 < lH l 1 ∧ j % 4 < lH l 0 then g j ||| sayK l v j else g j) := by
  have h5 := ho.2.1
  have h4 := ho.1.2
  have K0 : ∀ A B, m_K (m_w2 M A B) 128 = 10 := fun A B => by simp only [w2_K, gK h]
  have R10 : ∀ A B, m_R (m_w2 M A B) 128 10 = some 130 := fun A B => by simp only [w2_R, gR h]
  have K130 : ∀ A B, m_K (m_w2 M A B) 130 = 12 := fun A B => by simp only [w2_K, gK h]
  have L130 : ∀ A B, m_len (m_w2 M A B) 130 = 16 := fun A B => by simp only [w2_n, gl h]
  intro d
  induction d with
  | zero =>
    intro k f g A B hk hf hl hL hg
    obtain ⟨f, rfl⟩ : ∃ f', f = f' + 1 := ⟨f - 1, by omega⟩
    obtain rfl : k = lH l 1 := by omega
    refine ⟨A, B, ?_, fun _ _ _ => rfl, fun _ _ => rfl, fun j hj => ?_⟩
    · rw [F_X12_seeksSayable_44, x_gN_ok (K0 _ _) (R10 _ _), aI_lit (x := (1 : Int32)) (n := 1) (K130 _ _) (by rw [L130]; omega) rfl (by omega), w2_I, hl.1 1 (by omega), if_pos (nI_le (Nat.le_refl _) (by omega))]
    · rw [if_neg (by omega)]; exact hg j hj
  | succ d ih =>
    intro k f g A B hk hf hl hL hg
    obtain ⟨f, rfl⟩ : ∃ f', f = f' + 1 := ⟨f - 1, by omega⟩
    rw [F_X12_seeksSayable_44, x_gN_ok (K0 _ _) (R10 _ _), aI_lit (x := (1 : Int32)) (n := 1) (K130 _ _) (by rw [L130]; omega) rfl (by omega), w2_I, hl.1 1 (by omega), if_neg (nI_ge (by omega) (by omega))]
    refine m_let_P (fun o => ∃ A' B', o = C 128 (nI v) (m_w2 M A' B') ∧ (∀ a, ¬ scr a → a ≠ 176 → A' a = A a) ∧ (∀ b, b ≠ 171 → B' b = B b) ∧ ∀ j, j < 20 → A' 176 j = nI (if k ≤ j / 4 ∧ j / 4 < lH l 1 ∧ j % 4 < lH l 0 then g j ||| sayK l v j else g j)) ?_
    intro K1 hK1
    obtain ⟨A1, B1, e, e1, e2, e3⟩ := M_sy56 h ho hv (show k < lH l 1 by omega) (C := K1) (lH l 0) 0 m_FU g A B (by omega) (m_FU_lt (by omega)) hl hL hg
    have e' : F_X12_seeksSayable_56 K1 m_FU 128 (nI v) (nI k) (0 : Int32) (m_w2 M A B) = _ := e
    obtain ⟨A', B', x, x1, x2, x3⟩ := ih (k + 1) f (fun j => if j / 4 = k ∧ 0 ≤ j % 4 ∧ j % 4 < lH l 0 then g j ||| sayK l v j else g j) A1 B1 (by omega) (by omega) (hl.fr2 e1) (fun a ha hc => (hL a ha hc).of (fun j _ => by rw [e2 172 (by omega)])) e3
    refine ⟨A', B', ?_, fun a ha h1 => by rw [x1 a ha h1, e1 a ha h1], fun b hb => by rw [x2 b hb, e2 b hb], fun j hj => ?_⟩
    · rw [e', hK1]
      dsimp only
      rw [m_let_eq, nI_1]
      exact x
    · rw [x3 j hj]
      by_cases z : j / 4 = k ∧ 0 ≤ j % 4 ∧ j % 4 < lH l 0
      · rw [if_neg (by omega), if_pos z, if_pos (by omega)]
      · rw [if_neg z]
        by_cases y : k + 1 ≤ j / 4 ∧ j / 4 < lH l 1 ∧ j % 4 < lH l 0
        · rw [if_pos y, if_pos (by omega)]
        · rw [if_neg y, if_neg (by omega)]
theorem sayN_succ {n j : Nat} : sayN l (n + 1) j = if 0 ≤ j / 4 ∧ j / 4 < lH l 1 ∧ j % 4 < lH l 0 then sayN l n j ||| sayK l n j else sayN l n j := by
  unfold sayN
  by_cases q : j / 4 < lH l 1 ∧ j % 4 < lH l 0
  · rw [if_pos q, if_pos q, if_pos ⟨Nat.zero_le _, q.1, q.2⟩]
    unfold sayK
    show (if sayB l (j / 4) (j % 4) n then _ else _) = _
    cases sayB l (j / 4) (j % 4) n
    · rw [if_neg (by decide), if_neg (by decide), Nat.or_zero]
    · rw [if_pos rfl, if_pos rfl]
  · rw [if_neg q, if_neg q, if_neg (fun z => q z.2)]
theorem M_seeks (h : G M) (ho : lOk l) {A : IA} {B : Nat → Nat → Int64} (hl : LMi l A) : ∃ A' B', F_X12_seeksSayable 128 (m_w2 M A B) = some ((), m_w2 M A' B') ∧ (∀ a, ¬ scr a → a ≠ 176 → A' a = A a) ∧ (∀ b, b ≠ 171 → b ≠ 172 → B' b = B b) ∧ ∀ j, j < 20 → A' 176 j = nI (sayN l (lH l 3) j) := by
  have h6 := ho.2.2.2.1
  have K0 : ∀ A B, m_K (m_w2 M A B) 128 = 10 := fun A B => by simp only [w2_K, gK h]
  have R10 : ∀ A B, m_R (m_w2 M A B) 128 10 = some 130 := fun A B => by simp only [w2_R, gR h]
  have K130 : ∀ A B, m_K (m_w2 M A B) 130 = 12 := fun A B => by simp only [w2_K, gK h]
  have L130 : ∀ A B, m_len (m_w2 M A B) 130 = 16 := fun A B => by simp only [w2_n, gl h]
  have R64 : ∀ A B, m_R (m_w2 M A B) 128 64 = some 172 := fun A B => by simp only [w2_R, gR h]
  have R72 : ∀ A B, m_R (m_w2 M A B) 128 72 = some 176 := fun A B => by simp only [w2_R, gR h]
  have K176 : ∀ A B, m_K (m_w2 M A B) 176 = 12 := fun A B => by simp only [w2_K, gK h]
  have L176 : ∀ A B, m_len (m_w2 M A B) 176 = 20 := fun A B => by simp only [w2_n, gl h]
  unfold F_X12_seeksSayable
  refine m_let_P (fun o => ∃ A' B', o = some ((), m_w2 M A' B') ∧ (∀ a, ¬ scr a → a ≠ 176 → A' a = A a) ∧ (∀ b, b ≠ 171 → b ≠ 172 → B' b = B b) ∧ ∀ j, j < 20 → A' 176 j = nI (sayN l (lH l 3) j)) ?_
  intro K1 hK1
  have z0 : ∀ (d k f : Nat) (A : IA), k + d = 20 → d < f → ∃ A', F_X12_seeksSayable_2 K1 f 128 (nI k) (m_w2 M A B) = K1 128 (m_w2 M A' B) ∧ (∀ a, a ≠ 176 → A' a = A a) ∧ (∀ j, j < k → A' 176 j = A 176 j) ∧ ∀ j, k ≤ j → j < 20 → A' 176 j = nI 0 := by
    intro d
    induction d with
    | zero =>
      intro k f A hk hf
      obtain ⟨f, rfl⟩ : ∃ f', f = f' + 1 := ⟨f - 1, by omega⟩
      obtain rfl : k = 20 := by omega
      refine ⟨A, ?_, fun _ _ => rfl, fun _ _ => rfl, fun j h1 h2 => absurd h1 (by omega)⟩
      rw [F_X12_seeksSayable_2, if_pos (by decide)]
    | succ d ih =>
      intro k f A hk hf
      obtain ⟨f, rfl⟩ : ∃ f', f = f' + 1 := ⟨f - 1, by omega⟩
      obtain ⟨A', e, e1, e2, e3⟩ := ih (k + 1) f (m_up A 176 k 0) (by omega) (by omega)
      refine ⟨A', ?_, fun a ha => ?_, fun j hj => by rw [e2 j (by omega), up_at, if_neg (by omega)], fun j h1 h2 => ?_⟩
      · rw [F_X12_seeksSayable_2, if_neg (show ¬ (20 : Int32) ≤ nI k from nI_ge (b := 20) (by omega) (by omega)), x_gN_ok (K0 _ _) (R72 _ _), x_sI_ok (K176 _ _) (by rw [L176]; omega) (by omega), w2_sI, m_let_eq, nI_1]
        exact e
      · rw [e1 a ha]
        funext j
        rw [up_at, if_neg (fun y => ha y.1)]
      · by_cases z : j = k
        · rw [z, e2 _ (by omega), up_at, if_pos ⟨rfl, rfl⟩]
          rfl
        · exact e3 j (by omega) h2
  have z1 : ∀ (d k f : Nat) (A : IA) (B : Nat → Nat → Int64), k + d = lH l 3 → d < f → LMi l A → (∀ j, j < 20 → A 176 j = nI (sayN l k j)) → ∃ A' B', F_X12_seeksSayable_23 f 128 (nI k) (m_w2 M A B) = some ((), m_w2 M A' B') ∧ (∀ a, ¬ scr a → a ≠ 176 → A' a = A a) ∧ (∀ b, b ≠ 171 → b ≠ 172 → B' b = B b) ∧ ∀ j, j < 20 → A' 176 j = nI (sayN l (lH l 3) j) := by
    intro d
    induction d with
    | zero =>
      intro k f A B hk hf hl hg
      obtain ⟨f, rfl⟩ : ∃ f', f = f' + 1 := ⟨f - 1, by omega⟩
      obtain rfl : k = lH l 3 := by omega
      refine ⟨A, B, ?_, fun _ _ _ => rfl, fun _ _ _ => rfl, hg⟩
      rw [F_X12_seeksSayable_23, x_gN_ok (K0 _ _) (R10 _ _), aI_lit (x := (3 : Int32)) (n := 3) (K130 _ _) (by rw [L130]; omega) rfl (by omega), w2_I, hl.1 3 (by omega), if_pos (nI_le (Nat.le_refl _) (by omega))]
    | succ d ih =>
      intro k f A B hk hf hl hg
      obtain ⟨f, rfl⟩ : ∃ f', f = f' + 1 := ⟨f - 1, by omega⟩
      obtain ⟨A1, B1, u, u1, u2, u3⟩ := M_lits h ho (r := 172) (by simp only [gK h]) (by simp only [gl h]) (v := some k) (fun j hj => by cases hj; omega) hl (B := B)
      have u' : F_X12_laysLiterals 128 (nI k) 172 (m_w2 M A B) = some ((), m_w2 M A1 B1) := u
      have hl1 := hl.fr u1
      rw [F_X12_seeksSayable_23, x_gN_ok (K0 _ _) (R10 _ _), aI_lit (x := (3 : Int32)) (n := 3) (K130 _ _) (by rw [L130]; omega) rfl (by omega), w2_I, hl.1 3 (by omega), if_neg (nI_ge (by omega) (by omega)), x_gN_ok (K0 _ _) (R64 _ _), x_cV_ok (K0 _ _) u']
      refine m_let_P (fun o => ∃ A' B', o = some ((), m_w2 M A' B') ∧ (∀ a, ¬ scr a → a ≠ 176 → A' a = A a) ∧ (∀ b, b ≠ 171 → b ≠ 172 → B' b = B b) ∧ ∀ j, j < 20 → A' 176 j = nI (sayN l (lH l 3) j)) ?_
      intro K2 hK2
      obtain ⟨A2, B2, e, e1, e2, e3⟩ := M_sy44 h ho (show k < lH l 3 by omega) (C := K2) (lH l 1) 0 m_FU (sayN l k) A1 B1 (by omega) (m_FU_lt (by have := ho.2.1; omega)) hl1 u3 (fun j hj => by rw [u1 176 (by unfold scr; omega)]; exact hg j hj)
      have e' : F_X12_seeksSayable_44 K2 m_FU 128 (nI k) (0 : Int32) (m_w2 M A1 B1) = _ := e
      obtain ⟨A', B', x, x1, x2, x3⟩ := ih (k + 1) f A2 B2 (by omega) (by omega) (hl1.fr2 e1) (fun j hj => by rw [e3 j hj, sayN_succ])
      refine ⟨A', B', ?_, fun a ha h1 => by rw [x1 a ha h1, e1 a ha h1, u1 a ha], fun b hb hb2 => by rw [x2 b hb hb2, e2 b hb, u2 b hb2], x3⟩
      rw [e', hK2]
      dsimp only
      rw [m_let_eq, nI_1]
      exact x
  obtain ⟨A1, e, e1, _, e2⟩ := z0 20 0 m_FU A (by omega) (m_FU_lt (by omega))
  have e' : F_X12_seeksSayable_2 K1 m_FU 128 (0 : Int32) (m_w2 M A B) = _ := e
  obtain ⟨A', B', x, x1, x2, x3⟩ := z1 (lH l 3) 0 m_FU A1 B (by omega) (m_FU_lt (by omega)) (hl.fr2 (fun a _ h1 => e1 a h1)) (fun j hj => by
    rw [e2 j (by omega) hj]
    unfold sayN
    split <;> rfl)
  refine ⟨A', B', ?_, fun a ha h1 => by rw [x1 a ha h1, e1 a h1], x2, x3⟩
  rw [e', hK1]
  dsimp only
  exact x
end MSAY
