/-! literals: the model lays them -/
def lT (l : Ld) (v : Option Nat) (a w : Nat) : Bool := xor (cby l v (a / 2) w) (decide (a % 2 = 1))
def LitM (l : Ld) (v : Option Nat) (r : Nat) (B : Nat → Nat → Int64) : Prop := ∀ a, a < 800 → ccOk l (a / 2) = true → Rw (wN l) (lT l v a) (fun k => B r (16 * a + k))
section LITS
variable {M M' : m_M} {l : Ld} {r : Nat}
theorem M_ll23 (K : m_K M r = 13) (hL : m_len M r = 12800) {A : IA} {v : Int32} {c : Nat} (hc : c < 400) {C : Nat → Int32 → Nat → Int32 → m_M → Option (Unit × m_M)} : ∀ (d k f : Nat) (B : Nat → Nat → Int64), k + d = 16 → d < f →
    ∃ B', F_X12_laysLiterals_23 C f 128 v r (nI c) (nI k) (m_w2 M A B) = C 128 v r (nI c) (m_w2 M A B') ∧ (∀ b, b ≠ r → B' b = B b) ∧ (∀ j, j < 32 * c + k ∨ 32 * c + 16 ≤ j → B' r j = B r j) ∧ ∀ j, 32 * c + k ≤ j → j < 32 * c + 16 → B' r j = 0 := by
  intro d
  induction d with
  | zero =>
    intro k f B hk hf
    obtain ⟨f, rfl⟩ : ∃ f', f = f' + 1 := ⟨f - 1, by omega⟩
    refine ⟨B, ?_, fun _ _ => rfl, fun _ _ => rfl, fun j h1 h2 => absurd h1 (by omega)⟩
    rw [F_X12_laysLiterals_23, if_pos (show (16 : Int32) ≤ nI k from nI_le (a := 16) (by omega) (by omega))]
  | succ d ih =>
    intro k f B hk hf
    obtain ⟨f, rfl⟩ : ∃ f', f = f' + 1 := ⟨f - 1, by omega⟩
    obtain ⟨B', e, e1, e2, e3⟩ := ih (k + 1) f (upB B r (32 * c + k) 0) (by omega) (by omega)
    refine ⟨B', ?_, fun b hb => by rw [e1 b hb, upB_fr hb], fun j hj => by rw [e2 j (by omega), upB_at, if_neg (by omega)], fun j h1 h2 => ?_⟩
    · rw [F_X12_laysLiterals_23, if_neg (show ¬ (16 : Int32) ≤ nI k from nI_ge (b := 16) (by omega) (by omega)), show (32 : Int32) = nI 32 from rfl, nI_mul, nI_add, x_sL_ok (by rw [w2_K]; exact K) (by rw [w2_n, hL]; omega) (by omega), w2_sL, m_let_eq, nI_1]
      exact e
    · by_cases z : j = 32 * c + k
      · rw [z, e2 _ (by omega), upB_at, if_pos ⟨rfl, rfl⟩]
      · exact e3 j (by omega) h2
theorem M_ll49 (h : G M) (ho : lOk l) (K : m_K M r = 13) (hL : m_len M r = 12800) {v : Option Nat} (hv : vIn l v) {c : Nat} (hc : ccOk l c = true) {C : Nat → Int32 → Nat → Int32 → m_M → Option (Unit × m_M)} : ∀ (d k f : Nat) (A : IA) (B : Nat → Nat → Int64), k + d = wN l → d < f → LMi l A → Rw k (cby l v c) (fun k => B r (32 * c + k)) →
    ∃ A' B', F_X12_laysLiterals_49 C f 128 (iO v) r (nI c) (nI k) (m_w2 M A B) = C 128 (iO v) r (nI c) (m_w2 M A' B') ∧ (∀ a, ¬ scr a → A' a = A a) ∧ (∀ b, b ≠ r → B' b = B b) ∧ (∀ j, j < 32 * c ∨ 32 * c + 16 ≤ j → B' r j = B r j) ∧ Rw (wN l) (cby l v c) (fun k => B' r (32 * c + k)) := by
  have hn := wN_le ho
  have hc4 := (ccOk_iff.mp hc).1
  have K0 : ∀ A B, m_K (m_w2 M A B) 128 = 10 := fun A B => by simp only [w2_K, gK h]
  intro d
  induction d with
  | zero =>
    intro k f A B hk hf hl hr
    obtain ⟨f, rfl⟩ : ∃ f', f = f' + 1 := ⟨f - 1, by omega⟩
    obtain rfl : k = wN l := by omega
    refine ⟨A, B, ?_, fun _ _ => rfl, fun _ _ => rfl, fun _ _ => rfl, hr⟩
    rw [F_X12_laysLiterals_49, x_gI_ok (K0 _ _), w2_I, hl.2.2.2.2.2.1, if_pos (nI_le (Nat.le_refl _) (by omega))]
  | succ d ih =>
    intro k f A B hk hf hl hr
    obtain ⟨f, rfl⟩ : ∃ f', f = f' + 1 := ⟨f - 1, by omega⟩
    have hG1 : G (m_wB M B) := h
    obtain ⟨A1, s1, s2, s3⟩ := S_shows (M := m_wB M B) hG1 hl ho (w := k) (by omega)
    have hl1 : LMi l A1 := hl.fr (fun a ha => s2 a (by unfold scr at ha; omega))
    obtain ⟨A2, t1, t2⟩ := S_clauseHoldsM (M := m_wB M B) hG1 hl1 ho hv hc s3
    have f2 : ∀ a, ¬ scr a → A2 a = A a := fun a ha => by
      unfold scr at ha
      rw [t2 a (by omega), s2 a (by omega)]
    have s1' : F_X12_shows 128 (nI k) (m_w2 M A B) = some ((), m_w2 M A1 B) := s1
    have t1' : F_X12_clauseHolds 128 (nI c) (iO v) (m_w2 M A1 B) = some (bI (cby l v c k), m_w2 M A2 B) := t1
    have hrs := row_set (at0 := 32 * c) (row := r) hr (show k < wN l by omega) hn
    have go : ∀ B2, Rw (k + 1) (cby l v c) (fun k => B2 r (32 * c + k)) → (∀ b, b ≠ r → B2 b = B b) → (∀ j, j < 32 * c ∨ 32 * c + 16 ≤ j → B2 r j = B r j) → ∃ A' B', F_X12_laysLiterals_49 C f 128 (iO v) r (nI c) (nI (k + 1)) (m_w2 M A2 B2) = C 128 (iO v) r (nI c) (m_w2 M A' B') ∧ (∀ a, ¬ scr a → A' a = A a) ∧ (∀ b, b ≠ r → B' b = B b) ∧ (∀ j, j < 32 * c ∨ 32 * c + 16 ≤ j → B' r j = B r j) ∧ Rw (wN l) (cby l v c) (fun k => B' r (32 * c + k)) := by
      intro B2 h1 h2 h3
      obtain ⟨A', B', e, e1, e2, e3, e4⟩ := ih (k + 1) f A2 B2 (by omega) (by omega) (hl.fr f2) h1
      exact ⟨A', B', e, fun a ha => by rw [e1 a ha, f2 a ha], fun b hb => by rw [e2 b hb, h2 b hb], fun j hj => by rw [e3 j hj, h3 j hj], e4⟩
    rw [F_X12_laysLiterals_49, x_gI_ok (K0 _ _), w2_I, hl.2.2.2.2.2.1, if_neg (nI_ge (by omega) (by omega))]
    refine m_let_P (fun o => ∃ A' B', o = C 128 (iO v) r (nI c) (m_w2 M A' B') ∧ (∀ a, ¬ scr a → A' a = A a) ∧ (∀ b, b ≠ r → B' b = B b) ∧ (∀ j, j < 32 * c ∨ 32 * c + 16 ≤ j → B' r j = B r j) ∧ Rw (wN l) (cby l v c) (fun k => B' r (32 * c + k))) ?_
    intro K1 hK1
    rw [x_cV_ok (K0 _ _) s1', x_cV_ok (K0 _ _) t1']
    cases hb : cby l v c k
    · rw [if_pos (show bI false = (0 : Int32) from rfl), hK1]
      dsimp only
      rw [m_let_eq, nI_1]
      rw [hb, if_neg (by decide)] at hrs
      exact go B hrs (fun _ _ => rfl) (fun _ _ => rfl)
    · rw [hb, if_pos rfl] at hrs
      have e64 : nI k - nI (k / 64) * (64 : Int32) = nI (k % 64) := by rw [show (64 : Int32) = nI 64 from rfl, nI_mul, i32_rem2]
      rw [if_neg (show ¬ bI true = (0 : Int32) from by decide), x_nz_eq, if_neg (by decide), show nI k / (64 : Int32) = nI (k / 64) from i32_div (b := 64) (by omega) (by omega), show (32 : Int32) = nI 32 from rfl, nI_mul, nI_add, x_aL_ok (by rw [w2_K]; exact K) (by rw [w2_n, hL]; omega) (by omega), w2_L, x_nz_eq, if_neg (by decide), x_sL_ok (by rw [w2_K]; exact K) (by rw [w2_n, hL]; omega) (by omega), w2_sL, hK1]
      dsimp only
      rw [m_let_eq, nI_1, e64]
      exact go _ hrs (fun b hb2 => by rw [upB_fr hb2]) (fun j hj => by rw [upB_at, if_neg (by omega)])
theorem M_ll104 (h : G M) (ho : lOk l) (K : m_K M r = 13) (hL : m_len M r = 12800) {A : IA} (hl : LMi l A) {v : Int32} {c : Nat} (hc : c < 400) {C : Nat → Int32 → Nat → Int32 → m_M → Option (Unit × m_M)} : ∀ (d k f : Nat) (B : Nat → Nat → Int64), k + d = 16 → d < f →
    ∃ B', F_X12_laysLiterals_104 C f 128 v r (nI c) (nI k) (m_w2 M A B) = C 128 v r (nI c) (m_w2 M A B') ∧ (∀ b, b ≠ r → B' b = B b) ∧ (∀ j, j < 32 * c + 16 + k ∨ 32 * c + 32 ≤ j → B' r j = B r j) ∧ ∀ j, k ≤ j → j < 16 → B' r (32 * c + 16 + j) = wlL (wN l) j &&& ~~~(B r (32 * c + j)) := by
  have K0 : ∀ A B, m_K (m_w2 M A B) 128 = 10 := fun A B => by simp only [w2_K, gK h]
  intro d
  induction d with
  | zero =>
    intro k f B hk hf
    obtain ⟨f, rfl⟩ : ∃ f', f = f' + 1 := ⟨f - 1, by omega⟩
    refine ⟨B, ?_, fun _ _ => rfl, fun _ _ => rfl, fun j h1 h2 => absurd h1 (by omega)⟩
    rw [F_X12_laysLiterals_104, if_pos (show (16 : Int32) ≤ nI k from nI_le (a := 16) (by omega) (by omega))]
  | succ d ih =>
    intro k f B hk hf
    obtain ⟨f, rfl⟩ : ∃ f', f = f' + 1 := ⟨f - 1, by omega⟩
    obtain ⟨B', e, e1, e2, e3⟩ := ih (k + 1) f (upB B r (32 * c + 16 + k) (wlL (wN l) k &&& ~~~(B r (32 * c + k)))) (by omega) (by omega)
    refine ⟨B', ?_, fun b hb => by rw [e1 b hb, upB_fr hb], fun j hj => by rw [e2 j (by omega), upB_at, if_neg (by omega)], fun j h1 h2 => ?_⟩
    · rw [F_X12_laysLiterals_104, if_neg (show ¬ (16 : Int32) ≤ nI k from nI_ge (b := 16) (by omega) (by omega)), x_cV_ok (K0 _ _) (S_allOf (M := m_w2 M A B) h hl ho (k := k) (by omega)), show (32 : Int32) = nI 32 from rfl, show (16 : Int32) = nI 16 from rfl, nI_mul, nI_add, nI_add, nI_add, x_aL_ok (by rw [w2_K]; exact K) (by rw [w2_n, hL]; omega) (by omega), x_sL_ok (by rw [w2_K]; exact K) (by rw [w2_n, hL]; omega) (by omega), w2_sL, w2_L, l_xor, m_let_eq, nI_1]
      exact e
    · by_cases z : j = k
      · rw [z, e2 _ (by omega), upB_at, if_pos ⟨rfl, rfl⟩]
      · rw [e3 j (by omega) h2, upB_at, if_neg (by omega)]
def lt2 (l : Ld) (v : Option Nat) (r c : Nat) (B : Nat → Nat → Int64) : Prop := Rw (wN l) (cby l v c) (fun k => B r (32 * c + k)) ∧ Rw (wN l) (fun w => !cby l v c w) (fun k => B r (32 * c + 16 + k))
theorem lt2_M {v : Option Nat} {B : Nat → Nat → Int64} (h : ∀ c, c < 400 → ccOk l c = true → lt2 l v r c B) : LitM l v r B := by
  intro a ha hc
  obtain ⟨h1, h2⟩ := h (a / 2) (by omega) hc
  by_cases q : a % 2 = 1
  · refine (h2.of (fun k _ => ?_)).cong (fun w _ => ?_)
    · rw [show 16 * a + k = 32 * (a / 2) + 16 + k by omega]
    · unfold lT
      rw [decide_eq_true q]
      cases cby l v (a / 2) w <;> rfl
  · refine (h1.of (fun k _ => ?_)).cong (fun w _ => ?_)
    · rw [show 16 * a + k = 32 * (a / 2) + k by omega]
    · unfold lT
      rw [decide_eq_false q]
      cases cby l v (a / 2) w <;> rfl
theorem M_lits (h : G M) (ho : lOk l) (K : m_K M r = 13) (hL : m_len M r = 12800) {v : Option Nat} (hv : vIn l v) {A : IA} {B : Nat → Nat → Int64} (hl : LMi l A) : ∃ A' B', F_X12_laysLiterals 128 (iO v) r (m_w2 M A B) = some ((), m_w2 M A' B') ∧ (∀ a, ¬ scr a → A' a = A a) ∧ (∀ b, b ≠ r → B' b = B b) ∧ LitM l v r B' := by
  have hn := wN_le ho
  have K0 : ∀ A B, m_K (m_w2 M A B) 128 = 10 := fun A B => by simp only [w2_K, gK h]
  have key : ∀ (d k f : Nat) (A : IA) (B : Nat → Nat → Int64), k + d = 400 → d < f → LMi l A → (∀ c, c < k → ccOk l c = true → lt2 l v r c B) → ∃ A' B', F_X12_laysLiterals_2 f 128 (iO v) r (nI k) (m_w2 M A B) = some ((), m_w2 M A' B') ∧ (∀ a, ¬ scr a → A' a = A a) ∧ (∀ b, b ≠ r → B' b = B b) ∧ LitM l v r B' := by
    intro d
    induction d with
    | zero =>
      intro k f A B hk hf hl hh
      obtain ⟨f, rfl⟩ : ∃ f', f = f' + 1 := ⟨f - 1, by omega⟩
      obtain rfl : k = 400 := by omega
      refine ⟨A, B, ?_, fun _ _ => rfl, fun _ _ => rfl, lt2_M hh⟩
      rw [F_X12_laysLiterals_2, if_pos (by decide)]
    | succ d ih =>
      intro k f A B hk hf hl hh
      obtain ⟨f, rfl⟩ : ∃ f', f = f' + 1 := ⟨f - 1, by omega⟩
      rw [F_X12_laysLiterals_2, if_neg (show ¬ (400 : Int32) ≤ nI k from nI_ge (b := 400) (by omega) (by omega))]
      refine m_let_P (fun o => ∃ A' B', o = some ((), m_w2 M A' B') ∧ (∀ a, ¬ scr a → A' a = A a) ∧ (∀ b, b ≠ r → B' b = B b) ∧ LitM l v r B') ?_
      intro K1 hK1
      have ic : F_X12_isClause 128 (nI k) (m_w2 M A B) = some (bI (ccOk l k), m_w2 M A B) := S_isClauseM (M := m_w2 M A B) h hl ho (by omega)
      rw [x_cV_ok (K0 _ _) ic]
      cases q : ccOk l k
      · rw [if_pos (by decide), hK1]
        dsimp only
        rw [m_let_eq, nI_1]
        exact ih (k + 1) f A B (by omega) (by omega) hl (fun c hc hcc => by
          by_cases z : c = k
          · rw [z, q] at hcc; cases hcc
          · exact hh c (by omega) hcc)
      · rw [if_neg (by decide)]
        refine m_let_P (fun o => ∃ A' B', o = some ((), m_w2 M A' B') ∧ (∀ a, ¬ scr a → A' a = A a) ∧ (∀ b, b ≠ r → B' b = B b) ∧ LitM l v r B') ?_
        intro K2 hK2
        obtain ⟨B1, e, e1, e2, e3⟩ := M_ll23 K hL (A := A) (v := iO v) (c := k) (by omega) (C := K2) 16 0 m_FU B (by omega) (m_FU_lt (by omega))
        have e' : F_X12_laysLiterals_23 K2 m_FU 128 (iO v) r (nI k) (0 : Int32) (m_w2 M A B) = _ := e
        rw [e', hK2]
        dsimp only
        refine m_let_P (fun o => ∃ A' B', o = some ((), m_w2 M A' B') ∧ (∀ a, ¬ scr a → A' a = A a) ∧ (∀ b, b ≠ r → B' b = B b) ∧ LitM l v r B') ?_
        intro K3 hK3
        obtain ⟨A2, B2, g, g1, g2, g3, g4⟩ := M_ll49 h ho K hL hv q (C := K3) (wN l) 0 m_FU A B1 (by omega) (m_FU_lt (by omega)) hl ((Rw.up0 _).of (fun j hj => e3 _ (by omega) (by omega)))
        have g' : F_X12_laysLiterals_49 K3 m_FU 128 (iO v) r (nI k) (0 : Int32) (m_w2 M A B1) = _ := g
        rw [g', hK3]
        dsimp only
        obtain ⟨B3, u, u1, u2, u3⟩ := M_ll104 h ho K hL (hl.fr g1) (v := iO v) (c := k) (by omega) (C := K1) 16 0 m_FU B2 (by omega) (m_FU_lt (by omega))
        have u' : F_X12_laysLiterals_104 K1 m_FU 128 (iO v) r (nI k) (0 : Int32) (m_w2 M A2 B2) = _ := u
        rw [u', hK1]
        dsimp only
        rw [m_let_eq, nI_1]
        obtain ⟨A', B', x, x1, x2, x3⟩ := ih (k + 1) f A2 B3 (by omega) (by omega) (hl.fr g1) (fun c hc hcc => by
          by_cases z : c = k
          · rw [z]
            refine ⟨g4.of (fun j hj => u2 _ (by omega)), ?_⟩
            refine (((Rw.whole (wN l)).drop g4).of (fun j hj => u3 j (by omega) (by omega))).cong (fun w _ => ?_)
            rfl
          · obtain ⟨y1, y2⟩ := hh c (by omega) hcc
            exact ⟨y1.of (fun j hj => by rw [u2 _ (by omega), g3 _ (by omega), e2 _ (by omega)]), y2.of (fun j hj => by rw [u2 _ (by omega), g3 _ (by omega), e2 _ (by omega)])⟩)
        exact ⟨A', B', x, fun a ha => by rw [x1 a ha, g1 a ha], fun b hb => by rw [x2 b hb, u1 b hb, g2 b hb, e1 b hb], x3⟩
  unfold F_X12_laysLiterals
  exact key 400 0 m_FU A B (by omega) (m_FU_lt (by omega)) hl (fun c hc => absurd hc (by omega))
end LITS
