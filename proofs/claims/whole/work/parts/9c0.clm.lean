/-! a clause's worlds, compared -/
def mC (l : Ld) (P : Nat → Bool) (c : Nat) (v : Option Nat) : Bool := decide (∀ w, w < wN l → cby l v c w = P w)
def fdB (p : Nat → Bool) (n : Nat) : Option Nat := (List.range n).find? p
section CLM
variable {M M' : m_M} {l : Ld} {P : Nat → Bool}
theorem fdB_none {p : Nat → Bool} {n : Nat} (h : ∀ k, k < n → p k = false) : fdB p n = none := by
  unfold fdB
  rw [List.find?_eq_none]
  intro x hx
  rw [h x (List.mem_range.mp hx)]
  decide
theorem fdB_some {p : Nat → Bool} {n k : Nat} (hk : k < n) (h : p k = true) (h2 : ∀ j, j < k → p j = false) : fdB p n = some k := by
  unfold fdB
  rw [List.find?_range_eq_some]
  exact ⟨h, List.mem_range.mpr hk, fun j hj => by rw [h2 j hj]; rfl⟩
theorem fdB_cases (p : Nat → Bool) (n : Nat) : (fdB p n = none ∧ ∀ k, k < n → p k = false) ∨ ∃ k, fdB p n = some k ∧ k < n ∧ p k = true ∧ ∀ j, j < k → p j = false := by
  cases h : fdB p n with
  | none =>
    refine .inl ⟨rfl, fun k hk => ?_⟩
    have := List.find?_eq_none.mp h k (List.mem_range.mpr hk)
    exact Bool.eq_false_iff.mpr this
  | some k =>
    obtain ⟨h1, h2, h3⟩ := List.find?_range_eq_some.mp h
    exact .inr ⟨k, rfl, List.mem_range.mp h2, h1, fun j hj => by have := h3 j hj; rw [Bool.not_eq_true'] at this; exact this⟩
theorem bI_inj {a b : Bool} (h : bI a = bI b) : a = b := by
  cases a <;> cases b
  · rfl
  · exact absurd h (by decide)
  · exact absurd h (by decide)
  · rfl
theorem S_nounOk (h : G M) (hl : LCi l (m_I M)) (ho : lOk l) {c : Nat} (hc : c < 20) (hn : ncOk l c) : ∃ x, F_X3_nounOf 2 (nI c) M = some (nI x, M) ∧ isN l (partN c) x := by
  rcases S_nounOf h hl ho hc with ⟨q, _⟩ | ⟨_, x, e1, e2⟩
  · exact absurd hn q
  · exact ⟨x, e1, e2⟩
theorem c20 {c : Nat} (hc : c < 2147483648) : nI c / (20 : Int32) = nI (c / 20) ∧ nI c - nI (c / 20) * (20 : Int32) = nI (c % 20) := ⟨i32_div (b := 20) (by omega) (by omega), by rw [show (20 : Int32) = nI 20 from rfl, nI_mul, i32_rem2]⟩
theorem S_firstThing (h : G M) (hl : LCi l (m_I M)) (ho : lOk l) {c : Nat} (hc : ccOk l c = true) : F_X3_firstThing 2 (nI c) M = some (nI (partN (c / 20) % 8), M) := by
  obtain ⟨h1, h2, h3⟩ := ccOk_iff.mp hc
  obtain ⟨x, e1, e2⟩ := S_nounOk h hl ho (show c / 20 < 20 by omega) h2
  obtain ⟨q1, _, _⟩ := partN_p (show c / 20 < 20 by omega)
  have K2 : m_K M 2 = 3 := by simp only [gK h]
  unfold F_X3_firstThing
  rw [x_nz_eq, if_neg (by decide), (c20 (c := c) (by omega)).1, x_cV_ok K2 e1, x_bd_ok (S_thingOf ho (by rw [q1]; exact h2.1) e2)]
theorem S_secondThing (h : G M) (hl : LCi l (m_I M)) (ho : lOk l) {c : Nat} (hc : ccOk l c = true) : F_X3_secondThing 2 (nI c) M = some (nI (partN (c % 20) % 8), M) := by
  obtain ⟨h1, h2, h3⟩ := ccOk_iff.mp hc
  obtain ⟨x, e1, e2⟩ := S_nounOk h hl ho (show c % 20 < 20 by omega) h3
  obtain ⟨q1, _, _⟩ := partN_p (show c % 20 < 20 by omega)
  have K2 : m_K M 2 = 3 := by simp only [gK h]
  unfold F_X3_secondThing
  rw [x_nz_eq, if_neg (by decide), (c20 (c := c) (by omega)).1, (c20 (c := c) (by omega)).2, x_cV_ok K2 e1, x_bd_ok (S_thingOf ho (by rw [q1]; exact h3.1) e2)]
theorem S_clauseTable (h : G M) (hl : LCi l (m_I M)) (ho : lOk l) {c : Nat} (hc : ccOk l c = true) {v : Option Nat} (hv : vIn l v) : ∃ T, F_X3_clauseTable 2 (nI c) (iO v) M = some (nI T, M) ∧ T < 65536 ∧ ∀ k, T.testBit k = tbl l v (partN (c / 20)) (partN (c % 20)) k := by
  obtain ⟨h1, h2, h3⟩ := ccOk_iff.mp hc
  obtain ⟨x, e1, e2⟩ := S_nounOk h hl ho (show c / 20 < 20 by omega) h2
  obtain ⟨y, e3, e4⟩ := S_nounOk h hl ho (show c % 20 < 20 by omega) h3
  obtain ⟨q1, _, _⟩ := partN_p (show c / 20 < 20 by omega)
  obtain ⟨q2, _, _⟩ := partN_p (show c % 20 < 20 by omega)
  obtain ⟨T, e5, e6, e7⟩ := S_tableOf h hl ho hv (by rw [q1]; exact h2.1) (by rw [q2]; exact h3.1) e2 e4
  have K2 : m_K M 2 = 3 := by simp only [gK h]
  refine ⟨T, ?_, e6, e7⟩
  unfold F_X3_clauseTable
  rw [x_nz_eq, if_neg (by decide), (c20 (c := c) (by omega)).1, x_cV_ok K2 e1, x_nz_eq, if_neg (by decide), (c20 (c := c) (by omega)).2, x_cV_ok K2 e3, x_cV_ok K2 e5]
/-- a long of a clause's worlds -/
theorem S_clauseLong (h : G M) (hl : LCi l (m_I M)) (ho : lOk l) (hs : LCs l (m_L M 13)) {c : Nat} (hc : ccOk l c = true) {v : Option Nat} {T : Nat} (hT : T < 65536) (hk : ∀ k, T.testBit k = tbl l v (partN (c / 20)) (partN (c % 20)) k) {i : Nat} (hi : i < 16) : ∃ t, F_X3_longOf 2 (nI T) (nI (partN (c / 20) % 8)) (nI (partN (c % 20) % 8)) (nI i) M = some (t, M) ∧ ∀ j, j < 64 → lb t j = (decide (64 * i + j < wN l) && cby l v c (64 * i + j)) := by
  obtain ⟨h1, h2, h3⟩ := ccOk_iff.mp hc
  obtain ⟨q1, _, _⟩ := partN_p (show c / 20 < 20 by omega)
  obtain ⟨q2, _, _⟩ := partN_p (show c % 20 < 20 by omega)
  obtain ⟨t, e1, e2⟩ := S_longOf h hl ho hs (T := T) (fi := partN (c / 20) % 8) (s := partN (c % 20) % 8) (i := i) (by rw [q1]; exact h2.1) (by rw [q2]; exact h3.1) hi hT
  refine ⟨t, e1, fun j hj => ?_⟩
  rw [e2 j hj, hk]
  unfold cby
  rw [hby_tbl ho]
theorem fin_cells (h : G M) : m_K M 67 = 2 ∧ m_R M 67 5 = some 2 ∧ m_K M 2 = 3 ∧ m_R M 0 7 = some 67 := by
  refine ⟨?_, ?_, ?_, ?_⟩ <;> simp only [gK h, gR h]
theorem S_icm (h : G M) (hl : LCi l (m_I M)) (ho : lOk l) (hs : LCs l (m_L M 13)) {c : Nat} (hc : ccOk l c = true) {v : Option Nat} (hv : vIn l v) {st la : Nat} (hw : Ws M st la) (hP : Rw (wN l) P (m_L M la)) : F_X2_isClauseMeant 67 st (nI c) (iO v) M = some (bI (mC l P c v), M) := by
  obtain ⟨K67, R5, K2, _⟩ := fin_cells h
  obtain ⟨T, e1, e2, e3⟩ := S_clauseTable h hl ho hc hv
  have hn := wN_le ho
  have I24 : m_I M 2 4 = nI ((wN l + 63) / 64) := hl.1.2.2.2.2
  unfold F_X2_isClauseMeant
  rw [x_gN_ok K67 R5, x_cV_ok K2 e1, x_gN_ok K67 R5, x_cV_ok K2 (S_firstThing h hl ho hc), x_gN_ok K67 R5, x_cV_ok K2 (S_secondThing h hl ho hc)]
  have key : ∀ (d k f : Nat), k + d = (wN l + 63) / 64 → d < f → (∀ w, w < 64 * k → w < wN l → cby l v c w = P w) → F_X2_isClauseMeant_34 f 67 st (nI T) (nI (partN (c / 20) % 8)) (nI (partN (c % 20) % 8)) (nI k) M = some (bI (mC l P c v), M) := by
    intro d
    induction d with
    | zero =>
      intro k f hk hf hh
      obtain ⟨f, rfl⟩ : ∃ f', f = f' + 1 := ⟨f - 1, by omega⟩
      rw [F_X2_isClauseMeant_34, x_gN_ok K67 R5, x_gI_ok K2, I24, if_pos (nI_le (by omega) (by omega))]
      unfold mC
      rw [decide_eq_true (fun w hw => hh w (by omega) hw)]
      rfl
    | succ d ih =>
      intro k f hk hf hh
      obtain ⟨f, rfl⟩ : ∃ f', f = f' + 1 := ⟨f - 1, by omega⟩
      obtain ⟨t, g1, g2⟩ := S_clauseLong h hl ho hs hc e2 e3 (i := k) (by omega)
      rw [F_X2_isClauseMeant_34, x_gN_ok K67 R5, x_gI_ok K2, I24, if_neg (nI_ge (by omega) (by omega)), if_neg (show ¬ (16 : Int32) ≤ nI k from nI_ge (b := 16) (by omega) (by omega)), x_gN_ok K67 R5, x_cV_ok K2 g1, x_gN_ok hw.1 hw.2.1, x_aL_ok hw.2.2.1 (by rw [hw.2.2.2]; omega) (by omega)]
      by_cases q : t = m_L M la k
      · rw [if_pos ((lg_cmp_eq _ _).mpr q), m_let_eq, nI_1]
        refine ih (k + 1) f (by omega) (by omega) (fun w h1 h2 => ?_)
        by_cases z : w < 64 * k
        · exact hh w z h2
        · have b1 := g2 (w - 64 * k) (by omega)
          have b2 := hP k (by omega) (w - 64 * k) (by omega)
          rw [q, b2, show 64 * k + (w - 64 * k) = w by omega, decide_eq_true h2, Bool.true_and, Bool.true_and] at b1
          exact b1.symm
      · rw [if_neg (fun z => q ((lg_cmp_eq _ _).mp z))]
        unfold mC
        rw [decide_eq_false (fun z => q (lb_ext (fun j hj => by
          rw [g2 j hj, hP k (by omega) j hj]
          by_cases y : 64 * k + j < wN l
          · rw [z _ y]
          · rw [decide_eq_false y, Bool.false_and, Bool.false_and])))]
        rfl
  exact key ((wN l + 63) / 64) 0 m_FU (by omega) (m_FU_lt (by omega)) (fun w h1 => absurd h1 (by omega))
/-- the model compares -/
theorem S_iaa (h : G M) (ho : lOk l) {A : IA} {B : Nat → Nat → Int64} (hl : LMi l A) {c : Nat} (hc : ccOk l c = true) {v : Option Nat} (hv : vIn l v) {at0 : Nat} (hat : at0 ≤ 96) (hP : Rw (wN l) P (fun k => B 162 (at0 + k))) : ∃ A', F_X12_isAsAsked 128 (nI c) (iO v) (nI at0) (m_w2 M A B) = some (bI (mC l P c v), m_w2 M A' B) ∧ ∀ a, ¬ scr a → A' a = A a := by
  have hn := wN_le ho
  have K0 : ∀ A B, m_K (m_w2 M A B) 128 = 10 := fun A B => by simp only [w2_K, gK h]
  have R54 : ∀ A B, m_R (m_w2 M A B) 128 54 = some 162 := fun A B => by simp only [w2_R, gR h]
  have K162 : ∀ A B, m_K (m_w2 M A B) 162 = 13 := fun A B => by simp only [w2_K, gK h]
  have L162 : ∀ A B, m_len (m_w2 M A B) 162 = 560 := fun A B => by simp only [w2_n, gl h]
  have key : ∀ (d k f : Nat) (A : IA), k + d = wN l → d < f → LMi l A → (∀ w, w < k → cby l v c w = P w) → ∃ A', F_X12_isAsAsked_3 f 128 (nI c) (iO v) (nI at0) (nI k) (m_w2 M A B) = some (bI (mC l P c v), m_w2 M A' B) ∧ ∀ a, ¬ scr a → A' a = A a := by
    intro d
    induction d with
    | zero =>
      intro k f A hk hf hl hh
      obtain ⟨f, rfl⟩ : ∃ f', f = f' + 1 := ⟨f - 1, by omega⟩
      refine ⟨A, ?_, fun _ _ => rfl⟩
      rw [F_X12_isAsAsked_3, x_gI_ok (K0 _ _), w2_I, hl.2.2.2.2.2.1, if_pos (nI_le (by omega) (by omega))]
      unfold mC
      rw [decide_eq_true (fun w hw => hh w (by omega))]
      rfl
    | succ d ih =>
      intro k f A hk hf hl hh
      obtain ⟨f, rfl⟩ : ∃ f', f = f' + 1 := ⟨f - 1, by omega⟩
      have hG1 : G (m_wB M B) := h
      obtain ⟨A1, s1, s2, s3⟩ := S_shows (M := m_wB M B) hG1 hl ho (w := k) (by omega)
      have hl1 : LMi l A1 := hl.fr (fun a ha => s2 a (by unfold scr at ha; omega))
      obtain ⟨A2, t1, t2⟩ := S_clauseHoldsM (M := m_wB M B) hG1 hl1 ho hv hc s3
      have f2 : ∀ a, ¬ scr a → A2 a = A a := fun a ha => by
        unfold scr at ha
        rw [t2 a (by omega), s2 a (by omega)]
      have s1' : F_X12_shows 128 (nI k) (m_w2 M A B) = some ((), m_w2 M A1 B) := s1
      have t1' : F_X12_clauseHolds 128 (nI c) (iO v) (m_w2 M A1 B) = some (bI (cby l v c k), m_w2 M A2 B) := t1
      have e64 : nI k - nI (k / 64) * (64 : Int32) = nI (k % 64) := by rw [show (64 : Int32) = nI 64 from rfl, nI_mul, i32_rem2]
      have hb := hP (k / 64) (by omega) (k % 64) (by omega)
      rw [show 64 * (k / 64) + k % 64 = k by omega, decide_eq_true (show k < wN l by omega), Bool.true_and] at hb
      have fin : ∀ (b : Bool) (x : Int32), x = bI b → b = P k → ∃ A', (if bI (cby l v c k) = x then (m_let (nI k + (1 : Int32)) fun v14 => F_X12_isAsAsked_3 f 128 (nI c) (iO v) (nI at0) v14 (m_w2 M A2 B)) else some ((0 : Int32), m_w2 M A2 B)) = some (bI (mC l P c v), m_w2 M A' B) ∧ ∀ a, ¬ scr a → A' a = A a := by
        intro b x hx hbP
        by_cases q : cby l v c k = P k
        · rw [if_pos (by rw [hx, hbP, q]), m_let_eq, nI_1]
          obtain ⟨A', e, e1⟩ := ih (k + 1) f A2 (by omega) (by omega) (hl.fr f2) (fun w hw => by
            by_cases z : w = k
            · rw [z]; exact q
            · exact hh w (by omega))
          exact ⟨A', e, fun a ha => by rw [e1 a ha, f2 a ha]⟩
        · refine ⟨A2, ?_, f2⟩
          rw [if_neg (by rw [hx, hbP]; exact fun z => q (bI_inj z))]
          unfold mC
          rw [decide_eq_false (fun z => q (z k (by omega)))]
          rfl
      rw [F_X12_isAsAsked_3, x_gI_ok (K0 _ _), w2_I, hl.2.2.2.2.2.1, if_neg (nI_ge (by omega) (by omega)), m_let_eq, x_cV_ok (K0 _ _) s1', x_cV_ok (K0 _ _) t1', x_gN_ok (K0 _ _) (R54 _ _), x_nz_eq, if_neg (by decide), show nI k / (64 : Int32) = nI (k / 64) from i32_div (b := 64) (by omega) (by omega), nI_add, x_aL_ok (K162 _ _) (by rw [L162]; omega) (by omega), w2_L, x_nz_eq, if_neg (by decide), e64, lb_shr _ (show k % 64 < 64 by omega), hb]
      cases hq : P k
      · rw [if_neg (by decide)]
        exact fin false 0 rfl hq.symm
      · rw [if_pos (by decide)]
        exact fin true 1 rfl hq.symm
  exact key (wN l) 0 m_FU A (by omega) (m_FU_lt (by omega)) hl (fun w h1 => absurd h1 (by omega))
end CLM
