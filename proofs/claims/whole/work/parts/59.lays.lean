/-! the model lays out rows -/
def upB (B : Nat → Nat → Int64) (a k : Nat) (v : Int64) : Nat → Nat → Int64 := m_up B a k v
theorem upB_at (B : Nat → Nat → Int64) (a k : Nat) (v : Int64) (b j : Nat) : upB B a k v b j = if b = a ∧ j = k then v else B b j := Eq.trans rfl rfl
theorem upB_fr {B : Nat → Nat → Int64} {a b k : Nat} {v : Int64} (h : a ≠ b) : upB B b k v a = B a := by
  funext j
  rw [upB_at, if_neg (by omega)]
def m_w2 (M : m_M) (A : IA) (B : Nat → Nat → Int64) : m_M := m_wA (m_wB M B) A
section W2
variable {M : m_M} {A : IA} {B : Nat → Nat → Int64}
theorem w2_I : m_I (m_w2 M A B) = A := Eq.trans rfl rfl
theorem w2_L : m_L (m_w2 M A B) = B := Eq.trans rfl rfl
theorem w2_R : m_R (m_w2 M A B) = m_R M := Eq.trans rfl rfl
theorem w2_K : m_K (m_w2 M A B) = m_K M := Eq.trans rfl rfl
theorem w2_n : m_len (m_w2 M A B) = m_len M := Eq.trans rfl rfl
theorem w2_N : m_N (m_w2 M A B) = m_N M := Eq.trans rfl rfl
theorem w2_G : G (m_w2 M A B) = G M := Eq.trans rfl rfl
theorem w2_sI {a k : Nat} {v : Int32} : m_sI (m_w2 M A B) a k v = m_w2 M (m_up A a k v) B := Eq.trans rfl rfl
theorem w2_sL {a k : Nat} {v : Int64} : m_sL (m_w2 M A B) a k v = m_w2 M A (upB B a k v) := Eq.trans rfl rfl
theorem w2_0 : m_w2 M (m_I M) (m_L M) = M := Eq.trans rfl rfl
theorem w2_A : m_wA M A = m_w2 M A (m_L M) := Eq.trans rfl rfl
theorem w2_A2 {A' : IA} : m_wA (m_w2 M A B) A' = m_w2 M A' B := Eq.trans rfl rfl
end W2
/-- the ints that the model's working out touches: laws at work, facts, where things are, the stack -/
def scr (a : Nat) : Prop := (143 ≤ a ∧ a ≤ 152) ∨ a = 154 ∨ a = 155
section LAYS
variable {M : m_M} {l : Ld}
theorem LMi.fr {A A' : IA} (hl : LMi l A) (h : ∀ a, ¬ scr a → A' a = A a) : LMi l A' := hl.sc (fun a ha => h a (by unfold scr; omega))
theorem S_lays0 {A : IA} {row at0 len : Nat} (K : m_K M row = 13) (hL : m_len M row = len) (hlen : at0 + 16 ≤ len) (hl2 : len < 20000) {v : Int32} {C : Nat → Int32 → Nat → Int32 → m_M → Option (Unit × m_M)} : ∀ (d k f : Nat) (B : Nat → Nat → Int64), k + d = 16 → d < f →
    ∃ B', F_X12_laysMeant_3 C f 128 v row (nI at0) (nI k) (m_w2 M A B) = C 128 v row (nI at0) (m_w2 M A B') ∧ (∀ b, b ≠ row → B' b = B b) ∧ (∀ j, j < at0 + k ∨ at0 + 16 ≤ j → B' row j = B row j) ∧ ∀ j, at0 + k ≤ j → j < at0 + 16 → B' row j = 0 := by
  intro d
  induction d with
  | zero =>
    intro k f B hk hf
    obtain ⟨f, rfl⟩ : ∃ f', f = f' + 1 := ⟨f - 1, by omega⟩
    refine ⟨B, ?_, fun _ _ => rfl, fun _ _ => rfl, fun j h1 h2 => absurd h1 (by omega)⟩
    rw [F_X12_laysMeant_3, if_pos (show (16 : Int32) ≤ nI k from nI_le (a := 16) (by omega) (by omega))]
  | succ d ih =>
    intro k f B hk hf
    obtain ⟨f, rfl⟩ : ∃ f', f = f' + 1 := ⟨f - 1, by omega⟩
    obtain ⟨B', e, e1, e2, e3⟩ := ih (k + 1) f (upB B row (at0 + k) 0) (by omega) (by omega)
    refine ⟨B', ?_, fun b hb => by rw [e1 b hb, upB_fr hb], fun j hj => by rw [e2 j (by omega), upB_at, if_neg (by omega)], fun j h1 h2 => ?_⟩
    · rw [F_X12_laysMeant_3, if_neg (show ¬ (16 : Int32) ≤ nI k from nI_ge (b := 16) (by omega) (by omega)), nI_add, x_sL_ok (by rw [w2_K]; exact K) (by rw [w2_n, hL]; omega) (by omega), w2_sL, m_let_eq, nI_1, e]
    · by_cases q : j = at0 + k
      · rw [e2 j (by omega), upB_at, if_pos ⟨rfl, q⟩]
      · exact e3 j (by omega) h2
/-- a bit of a row is set, or not -/
theorem row_set {n m at0 row : Nat} {P : Nat → Bool} {B : Nat → Nat → Int64} (h : Rw m P (fun k => B row (at0 + k))) (hm : m < n) (hn : n ≤ 1024) : Rw (m + 1) P (fun k => (if P m = true then upB B row (at0 + m / 64) (B row (at0 + m / 64) ||| ((1 : Int64) <<< ((nI (m % 64)).toInt64 &&& 63))) else B) row (at0 + k)) := by
  have h2 := h.set hm hn (P m)
  have e : (fun w => if w = m then P m else P w) = P := by
    funext w
    by_cases q : w = m
    · rw [if_pos q, q]
    · rw [if_neg q]
  rw [e] at h2
  refine h2.of (fun k hk => ?_)
  by_cases hb : P m = true
  · rw [if_pos hb, upB_at]
    by_cases q : k = m / 64
    · rw [if_pos ⟨rfl, by omega⟩, if_pos ⟨q, hb⟩, q]
    · rw [if_neg (by omega), if_neg (fun z => q z.1)]
  · rw [if_neg hb, if_neg (fun z => hb z.2)]
theorem S_laysMeant (h : G M) (ho : lOk l) {A : IA} {B : Nat → Nat → Int64} {m row at0 len : Nat} {p : Nat → Nat} {v : Option Nat} (hv : vIn l v) (hm : m ≤ 1000) (hl : LMi l A) (hu : A 128 39 = nI m) (hp : ∀ i, i < m → A 153 i = nI (p i)) (hok : fRok l p m 0 0) (K : m_K M row = 13) (hL : m_len M row = len) (hlen : at0 + 16 ≤ len) (hl2 : len < 20000) :
    ∃ A' B', F_X12_laysMeant 128 (iO v) row (nI at0) (m_w2 M A B) = some ((), m_w2 M A' B') ∧ (∀ a, ¬ scr a → A' a = A a) ∧ (∀ b, b ≠ row → B' b = B b) ∧ (∀ j, j < at0 ∨ at0 + 16 ≤ j → B' row j = B row j) ∧ Rw (wN l) (fMn l v p m) (fun k => B' row (at0 + k)) := by
  have hn := wN_le ho
  unfold F_X12_laysMeant
  refine m_let_P (fun o => ∃ A' B', o = some ((), m_w2 M A' B') ∧ (∀ a, ¬ scr a → A' a = A a) ∧ (∀ b, b ≠ row → B' b = B b) ∧ (∀ j, j < at0 ∨ at0 + 16 ≤ j → B' row j = B row j) ∧ Rw (wN l) (fMn l v p m) (fun k => B' row (at0 + k))) ?_
  intro C hC
  obtain ⟨B0, e, e1, e2, e3⟩ := S_lays0 (A := A) (v := iO v) K hL hlen hl2 (C := C) 16 0 m_FU B (by omega) (m_FU_lt (by omega))
  have e' : F_X12_laysMeant_3 C m_FU 128 (iO v) row (nI at0) (0 : Int32) (m_w2 M A B) = C 128 (iO v) row (nI at0) (m_w2 M A B0) := e
  rw [e', hC]
  have hz : Rw 0 (fMn l v p m) (fun k => B0 row (at0 + k)) := (Rw.up0 _).of (fun k hk => e3 _ (by omega) (by omega))
  have key := up_l (S := IA × (Nat → Nat → Int64)) (fun n k s => ∃ A' B', F_X12_laysMeant_26 n 128 (iO v) row (nI at0) (nI k) (m_w2 M s.1 s.2) = some ((), m_w2 M A' B') ∧ (∀ a, ¬ scr a → A' a = A a) ∧ (∀ b, b ≠ row → B' b = B b) ∧ (∀ j, j < at0 ∨ at0 + 16 ≤ j → B' row j = B row j) ∧ Rw (wN l) (fMn l v p m) (fun k => B' row (at0 + k))) (wN l)
    (fun k s => (∀ a, ¬ scr a → s.1 a = A a) ∧ (∀ b, b ≠ row → s.2 b = B b) ∧ (∀ j, j < at0 ∨ at0 + 16 ≤ j → s.2 row j = B row j) ∧ Rw k (fMn l v p m) (fun k => s.2 row (at0 + k))) ?_ ?_ (wN l) 0 m_FU (A, B0) (by omega) (m_FU_lt (by omega)) ⟨fun _ _ => rfl, e1, fun j hj => e2 j (by omega), hz⟩
  · exact key
  · rintro n k ⟨A1, B1⟩ hk ⟨i1, i2, i3, i4⟩ ih
    dsimp only at i1 i2 i3 i4 ⊢
    have hl1 : LMi l A1 := hl.fr i1
    have hG1 : G (m_wB M B1) := h
    obtain ⟨A2, s1, s2, s3⟩ := S_shows (M := m_wB M B1) hG1 hl1 ho (w := k) (by omega)
    have hl2' : LMi l A2 := hl1.fr (fun a ha => s2 a (by unfold scr at ha; omega))
    obtain ⟨A3, t1, t2⟩ := S_means (M := m_wB M B1) hG1 ho hv hm hl2' s3 (by rw [s2 128 (by omega), i1 128 (by unfold scr; omega)]; exact hu) (fun i hi => by rw [s2 153 (by omega), i1 153 (by unfold scr; omega)]; exact hp i hi) hok
    have f3 : ∀ a, ¬ scr a → A3 a = A a := fun a ha => by
      unfold scr at ha
      rw [t2 a (by omega) (by omega), s2 a (by omega)]
      exact i1 a (by unfold scr; omega)
    have K0 : ∀ A B, m_K (m_w2 M A B) 128 = 10 := fun A B => by simp only [w2_K, gK h]
    have I42 : A1 128 42 = nI (wN l) := hl1.2.2.2.2.2.1
    rw [F_X12_laysMeant_26, x_gI_ok (K0 _ _), w2_I, I42, if_neg (nI_ge hk (by omega))]
    refine m_let_P (fun o => ∃ A' B', o = some ((), m_w2 M A' B') ∧ (∀ a, ¬ scr a → A' a = A a) ∧ (∀ b, b ≠ row → B' b = B b) ∧ (∀ j, j < at0 ∨ at0 + 16 ≤ j → B' row j = B row j) ∧ Rw (wN l) (fMn l v p m) (fun k => B' row (at0 + k))) ?_
    intro k68 h68
    have s1' : F_X12_shows 128 (nI k) (m_w2 M A1 B1) = some ((), m_w2 M A2 B1) := s1
    have t1' : F_X12_means 128 (iO v) (m_w2 M A2 B1) = some (bI (fMn l v p m k), m_w2 M A3 B1) := t1
    rw [x_cV_ok (K0 A1 B1) s1', x_cV_ok (K0 A2 B1) t1']
    have hr := row_set (at0 := at0) (row := row) i4 hk hn
    have h68' : ∀ B, k68 128 (iO v) row (nI at0) (nI k) (m_w2 M A3 B) = F_X12_laysMeant_26 n 128 (iO v) row (nI at0) (nI (k + 1)) (m_w2 M A3 B) := fun B => by
      rw [h68]
      dsimp only
      rw [m_let_eq, nI_1]
    cases hb : fMn l v p m k
    · rw [if_pos (show bI false = (0 : Int32) from rfl), h68']
      rw [hb, if_neg (by decide)] at hr
      exact ih (A3, B1) ⟨f3, i2, i3, hr⟩
    · rw [hb, if_pos rfl] at hr
      have e64 : nI k - nI (k / 64) * (64 : Int32) = nI (k % 64) := by rw [show (64 : Int32) = nI 64 from rfl, nI_mul, i32_rem2]
      rw [if_neg (show ¬ bI true = (0 : Int32) from by decide), x_nz_eq, if_neg (by decide), show nI k / (64 : Int32) = nI (k / 64) from i32_div (b := 64) (by omega) (by omega), nI_add, x_aL_ok (by rw [w2_K]; exact K) (by rw [w2_n, hL]; omega) (by omega), w2_L, x_nz_eq, if_neg (by decide), x_sL_ok (by rw [w2_K]; exact K) (by rw [w2_n, hL]; omega) (by omega), w2_sL, h68', e64]
      exact ih (A3, upB B1 row (at0 + k / 64) (B1 row (at0 + k / 64) ||| ((1 : Int64) <<< ((nI (k % 64)).toInt64 &&& 63)))) ⟨f3, fun b hb2 => by dsimp only; rw [upB_fr hb2]; exact i2 b hb2, fun j hj => by dsimp only; rw [upB_at, if_neg (by omega)]; exact i3 j hj, hr⟩
  · rintro n ⟨A1, B1⟩ ⟨i1, i2, i3, i4⟩
    dsimp only at i1 i2 i3 i4 ⊢
    have hl1 : LMi l A1 := hl.fr i1
    have I42 : A1 128 42 = nI (wN l) := hl1.2.2.2.2.2.1
    refine ⟨A1, B1, ?_, i1, i2, i3, i4⟩
    rw [F_X12_laysMeant_26, x_gI_ok (by simp only [w2_K, gK h]), w2_I, I42, if_pos (nI_le (Nat.le_refl _) (by omega))]
end LAYS
