/-! the foreigner: knows -/
def knN (g : Nat → Bool) : Nat → Nat
  | 0 => 0
  | n + 1 => if g n then knN g n ||| 2 ^ n else knN g n
theorem knN_lt {g : Nat → Bool} : ∀ n, knN g n < 2 ^ n := by
  intro n
  induction n with
  | zero => exact Nat.one_pos
  | succ n ih =>
    have h1 : knN g n < 2 ^ (n + 1) := by rw [Nat.pow_succ]; omega
    have h2 : 2 ^ n < 2 ^ (n + 1) := by rw [Nat.pow_succ]; have := Nat.pow_pos (n := n) (show 0 < 2 by omega); omega
    show (if g n then knN g n ||| 2 ^ n else knN g n) < _
    split
    · exact Nat.or_lt_two_pow h1 h2
    · exact h1
theorem knN_bit {g : Nat → Bool} {i : Nat} : ∀ {n : Nat}, (knN g n).testBit i = (decide (i < n) && g i) := by
  intro n
  induction n with
  | zero => simp [knN]
  | succ n ih =>
    show (if g n then knN g n ||| 2 ^ n else knN g n).testBit i = _
    by_cases e : i = n
    · subst e
      cases hg : g i
      · rw [if_neg (by simp), ih]; simp [hg]
      · rw [if_pos rfl, Nat.testBit_or, Nat.testBit_two_pow]; simp
    · have h3 : (i < n + 1) ↔ (i < n) := by omega
      cases hg : g n
      · rw [if_neg (by simp), ih]; simp [h3]
      · rw [if_pos rfl, Nat.testBit_or, Nat.testBit_two_pow, ih]; simp [h3, Ne.symm e]
theorem SC_wA {M : m_M} {A : IA} (h : ∀ a, ¬ scr a → A a = m_I M a) : SC M (m_wA M A) := by
  rw [w2_A]
  exact SC_w2 _ h (fun _ _ => rfl)
section KNOWS
variable {M : m_M} {s : St}
/-- whether a verb fits what is seen -/
def fitS (s : St) (v : Nat) : Bool := anN s.2.2.1.2.2.2.1 (fun i => cby s.2.1 (some v) (s.2.2.1.2.2.2.2 i).1 (s.2.2.1.2.2.2.2 i).2.1 == (s.2.2.1.2.2.2.2 i).2.2)
def kno (s : St) : Nat := knN (fitS s) (lH s.2.1 3)
theorem kno_lt (h : INV s M) : kno s < 64 := by
  have h1 := knN_lt (g := fitS s) (lH s.2.1 3)
  have h2 : 2 ^ lH s.2.1 3 ≤ 2 ^ 6 := Nat.pow_le_pow_right (by omega) h.lo.2.2.2.1
  exact Nat.lt_of_lt_of_le h1 h2
theorem bI_eq {a b : Bool} : (bI a = bI b) ↔ ((a == b) = true) := by cases a <;> cases b <;> simp [bI] <;> decide
theorem C_fits (h : INV s M) {v : Nat} (hv : v < lH s.2.1 3) : F_X11_fitsSeen 0 (nI v) M = some (bI (fitS s v), M) := by
  have hn := wN_le h.lo
  have hsn := h.bd.2.2
  have hv6 := h.lo.2.2.2.1
  have hI3 : m_I M 80 3 = nI s.2.2.1.2.2.2.1 := h.bc.2.2.2.1
  have R9b : m_R M 80 9 = some 84 := by simp only [gR h.1]
  have K84 : m_K M 84 = 12 := by simp only [gK h.1]
  have L84 : m_len M 84 = 20 := by simp only [gl h.1]
  unfold F_X11_fitsSeen
  refine up_0 (fun f k (_ : Unit) => F_X11_fitsSeen_2 f 0 (nI v) (nI k) M = some (bI (fitS s v), M)) s.2.2.1.2.2.2.1 (fun k (_ : Unit) => ∀ i, i < k → (cby s.2.1 (some v) (s.2.2.1.2.2.2.2 i).1 (s.2.2.1.2.2.2.2 i).2.1 == (s.2.2.1.2.2.2.2 i).2.2) = true) (by omega) (s := ()) (fun i hi => absurd hi (by omega)) ?_ ?_
  · intro f k _ hk hs ih
    obtain ⟨c1, c2⟩ := hsn.2 k hk
    obtain ⟨q400, n1, n2⟩ := ccOk_iff.mp c1
    have hsk : m_I M 84 k = nI (seC (s.2.2.1.2.2.2.2 k)) := h.bc.2.2.2.2 k hk
    generalize hx : s.2.2.1.2.2.2.2 k = x at *
    have hb : (if x.2.2 then 1 else 0) < 2 := by split <;> omega
    have hw1024 : x.2.1 < 1024 := by omega
    have hse : seC x < 2147483648 ∧ seC x / 2 / 1024 = x.1 ∧ seC x / 2 % 1024 = x.2.1 ∧ seC x % 2 = if x.2.2 then 1 else 0 := by
      unfold seC
      generalize (if x.2.2 then 1 else 0) = b at *
      refine ⟨?_, ?_, ?_, ?_⟩ <;> omega
    obtain ⟨s1, s2, s3, s4⟩ := hse
    have s5 : seC x / 2 < 2147483648 := by omega
    have e1 : F_X1_seenClause 80 (nI k) M = some (nI x.1, M) := by
      unfold F_X1_seenClause
      rw [x_gN_ok h.B80 R9b, x_aI_ok K84 (by rw [L84]; omega) (by omega), hsk, x_nz_eq, if_neg (by decide), x_nz_eq, if_neg (by decide), show nI (seC x) / (2 : Int32) = nI (seC x / 2) from i32_div (b := 2) s1 (by omega), show nI (seC x / 2) / (1024 : Int32) = nI (seC x / 2 / 1024) from i32_div (b := 1024) s5 (by omega), s2]
    have e2 : F_X1_seenWorld 80 (nI k) M = some (nI x.2.1, M) := by
      unfold F_X1_seenWorld
      rw [x_gN_ok h.B80 R9b, x_aI_ok K84 (by rw [L84]; omega) (by omega), hsk, x_nz_eq, if_neg (by decide), x_nz_eq, if_neg (by decide), show nI (seC x) / (2 : Int32) = nI (seC x / 2) from i32_div (b := 2) s1 (by omega), show nI (seC x / 2) - nI (seC x / 2) / (1024 : Int32) * (1024 : Int32) = nI (seC x / 2 % 1024) from i32_rem (b := 1024) s5 (by omega), s3]
    have e3 : F_X1_seenTrue 80 (nI k) M = some (bI x.2.2, M) := by
      unfold F_X1_seenTrue
      rw [x_gN_ok h.B80 R9b, x_aI_ok K84 (by rw [L84]; omega) (by omega), hsk, x_nz_eq, if_neg (by decide), show nI (seC x) - nI (seC x) / (2 : Int32) * (2 : Int32) = nI (seC x % 2) from i32_rem (b := 2) s1 (by omega), s4]
      cases x.2.2 <;> rfl
    have e4 : F_X3_clauseHolds 2 (nI x.1) (nI v) (nI x.2.1) M = some (bI (cby s.2.1 (some v) x.1 x.2.1), M) := S_clauseHoldsC (v := some v) h.1 h.lc h.lo (fun k hk => by rw [← Option.some.inj hk]; exact hv) q400 n1 n2 (by omega)
    rw [F_X11_fitsSeen_2, x_gN_ok h.C0 h.R9, x_gI_ok h.B80, hI3, if_neg (nI_ge hk (by omega)), x_gN_ok h.C0 h.R2, x_gN_ok h.C0 h.R9, x_cV_ok h.B80 e1, x_gN_ok h.C0 h.R9, x_cV_ok h.B80 e2, x_cV_ok h.C2 e4, x_gN_ok h.C0 h.R9, x_cV_ok h.B80 e3]
    by_cases q : bI (cby s.2.1 (some v) x.1 x.2.1) = bI x.2.2
    · rw [if_pos q, m_let_eq, nI_1]
      exact ih () (fun i hi => if e : i = k then by rw [e, hx]; exact bI_eq.mp q else hs i (by omega))
    · rw [if_neg q]
      have : fitS s v = false := by
        cases hq : fitS s v
        · rfl
        · exfalso
          have h2 := anN_all.mp hq k hk
          rw [hx] at h2
          exact q (bI_eq.mpr h2)
      rw [this]; rfl
  · intro f _ hs
    rw [F_X11_fitsSeen_2, x_gN_ok h.C0 h.R9, x_gI_ok h.B80, hI3, if_pos (nI_le (Nat.le_refl _) (by omega)), show fitS s v = true from anN_all.mpr hs]
    rfl
theorem C_knows (h : INV s M) : F_X11_knows 0 M = some (nI (kno s), M) := by
  have hv6 := h.lo.2.2.2.1
  have R6 : m_R M 2 6 = some 3 := by simp only [gR h.1]
  have X3 : ∀ g : Int32 → Option (Int32 × m_M), x_aI 12 M 3 (2 : Int32) g = g (nI (lH s.2.1 3)) := fun g => by
    rw [aI_lit (x := (2 : Int32)) (n := 2) (by simp only [gK h.1]) (by rw [show m_len M 3 = 4 from by simp only [gl h.1]]; omega) rfl (by omega), h.lc.2.1.2.2.1]
  unfold F_X11_knows
  refine up_0 (fun f k c => F_X11_knows_4 f 0 c (nI k) M = some (nI (kno s), M)) (lH s.2.1 3) (fun k c => c = nI (knN (fitS s) k)) (by omega) rfl ?_ ?_
  · intro f k c hk hc ih
    rw [F_X11_knows_4, x_gN_ok h.C0 h.R2, x_gN_ok h.C2 R6, X3, if_neg (nI_ge hk (by omega)), m_let_eq, x_cV_ok h.C0 (C_fits h hk)]
    cases hf : fitS s k
    · rw [if_pos (show bI false = (0 : Int32) from rfl)]
      dsimp only
      rw [m_let_eq, nI_1]
      exact ih c (by rw [hc]; show _ = nI (if fitS s k then _ else _); rw [hf]; rfl)
    · rw [if_neg (show ¬ bI true = (0 : Int32) from by decide), m_let_eq]
      dsimp only
      rw [m_let_eq, nI_1]
      refine ih _ ?_
      show _ = nI (if fitS s k then _ else _)
      rw [hf, if_pos rfl, hc, shl1 (by omega), nI_or]
  · intro f c hc
    rw [F_X11_knows_4, x_gN_ok h.C0 h.R2, x_gN_ok h.C2 R6, X3, if_pos (nI_le (Nat.le_refl _) (by omega)), hc]
    rfl
theorem M_knows_in (h : INV s M) {v : Nat} (hv : v < lH s.2.1 3) {x : Int32} {K : Nat → Int32 → Int32 → Int32 → m_M → Option (Int32 × m_M)} : ∀ (d k f : Nat) (b : Bool) (A : IA), k + d = s.2.2.1.2.2.2.1 → d < f → (∀ a, ¬ scr a → A a = m_I M a) → b = anN k (fun i => cby s.2.1 (some v) (s.2.2.1.2.2.2.2 i).1 (s.2.2.1.2.2.2.2 i).2.1 == (s.2.2.1.2.2.2.2 i).2.2) →
    ∃ A', F_X12_knowsNow_19 K f 128 x (nI v) (bI b) (nI k) (m_wA M A) = K 128 x (nI v) (bI (fitS s v)) (m_wA M A') ∧ ∀ a, ¬ scr a → A' a = m_I M a := by
  have hn := wN_le h.lo
  have hsn := h.bd.2.2
  have K0 : ∀ A, m_K (m_wA M A) 128 = 10 := fun A => by rw [wA_K]; exact h.K0
  have R59 : ∀ A, m_R (m_wA M A) 128 59 = some 167 := fun A => by simp only [wA_R, gR h.1]
  have R57 : ∀ A, m_R (m_wA M A) 128 57 = some 165 := fun A => by simp only [wA_R, gR h.1]
  have R56 : ∀ A, m_R (m_wA M A) 128 56 = some 164 := fun A => by simp only [wA_R, gR h.1]
  have R58 : ∀ A, m_R (m_wA M A) 128 58 = some 166 := fun A => by simp only [wA_R, gR h.1]
  have X167 : ∀ A, (∀ a, ¬ scr a → A a = m_I M a) → ∀ g : Int32 → Option (Int32 × m_M), x_aI 12 (m_wA M A) 167 (0 : Int32) g = g (nI s.2.2.1.2.2.2.1) := fun A hA g => by
    rw [aI_lit (x := (0 : Int32)) (n := 0) (by simp only [wA_K, gK h.1]) (by rw [show m_len (m_wA M A) 167 = 5 from by simp only [wA_n, gl h.1]]; omega) rfl (by omega), wA_I, hA 167 (by unfold scr; omega), h.bm.2.2.1]
  intro d
  induction d with
  | zero =>
    intro k f b A hd hf hA hb
    obtain ⟨f, rfl⟩ : ∃ f', f = f' + 1 := ⟨f - 1, by omega⟩
    refine ⟨A, ?_, hA⟩
    rw [F_X12_knowsNow_19, x_gN_ok (K0 _) (R59 _), X167 A hA, if_pos (nI_le (by omega) (by omega)), hb, show k = s.2.2.1.2.2.2.1 by omega]
    rfl
  | succ d ih =>
    intro k f b A hd hf hA hb
    obtain ⟨f, rfl⟩ : ∃ f', f = f' + 1 := ⟨f - 1, by omega⟩
    have hk : k < s.2.2.1.2.2.2.1 := by omega
    obtain ⟨c1, c2⟩ := hsn.2 k hk
    obtain ⟨q1, q2, q3⟩ := h.bm.2.2.2 k hk
    rw [show 20 * 0 + k = k by omega] at q1 q2 q3
    have hl : LMi s.2.1 A := h.lm.fr hA
    have hbs : ∀ b', b' = (b && (cby s.2.1 (some v) (s.2.2.1.2.2.2.2 k).1 (s.2.2.1.2.2.2.2 k).2.1 == (s.2.2.1.2.2.2.2 k).2.2)) → b' = anN (k + 1) (fun i => cby s.2.1 (some v) (s.2.2.1.2.2.2.2 i).1 (s.2.2.1.2.2.2.2 i).2.1 == (s.2.2.1.2.2.2.2 i).2.2) := by
      intro b' hb'
      rw [hb', hb]; rfl
    obtain ⟨A1, s1, s2, s3⟩ := S_shows (M := M) (A := A) h.1 hl h.lo (w := (s.2.2.1.2.2.2.2 k).2.1) (by omega)
    have hA1 : ∀ a, ¬ scr a → A1 a = m_I M a := fun a ha => by rw [s2 a (by unfold scr at ha; omega)]; exact hA a ha
    have hl1 : LMi s.2.1 A1 := h.lm.fr hA1
    rw [F_X12_knowsNow_19, x_gN_ok (K0 _) (R59 _), X167 A hA, if_neg (nI_ge hk (by omega))]
    refine m_let_P (fun o => ∃ A', o = K 128 x (nI v) (bI (fitS s v)) (m_wA M A') ∧ ∀ a, ¬ scr a → A' a = m_I M a) ?_
    intro k72 h72
    have h72' : ∀ (b' : Bool) (A2 : IA), (∀ a, ¬ scr a → A2 a = m_I M a) → b' = (b && (cby s.2.1 (some v) (s.2.2.1.2.2.2.2 k).1 (s.2.2.1.2.2.2.2 k).2.1 == (s.2.2.1.2.2.2.2 k).2.2)) → ∃ A', k72 128 x (nI v) (nI k) (bI b') (m_wA M A2) = K 128 x (nI v) (bI (fitS s v)) (m_wA M A') ∧ ∀ a, ¬ scr a → A' a = m_I M a := by
      intro b' A2 hA2 hb'
      rw [h72]
      dsimp only
      rw [m_let_eq, nI_1]
      exact ih (k + 1) f b' A2 (by omega) (by omega) hA2 (hbs b' hb')
    rw [m_let_eq, x_gN_ok (K0 _) (R57 _), x_aI_ok (by simp only [wA_K, gK h.1]) (by rw [show m_len (m_wA M A) 165 = 100 from by simp only [wA_n, gl h.1]]; omega) (by omega), wA_I, hA 165 (by unfold scr; omega), q2, x_cV_ok (K0 _) s1]
    cases b
    · rw [if_pos (show bI false = (0 : Int32) from rfl)]
      exact h72' false A1 hA1 (by simp)
    · obtain ⟨A2, t1, t2⟩ := S_clauseHoldsM (M := M) (A := A1) (v := some v) h.1 hl1 h.lo (fun k hk => by rw [← Option.some.inj hk]; exact hv) c1 s3
      have hA2 : ∀ a, ¬ scr a → A2 a = m_I M a := fun a ha => by rw [t2 a (by unfold scr at ha; omega)]; exact hA1 a ha
      have t1' : F_X12_clauseHolds 128 (nI (s.2.2.1.2.2.2.2 k).1) (nI v) (m_wA M A1) = some (bI (cby s.2.1 (some v) (s.2.2.1.2.2.2.2 k).1 (s.2.2.1.2.2.2.2 k).2.1), m_wA M A2) := t1
      rw [if_neg (show ¬ bI true = (0 : Int32) from by decide), x_gN_ok (K0 _) (R56 _), x_aI_ok (by simp only [wA_K, gK h.1]) (by rw [show m_len (m_wA M A1) 164 = 100 from by simp only [wA_n, gl h.1]]; omega) (by omega), wA_I, hA1 164 (by unfold scr; omega), q1, x_cV_ok (K0 _) t1', x_gN_ok (K0 _) (R58 _), x_aI_ok (by simp only [wA_K, gK h.1]) (by rw [show m_len (m_wA M A2) 166 = 100 from by simp only [wA_n, gl h.1]]; omega) (by omega), wA_I, hA2 166 (by unfold scr; omega), q3]
      by_cases q : bI (cby s.2.1 (some v) (s.2.2.1.2.2.2.2 k).1 (s.2.2.1.2.2.2.2 k).2.1) = bI (s.2.2.1.2.2.2.2 k).2.2
      · rw [if_pos q]
        exact h72' true A2 hA2 (by rw [bI_eq.mp q]; rfl)
      · rw [if_neg q]
        refine h72' false A2 hA2 ?_
        cases hz : (cby s.2.1 (some v) (s.2.2.1.2.2.2.2 k).1 (s.2.2.1.2.2.2.2 k).2.1 == (s.2.2.1.2.2.2.2 k).2.2)
        · rfl
        · exact absurd (bI_eq.mpr hz) q
theorem M_knows (h : INV s M) : ∃ A, F_X12_knowsNow 128 M = some (nI (kno s), m_wA M A) ∧ ∀ a, ¬ scr a → A a = m_I M a := by
  have hv6 := h.lo.2.2.2.1
  have K0 : ∀ A, m_K (m_wA M A) 128 = 10 := fun A => by rw [wA_K]; exact h.K0
  have R10 : ∀ A, m_R (m_wA M A) 128 10 = some 130 := fun A => by simp only [wA_R, gR h.1]
  have X130 : ∀ A, (∀ a, ¬ scr a → A a = m_I M a) → ∀ g : Int32 → Option (Int32 × m_M), x_aI 12 (m_wA M A) 130 (3 : Int32) g = g (nI (lH s.2.1 3)) := fun A hA g => by
    rw [aI_lit (x := (3 : Int32)) (n := 3) (by simp only [wA_K, gK h.1]) (by rw [show m_len (m_wA M A) 130 = 16 from by simp only [wA_n, gl h.1]]; omega) rfl (by omega), wA_I, hA 130 (by unfold scr; omega), h.lm.1 3 (by omega)]
  unfold F_X12_knowsNow
  have key := up_l (S := Int32 × IA) (fun f k c => ∃ A, F_X12_knowsNow_4 f 128 c.1 (nI k) (m_wA M c.2) = some (nI (kno s), m_wA M A) ∧ ∀ a, ¬ scr a → A a = m_I M a) (lH s.2.1 3) (fun k c => c.1 = nI (knN (fitS s) k) ∧ ∀ a, ¬ scr a → c.2 a = m_I M a) ?_ ?_ (lH s.2.1 3) 0 m_FU ((0 : Int32), m_I M) (by omega) (m_FU_lt (by omega)) ⟨rfl, fun _ _ => rfl⟩
  · exact key
  · rintro f k ⟨c, A⟩ hk ⟨hc, hA⟩ ih
    dsimp only at hc hA ⊢
    rw [F_X12_knowsNow_4, x_gN_ok (K0 _) (R10 _), X130 A hA, if_neg (nI_ge hk (by omega))]
    refine m_let_P (fun o => ∃ A, o = some (nI (kno s), m_wA M A) ∧ ∀ a, ¬ scr a → A a = m_I M a) ?_
    intro k79 h79
    obtain ⟨A1, e, e1⟩ := M_knows_in h hk (x := c) (K := k79) s.2.2.1.2.2.2.1 0 m_FU true A (by omega) (m_FU_lt (by have := h.bd.2.2.1; omega)) hA rfl
    have e' : F_X12_knowsNow_19 k79 m_FU 128 c (nI k) (1 : Int32) (0 : Int32) (m_wA M A) = k79 128 c (nI k) (bI (fitS s k)) (m_wA M A1) := e
    rw [e', h79]
    dsimp only
    rw [m_let_eq]
    cases hf : fitS s k
    · rw [if_pos (show bI false = (0 : Int32) from rfl)]
      dsimp only
      rw [m_let_eq, m_let_eq, nI_1]
      refine ih (c ||| 0, A1) ⟨?_, e1⟩
      dsimp only
      rw [hc]
      show nI _ ||| nI 0 = nI (if fitS s k then _ else _)
      rw [hf, nI_or, Nat.or_zero]; rfl
    · rw [if_neg (show ¬ bI true = (0 : Int32) from by decide)]
      dsimp only
      rw [m_let_eq, m_let_eq, nI_1]
      refine ih (c ||| (1 : Int32) <<< (nI k &&& 31), A1) ⟨?_, e1⟩
      dsimp only
      show _ = nI (if fitS s k then _ else _)
      rw [hf, if_pos rfl, hc, shl1 (by omega), nI_or]
  · rintro f ⟨c, A⟩ ⟨hc, hA⟩
    dsimp only at hc hA ⊢
    refine ⟨A, ?_, hA⟩
    rw [F_X12_knowsNow_4, x_gN_ok (K0 _) (R10 _), X130 A hA, if_pos (nI_le (Nat.le_refl _) (by omega)), hc]
    rfl
theorem O_knows : RO s (F_X11_knows 0) (F_X12_knows 128) := by
  refine ⟨nI (kno s), fun M h => ⟨⟨M, C_knows h, SC.rfl' M⟩, ?_⟩⟩
  have h1 := h.thr 0
  obtain ⟨A, e, e1⟩ := M_knows h1
  refine ⟨_, ?_, (SC_thr M 0).trans (SC_wA e1)⟩
  unfold F_X12_knows
  rw [x_pI_ok h.K0, x_cV_ok h1.K0 e]
end KNOWS
