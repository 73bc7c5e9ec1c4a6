/-! a year: both sides -/
section YEAR
variable {M M' : m_M} {l : Ld} {t : Tl} {s : St}
theorem yrS_some {day k v g : Nat} {y : Nat × ((Nat → Bool) × (Nat × Nat))} (hv : yrV l (day + k) y.1 = (some v, g)) {g' : Nat} {L' : Nat → Bool} {c : Nat} (hc : yrC l v g y.2.1 = (g', L', c)) : yrS l t day k y = (g', yrO l t (day + k + 1) t.2.1 L', y.2.2.1 + c, y.2.2.2) := by
  unfold yrS
  rw [hv]
  dsimp only
  rw [hc]
theorem S_yr88 (h : INV s M) (h3 : 0 < lH s.2.1 3) (h1 : 0 < lH s.2.1 1) {days : Nat} (hdays : days ≤ 60) {wh : Int32} {K : Nat → Int32 → Int32 → Int32 → m_M → Option (Int32 × m_M)} : ∀ (e k f : Nat) (B : Nat → Nat → Int64) (y : Nat × ((Nat → Bool) × (Nat × Nat))), k + e = days → e < f → y.1 < 2147483648 → B 0 15 = lI y.1 → Rw (wN s.2.1) y.2.1 (B 91) → (∀ b, b ≠ 0 → b ≠ 91 → b ≠ 93 → B b = m_L M b) →
    ∃ B', F_X11_year_88 K f 0 (nI days) wh (nI y.2.2.1) (nI y.2.2.2) (nI k) (m_wB M B) = K 0 wh (nI (fF (yrS s.2.1 s.2.2.1.2.1 s.2.2.1.1) e k y).2.2.1) (nI (fF (yrS s.2.1 s.2.2.1.2.1 s.2.2.1.1) e k y).2.2.2) (m_wB M B') ∧ Rw (wN s.2.1) (fF (yrS s.2.1 s.2.2.1.2.1 s.2.2.1.1) e k y).2.1 (B' 91) ∧ (∀ b, b ≠ 0 → b ≠ 91 → b ≠ 93 → B' b = m_L M b) := by
  have hday := h.bd.1
  have hd := h.bd.2.1
  have ht : TlC s.2.1 s.2.2.1.2.1 80 M := h.bc.2.1
  have hb := ht.1.2
  have K0 : ∀ B, m_K (m_wB M B) 0 = 9 := fun B => by simp only [wB_K, gK h.1]
  have R9 : ∀ B, m_R (m_wB M B) 0 9 = some 80 := fun B => by simp only [wB_R, gR h.1]
  have R12 : ∀ B, m_R (m_wB M B) 0 12 = some 90 := fun B => by simp only [wB_R, gR h.1]
  have K80 : ∀ B, m_K (m_wB M B) 80 = 1 := fun B => by simp only [wB_K, gK h.1]
  have I0 : m_I M 80 0 = nI s.2.2.1.1 := h.bc.1
  intro e
  induction e with
  | zero =>
    intro k f B y hk hf _ _ hL hfr
    obtain ⟨f, rfl⟩ : ∃ f', f = f' + 1 := ⟨f - 1, by omega⟩
    obtain rfl : k = days := by omega
    refine ⟨B, ?_, hL, hfr⟩
    rw [F_X11_year_88, if_pos (nI_le (Nat.le_refl _) (by omega))]
    rfl
  | succ e ih =>
    intro k f B y hk hf hg hB hL hfr
    obtain ⟨f, rfl⟩ : ∃ f', f = f' + 1 := ⟨f - 1, by omega⟩
    rw [F_X11_year_88, if_neg (nI_ge (by omega) (by omega))]
    refine m_let_P (fun o => ∃ B', o = K 0 wh (nI (fF (yrS s.2.1 s.2.2.1.2.1 s.2.2.1.1) (e + 1) k y).2.2.1) (nI (fF (yrS s.2.1 s.2.2.1.2.1 s.2.2.1.1) (e + 1) k y).2.2.2) (m_wB M B') ∧ Rw (wN s.2.1) (fF (yrS s.2.1 s.2.2.1.2.1 s.2.2.1.1) (e + 1) k y).2.1 (B' 91) ∧ (∀ b, b ≠ 0 → b ≠ 91 → b ≠ 93 → B' b = m_L M b)) ?_
    intro K1 hK1
    have nxt : ∀ (B1 : Nat → Nat → Int64) (g : Nat) (L1 : Nat → Bool) (a b : Nat), yrS s.2.1 s.2.2.1.2.1 s.2.2.1.1 k y = (g, yrO s.2.1 s.2.2.1.2.1 (s.2.2.1.1 + k + 1) s.2.2.1.2.1.2.1 L1, a, b) → g < 2147483648 → B1 0 15 = lI g → Rw (wN s.2.1) L1 (B1 91) → (∀ b, b ≠ 0 → b ≠ 91 → b ≠ 93 → B1 b = m_L M b) → ∃ B', K1 0 (nI days) wh (nI a) (nI b) (nI k) (m_wB M B1) = K 0 wh (nI (fF (yrS s.2.1 s.2.2.1.2.1 s.2.2.1.1) (e + 1) k y).2.2.1) (nI (fF (yrS s.2.1 s.2.2.1.2.1 s.2.2.1.1) (e + 1) k y).2.2.2) (m_wB M B') ∧ Rw (wN s.2.1) (fF (yrS s.2.1 s.2.2.1.2.1 s.2.2.1.1) (e + 1) k y).2.1 (B' 91) ∧ (∀ b, b ≠ 0 → b ≠ 91 → b ≠ 93 → B' b = m_L M b) := by
      intro B1 g L1 a b hy hg1 hB1 hL1 hfr1
      obtain ⟨B2, u, u1, u2⟩ := S_keepOrders (M := M) h.1 h.lo (dawn := s.2.2.1.1 + k + 1) (by omega) hd ht (L := L1) s.2.2.1.2.1.2.1 0 m_FU B1 (by omega) (m_FU_lt (by omega)) (fun b hb => hfr1 b (by omega) (by omega) (by omega)) (hL1.cong (fun w _ => by show _ = (L1 w && true); rw [Bool.and_true]))
      have u' : F_X1_keepOrdersOf 80 (nI (s.2.2.1.1 + k + 1)) 90 (m_wB M B1) = some ((), m_wB M B2) := u
      obtain ⟨B', w, w1, w2⟩ := ih (k + 1) f B2 (g, yrO s.2.1 s.2.2.1.2.1 (s.2.2.1.1 + k + 1) s.2.2.1.2.1.2.1 L1, a, b) (by omega) (by omega) hg1 (by rw [u1 0 (by omega)]; exact hB1) u2 (fun b x y z => by rw [u1 b y, hfr1 b x y z])
      have hF : fF (yrS s.2.1 s.2.2.1.2.1 s.2.2.1.1) (e + 1) k y = fF (yrS s.2.1 s.2.2.1.2.1 s.2.2.1.1) e (k + 1) (g, yrO s.2.1 s.2.2.1.2.1 (s.2.2.1.1 + k + 1) s.2.2.1.2.1.2.1 L1, a, b) := by rw [← hy]; rfl
      rw [hF, hK1]
      dsimp only
      rw [x_gN_ok (K0 _) (R9 _), x_gN_ok (K0 _) (R9 _), x_gI_ok (K80 _), wB_I, I0, x_gN_ok (K0 _) (R12 _), nI_add, nI_1, x_cV_ok (K80 _) u', m_let_eq, nI_1]
      exact ⟨B', w, w1, w2⟩
    obtain ⟨B1, g0, g1, g2⟩ := S_drawVerb h.1 h.lc h.lo h3 (B := B) (d := s.2.2.1.1 + k) hB hg (by omega)
    have hvl := yrV_lt (l := s.2.1) (d := s.2.2.1.1 + k) (g := y.1)
    rw [x_gN_ok (K0 _) (R9 _), x_gI_ok (K80 _), wB_I, I0, nI_add, x_cV_ok (K0 _) g0]
    cases hv : yrV s.2.1 (s.2.2.1.1 + k) y.1 with
    | mk v g =>
      rw [hv] at g1 hvl
      cases v with
      | none =>
        rw [if_pos (iO_none rfl), nI_1, m_let_eq]
        exact nxt B1 g y.2.1 y.2.2.1 (y.2.2.2 + 1) (by unfold yrS; rw [hv]) hvl g1 (by rw [g2 91 (by omega)]; exact hL) (fun b x y z => by rw [g2 b x, hfr b x y z])
      | some v =>
        have hv6 := yrV_in h.lo h3 (show (yrV s.2.1 (s.2.2.1.1 + k) y.1).1 = some v by rw [hv])
        have b6 := h.lo.2.2.2.1
        obtain ⟨B2, d0, d1, d2, d3⟩ := S_drawClause h.1 h.lc h.lo h1 hv6 hvl (B := B1) (by rw [g2 13 (by omega), hfr 13 (by omega) (by omega) (by omega)]; exact h.ls) g1 (L := y.2.1) (by rw [g2 91 (by omega)]; exact hL)
        have d0' : F_X11_drawClause 0 (iO (some v)) (m_wB M B1) = _ := d0
        have hcl : (yrC s.2.1 v g y.2.1).1 < 2147483648 := by
          unfold yrC
          split
          · exact nx_lt _
          · exact nx_lt _
        have fr2 : ∀ b, b ≠ 0 → b ≠ 91 → b ≠ 93 → B2 b = m_L M b := fun b x y z => by rw [d3 b x y z, g2 b x, hfr b x y z]
        rw [if_neg (show ¬ iO (some v) = (-1 : Int32) from fun z => absurd (show nI v < (0 : Int32) from by rw [show nI v = (-1 : Int32) from z]; decide) (nI_pos (by omega))), x_cV_ok (K0 _) d0']
        have hst : ∀ c, (yrC s.2.1 v g y.2.1).2.2 = c → yrS s.2.1 s.2.2.1.2.1 s.2.2.1.1 k y = ((yrC s.2.1 v g y.2.1).1, yrO s.2.1 s.2.2.1.2.1 (s.2.2.1.1 + k + 1) s.2.2.1.2.1.2.1 (yrC s.2.1 v g y.2.1).2.1, y.2.2.1 + c, y.2.2.2) := fun c hc => by
          unfold yrS
          rw [hv, ← hc]
        have h01 : (yrC s.2.1 v g y.2.1).2.2 = 0 ∨ (yrC s.2.1 v g y.2.1).2.2 = 1 := by
          unfold yrC
          split
          · exact .inl rfl
          · exact .inr rfl
        rcases h01 with q | q
        · rw [q, if_pos (by decide)]
          exact nxt B2 _ _ y.2.2.1 y.2.2.2 (hst 0 q) hcl d1 d2 fr2
        · rw [q, if_neg (by decide), nI_1, m_let_eq]
          exact nxt B2 _ _ (y.2.2.1 + 1) y.2.2.2 (hst 1 q) hcl d1 d2 fr2
theorem M_draws (h : G M) {A : IA} {B : Nat → Nat → Int64} {g m : Nat} (hB : B 128 73 = lI g) (hg : g < 2147483648) (hm : m < 2147483648) (h0 : 0 < m) : F_X12_draws 128 (nI m) (m_w2 M A B) = some (nI (bt (nx g) m), m_w2 M A (upB B 128 73 (lI (nx g)))) := by
  have K0 : ∀ B, m_K (m_w2 M A B) 128 = 10 := fun B => by simp only [w2_K, gK h]
  unfold F_X12_draws
  rw [x_gL_ok (K0 _), w2_L, hB, x_nzL_ne (by decide), lI_nx hg, x_pL_ok (K0 _), w2_sL, x_gL_ok (K0 _), w2_L, upB_at, if_pos ⟨rfl, rfl⟩, x_nzL_ne (by decide), x_nzL_ne (lI_nz hm h0), lI_bt (nx_lt g) hm]
theorem M_t03 (h : G M) {A : IA} {x y z : Int32} {C : Nat → Int32 → Int32 → Int32 → m_M → Option (Int32 × m_M)} : ∀ (d k f : Nat) (B : Nat → Nat → Int64), k + d = 16 → d < f →
    ∃ B', F_X12_tells0_3 C f 128 x y z (nI k) (m_w2 M A B) = C 128 x y z (m_w2 M A B') ∧ (∀ b, b ≠ 171 → B' b = B b) ∧ (∀ j, j < k → B' 171 j = B 171 j) ∧ ∀ j, k ≤ j → j < 16 → B' 171 j = 0 := by
  have K0 : ∀ A B, m_K (m_w2 M A B) 128 = 10 := fun A B => by simp only [w2_K, gK h]
  have R63 : ∀ A B, m_R (m_w2 M A B) 128 63 = some 171 := fun A B => by simp only [w2_R, gR h]
  have K171 : ∀ A B, m_K (m_w2 M A B) 171 = 13 := fun A B => by simp only [w2_K, gK h]
  have L171 : ∀ A B, m_len (m_w2 M A B) 171 = 16 := fun A B => by simp only [w2_n, gl h]
  intro d
  induction d with
  | zero =>
    intro k f B hk hf
    obtain ⟨f, rfl⟩ : ∃ f', f = f' + 1 := ⟨f - 1, by omega⟩
    refine ⟨B, ?_, fun _ _ => rfl, fun _ _ => rfl, fun j h1 h2 => absurd h1 (by omega)⟩
    rw [F_X12_tells0_3, if_pos (show (16 : Int32) ≤ nI k from nI_le (a := 16) (by omega) (by omega))]
  | succ d ih =>
    intro k f B hk hf
    obtain ⟨f, rfl⟩ : ∃ f', f = f' + 1 := ⟨f - 1, by omega⟩
    obtain ⟨B', e, e1, e2, e3⟩ := ih (k + 1) f (upB B 171 k 0) (by omega) (by omega)
    refine ⟨B', ?_, fun b hb => by rw [e1 b hb, upB_fr hb], fun j hj => by rw [e2 j (by omega), upB_at, if_neg (by omega)], fun j h1 h2 => ?_⟩
    · rw [F_X12_tells0_3, if_neg (show ¬ (16 : Int32) ≤ nI k from nI_ge (b := 16) (by omega) (by omega)), x_gN_ok (K0 _ _) (R63 _ _), x_sL_ok (K171 _ _) (by rw [L171]; omega) (by omega), w2_sL, m_let_eq, nI_1]
      exact e
    · by_cases z : j = k
      · rw [z, e2 _ (by omega), upB_at, if_pos ⟨rfl, rfl⟩]
      · exact e3 j (by omega) h2
theorem and_bit {x : Int64} {j : Nat} (hj : j < 64) : x &&& ((1 : Int64) <<< ((nI j).toInt64 &&& 63)) = if lb x j = true then ((1 : Int64) <<< ((nI j).toInt64 &&& 63)) else 0 := by
  apply lb_ext
  intro i hi
  rw [lb_and, lb_one hj hi]
  by_cases q : lb x j = true
  · rw [if_pos q, lb_one hj hi]
    by_cases z : i = j
    · rw [z, q, decide_eq_true rfl]; rfl
    · rw [decide_eq_false z, Bool.and_false]
  · rw [if_neg q, lb_0]
    have q' : lb x j = false := by simpa using q
    by_cases z : i = j
    · rw [z, q']; rfl
    · rw [decide_eq_false z, Bool.and_false]
theorem or_0 {x : Int64} : x ||| 0 = x := by
  apply lb_ext
  intro i hi
  rw [lb_or, lb_0, Bool.or_false]
theorem M_t27 (h : G M) (ho : lOk l) {v f0 s0 : Nat} (hv : v < lH l 3) (hf0 : f0 < lH l 1) (hs0 : s0 < lH l 1) {L : Nat → Bool} {C : Nat → m_M → Option (Int32 × m_M)} : ∀ (d k f : Nat) (A : IA) (B : Nat → Nat → Int64), k + d = wN l → d < f → LMi l A → Rw (wN l) L (B 170) → Rw k (yrT l v f0 s0 L) (B 171) →
    ∃ A' B', F_X12_tells0_27 C f 128 (nI v) (nI f0) (nI s0) (nI k) (m_w2 M A B) = C 128 (m_w2 M A' B') ∧ (∀ a, ¬ scr a → A' a = A a) ∧ (∀ b, b ≠ 171 → B' b = B b) ∧ Rw (wN l) (yrT l v f0 s0 L) (B' 171) := by
  have hn := wN_le ho
  have h5 := ho.2.1
  have K0 : ∀ A B, m_K (m_w2 M A B) 128 = 10 := fun A B => by simp only [w2_K, gK h]
  have R63 : ∀ A B, m_R (m_w2 M A B) 128 63 = some 171 := fun A B => by simp only [w2_R, gR h]
  have K171 : ∀ A B, m_K (m_w2 M A B) 171 = 13 := fun A B => by simp only [w2_K, gK h]
  have L171 : ∀ A B, m_len (m_w2 M A B) 171 = 16 := fun A B => by simp only [w2_n, gl h]
  have R62 : ∀ A B, m_R (m_w2 M A B) 128 62 = some 170 := fun A B => by simp only [w2_R, gR h]
  have K170 : ∀ A B, m_K (m_w2 M A B) 170 = 13 := fun A B => by simp only [w2_K, gK h]
  have L170 : ∀ A B, m_len (m_w2 M A B) 170 = 16 := fun A B => by simp only [w2_n, gl h]
  intro d
  induction d with
  | zero =>
    intro k f A B hk hf hl _ hr
    obtain ⟨f, rfl⟩ : ∃ f', f = f' + 1 := ⟨f - 1, by omega⟩
    obtain rfl : k = wN l := by omega
    refine ⟨A, B, ?_, fun _ _ => rfl, fun _ _ => rfl, hr⟩
    rw [F_X12_tells0_27, x_gI_ok (K0 _ _), w2_I, hl.2.2.2.2.2.1, if_pos (nI_le (Nat.le_refl _) (by omega))]
  | succ d ih =>
    intro k f A B hk hf hl hL hr
    obtain ⟨f, rfl⟩ : ∃ f', f = f' + 1 := ⟨f - 1, by omega⟩
    have hG1 : G (m_wB M B) := h
    obtain ⟨A1, s1, s2, s3⟩ := S_shows (M := m_wB M B) hG1 hl ho (w := k) (by omega)
    have f1 : ∀ a, ¬ scr a → A1 a = A a := fun a ha => s2 a (by unfold scr at ha; omega)
    have s1' : F_X12_shows 128 (nI k) (m_w2 M A B) = some ((), m_w2 M A1 B) := s1
    obtain ⟨A2, t1, t2⟩ := S_holdsBy (M := m_wB M B) hG1 (hl.fr f1) ho (v := some v) (m1 := f0) (m2 := s0) (fun j hj => by cases hj; exact hv) ⟨by omega, by omega, by omega⟩ ⟨by omega, by omega, by omega⟩ s3
    have t1' : F_X12_holdsBy 128 (nI v) (nI f0) (nI s0) (m_w2 M A1 B) = some (bI (hby l (some v) f0 s0 k), m_w2 M A2 B) := t1
    have f2 : ∀ a, ¬ scr a → A2 a = A a := fun a ha => by rw [t2 a (by unfold scr at ha; omega), f1 a ha]
    have hr0 : Rw k (yrT l v f0 s0 L) (fun j => B 171 (0 + j)) := hr.of (fun j _ => by rw [Nat.zero_add])
    have hrs := row_set (at0 := 0) (row := 171) hr0 (show k < wN l by omega) hn
    have go : ∀ B2, Rw (k + 1) (yrT l v f0 s0 L) (B2 171) → (∀ b, b ≠ 171 → B2 b = B b) → ∃ A' B', F_X12_tells0_27 C f 128 (nI v) (nI f0) (nI s0) (nI (k + 1)) (m_w2 M A2 B2) = C 128 (m_w2 M A' B') ∧ (∀ a, ¬ scr a → A' a = A a) ∧ (∀ b, b ≠ 171 → B' b = B b) ∧ Rw (wN l) (yrT l v f0 s0 L) (B' 171) := by
      intro B2 h1 h2
      obtain ⟨A', B', e, e1, e2, e4⟩ := ih (k + 1) f A2 B2 (by omega) (by omega) (hl.fr f2) (by rw [h2 170 (by omega)]; exact hL) h1
      exact ⟨A', B', e, fun a ha => by rw [e1 a ha, f2 a ha], fun b hb => by rw [e2 b hb, h2 b hb], e4⟩
    rw [F_X12_tells0_27, x_gI_ok (K0 _ _), w2_I, hl.2.2.2.2.2.1, if_neg (nI_ge (by omega) (by omega))]
    refine m_let_P (fun o => ∃ A' B', o = C 128 (m_w2 M A' B') ∧ (∀ a, ¬ scr a → A' a = A a) ∧ (∀ b, b ≠ 171 → B' b = B b) ∧ Rw (wN l) (yrT l v f0 s0 L) (B' 171)) ?_
    intro K1 hK1
    rw [x_cV_ok (K0 _ _) s1', x_cV_ok (K0 _ _) t1']
    have hT : yrT l v f0 s0 L k = (hby l (some v) f0 s0 k && L k) := rfl
    cases q : hby l (some v) f0 s0 k
    · rw [hT, q, Bool.false_and, if_neg (by decide)] at hrs
      rw [if_pos (by decide), hK1]
      dsimp only
      rw [m_let_eq, nI_1]
      exact go B (hrs.of (fun j _ => by rw [Nat.zero_add])) (fun _ _ => rfl)
    · have e64 : nI k - nI (k / 64) * (64 : Int32) = nI (k % 64) := by rw [show (64 : Int32) = nI 64 from rfl, nI_mul, i32_rem2]
      have hlk : lb (B 170 (k / 64)) (k % 64) = L k := hL.at (by omega) hn
      rw [if_neg (by decide), x_gN_ok (K0 _ _) (R63 _ _), x_nz_eq, if_neg (by decide), show nI k / (64 : Int32) = nI (k / 64) from i32_div (b := 64) (by omega) (by omega), x_aL_ok (K171 _ _) (by rw [L171]; omega) (by omega), w2_L, x_gN_ok (K0 _ _) (R62 _ _), x_nz_eq, if_neg (by decide), x_aL_ok (K170 _ _) (by rw [L170]; omega) (by omega), w2_L, x_nz_eq, if_neg (by decide), e64, and_bit (Nat.mod_lt _ (by omega)), hlk, x_sL_ok (K171 _ _) (by rw [L171]; omega) (by omega), w2_sL, hK1]
      dsimp only
      rw [m_let_eq, nI_1]
      refine go _ ?_ (fun b hb => upB_fr hb)
      cases q2 : L k
      · rw [hT, q, q2, Bool.and_false, if_neg (by decide)] at hrs
        refine hrs.of (fun j _ => ?_)
        rw [Nat.zero_add, if_neg (by decide), or_0, upB_at]
        by_cases z : j = k / 64
        · rw [if_pos ⟨rfl, z⟩, z]
        · rw [if_neg (fun y => z y.2)]
      · rw [hT, q, q2, Bool.and_true, if_pos rfl] at hrs
        refine hrs.of (fun j _ => ?_)
        rw [Nat.zero_add, Nat.zero_add, if_pos rfl]
theorem M_tells0 (h : G M) (ho : lOk l) {v f0 s0 : Nat} (hv : v < lH l 3) (hf0 : f0 < lH l 1) (hs0 : s0 < lH l 1) {L : Nat → Bool} {A : IA} {B : Nat → Nat → Int64} (hl : LMi l A) (hL : Rw (wN l) L (B 170)) :
    ∃ A' B', F_X12_tells0 128 (nI v) (nI f0) (nI s0) (m_w2 M A B) = some (if cnt (yrT l v f0 s0 L) (wN l) = 0 then nI 0 else nI 1, m_w2 M A' B') ∧ (∀ a, ¬ scr a → A' a = A a) ∧ (∀ b, b ≠ 170 → b ≠ 171 → B' b = B b) ∧ Rw (wN l) (if cnt (yrT l v f0 s0 L) (wN l) = 0 then L else yrT l v f0 s0 L) (B' 170) := by
  have hn := wN_le ho
  have K0 : ∀ A B, m_K (m_w2 M A B) 128 = 10 := fun A B => by simp only [w2_K, gK h]
  have R63 : ∀ A B, m_R (m_w2 M A B) 128 63 = some 171 := fun A B => by simp only [w2_R, gR h]
  have K171 : ∀ A B, m_K (m_w2 M A B) 171 = 13 := fun A B => by simp only [w2_K, gK h]
  have L171 : ∀ A B, m_len (m_w2 M A B) 171 = 16 := fun A B => by simp only [w2_n, gl h]
  have R62 : ∀ A B, m_R (m_w2 M A B) 128 62 = some 170 := fun A B => by simp only [w2_R, gR h]
  have K170 : ∀ A B, m_K (m_w2 M A B) 170 = 13 := fun A B => by simp only [w2_K, gK h]
  have L170 : ∀ A B, m_len (m_w2 M A B) 170 = 16 := fun A B => by simp only [w2_n, gl h]
  unfold F_X12_tells0
  refine m_let_P (fun o => ∃ A' B', o = some (if cnt (yrT l v f0 s0 L) (wN l) = 0 then nI 0 else nI 1, m_w2 M A' B') ∧ (∀ a, ¬ scr a → A' a = A a) ∧ (∀ b, b ≠ 170 → b ≠ 171 → B' b = B b) ∧ Rw (wN l) (if cnt (yrT l v f0 s0 L) (wN l) = 0 then L else yrT l v f0 s0 L) (B' 170)) ?_
  intro K1 hK1
  obtain ⟨B1, e, e1, _, e2⟩ := M_t03 h (A := A) (x := nI v) (y := nI f0) (z := nI s0) (C := K1) 16 0 m_FU B (by omega) (m_FU_lt (by omega))
  have e' : F_X12_tells0_3 K1 m_FU 128 (nI v) (nI f0) (nI s0) (0 : Int32) (m_w2 M A B) = _ := e
  rw [e', hK1]
  dsimp only
  refine m_let_P (fun o => ∃ A' B', o = some (if cnt (yrT l v f0 s0 L) (wN l) = 0 then nI 0 else nI 1, m_w2 M A' B') ∧ (∀ a, ¬ scr a → A' a = A a) ∧ (∀ b, b ≠ 170 → b ≠ 171 → B' b = B b) ∧ Rw (wN l) (if cnt (yrT l v f0 s0 L) (wN l) = 0 then L else yrT l v f0 s0 L) (B' 170)) ?_
  intro K2 hK2
  obtain ⟨A2, B2, g, g1, g2, g3⟩ := M_t27 h ho hv hf0 hs0 (L := L) (C := K2) (wN l) 0 m_FU A B1 (by omega) (m_FU_lt (by omega)) hl (by rw [e1 170 (by omega)]; exact hL) ((Rw.up0 _).of (fun j hj => e2 j (by omega) hj))
  have g' : F_X12_tells0_27 K2 m_FU 128 (nI v) (nI f0) (nI s0) (0 : Int32) (m_w2 M A B1) = _ := g
  have hL2 : Rw (wN l) L (B2 170) := by rw [g2 170 (by omega), e1 170 (by omega)]; exact hL
  have ia := S_isAny (M := m_w2 M A2 B2) h (hl.fr g1) ho (K171 _ _) (L171 _ _) (by omega) (by omega) (P := yrT l v f0 s0 L) g3
  rw [g', hK2]
  dsimp only
  rw [x_gN_ok (K0 _ _) (R63 _ _), x_cV_ok (K0 _ _) ia]
  by_cases q : cnt (yrT l v f0 s0 L) (wN l) = 0
  · rw [if_pos q, if_pos q, if_pos (by decide)]
    exact ⟨A2, B2, rfl, g1, fun b x y => by rw [g2 b y, e1 b y], hL2⟩
  · rw [if_neg q, if_neg q, if_neg (by decide)]
    have cp : ∀ (d k f : Nat) (B : Nat → Nat → Int64), k + d = 16 → d < f → ∃ B', F_X12_tells0_105 f 128 (nI k) (m_w2 M A2 B) = some ((1 : Int32), m_w2 M A2 B') ∧ (∀ b, b ≠ 170 → B' b = B b) ∧ (∀ j, j < k → B' 170 j = B 170 j) ∧ ∀ j, k ≤ j → j < 16 → B' 170 j = B 171 j := by
      intro d
      induction d with
      | zero =>
        intro k f B hk hf
        obtain ⟨f, rfl⟩ : ∃ f', f = f' + 1 := ⟨f - 1, by omega⟩
        refine ⟨B, ?_, fun _ _ => rfl, fun _ _ => rfl, fun j h1 h2 => absurd h1 (by omega)⟩
        rw [F_X12_tells0_105, if_pos (show (16 : Int32) ≤ nI k from nI_le (a := 16) (by omega) (by omega))]
      | succ d ih =>
        intro k f B hk hf
        obtain ⟨f, rfl⟩ : ∃ f', f = f' + 1 := ⟨f - 1, by omega⟩
        obtain ⟨B', e, e1, e2, e3⟩ := ih (k + 1) f (upB B 170 k (B 171 k)) (by omega) (by omega)
        refine ⟨B', ?_, fun b hb => by rw [e1 b hb, upB_fr hb], fun j hj => by rw [e2 j (by omega), upB_at, if_neg (by omega)], fun j h1 h2 => ?_⟩
        · rw [F_X12_tells0_105, if_neg (show ¬ (16 : Int32) ≤ nI k from nI_ge (b := 16) (by omega) (by omega)), x_gN_ok (K0 _ _) (R62 _ _), x_gN_ok (K0 _ _) (R63 _ _), x_aL_ok (K171 _ _) (by rw [L171]; omega) (by omega), w2_L, x_sL_ok (K170 _ _) (by rw [L170]; omega) (by omega), w2_sL, m_let_eq, nI_1]
          exact e
        · by_cases z : j = k
          · rw [z, e2 _ (by omega), upB_at, if_pos ⟨rfl, rfl⟩]
          · rw [e3 j (by omega) h2, upB_fr (by omega)]
    obtain ⟨B3, c, c1, _, c2⟩ := cp 16 0 m_FU B2 (by omega) (m_FU_lt (by omega))
    have c' : F_X12_tells0_105 m_FU 128 (0 : Int32) (m_w2 M A2 B2) = _ := c
    rw [c']
    exact ⟨A2, B3, rfl, g1, fun b x y => by rw [c1 b x, g2 b y, e1 b y], g3.of (fun k hk => c2 k (by omega) hk)⟩
theorem M_y204 {A : IA} (h : G M) {o day d dy : Nat} (ho4 : o < 4) (hA : A 128 53 = nI day) (hd : A 160 o = nI dy) (hdy : dy < 2147483648) (hday : day + d + 1 < 2147483648) {x y z w : Int32} {C : Nat → Int32 → Int32 → Int32 → Int32 → Int32 → Int32 → m_M → Option (Int32 × m_M)} : ∀ (e k f : Nat) (B : Nat → Nat → Int64), k + e = 16 → e < f →
    ∃ B', F_X12_year_204 C f 128 x y z w (nI d) (nI o) (nI k) (m_w2 M A B) = C 128 x y z w (nI d) (nI o) (m_w2 M A B') ∧ (∀ b, b ≠ 170 → B' b = B b) ∧ (∀ j, j < k → B' 170 j = B 170 j) ∧ ∀ j, k ≤ j → j < 16 → B' 170 j = if dy = day + d + 1 then B 170 j &&& B 158 (16 * o + j) else B 170 j := by
  have K0 : ∀ B, m_K (m_w2 M A B) 128 = 10 := fun B => by simp only [w2_K, gK h]
  have R50 : ∀ B, m_R (m_w2 M A B) 128 50 = some 160 := fun B => by simp only [w2_R, gR h]
  have R48 : ∀ B, m_R (m_w2 M A B) 128 48 = some 158 := fun B => by simp only [w2_R, gR h]
  have R62 : ∀ B, m_R (m_w2 M A B) 128 62 = some 170 := fun B => by simp only [w2_R, gR h]
  have K160 : ∀ B, m_K (m_w2 M A B) 160 = 12 := fun B => by simp only [w2_K, gK h]
  have L160 : ∀ B, m_len (m_w2 M A B) 160 = 68 := fun B => by simp only [w2_n, gl h]
  have K158 : ∀ B, m_K (m_w2 M A B) 158 = 13 := fun B => by simp only [w2_K, gK h]
  have L158 : ∀ B, m_len (m_w2 M A B) 158 = 1088 := fun B => by simp only [w2_n, gl h]
  have K170 : ∀ B, m_K (m_w2 M A B) 170 = 13 := fun B => by simp only [w2_K, gK h]
  have L170 : ∀ B, m_len (m_w2 M A B) 170 = 16 := fun B => by simp only [w2_n, gl h]
  intro e
  induction e with
  | zero =>
    intro k f B hk hf
    obtain ⟨f, rfl⟩ : ∃ f', f = f' + 1 := ⟨f - 1, by omega⟩
    refine ⟨B, ?_, fun _ _ => rfl, fun _ _ => rfl, fun j h1 h2 => absurd h1 (by omega)⟩
    rw [F_X12_year_204, if_pos (show (16 : Int32) ≤ nI k from nI_le (a := 16) (by omega) (by omega))]
  | succ e ih =>
    intro k f B hk hf
    obtain ⟨f, rfl⟩ : ∃ f', f = f' + 1 := ⟨f - 1, by omega⟩
    rw [F_X12_year_204, if_neg (show ¬ (16 : Int32) ≤ nI k from nI_ge (b := 16) (by omega) (by omega)), x_gN_ok (K0 _) (R50 _), x_aI_ok (K160 _) (by rw [L160]; omega) (by omega), w2_I, hd, x_gI_ok (K0 _), w2_I, hA, nI_add, nI_1]
    by_cases q : dy = day + d + 1
    · obtain ⟨B', u, u1, u2, u3⟩ := ih (k + 1) f (upB B 170 k (B 170 k &&& B 158 (16 * o + k))) (by omega) (by omega)
      refine ⟨B', ?_, fun b hb => by rw [u1 b hb, upB_fr hb], fun j hj => by rw [u2 j (by omega), upB_at, if_neg (by omega)], fun j h1 h2 => ?_⟩
      · rw [if_pos (by rw [q]), x_gN_ok (K0 _) (R62 _), x_aL_ok (K170 _) (by rw [L170]; omega) (by omega), w2_L, x_gN_ok (K0 _) (R48 _), show (16 : Int32) = nI 16 from rfl, nI_mul, nI_add, x_aL_ok (K158 _) (by rw [L158]; omega) (by omega), w2_L, x_sL_ok (K170 _) (by rw [L170]; omega) (by omega), w2_sL, m_let_eq, nI_1]
        exact u
      · rw [if_pos q]
        by_cases q2 : j = k
        · rw [u2 j (by omega), upB_at, if_pos ⟨rfl, q2⟩, q2]
        · rw [u3 j (by omega) h2, if_pos q, upB_at, if_neg (by omega), upB_fr (by omega)]
    · refine ⟨B, ?_, fun _ _ => rfl, fun _ _ => rfl, fun j h1 h2 => by rw [if_neg q]⟩
      rw [if_neg (fun z => q ((nI_eq hdy hday).mp z))]
theorem TlM.frB {r : Nat} {A A' : IA} {B B' : Nat → Nat → Int64} (ht : TlM l t r A B) (hA : ∀ a, (a = 157 ∨ a = 160 ∨ a = 161) → A' a = A a) (hB : ∀ b, (b = 156 ∨ b = 158 ∨ b = 159) → B' b = B b) : TlM l t r A' B' := by
  unfold TlM at ht ⊢
  rw [hA 157 (by omega), hA 160 (by omega), hA 161 (by omega), hB 156 (by omega), hB 158 (by omega), hB 159 (by omega)]
  exact ht
theorem M_y190 {A : IA} (h : G M) (ho : lOk l) {day d : Nat} (hA : A 128 53 = nI day) (hday : day + d + 1 < 2147483648) (hd : TlD t) {L : Nat → Bool} {x y z w : Int32} {C : Nat → Int32 → Int32 → Int32 → Int32 → Int32 → m_M → Option (Int32 × m_M)} : ∀ (e o f : Nat) (B : Nat → Nat → Int64), o + e = t.2.1 → e < f → TlM l t 0 A B → Rw (wN l) (yrO l t (day + d + 1) o L) (B 170) →
    ∃ B', F_X12_year_190 C f 128 x y z w (nI d) (nI o) (m_w2 M A B) = C 128 x y z w (nI d) (m_w2 M A B') ∧ (∀ b, b ≠ 170 → B' b = B b) ∧ Rw (wN l) (yrO l t (day + d + 1) t.2.1 L) (B' 170) := by
  have K0 : ∀ B, m_K (m_w2 M A B) 128 = 10 := fun B => by simp only [w2_K, gK h]
  have R51 : ∀ B, m_R (m_w2 M A B) 128 51 = some 161 := fun B => by simp only [w2_R, gR h]
  have K161 : ∀ B, m_K (m_w2 M A B) 161 = 12 := fun B => by simp only [w2_K, gK h]
  have L161 : ∀ B, m_len (m_w2 M A B) 161 = 34 := fun B => by simp only [w2_n, gl h]
  intro e
  induction e with
  | zero =>
    intro o f B hk hf ht hP
    obtain ⟨f, rfl⟩ : ∃ f', f = f' + 1 := ⟨f - 1, by omega⟩
    have hb := ht.1.2
    obtain rfl : o = t.2.1 := by omega
    refine ⟨B, ?_, fun _ _ => rfl, hP⟩
    rw [F_X12_year_190, x_gN_ok (K0 _) (R51 _), aI_lit (x := (1 : Int32)) (n := 1) (K161 _) (by rw [L161]; omega) rfl (by omega), w2_I, show A 161 1 = nI t.2.1 from ht.2.1.2, if_pos (nI_le (by omega) (by omega))]
  | succ e ih =>
    intro o f B hk hf ht hP
    obtain ⟨f, rfl⟩ : ∃ f', f = f' + 1 := ⟨f - 1, by omega⟩
    have hb := ht.1.2
    obtain ⟨q1, q2, q3⟩ := ht.2.2.2 o (by omega)
    have hdy := (hd.2 o (by omega)).2
    have q1' : A 160 o = nI (t.2.2 o).2.1 := by have := q1; rw [show 4 * 0 + o = o by omega] at this; exact this
    rw [F_X12_year_190, x_gN_ok (K0 _) (R51 _), aI_lit (x := (1 : Int32)) (n := 1) (K161 _) (by rw [L161]; omega) rfl (by omega), w2_I, show A 161 1 = nI t.2.1 from ht.2.1.2, if_neg (nI_ge (by omega) (by omega))]
    refine m_let_P (fun r => ∃ B', r = C 128 x y z w (nI d) (m_w2 M A B') ∧ (∀ b, b ≠ 170 → B' b = B b) ∧ Rw (wN l) (yrO l t (day + d + 1) t.2.1 L) (B' 170)) ?_
    intro K1 hK1
    obtain ⟨B1, e0, e1, e2, e3⟩ := M_y204 (A := A) h (o := o) (day := day) (d := d) (by omega) hA q1' (by omega) hday (x := x) (y := y) (z := z) (w := w) (C := K1) 16 0 m_FU B (by omega) (m_FU_lt (by omega))
    have e0' : F_X12_year_204 K1 m_FU 128 x y z w (nI d) (nI o) (0 : Int32) (m_w2 M A B) = _ := e0
    have hS : ∀ u, yrO l t (day + d + 1) (o + 1) L u = (yrO l t (day + d + 1) o L u && (!decide ((t.2.2 o).2.1 = day + d + 1) || bdS l (t.2.2 o) u)) := fun u => by
      show (L u && (anN o _ && _)) = _
      rw [← Bool.and_assoc]; rfl
    have hP1 : Rw (wN l) (yrO l t (day + d + 1) (o + 1) L) (B1 170) := by
      by_cases q : (t.2.2 o).2.1 = day + d + 1
      · refine ((hP.and q2).of (fun k hk => ?_)).cong (fun u _ => ?_)
        · rw [e3 k (by omega) hk, if_pos q]
          congr 2
          omega
        · rw [hS, decide_eq_true q]; rfl
      · refine (hP.of (g := B1 170) (fun k hk => by rw [e3 k (by omega) hk, if_neg q])).cong (fun u _ => ?_)
        rw [hS, decide_eq_false q]; simp
    obtain ⟨B', e4, e5, e6⟩ := ih (o + 1) f B1 (by omega) (by omega) (ht.frB (fun _ _ => rfl) (fun b hb => e1 b (by omega))) hP1
    refine ⟨B', ?_, fun b hb => by rw [e5 b hb, e1 b hb], e6⟩
    rw [e0', hK1]
    dsimp only
    rw [m_let_eq, nI_1, e4]
theorem M_y74 (h : G M) (ho : lOk l) (h3 : 0 < lH l 3) (h1 : 0 < lH l 1) {days day : Nat} (hdays : days ≤ 60) (hday : day < 1000000) (hd : TlD t) {wh : Int32} {K : Nat → Int32 → Int32 → Int32 → m_M → Option (Int32 × m_M)} : ∀ (e k f : Nat) (A : IA) (B : Nat → Nat → Int64) (y : Nat × ((Nat → Bool) × (Nat × Nat))), k + e = days → e < f → y.1 < 2147483648 → LMi l A → A 128 53 = nI day → TlM l t 0 A B → B 128 73 = lI y.1 → Rw (wN l) y.2.1 (B 170) →
    ∃ A' B', F_X12_year_74 K f 128 (nI days) wh (nI y.2.2.1) (nI y.2.2.2) (nI k) (m_w2 M A B) = K 128 wh (nI (fF (yrS l t day) e k y).2.2.1) (nI (fF (yrS l t day) e k y).2.2.2) (m_w2 M A' B') ∧ Rw (wN l) (fF (yrS l t day) e k y).2.1 (B' 170) ∧ (∀ a, ¬ scr a → A' a = A a) ∧ (∀ b, b ≠ 128 → b ≠ 170 → b ≠ 171 → B' b = B b) := by
  have b6 := ho.2.2.2.1
  have b1 := ho.2.1
  have K0 : ∀ A B, m_K (m_w2 M A B) 128 = 10 := fun A B => by simp only [w2_K, gK h]
  have R10 : ∀ A B, m_R (m_w2 M A B) 128 10 = some 130 := fun A B => by simp only [w2_R, gR h]
  have K130 : ∀ A B, m_K (m_w2 M A B) 130 = 12 := fun A B => by simp only [w2_K, gK h]
  have L130 : ∀ A B, m_len (m_w2 M A B) 130 = 16 := fun A B => by simp only [w2_n, gl h]
  intro e
  induction e with
  | zero =>
    intro k f A B y hk hf _ _ _ _ _ hL
    obtain ⟨f, rfl⟩ : ∃ f', f = f' + 1 := ⟨f - 1, by omega⟩
    obtain rfl : k = days := by omega
    refine ⟨A, B, ?_, hL, fun _ _ => rfl, fun _ _ _ _ => rfl⟩
    rw [F_X12_year_74, if_pos (nI_le (Nat.le_refl _) (by omega))]
    rfl
  | succ e ih =>
    intro k f A B y hk hf hg hl hA ht hB hL
    obtain ⟨f, rfl⟩ : ∃ f', f = f' + 1 := ⟨f - 1, by omega⟩
    have hb4 := ht.1.2
    rw [F_X12_year_74, if_neg (nI_ge (by omega) (by omega))]
    refine m_let_P (fun o => ∃ A' B', o = K 128 wh (nI (fF (yrS l t day) (e + 1) k y).2.2.1) (nI (fF (yrS l t day) (e + 1) k y).2.2.2) (m_w2 M A' B') ∧ Rw (wN l) (fF (yrS l t day) (e + 1) k y).2.1 (B' 170) ∧ (∀ a, ¬ scr a → A' a = A a) ∧ (∀ b, b ≠ 128 → b ≠ 170 → b ≠ 171 → B' b = B b)) ?_
    intro K1 hK1
    -- what comes behind the verb
    have after : ∀ (B1 : Nat → Nat → Int64), B1 128 73 = lI (yrV l (day + k) y.1).2 → (∀ b, b ≠ 128 → B1 b = B b) → ∃ A' B', K1 128 (nI days) wh (nI y.2.2.1) (nI y.2.2.2) (nI k) (iO (yrV l (day + k) y.1).1) (m_w2 M A B1) = K 128 wh (nI (fF (yrS l t day) (e + 1) k y).2.2.1) (nI (fF (yrS l t day) (e + 1) k y).2.2.2) (m_w2 M A' B') ∧ Rw (wN l) (fF (yrS l t day) (e + 1) k y).2.1 (B' 170) ∧ (∀ a, ¬ scr a → A' a = A a) ∧ (∀ b, b ≠ 128 → b ≠ 170 → b ≠ 171 → B' b = B b) := by
      intro B1 hB1 hfr1
      have hvl := yrV_lt (l := l) (d := day + k) (g := y.1)
      rw [hK1]
      dsimp only
      refine m_let_P (fun o => ∃ A' B', o = K 128 wh (nI (fF (yrS l t day) (e + 1) k y).2.2.1) (nI (fF (yrS l t day) (e + 1) k y).2.2.2) (m_w2 M A' B') ∧ Rw (wN l) (fF (yrS l t day) (e + 1) k y).2.1 (B' 170) ∧ (∀ a, ¬ scr a → A' a = A a) ∧ (∀ b, b ≠ 128 → b ≠ 170 → b ≠ 171 → B' b = B b)) ?_
      intro K2 hK2
      have nxt : ∀ (A2 : IA) (B2 : Nat → Nat → Int64) (g : Nat) (L1 : Nat → Bool) (a b : Nat), yrS l t day k y = (g, yrO l t (day + k + 1) t.2.1 L1, a, b) → g < 2147483648 → B2 128 73 = lI g → Rw (wN l) L1 (B2 170) → (∀ a, ¬ scr a → A2 a = A a) → (∀ b, b ≠ 128 → b ≠ 170 → b ≠ 171 → B2 b = B b) → ∃ A' B', K2 128 (nI days) wh (nI a) (nI b) (nI k) (m_w2 M A2 B2) = K 128 wh (nI (fF (yrS l t day) (e + 1) k y).2.2.1) (nI (fF (yrS l t day) (e + 1) k y).2.2.2) (m_w2 M A' B') ∧ Rw (wN l) (fF (yrS l t day) (e + 1) k y).2.1 (B' 170) ∧ (∀ a, ¬ scr a → A' a = A a) ∧ (∀ b, b ≠ 128 → b ≠ 170 → b ≠ 171 → B' b = B b) := by
        intro A2 B2 g L1 a b hy hg1 hB2 hL2 hA2 hfr2
        have hA53 : A2 128 53 = nI day := by rw [hA2 128 (by unfold scr; omega)]; exact hA
        have ht2 : TlM l t 0 A2 B2 := ht.frB (fun a ha => hA2 a (by unfold scr; omega)) (fun b hb => hfr2 b (by omega) (by omega) (by omega))
        rw [hK2]
        dsimp only
        refine m_let_P (fun o => ∃ A' B', o = K 128 wh (nI (fF (yrS l t day) (e + 1) k y).2.2.1) (nI (fF (yrS l t day) (e + 1) k y).2.2.2) (m_w2 M A' B') ∧ Rw (wN l) (fF (yrS l t day) (e + 1) k y).2.1 (B' 170) ∧ (∀ a, ¬ scr a → A' a = A a) ∧ (∀ b, b ≠ 128 → b ≠ 170 → b ≠ 171 → B' b = B b)) ?_
        intro K3 hK3
        obtain ⟨B3, u, u1, u2⟩ := M_y190 (A := A2) h ho (day := day) (d := k) hA53 (by omega) hd (L := L1) (x := nI days) (y := wh) (z := nI a) (w := nI b) (C := K3) t.2.1 0 m_FU B2 (by omega) (m_FU_lt (by omega)) ht2 (hL2.cong (fun w _ => by show _ = (L1 w && true); rw [Bool.and_true]))
        have u' : F_X12_year_190 K3 m_FU 128 (nI days) wh (nI a) (nI b) (nI k) (0 : Int32) (m_w2 M A2 B2) = _ := u
        obtain ⟨A', B', w0, w1, w2, w3⟩ := ih (k + 1) f A2 B3 (g, yrO l t (day + k + 1) t.2.1 L1, a, b) (by omega) (by omega) hg1 (hl.fr hA2) hA53 (ht2.frB (fun _ _ => rfl) (fun b hb => u1 b (by omega))) (by rw [u1 128 (by omega)]; exact hB2) u2
        have hF : fF (yrS l t day) (e + 1) k y = fF (yrS l t day) e (k + 1) (g, yrO l t (day + k + 1) t.2.1 L1, a, b) := by rw [← hy]; rfl
        rw [hF, u', hK3]
        dsimp only
        rw [m_let_eq, nI_1]
        exact ⟨A', B', w0, w1, fun a ha => by rw [w2 a ha, hA2 a ha], fun b x y z => by rw [w3 b x y z, u1 b y, hfr2 b x y z]⟩
      cases hv : yrV l (day + k) y.1 with
      | mk v g =>
        rw [hv] at hB1 hvl
        cases v with
        | none =>
          rw [if_neg (show ¬ (0 : Int32) ≤ iO none from by decide), nI_1, m_let_eq]
          exact nxt A B1 g y.2.1 y.2.2.1 (y.2.2.2 + 1) (by unfold yrS; rw [hv]) hvl hB1 (by rw [hfr1 170 (by omega)]; exact hL) (fun _ _ => rfl) (fun b x _ _ => hfr1 b x)
        | some v =>
          have hv6 := yrV_in ho h3 (show (yrV l (day + k) y.1).1 = some v by rw [hv])
          rw [if_pos (show (0 : Int32) ≤ iO (some v) from nI_pos' (by omega))]
          refine m_let_P (fun o => ∃ A' B', o = K 128 wh (nI (fF (yrS l t day) (e + 1) k y).2.2.1) (nI (fF (yrS l t day) (e + 1) k y).2.2.2) (m_w2 M A' B') ∧ Rw (wN l) (fF (yrS l t day) (e + 1) k y).2.1 (B' 170) ∧ (∀ a, ¬ scr a → A' a = A a) ∧ (∀ b, b ≠ 128 → b ≠ 170 → b ≠ 171 → B' b = B b)) ?_
          intro K3 hK3
          have e1 := M_draws h (A := A) hB1 hvl (m := lH l 1) (by omega) h1
          have c1 : upB B1 128 73 (lI (nx g)) 128 73 = lI (nx g) := by rw [upB_at, if_pos ⟨rfl, rfl⟩]
          have e2 := M_draws h (A := A) c1 (nx_lt g) (m := lH l 1) (by omega) h1
          obtain ⟨B3, hB3⟩ : ∃ B3, B3 = upB (upB B1 128 73 (lI (nx g))) 128 73 (lI (nx (nx g))) := ⟨_, rfl⟩
          rw [← hB3] at e2
          have fr3 : ∀ b, b ≠ 128 → B3 b = B b := fun b hb => by rw [hB3, upB_fr hb, upB_fr hb, hfr1 b hb]
          have c3 : B3 128 73 = lI (nx (nx g)) := by rw [hB3, upB_at, if_pos ⟨rfl, rfl⟩]
          obtain ⟨A4, B4, t0, t1, t2, t3⟩ := M_tells0 h ho hv6 (bt_lt (g := nx g) h1) (bt_lt (g := nx (nx g)) h1) (L := y.2.1) (A := A) (B := B3) hl (by rw [fr3 170 (by omega)]; exact hL)
          have t0' : F_X12_tells0 128 (iO (some v)) (nI (bt (nx g) (lH l 1))) (nI (bt (nx (nx g)) (lH l 1))) (m_w2 M A B3) = _ := t0
          have c4 : B4 128 73 = lI (nx (nx g)) := by rw [t2 128 (by omega) (by omega)]; exact c3
          have fr4 : ∀ b, b ≠ 128 → b ≠ 170 → b ≠ 171 → B4 b = B b := fun b x y z => by rw [t2 b y z, fr3 b x]
          rw [x_gN_ok (K0 _ _) (R10 _ _), aI_lit (x := (1 : Int32)) (n := 1) (K130 _ _) (by rw [L130]; omega) rfl (by omega), w2_I, hl.1 1 (by omega), x_cV_ok (K0 _ _) e1, x_gN_ok (K0 _ _) (R10 _ _), aI_lit (x := (1 : Int32)) (n := 1) (K130 _ _) (by rw [L130]; omega) rfl (by omega), w2_I, hl.1 1 (by omega), x_cV_ok (K0 _ _) e2, x_cV_ok (K0 _ _) t0']
          by_cases q : cnt (yrT l v (bt (nx g) (lH l 1)) (bt (nx (nx g)) (lH l 1)) y.2.1) (wN l) = 0
          · rw [if_pos q] at t3
            rw [if_pos q, if_pos (by decide), hK3]
            dsimp only
            rw [m_let_eq, show nI y.2.2.1 + (0 : Int32) = nI y.2.2.1 from nI_add y.2.2.1 0]
            exact nxt A4 B4 (nx (nx g)) y.2.1 y.2.2.1 y.2.2.2 (yrS_some hv (c := 0) (if_pos q)) (nx_lt _) c4 t3 t1 fr4
          · rw [if_neg q] at t3
            rw [if_neg q, if_neg (by decide), hK3]
            dsimp only
            rw [m_let_eq, nI_1]
            exact nxt A4 B4 (nx (nx g)) _ (y.2.2.1 + 1) y.2.2.2 (yrS_some hv (c := 1) (if_neg q)) (nx_lt _) c4 t3 t1 fr4
    have e1 := M_draws h (A := A) hB hg (m := 10) (by omega) (by omega)
    have e1' : F_X12_draws 128 (10 : Int32) (m_w2 M A B) = _ := e1
    have hlt : bt (nx y.1) 10 < 10 := bt_lt (by omega)
    have c1 : upB B 128 73 (lI (nx y.1)) 128 73 = lI (nx y.1) := by rw [upB_at, if_pos ⟨rfl, rfl⟩]
    rw [x_cV_ok (K0 _ _) e1']
    by_cases q0 : bt (nx y.1) 10 = 0
    · have hV : yrV l (day + k) y.1 = (none, nx y.1) := by unfold yrV; rw [if_pos q0]
      have af := after (upB B 128 73 (lI (nx y.1))) (by rw [hV]; exact c1) (fun b hb => upB_fr hb)
      rw [hV] at af
      rw [if_pos (show nI (bt (nx y.1) 10) = (0 : Int32) from by rw [q0]; rfl)]
      exact af
    rw [if_neg (nI_nz q0 (by omega))]
    by_cases q1 : bt (nx y.1) 10 = 1
    · have e2 := M_draws h (A := A) c1 (nx_lt y.1) (m := lH l 3) (by omega) h3
      have hV : yrV l (day + k) y.1 = (some (bt (nx (nx y.1)) (lH l 3)), nx (nx y.1)) := by unfold yrV; rw [if_neg q0, if_pos q1]
      have af := after (upB (upB B 128 73 (lI (nx y.1))) 128 73 (lI (nx (nx y.1)))) (by rw [hV, upB_at, if_pos ⟨rfl, rfl⟩]) (fun b hb => by rw [upB_fr hb, upB_fr hb])
      rw [hV] at af
      rw [if_pos (show nI (bt (nx y.1) 10) = (1 : Int32) from by rw [q1]; rfl), x_gN_ok (K0 _ _) (R10 _ _), aI_lit (x := (3 : Int32)) (n := 3) (K130 _ _) (by rw [L130]; omega) rfl (by omega), w2_I, hl.1 3 (by omega), x_cV_ok (K0 _ _) e2]
      exact af
    · have hV : yrV l (day + k) y.1 = (vOf l (day + k), nx y.1) := by unfold yrV; rw [if_neg q0, if_neg q1]
      have af := after (upB B 128 73 (lI (nx y.1))) (by rw [hV]; exact c1) (fun b hb => upB_fr hb)
      rw [hV] at af
      rw [if_neg (show ¬ nI (bt (nx y.1) 10) = (1 : Int32) from fun z => q1 ((nI_eq (b := 1) (by omega) (by omega)).mp z)), x_gI_ok (K0 _ _), w2_I, hA, nI_add, x_cV_ok (K0 _ _) (S_verbOfM (M := m_w2 M A (upB B 128 73 (lI (nx y.1)))) h hl ho (by omega))]
      exact af
end YEAR
