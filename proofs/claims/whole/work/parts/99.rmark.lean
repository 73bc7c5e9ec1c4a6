/-! mark: both sides -/
section RMARK
variable {M M' : m_M} {s : St} {D : Nat}
theorem M_mcells (h : G M) : (∀ A B, m_K (m_w2 M A B) 128 = 10) ∧ (∀ A B, m_R (m_w2 M A B) 128 60 = some 168) ∧ (∀ A B, m_R (m_w2 M A B) 128 61 = some 169) ∧ (∀ A B, m_K (m_w2 M A B) 168 = 12) ∧ (∀ A B, m_len (m_w2 M A B) 168 = 5) ∧ (∀ A B, m_K (m_w2 M A B) 169 = 14) ∧ ∀ A B, m_len (m_w2 M A B) 169 = 4 := by
  refine ⟨?_, ?_, ?_, ?_, ?_, ?_, ?_⟩ <;> intro A B <;> simp only [w2_K, w2_R, w2_n, gK h, gR h, gl h]
theorem up2_fr {A : IA} {a : Nat} {i v w : Int32} {j k b c : Nat} (h1 : a ≠ b) (h2 : a ≠ c) : m_up (m_up A b j v) c k w a = A a := by rw [up_fr h2, up_fr h1]
theorem M_mark (hG : G M) (hp : PI s) (hm : MI s M) {i : Nat} (hi : i < 4) : ∃ M', F_X12_mark 128 (nI i) (nI 0) M = some (nI 1, M') ∧ MI (stMark s i) M' ∧ frM M M' := by
  obtain ⟨K0, R60, R61, K168, L168, K169, L169⟩ := M_mcells hG
  obtain ⟨⟨m0, m1⟩, ⟨m2, m3⟩, ⟨m4, m5⟩, ⟨m6, m7⟩, m8⟩ := hm
  have lv : lH s.2.1 3 ≤ 6 := by have := hp.1; unfold lOk at this; omega
  have hs : s.2.2.1.2.2.2.1 ≤ 20 := hp.2.2.1.2.2.1
  have bm0 : ∀ {b : Bk} {r : Nat}, BkM s.2.1 b r (m_I M) (m_L M) → BkM s.2.1 b r (m_up (m_up (m_I M) 128 0 0) 169 i 1) (m_L M) := fun {b r} h => by
    obtain ⟨b1, b2, b3⟩ := h
    refine ⟨b1.congr (by rw [up_fr (by omega), up_fr (by omega)]) (by rw [up_fr (by omega), up_fr (by omega)]) (by rw [up_fr (by omega), up_fr (by omega)]) rfl rfl rfl, ?_, ?_⟩
    · rw [up_fr (by omega), up_fr (by omega)]; exact b2
    · rw [up_fr (by omega), up_fr (by omega), up_fr (by omega), up_fr (by omega), up_fr (by omega), up_fr (by omega), up_fr (by omega), up_fr (by omega)]; exact b3
  obtain ⟨A1, B1, A', B', e1, e2, e3, e4, e5, e6, e7⟩ := S_book hG (A := m_up (m_up (m_I M) 128 0 0) 169 i 1) (B := m_L M) (r := 0) (q := 1 + i) (by omega) (by omega) (by omega)
  have e0 : m_sI M 128 0 (0 : Int32) = m_w2 M (m_up (m_I M) 128 0 0) (m_L M) := Eq.trans rfl rfl
  have f128 : ∀ j, A' 128 j = if j = 0 then 0 else m_I M 128 j := fun j => by
    rw [e3 128 (by omega) (by omega) (by omega) (by omega) (by omega) (by omega) (by omega) (by omega), up_fr (by omega), up_at]
    by_cases q : j = 0
    · rw [if_pos ⟨rfl, q⟩, if_pos q]
    · rw [if_neg (fun z => q z.2), if_neg q]
  have fA : ∀ a, a ≠ 128 → a ≠ 169 → a ≠ 157 → a ≠ 160 → a ≠ 161 → a ≠ 163 → a ≠ 164 → a ≠ 165 → a ≠ 166 → a ≠ 167 → A' a = m_I M a := fun a h1 h2 h3 h4 h5 h6 h7 h8 h9 h10 => by rw [e3 a h3 h4 h5 h6 h7 h8 h9 h10, up_fr h2, up_fr h1]
  have h53 : A' 128 53 = nI s.2.2.1.1 := by rw [f128, if_neg (by omega)]; exact m5
  have bf : ∀ {b : Bk} {r : Nat} {v : Int32}, BkM s.2.1 b r A' B' → BkM s.2.1 b r (m_up A' 168 (1 + i) v) B' := fun {b r v} h => by
    obtain ⟨b1, b2, b3⟩ := h
    refine ⟨b1.congr (up_fr (by omega)) (up_fr (by omega)) (up_fr (by omega)) rfl rfl rfl, ?_, ?_⟩
    · rw [up_fr (by omega)]; exact b2
    · rw [up_fr (by omega), up_fr (by omega), up_fr (by omega), up_fr (by omega)]; exact b3
  have bound : ∀ j, j < 4 → ∀ b, s.2.2.2.2 j = some b → b.2.2.2.1 ≤ 20 := fun j hj b hb => (hp.2.2.2.2 j hj b hb).2.2.1
  refine ⟨m_w2 M (m_up A' 168 (1 + i) (nI s.2.2.1.1)) B', ?_, ⟨⟨m0.cong (fun a h1 h2 => by rw [w2_I, up_fr (by omega), fA a (by omega) (by omega) (by omega) (by omega) (by omega) (by omega) (by omega) (by omega) (by omega) (by omega)]) ?_ ?_, ?_⟩, ⟨?_, ?_⟩, ⟨bf (e6 _ _ 0 (by omega) (by omega) hs lv (bm0 m4)), ?_⟩, ⟨?_, fun j hj => ?_⟩, fun j hj => ?_⟩, frM_w2 hG (fun a ha => ⟨?_, e4 a (by omega) (by omega) (by omega) (by omega)⟩)⟩
  · have w : F_X12_within (nI i) (0 : Int32) (3 : Int32) (m_w2 M (m_up (m_I M) 128 0 0) (m_L M)) = some (nI 1, m_w2 M (m_up (m_I M) 128 0 0) (m_L M)) := by
      have e := S_within (M := m_w2 M (m_up (m_I M) 128 0 0) (m_L M)) (k := i) (a := 0) (b := 3) (by omega) (by omega) (by omega)
      rw [show bI (decide (0 ≤ i) && decide (i ≤ 3)) = nI 1 from by rw [decide_eq_true (Nat.zero_le i), decide_eq_true (show i ≤ 3 by omega)]; rfl] at e
      exact e
    unfold F_X12_mark
    rw [x_pI_ok (by simp only [gK hG]), e0, x_bd_ok w, if_neg (by decide), m_let_eq, if_pos (by decide)]
    dsimp only
    rw [m_let_eq, x_gN_ok (K0 _ _) (R61 _ _), x_sI_ok (K169 _ _) (by rw [L169]; omega) (by omega), w2_sI, if_pos (by decide)]
    dsimp only
    rw [m_let_eq, if_pos (by decide)]
    dsimp only
    have e1' : F_X12_laysTold 128 (0 : Int32) (nI (1 + i)) (m_w2 M (m_up (m_up (m_I M) 128 0 0) 169 i 1) (m_L M)) = _ := e1
    have e2' : F_X12_laysRest 128 (0 : Int32) (nI (1 + i)) (m_w2 M A1 B1) = _ := e2
    rw [show (1 : Int32) + nI i = nI (1 + i) from nI_add 1 i, show vp_nar .boolean (1 : Int32) = 1 from by decide, x_cV_ok (K0 _ _) e1', x_cV_ok (K0 _ _) e2', if_pos (by decide), x_gN_ok (K0 _ _) (R60 _ _), x_gI_ok (K0 _ _), w2_I, h53, x_sI_ok (K168 _ _) (by rw [L168]; omega) (by omega), w2_sI]
    rfl
  · rw [w2_I, up_fr (by omega), f128, if_neg (by omega)]
  · rw [w2_I, up_fr (by omega), f128, if_neg (by omega)]
  · unfold NmM
    rw [w2_L, e4 131 (by omega) (by omega) (by omega) (by omega), e4 132 (by omega) (by omega) (by omega) (by omega)]; exact m1
  · rw [w2_I, up_fr (by omega), f128, if_neg (by omega)]; exact m2
  · rw [w2_I, up_fr (by omega), fA 129 (by omega) (by omega) (by omega) (by omega) (by omega) (by omega) (by omega) (by omega) (by omega) (by omega)]; exact m3
  · rw [w2_I, up_fr (by omega)]; exact h53
  · rw [w2_I, up_fr (by omega), f128, if_neg (by omega)]; exact m6
  · have tf : TlM s.2.1 (s.2.2.2.1.2 j) (5 + j) A' B' := e7 _ _ (5 + j) (by omega) ((m7 j hj).congr (by rw [up_fr (by omega), up_fr (by omega)]) (by rw [up_fr (by omega), up_fr (by omega)]) (by rw [up_fr (by omega), up_fr (by omega)]) rfl rfl rfl)
    exact tf.congr (A' := m_up A' 168 (1 + i) (nI s.2.2.1.1)) (up_fr (by omega)) (up_fr (by omega)) (up_fr (by omega)) rfl rfl rfl
  · rw [w2_I, up_fr (by omega), e3 169 (by omega) (by omega) (by omega) (by omega) (by omega) (by omega) (by omega) (by omega)]
    show _ = bI (if j = i then some s.2.2.1 else s.2.2.2.2 j).isSome ∧ ∀ b, (if j = i then some s.2.2.1 else s.2.2.2.2 j) = some b → _
    by_cases q : j = i
    · rw [if_pos q, up_at, if_pos ⟨rfl, q⟩]
      refine ⟨rfl, fun b hb => ?_⟩
      cases hb
      rw [q]
      exact ⟨bf (e5 _ _ hs lv (bm0 m4)), by rw [up_at, if_pos ⟨rfl, rfl⟩]⟩
    · rw [if_neg q, up_at, if_neg (fun z => q z.2), up_fr (by omega)]
      refine ⟨(m8 j hj).1, fun b hb => ⟨bf (e6 _ _ (1 + j) (by omega) (by omega) (bound j hj b hb) lv (bm0 ((m8 j hj).2 b hb).1)), ?_⟩⟩
      rw [up_at, if_neg (by omega), fA 168 (by omega) (by omega) (by omega) (by omega) (by omega) (by omega) (by omega) (by omega) (by omega) (by omega)]
      exact ((m8 j hj).2 b hb).2
  · rw [up_fr (by omega), fA a (by omega) (by omega) (by omega) (by omega) (by omega) (by omega) (by omega) (by omega) (by omega) (by omega)]
theorem M_back (hG : G M) (hp : PI s) (hm : MI s M) {i : Nat} (hi : i < 4) {b : Bk} (hb : s.2.2.2.2 i = some b) {x : Int32} (hx : x ≠ 0) : ∃ M', F_X12_mark 128 (nI i) x M = some (nI 1, M') ∧ MI (stBack s b) M' ∧ frM M M' := by
  obtain ⟨K0, R60, R61, K168, L168, K169, L169⟩ := M_mcells hG
  obtain ⟨⟨m0, m1⟩, ⟨m2, m3⟩, ⟨m4, m5⟩, ⟨m6, m7⟩, m8⟩ := hm
  have lv : lH s.2.1 3 ≤ 6 := by have := hp.1; unfold lOk at this; omega
  have h169 : m_I M 169 i = 1 := by rw [(m8 i hi).1, hb]; rfl
  have bm0 : ∀ {b : Bk} {r : Nat}, BkM s.2.1 b r (m_I M) (m_L M) → BkM s.2.1 b r (m_up (m_up (m_I M) 128 0 0) 169 i 1) (m_L M) := fun {b r} h => by
    obtain ⟨b1, b2, b3⟩ := h
    refine ⟨b1.congr (by rw [up_fr (by omega), up_fr (by omega)]) (by rw [up_fr (by omega), up_fr (by omega)]) (by rw [up_fr (by omega), up_fr (by omega)]) rfl rfl rfl, ?_, ?_⟩
    · rw [up_fr (by omega), up_fr (by omega)]; exact b2
    · rw [up_fr (by omega), up_fr (by omega), up_fr (by omega), up_fr (by omega), up_fr (by omega), up_fr (by omega), up_fr (by omega), up_fr (by omega)]; exact b3
  obtain ⟨A1, B1, A', B', e1, e2, e3, e4, e5, e6, e7⟩ := S_book hG (A := m_up (m_up (m_I M) 128 0 0) 169 i 1) (B := m_L M) (r := 1 + i) (q := 0) (by omega) (by omega) (by omega)
  have e0 : m_sI M 128 0 (0 : Int32) = m_w2 M (m_up (m_I M) 128 0 0) (m_L M) := Eq.trans rfl rfl
  have f128 : ∀ j, A' 128 j = if j = 0 then 0 else m_I M 128 j := fun j => by
    rw [e3 128 (by omega) (by omega) (by omega) (by omega) (by omega) (by omega) (by omega) (by omega), up_fr (by omega), up_at]
    by_cases q : j = 0
    · rw [if_pos ⟨rfl, q⟩, if_pos q]
    · rw [if_neg (fun z => q z.2), if_neg q]
  have fA : ∀ a, a ≠ 128 → a ≠ 169 → a ≠ 157 → a ≠ 160 → a ≠ 161 → a ≠ 163 → a ≠ 164 → a ≠ 165 → a ≠ 166 → a ≠ 167 → A' a = m_I M a := fun a h1 h2 h3 h4 h5 h6 h7 h8 h9 h10 => by rw [e3 a h3 h4 h5 h6 h7 h8 h9 h10, up_fr h2, up_fr h1]
  have h168 : A' 168 (1 + i) = nI b.1 := by
    rw [fA 168 (by omega) (by omega) (by omega) (by omega) (by omega) (by omega) (by omega) (by omega) (by omega) (by omega)]
    exact ((m8 i hi).2 b hb).2
  have g128 : ∀ j, j ≠ 0 → j ≠ 53 → j ≠ 52 → m_up (m_up A' 128 53 (nI b.1)) 128 52 (nI 0) 128 j = m_I M 128 j := fun j h1 h2 h3 => by rw [up_at, if_neg (fun z => h3 z.2), up_at, if_neg (fun z => h2 z.2), f128, if_neg h1]
  have bf : ∀ {b' : Bk} {r : Nat}, BkM s.2.1 b' r A' B' → BkM s.2.1 b' r (m_up (m_up A' 128 53 (nI b.1)) 128 52 (nI 0)) B' := fun {b' r} h => by
    obtain ⟨b1, b2, b3⟩ := h
    refine ⟨b1.congr (by rw [up_fr (by omega), up_fr (by omega)]) (by rw [up_fr (by omega), up_fr (by omega)]) (by rw [up_fr (by omega), up_fr (by omega)]) rfl rfl rfl, ?_, ?_⟩
    · rw [up_fr (by omega), up_fr (by omega)]; exact b2
    · rw [up_fr (by omega), up_fr (by omega), up_fr (by omega), up_fr (by omega), up_fr (by omega), up_fr (by omega), up_fr (by omega), up_fr (by omega)]; exact b3
  have bound : ∀ j, j < 4 → ∀ b, s.2.2.2.2 j = some b → b.2.2.2.1 ≤ 20 := fun j hj b hb => (hp.2.2.2.2 j hj b hb).2.2.1
  refine ⟨m_w2 M (m_up (m_up A' 128 53 (nI b.1)) 128 52 (nI 0)) B', ?_, ⟨⟨m0.cong (fun a h1 h2 => by rw [w2_I, up_fr (by omega), up_fr (by omega), fA a (by omega) (by omega) (by omega) (by omega) (by omega) (by omega) (by omega) (by omega) (by omega) (by omega)]) ?_ ?_, ?_⟩, ⟨?_, ?_⟩, ⟨bf (e5 _ _ (bound i hi b hb) lv (bm0 ((m8 i hi).2 b hb).1)), ?_⟩, ⟨?_, fun j hj => absurd hj (Nat.not_lt_zero _)⟩, fun j hj => ?_⟩, frM_w2 hG (fun a ha => ⟨?_, e4 a (by omega) (by omega) (by omega) (by omega)⟩)⟩
  · have w : F_X12_within (nI i) (0 : Int32) (3 : Int32) (m_w2 M (m_up (m_I M) 128 0 0) (m_L M)) = some (nI 1, m_w2 M (m_up (m_I M) 128 0 0) (m_L M)) := by
      have e := S_within (M := m_w2 M (m_up (m_I M) 128 0 0) (m_L M)) (k := i) (a := 0) (b := 3) (by omega) (by omega) (by omega)
      rw [show bI (decide (0 ≤ i) && decide (i ≤ 3)) = nI 1 from by rw [decide_eq_true (Nat.zero_le i), decide_eq_true (show i ≤ 3 by omega)]; rfl] at e
      exact e
    unfold F_X12_mark
    rw [x_pI_ok (by simp only [gK hG]), e0, x_bd_ok w, if_neg (by decide), m_let_eq, if_neg hx, x_gN_ok (K0 _ _) (R61 _ _), x_aI_ok (K169 _ _) (by rw [L169]; omega) (by omega), w2_I, up_fr (by omega), h169, if_neg (by decide)]
    dsimp only
    rw [m_let_eq, x_gN_ok (K0 _ _) (R61 _ _), x_sI_ok (K169 _ _) (by rw [L169]; omega) (by omega), w2_sI, if_neg hx]
    dsimp only
    rw [m_let_eq, if_neg hx]
    dsimp only
    have e1' : F_X12_laysTold 128 (nI (1 + i)) (0 : Int32) (m_w2 M (m_up (m_up (m_I M) 128 0 0) 169 i 1) (m_L M)) = _ := e1
    have e2' : F_X12_laysRest 128 (nI (1 + i)) (0 : Int32) (m_w2 M A1 B1) = _ := e2
    rw [show (1 : Int32) + nI i = nI (1 + i) from nI_add 1 i, show vp_nar .boolean (1 : Int32) = 1 from by decide, x_cV_ok (K0 _ _) e1', x_cV_ok (K0 _ _) e2', if_neg hx, x_gN_ok (K0 _ _) (R60 _ _), x_aI_ok (K168 _ _) (by rw [L168]; omega) (by omega), w2_I, h168, x_pI_ok (K0 _ _), w2_sI, x_pI_ok (K0 _ _), w2_sI]
    rfl
  · rw [w2_I, g128 42 (by omega) (by omega) (by omega)]
  · rw [w2_I, g128 43 (by omega) (by omega) (by omega)]
  · unfold NmM
    rw [w2_L, e4 131 (by omega) (by omega) (by omega) (by omega), e4 132 (by omega) (by omega) (by omega) (by omega)]; exact m1
  · rw [w2_I, g128 1 (by omega) (by omega) (by omega)]; exact m2
  · rw [w2_I, up_fr (by omega), up_fr (by omega), fA 129 (by omega) (by omega) (by omega) (by omega) (by omega) (by omega) (by omega) (by omega) (by omega) (by omega)]; exact m3
  · rw [w2_I, up_at, if_neg (by omega), up_at, if_pos ⟨rfl, rfl⟩]; rfl
  · rw [w2_I, up_at, if_pos ⟨rfl, rfl⟩]; rfl
  · rw [w2_I, up_fr (by omega), up_fr (by omega), e3 169 (by omega) (by omega) (by omega) (by omega) (by omega) (by omega) (by omega) (by omega), up_at]
    have h169' : (if (169 = 169 ∧ j = i) then (1 : Int32) else m_up (m_I M) 128 0 0 169 j) = bI (s.2.2.2.2 j).isSome := by
      by_cases q : j = i
      · rw [if_pos ⟨rfl, q⟩, q, hb]; rfl
      · rw [if_neg (fun z => q z.2), up_fr (by omega)]; exact (m8 j hj).1
    refine ⟨h169', fun b' hb' => ⟨bf (e6 _ _ (1 + j) (by omega) (by omega) (bound j hj b' hb') lv (bm0 ((m8 j hj).2 b' hb').1)), ?_⟩⟩
    rw [up_fr (by omega), up_fr (by omega), fA 168 (by omega) (by omega) (by omega) (by omega) (by omega) (by omega) (by omega) (by omega) (by omega) (by omega)]
    exact ((m8 j hj).2 b' hb').2
  · rw [up_fr (by omega), up_fr (by omega), fA a (by omega) (by omega) (by omega) (by omega) (by omega) (by omega) (by omega) (by omega) (by omega) (by omega)]
theorem O_mark0 {x y : Int32} (hx : x < 0 ∨ ∃ i, x = nI i ∧ i < 2147483648 ∧ (4 ≤ i ∨ (y ≠ 0 ∧ s.2.2.2.2 i = none))) : RO s (F_X11_mark 0 x y) (F_X12_mark 128 x y) := by
  refine ⟨nI 0, fun M h => ⟨⟨M, ?_, SC.rfl' M⟩, ⟨m_sI M 128 0 0, ?_, SC_thr M 0⟩⟩⟩
  · obtain ⟨hG, _, hc, _⟩ := h.split
    obtain ⟨K0, R9, K80, _⟩ := bk_cells hG
    obtain ⟨R10, K88, L88, R11, K89, L89⟩ := mk_cells hG
    unfold F_X11_mark
    rcases hx with hx | ⟨i, rfl, hi, hle⟩
    · rw [if_pos hx]; rfl
    · rw [if_neg (nI_pos hi)]
      by_cases q : 4 ≤ i
      · rw [if_pos (show (4 : Int32) ≤ nI i from nI_le (a := 4) q hi)]; rfl
      · obtain ⟨y0, hn⟩ : y ≠ 0 ∧ s.2.2.2.2 i = none := by rcases hle with z | z; exact absurd z q; exact z
        have e : m_I M 89 i = 0 := by rw [(hc.2.2.2.2 i (by omega)).1, hn]; rfl
        rw [if_neg (show ¬ (4 : Int32) ≤ nI i from nI_ge (b := 4) (by omega) (by omega)), m_let_eq, if_neg y0, x_gN_ok K0 R11, x_aI_ok K89 (by rw [L89]; omega) (by omega), e, if_pos (by decide)]
        rfl
  · obtain ⟨hG, _, _, hm⟩ := h.split
    have h1 := h.thr 0
    unfold F_X12_mark
    rw [x_pI_ok h.K0]
    rcases hx with hx | ⟨i, rfl, hi, hle⟩
    · have w : F_X12_within x (0 : Int32) (3 : Int32) (m_sI M 128 0 0) = some (nI 0, m_sI M 128 0 0) := S_within_neg (a := 0) hx (by omega)
      rw [x_bd_ok w, if_pos (by decide)]
      rfl
    · have w0 := S_within (M := m_sI M 128 0 0) (k := i) (a := 0) (b := 3) hi (by omega) (by omega)
      have w : F_X12_within (nI i) (0 : Int32) (3 : Int32) (m_sI M 128 0 0) = _ := w0
      rw [x_bd_ok w]
      by_cases q : 4 ≤ i
      · rw [show bI (decide (0 ≤ i) && decide (i ≤ 3)) = nI 0 from by rw [decide_eq_false (show ¬ i ≤ 3 by omega), Bool.and_false]; rfl, if_pos (by decide)]
        rfl
      · obtain ⟨y0, hn⟩ : y ≠ 0 ∧ s.2.2.2.2 i = none := by rcases hle with z | z; exact absurd z q; exact z
        have e : m_I (m_sI M 128 0 0) 169 i = 0 := by rw [sI_ne (by omega), (hm.2.2.2.2 i (by omega)).1, hn]; rfl
        rw [show bI (decide (0 ≤ i) && decide (i ≤ 3)) = nI 1 from by rw [decide_eq_true (Nat.zero_le i), decide_eq_true (show i ≤ 3 by omega)]; rfl, if_neg (by decide), m_let_eq, if_neg y0, x_gN_ok h1.K0 (r := 169) (by simp only [gR h1.1]), x_aI_ok (by simp only [gK h1.1]) (by simp only [gl h1.1]; omega) (by omega), e, if_pos (by decide)]
        rfl
theorem R_mark (hd : dB D s) (x y : Int32) : RUN D s (F_X11_mark 0 x y) (F_X12_mark 128 x y) := by
  rcases i_cases x with ⟨i, hi, rfl⟩ | hx
  · by_cases q : i < 4
    · by_cases y0 : y = 0
      · subst y0
        intro M h hk hN
        obtain ⟨hG, hp, hc, hm⟩ := h.split
        refine WO.run (s := s) ⟨nI 1, stMark s i, ?_, ⟨by have := hd.1; show s.2.2.1.1 ≤ D + 1000; omega, ?_⟩, fun M hG hp hc hk _ => ?_, fun M hG hp hm => M_mark hG hp hm q⟩ M h hk hN
        · obtain ⟨p1, p2, p3, p4, p5⟩ := hp
          refine ⟨p1, p2, p3, p4, fun j hj b hb => ?_⟩
          have hb' : (if j = i then some s.2.2.1 else s.2.2.2.2 j) = some b := hb
          by_cases z : j = i
          · rw [if_pos z] at hb'; cases hb'; exact p3
          · rw [if_neg z] at hb'; exact p5 j hj b hb'
        · intro j hj b hb
          have hb' : (if j = i then some s.2.2.1 else s.2.2.2.2 j) = some b := hb
          have := hd.1
          by_cases z : j = i
          · rw [if_pos z] at hb'; cases hb'; omega
          · rw [if_neg z] at hb'; have := hd.2 j hj b hb'; omega
        · obtain ⟨M', e1, e2, e3, e4, e5⟩ := C_mark hG hp hc hk q
          exact ⟨M', e1, e2, e3, by omega, e5⟩
      · cases hb : s.2.2.2.2 i with
        | none => exact (O_mark0 (.inr ⟨i, rfl, hi, .inr ⟨y0, hb⟩⟩)).run hd
        | some b =>
          intro M h hk hN
          obtain ⟨hG, hp, hc, hm⟩ := h.split
          refine WO.run (s := s) ⟨nI 1, stBack s b, ?_, ⟨by have := hd.2 i q b hb; show b.1 ≤ D + 1000; omega, fun j hj b hb => by have := hd.2 j hj b hb; omega⟩, fun M hG hp hc hk _ => ?_, fun M hG hp hm => M_back hG hp hm q hb y0⟩ M h hk hN
          · obtain ⟨p1, p2, p3, p4, p5⟩ := hp
            exact ⟨p1, p2, p5 i q b hb, fun j hj => absurd hj (Nat.not_lt_zero _), p5⟩
          · obtain ⟨M', e1, e2, e3, e4, e5⟩ := C_back hG hp hc hk q hb y0
            exact ⟨M', e1, e2, e3, by omega, e5⟩
    · exact (O_mark0 (.inr ⟨i, rfl, hi, .inl (by omega)⟩)).run hd
  · exact (O_mark0 (.inl hx)).run hd
end RMARK
