/-! mark, the class's side: the state then -/
def stMark (s : St) (i : Nat) : St := (s.1, s.2.1, s.2.2.1, s.2.2.2.1, fun j => if j = i then some s.2.2.1 else s.2.2.2.2 j)
def stBack (s : St) (b : Bk) : St := (s.1, s.2.1, b, (0, s.2.2.2.1.2), s.2.2.2.2)
section CMARK
variable {M M' : m_M} {s : St}
theorem isBase_n {a : Nat} (h : isBase a) : a = 80 ∨ (96 ≤ a ∧ a ≤ 120 ∧ a % 8 = 0) := by unfold isBase at h; omega
theorem cpA_fr {A : IA} {a b c : Nat} (h1 : c ≠ a) (h2 : c ≠ a + 4) : cpA A a b c = A c := by
  unfold cpA
  rw [cpM_fr h2, up_fr h1, up_fr h1, up_fr h1, up_fr h1, up_fr h1]
theorem cpA_a {A : IA} {a b : Nat} (hab : a ≠ b) : cpA A a b a 0 = A b 0 ∧ cpA A a b a 1 = A b 1 ∧ cpA A a b a 2 = A b 2 ∧ cpA A a b a 3 = A b 3 ∧ cpA A a b a 4 = nI 0 := by
  unfold cpA
  rw [cpM_fr (by omega)]
  refine ⟨?_, ?_, ?_, ?_, ?_⟩
  · rw [up_at, if_neg (by omega), up_at, if_neg (by omega), up_at, if_neg (by omega), up_at, if_neg (by omega), up_at, if_pos ⟨rfl, rfl⟩]
  · rw [up_at, if_neg (by omega), up_at, if_neg (by omega), up_at, if_neg (by omega), up_at, if_pos ⟨rfl, rfl⟩]
  · rw [up_at, if_neg (by omega), up_at, if_neg (by omega), up_at, if_pos ⟨rfl, rfl⟩]
  · rw [up_at, if_neg (by omega), up_at, if_pos ⟨rfl, rfl⟩]
  · rw [up_at, if_pos ⟨rfl, rfl⟩]
theorem cpA_4 {A : IA} {a b j : Nat} (h : b + 4 ≠ a) (hj : j < 20) : cpA A a b (a + 4) j = A (b + 4) j := by
  unfold cpA
  rw [cpM_at, if_pos ⟨rfl, hj⟩, up_fr h, up_fr h, up_fr h, up_fr h, up_fr h]
theorem cpR_fr {R : Nat → Nat → Option Nat} {a b c : Nat} (h1 : c ≠ a) (h2 : c ≠ a + 2) (h3 : c ≠ a + 3) : cpR R a b c = R c := by
  funext j
  unfold cpR
  rw [cpM_fr h3, cpM_fr h2, upR_at, if_neg (fun z => h1 z.1)]
theorem cpR_a {R : Nat → Nat → Option Nat} {a b j : Nat} : cpR R a b a j = if j = 5 then R b 5 else R a j := by
  unfold cpR
  rw [cpM_fr (by omega), cpM_fr (by omega), upR_at]
  by_cases q : j = 5
  · rw [if_pos ⟨rfl, q⟩, if_pos q]
  · rw [if_neg (fun z => q z.2), if_neg q]
theorem cpR_2 {R : Nat → Nat → Option Nat} {a b j : Nat} (h : b + 2 ≠ a) : cpR R a b (a + 2) j = if j < 12 then R (b + 2) j else R (a + 2) j := by
  unfold cpR
  rw [cpM_fr (by omega), cpM_at]
  by_cases q : j < 12
  · rw [if_pos ⟨rfl, q⟩, if_pos q, upR_at, if_neg (by omega)]
  · rw [if_neg (fun z => q z.2), if_neg q, upR_at, if_neg (by omega)]
theorem cpR_3 {R : Nat → Nat → Option Nat} {a b j : Nat} (h : b + 3 ≠ a) (h2 : b + 3 ≠ a + 2) : cpR R a b (a + 3) j = if j < 4 then R (b + 3) j else R (a + 3) j := by
  unfold cpR
  rw [cpM_at]
  by_cases q : j < 4
  · rw [if_pos ⟨rfl, q⟩, if_pos q, cpM_fr h2, upR_at, if_neg (by omega)]
  · rw [if_neg (fun z => q z.2), if_neg q, cpM_fr (by omega), upR_at, if_neg (by omega)]
theorem g_Rl_bk : ∀ x ∈ g_Rl, x.1 < 178 ∧ ∀ a ∈ [80, 96, 104, 112, 120], (x.1 = a → x.2.1 ≠ 5) ∧ x.1 ≠ a + 2 ∧ x.1 ≠ a + 3 := by decide +kernel
theorem isBase_mem {a : Nat} (h : isBase a) : a ∈ [80, 96, 104, 112, 120] := by
  rcases h with rfl | rfl | rfl | rfl | rfl <;> decide
theorem G.cp (hG : G M) {a b : Nat} (ha : isBase a) {A : IA} : G (m_x3 M A (cpR (m_R M) a b)) := by
  refine ⟨hG.1, hG.2.1, fun x hx => ?_⟩
  obtain ⟨k0, k⟩ := g_Rl_bk x hx
  obtain ⟨k1, k2, k3⟩ := k a (isBase_mem ha)
  show cpR (m_R M) a b x.1 x.2.1 = _
  by_cases q : x.1 = a
  · rw [q, cpR_a, if_neg (k1 q), ← q]; exact hG.2.2 x hx
  · rw [cpR_fr q k2 k3]; exact hG.2.2 x hx
theorem hiK_cp {a b : Nat} (ha : isBase a) : hiK M (m_x3 M (cpA (m_I M) a b) (cpR (m_R M) a b)) := by
  have hn := isBase_n ha
  exact ⟨Nat.le_refl _, fun c hc _ => ⟨rfl, cpA_fr (by omega) (by omega), rfl, cpR_fr (by omega) (by omega) (by omega)⟩⟩
theorem RefK.cp (hG : G M) (hk : RefK M) {a b : Nat} {A : IA} (ha : isBase a) (hb : isBase b) (hab : a ≠ b) : RefK (m_x3 M A (cpR (m_R M) a b)) := by
  obtain ⟨a1, a2, a3, a4, a5, a6, a7, a8, a9, a10⟩ := bkc hG ha
  obtain ⟨b1, b2, b3, b4, b5, b6, b7, b8, b9, b10⟩ := bkc hG hb
  have hna := isBase_n ha
  have hnb := isBase_n hb
  intro c hc hkc i x hx
  have hkc' : m_K M c = 16 := hkc
  have hx' : cpR (m_R M) a b c i = some x := hx
  show 178 ≤ x ∧ m_K M x = 6
  by_cases q1 : c = a
  · rw [q1, a1] at hkc'
    omega
  · by_cases q2 : c = a + 2
    · rw [q2, cpR_2 (by omega)] at hx'
      split at hx'
      · exact hk (b + 2) (by omega) b5 i x hx'
      · exact hk (a + 2) (by omega) a5 i x hx'
    · by_cases q3 : c = a + 3
      · rw [q3, cpR_3 (by omega) (by omega)] at hx'
        split at hx'
        · exact hk (b + 3) (by omega) b7 i x hx'
        · exact hk (a + 3) (by omega) a7 i x hx'
      · rw [cpR_fr q1 q2 q3] at hx'
        exact hk c hc hkc' i x hx'
theorem BkC.cp {l : Ld} {bk : Bk} {a b : Nat} (h : BkC l bk b M) (hs : bk.2.2.2.1 ≤ 20) (ha : isBase a) (hb : isBase b) (hab : a ≠ b) : BkC l bk a (m_x3 M (cpA (m_I M) a b) (cpR (m_R M) a b)) := by
  have hh := hiK_cp (M := M) (b := b) ha
  have hna := isBase_n ha
  have hnb := isBase_n hb
  obtain ⟨e0, e1, e2, e3, e4⟩ := cpA_a (A := m_I M) hab
  obtain ⟨b1, ⟨t1, ⟨t2, t3⟩, t4, t5⟩, ⟨fr, q1, q2, q3⟩, q4, q5⟩ := h
  refine ⟨by rw [x3_I, e0]; exact b1, ⟨t1, ⟨by rw [x3_I, e1]; exact t2, by rw [x3_I, e2]; exact t3⟩, fun i hi => ?_, fun i hi => ?_⟩, ⟨fr, by rw [x3_R, cpR_a, if_pos rfl]; exact q1, q2, fun f hf => (q3 f hf).hi hh⟩, by rw [x3_I, e3]; exact q4, fun i hi => by rw [x3_I, cpA_4 (by omega) (by omega)]; exact q5 i hi⟩
  · obtain ⟨r, r1, r2⟩ := t4 i hi
    exact ⟨r, by rw [x3_R, cpR_2 (by omega), if_pos (by omega)]; exact r1, r2.hi hh⟩
  · obtain ⟨r, r1, r2⟩ := t5 i hi
    exact ⟨r, by rw [x3_R, cpR_3 (by omega) (by omega), if_pos (by omega)]; exact r1, r2.hi hh⟩
theorem bk_fr (hG : G M) {i : Nat} (hi : i < 4) : isBase (96 + 8 * i) ∧ m_R M 88 i = some (96 + 8 * i) := by
  have hc : i = 0 ∨ i = 1 ∨ i = 2 ∨ i = 3 := by omega
  rcases hc with rfl | rfl | rfl | rfl
  · exact ⟨by unfold isBase; omega, by simp only [gR hG]⟩
  · exact ⟨by unfold isBase; omega, by simp only [gR hG]⟩
  · exact ⟨by unfold isBase; omega, by simp only [gR hG]⟩
  · exact ⟨by unfold isBase; omega, by simp only [gR hG]⟩
theorem mk_cells (hG : G M) : m_R M 0 10 = some 88 ∧ m_K M 88 = 15 ∧ m_len M 88 = 4 ∧ m_R M 0 11 = some 89 ∧ m_K M 89 = 14 ∧ m_len M 89 = 4 := by
  refine ⟨?_, ?_, ?_, ?_, ?_, ?_⟩ <;> simp only [gK hG, gR hG, gl hG]
theorem C_mark (hG : G M) (hp : PI s) (hc : CI s M) (hk : RefK M) {i : Nat} (hi : i < 4) : ∃ M', F_X11_mark 0 (nI i) (nI 0) M = some (nI 1, M') ∧ CI (stMark s i) M' ∧ frC M M' ∧ m_N M' = m_N M ∧ RefK M' := by
  obtain ⟨K0, R9, K80, _⟩ := bk_cells hG
  obtain ⟨R10, K88, L88, R11, K89, L89⟩ := mk_cells hG
  obtain ⟨ha, hr⟩ := bk_fr hG hi
  have hb : isBase 80 := .inl rfl
  have hs : s.2.2.1.2.2.2.1 ≤ 20 := hp.2.2.1.2.2.1
  obtain ⟨c1, ⟨c3, c4⟩, c5, ⟨c6, c7, c8⟩, c9⟩ := hc
  obtain ⟨fr, q1, _⟩ := c5.2.2.1
  have e := S_copyFrom hG hk ha hb (by omega) q1
  have hh := hiK_cp (M := M) (b := 80) ha
  have cp := c5.cp hs ha hb (by omega)
  have hI : ∀ c, c < 96 → m_I (m_x3 M (cpA (m_I M) (96 + 8 * i) 80) (cpR (m_R M) (96 + 8 * i) 80)) c = m_I M c := fun c hc => by rw [x3_I, cpA_fr (by omega) (by omega)]
  have hR : ∀ c, c < 96 → m_R (m_x3 M (cpA (m_I M) (96 + 8 * i) 80) (cpR (m_R M) (96 + 8 * i) 80)) c = m_R M c := fun c hc => by rw [x3_R, cpR_fr (by omega) (by omega) (by omega)]
  have hG1 : G (m_x3 M (cpA (m_I M) (96 + 8 * i) 80) (cpR (m_R M) (96 + 8 * i) 80)) := hG.cp ha
  have hI2 : ∀ c, c ≠ 89 → m_I (m_sI (m_x3 M (cpA (m_I M) (96 + 8 * i) 80) (cpR (m_R M) (96 + 8 * i) 80)) 89 i 1) c = m_I (m_x3 M (cpA (m_I M) (96 + 8 * i) 80) (cpR (m_R M) (96 + 8 * i) 80)) c := fun c hc => sI_ne hc
  have hh2 : hiK M (m_sI (m_x3 M (cpA (m_I M) (96 + 8 * i) 80) (cpR (m_R M) (96 + 8 * i) 80)) 89 i 1) := hh.trans ⟨Nat.le_refl _, fun c hc _ => ⟨rfl, hI2 c (by omega), rfl, rfl⟩⟩
  refine ⟨m_sI (m_x3 M (cpA (m_I M) (96 + 8 * i) 80) (cpR (m_R M) (96 + 8 * i) 80)) 89 i 1, ?_, ⟨⟨c1.1.cong (fun a _ h2 => by rw [hI2 a (by omega), hI a (by omega)]), c1.2.1, c1.2.2⟩, ⟨by rw [hI2 0 (by omega), hI 0 (by omega)]; exact c3, by rw [hI2 1 (by omega), hI 1 (by omega)]; exact c4⟩, c5.congr hh2 (fun _ => ⟨rfl, rfl⟩) (by rw [hI2 80 (by omega), hI 80 (by omega)]) (hR 80 (by omega)) (hR 82 (by omega)) (hR 83 (by omega)) (by rw [hI2 (80 + 4) (by omega), hI (80 + 4) (by omega)]), ⟨c6, by rw [hI2 80 (by omega), hI 80 (by omega)]; exact c7, fun j hj => ?_⟩, fun j hj => ?_⟩, ⟨hG1, fun a h1 h2 => ⟨by rw [hI2 a (by omega), x3_I, cpA_fr (by omega) (by omega)], rfl⟩⟩, rfl, (hk.cp hG ha hb (by omega)).same (Eq.refl (m_R (m_x3 M (cpA (m_I M) (96 + 8 * i) 80) (cpR (m_R M) (96 + 8 * i) 80)))) rfl⟩
  · have e' : F_X1_copyFrom (96 + 8 * i) 80 M = _ := e
    unfold F_X11_mark
    rw [if_neg (nI_pos (by omega)), if_neg (show ¬ (4 : Int32) ≤ nI i from nI_ge (b := 4) (by omega) (by omega)), m_let_eq, if_pos (show nI 0 = 0 from by decide)]
    dsimp only
    rw [if_pos (show nI 0 = 0 from by decide), x_gN_ok K0 R10, x_aN_ok K88 (by rw [L88]; omega) (by omega) hr, x_gN_ok K0 R9, x_cV_ok (bkc hG ha).1 e', x_gN_ok (show m_K (m_x3 M (cpA (m_I M) (96 + 8 * i) 80) (cpR (m_R M) (96 + 8 * i) 80)) 0 = 9 from K0) (by rw [hR 0 (by omega)]; exact R11), x_sI_ok (show m_K (m_x3 M (cpA (m_I M) (96 + 8 * i) 80) (cpR (m_R M) (96 + 8 * i) 80)) 89 = 14 from K89) (by rw [x3_n, L89]; omega) (by omega)]
    rfl
  · rw [hI2 85 (by omega), hI2 86 (by omega), hI 85 (by omega), hI 86 (by omega)]
    rw [show m_R (m_sI (m_x3 M (cpA (m_I M) (96 + 8 * i) 80) (cpR (m_R M) (96 + 8 * i) 80)) 89 i 1) 87 = m_R M 87 from hR 87 (by omega)]
    exact (c8 j hj).hi hh2
  · show m_I _ 89 j = bI (if j = i then some s.2.2.1 else s.2.2.2.2 j).isSome ∧ ∀ b, (if j = i then some s.2.2.1 else s.2.2.2.2 j) = some b → _
    by_cases q : j = i
    · rw [if_pos q, mI_sI, if_pos ⟨rfl, q⟩]
      refine ⟨rfl, fun b hb' => ?_⟩
      cases hb'
      rw [q]
      exact cp.congr ⟨Nat.le_refl _, fun c hc _ => ⟨rfl, hI2 c (by omega), rfl, rfl⟩⟩ (fun _ => ⟨rfl, rfl⟩) (hI2 _ (by omega)) rfl rfl rfl (hI2 _ (by omega))
    · rw [if_neg q, mI_sI, if_neg (fun z => q z.2), hI 89 (by omega)]
      refine ⟨(c9 j hj).1, fun b hb' => ((c9 j hj).2 b hb').congr hh2 (fun _ => ⟨rfl, rfl⟩) (by rw [hI2 _ (by omega), x3_I, cpA_fr (by omega) (by omega)]) ?_ ?_ ?_ (by rw [hI2 _ (by omega), x3_I, cpA_fr (by omega) (by omega)])⟩
      · show cpR _ _ _ _ = _
        rw [cpR_fr (by omega) (by omega) (by omega)]
      · show cpR _ _ _ _ = _
        rw [cpR_fr (by omega) (by omega) (by omega)]
      · show cpR _ _ _ _ = _
        rw [cpR_fr (by omega) (by omega) (by omega)]
theorem C_back (hG : G M) (hp : PI s) (hc : CI s M) (hk : RefK M) {i : Nat} (hi : i < 4) {b : Bk} (hb : s.2.2.2.2 i = some b) {x : Int32} (hx : x ≠ 0) : ∃ M', F_X11_mark 0 (nI i) x M = some (nI 1, M') ∧ CI (stBack s b) M' ∧ frC M M' ∧ m_N M' = m_N M ∧ RefK M' := by
  obtain ⟨K0, R9, K80, _⟩ := bk_cells hG
  obtain ⟨R10, K88, L88, R11, K89, L89⟩ := mk_cells hG
  obtain ⟨ha, hr⟩ := bk_fr hG hi
  have h80 : isBase 80 := .inl rfl
  have hs : b.2.2.2.1 ≤ 20 := (hp.2.2.2.2 i hi b hb).2.2.1
  obtain ⟨c1, ⟨c3, c4⟩, c5, ⟨c6, c7, c8⟩, c9⟩ := hc
  have hbk := (c9 i hi).2 b hb
  have h89 : m_I M 89 i = 1 := by rw [(c9 i hi).1, hb]; rfl
  obtain ⟨fr, q1, _⟩ := hbk.2.2.1
  have e := S_copyFrom hG hk h80 ha (by omega) q1
  have hh := hiK_cp (M := M) (b := 96 + 8 * i) h80
  have cp := hbk.cp hs h80 ha (by omega)
  have hI : ∀ c, c ≠ 80 → c ≠ 84 → m_I (m_x3 M (cpA (m_I M) 80 (96 + 8 * i)) (cpR (m_R M) 80 (96 + 8 * i))) c = m_I M c := fun c h1 h2 => by rw [x3_I, cpA_fr (by omega) (by omega)]
  have hR : ∀ c, c ≠ 80 → c ≠ 82 → c ≠ 83 → m_R (m_x3 M (cpA (m_I M) 80 (96 + 8 * i)) (cpR (m_R M) 80 (96 + 8 * i))) c = m_R M c := fun c h1 h2 h3 => by rw [x3_R, cpR_fr (by omega) (by omega) (by omega)]
  refine ⟨m_x3 M (cpA (m_I M) 80 (96 + 8 * i)) (cpR (m_R M) 80 (96 + 8 * i)), ?_, ⟨⟨c1.1.cong (fun a _ h2 => hI a (by omega) (by omega)), c1.2.1, c1.2.2⟩, ⟨by rw [hI 0 (by omega) (by omega)]; exact c3, by rw [hI 1 (by omega) (by omega)]; exact c4⟩, cp, ⟨Nat.zero_le _, by rw [x3_I]; exact (cpA_a (by omega)).2.2.2.2, fun j hj => absurd hj (Nat.not_lt_zero _)⟩, fun j hj => ⟨by rw [hI 89 (by omega) (by omega)]; exact (c9 j hj).1, fun b hb => ((c9 j hj).2 b hb).congr hh (fun _ => ⟨rfl, rfl⟩) (hI _ (by omega) (by omega)) (hR _ (by omega) (by omega) (by omega)) (hR _ (by omega) (by omega) (by omega)) (hR _ (by omega) (by omega) (by omega)) (hI _ (by omega) (by omega))⟩⟩, ⟨hG.cp h80, fun a h1 h2 => ⟨hI a (by omega) (by omega), rfl⟩⟩, rfl, hk.cp hG h80 ha (by omega)⟩
  have e' : F_X1_copyFrom 80 (96 + 8 * i) M = _ := e
  unfold F_X11_mark
  rw [if_neg (nI_pos (by omega)), if_neg (show ¬ (4 : Int32) ≤ nI i from nI_ge (b := 4) (by omega) (by omega)), m_let_eq, if_neg hx, x_gN_ok K0 R11, x_aI_ok K89 (by rw [L89]; omega) (by omega), h89, if_neg (by decide)]
  dsimp only
  rw [if_neg hx, x_gN_ok K0 R9, x_gN_ok K0 R10, x_aN_ok K88 (by rw [L88]; omega) (by omega) hr, x_cV_ok K80 e']
  rfl
end CMARK
