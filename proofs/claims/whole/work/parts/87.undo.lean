/-! undo -/
section UNDO
variable {M M' : m_M} {s : St} {D : Nat}
theorem hiK_R82 (hR : ∀ a, a ≠ 82 → m_R M' a = m_R M a) (hT : M'.1 = M.1) (hL : m_L M' = m_L M) (hI : ∀ a, a ≠ 80 → m_I M' a = m_I M a) : hiK M M' :=
  ⟨by unfold m_N; rw [hT]; exact Nat.le_refl _, fun a ha _ => ⟨by unfold m_T; rw [hT], hI a (by omega), by rw [hL], hR a (by omega)⟩⟩
theorem CI_undo (hc : CI s M) (h0 : 0 < s.2.2.2.1.1) (hR : ∀ a, a ≠ 82 → m_R M' a = m_R M a) (hT : M'.1 = M.1) (hL : m_L M' = m_L M) (hI : ∀ a, a ≠ 80 → m_I M' a = m_I M a) (i0 : m_I M' 80 0 = m_I M 80 0) (i3 : m_I M' 80 3 = m_I M 80 3) (i4 : m_I M' 80 4 = nI (s.2.2.2.1.1 - 1)) (ht : TlC s.2.1 (s.2.2.2.1.2 (s.2.2.2.1.1 - 1)) 80 M') : CI (stUn s) M' := by
  have hh := hiK_R82 hR hT hL hI
  have hK : ∀ a, m_K M' a = m_K M a ∧ m_len M' a = m_len M a := fun a => by
    unfold m_K m_len m_N m_T
    rw [hT]
    exact ⟨rfl, rfl⟩
  obtain ⟨⟨c0, c1, c2⟩, ⟨c3, c4⟩, ⟨b1, _, ⟨fr, q1, q2, q3⟩, q4, q5⟩, ⟨c6, c7, c8⟩, c9⟩ := hc
  refine ⟨⟨c0.cong (fun a _ h2 => hI a (by omega)), by rw [hL]; exact c1, by unfold NmC; rw [hL]; exact c2⟩, ⟨by rw [hI 0 (by omega)]; exact c3, by rw [hI 1 (by omega)]; exact c4⟩, ⟨by rw [i0]; exact b1, ht, ⟨fr, by rw [hR 80 (by omega)]; exact q1, fun q => by rw [(hK fr).1, (hK fr).2]; exact q2 q, fun f hf => (q3 f hf).hi hh⟩, by rw [i3]; exact q4, by rw [hI (80 + 4) (by omega)]; exact q5⟩, ⟨by show s.2.2.2.1.1 - 1 ≤ 12; omega, i4, ?_⟩, fun i hi => ⟨by rw [hI 89 (by omega)]; exact (c9 i hi).1, fun b hb => ((c9 i hi).2 b hb).congr hh hK (hI _ (by omega)) (hR _ (by omega)) (hR _ (by omega)) (hR _ (by omega)) (hI _ (by omega))⟩⟩
  rw [hI 85 (by omega), hI 86 (by omega), hR 87 (by omega)]
  intro j hj
  have hj' : j < s.2.2.2.1.1 - 1 := hj
  have e := (c8 j (by omega)).hi hh
  have e2 : unAt s.2.2.2.1 s.2.2.1.2.1 (j + 1) = unAt (stUn s).2.2.2.1 (stUn s).2.2.1.2.1 (j + 1) := by
    show (if j + 1 < s.2.2.2.1.1 then s.2.2.2.1.2 (j + 1) else s.2.2.1.2.1) = if j + 1 < s.2.2.2.1.1 - 1 then s.2.2.2.1.2 (j + 1) else s.2.2.2.1.2 (s.2.2.2.1.1 - 1)
    rw [if_pos (by omega)]
    by_cases q : j + 1 < s.2.2.2.1.1 - 1
    · rw [if_pos q]
    · rw [if_neg q, show j + 1 = s.2.2.2.1.1 - 1 by omega]
  rw [e2] at e
  exact e
theorem SyC.K {l : Ld} {y : Sy} {r : Nat} (h : SyC l y r M) : m_K M r = 6 := h.2.1
theorem C_undo (hG : G M) (hc : CI s M) (hk : RefK M) (h0 : 0 < s.2.2.2.1.1) (hb : (s.2.2.2.1.2 (s.2.2.2.1.1 - 1)).1.1 ≤ 12) : ∃ M', F_X11_undo 0 M = some (nI 1, M') ∧ CI (stUn s) M' ∧ frC M M' ∧ m_N M' ≤ m_N M + 8 ∧ RefK M' := by
  have hc' := hc
  obtain ⟨_, _, ⟨_, ht, _⟩, ⟨c6, c7, c8⟩, _⟩ := hc'
  obtain ⟨K0, R9, K80, R7, _, K82, L82, _⟩ := bk_cells hG
  have R10 : m_R M 80 10 = some 85 := by simp only [gR hG]
  have R11 : m_R M 80 11 = some 86 := by simp only [gR hG]
  have R12 : m_R M 80 12 = some 87 := by simp only [gR hG]
  have K85 : m_K M 85 = 12 := by simp only [gK hG]
  have K86 : m_K M 86 = 12 := by simp only [gK hG]
  have K87 : m_K M 87 = 16 := by simp only [gK hG]
  have L85 : m_len M 85 = 12 := by simp only [gl hG]
  have L86 : m_len M 86 = 12 := by simp only [gl hG]
  have L87 : m_len M 87 = 12 := by simp only [gl hG]
  have hd := c8 (s.2.2.2.1.1 - 1) (by omega)
  rw [show unAt s.2.2.2.1 s.2.2.1.2.1 (s.2.2.2.1.1 - 1 + 1) = s.2.2.1.2.1 from if_neg (by omega)] at hd
  obtain ⟨⟨t1, t2⟩, ⟨t3, t4⟩, t5, t6⟩ := ht
  have e4 : m_I (m_sI M 80 4 (nI (s.2.2.2.1.1 - 1))) 80 4 = nI (s.2.2.2.1.1 - 1) := by rw [mI_sI, if_pos ⟨rfl, rfl⟩]
  have f1 : ∀ a, a ≠ 80 → m_I (m_sI M 80 4 (nI (s.2.2.2.1.1 - 1))) a = m_I M a := fun a ha => sI_ne ha
  have g1 : ∀ j, j ≠ 4 → m_I (m_sI M 80 4 (nI (s.2.2.2.1.1 - 1))) 80 j = m_I M 80 j := fun j hj => by rw [mI_sI, if_neg (by omega)]
  have fin : ∀ M', F_X1_undoLast 80 M = some (nI 1, M') → F_X11_undo 0 M = some (nI 1, M') := by
    intro M' e
    unfold F_X11_undo
    rw [x_gN_ok K0 R9, x_cV_ok K80 e]
    rfl
  have start : ∀ o, (∀ d, d = m_I M 85 (s.2.2.2.1.1 - 1) → (if d = (0 : Int32) then (
    x_gN 1 (m_sI M 80 4 (nI (s.2.2.2.1.1 - 1))) 80 11 fun v6 =>
    x_gI 1 (m_sI M 80 4 (nI (s.2.2.2.1.1 - 1))) 80 4 fun v7 =>
    x_aI 12 (m_sI M 80 4 (nI (s.2.2.2.1.1 - 1))) v6 v7 fun v8 =>
    x_cV 1 (m_sI M 80 4 (nI (s.2.2.2.1.1 - 1))) 80 (F_X1_removeSaid 80 v8 (m_sI M 80 4 (nI (s.2.2.2.1.1 - 1)))) fun _ M2 =>
    some ((1 : Int32), M2)
  ) else
  if d = (1 : Int32) then (
    x_gN 1 (m_sI M 80 4 (nI (s.2.2.2.1.1 - 1))) 80 11 fun v9 =>
    x_gI 1 (m_sI M 80 4 (nI (s.2.2.2.1.1 - 1))) 80 4 fun v10 =>
    x_aI 12 (m_sI M 80 4 (nI (s.2.2.2.1.1 - 1))) v9 v10 fun v11 =>
    x_gN 1 (m_sI M 80 4 (nI (s.2.2.2.1.1 - 1))) 80 12 fun v12 =>
    x_gI 1 (m_sI M 80 4 (nI (s.2.2.2.1.1 - 1))) 80 4 fun v13 =>
    x_aN 16 (m_sI M 80 4 (nI (s.2.2.2.1.1 - 1))) v12 v13 fun v14 =>
    x_cV 1 (m_sI M 80 4 (nI (s.2.2.2.1.1 - 1))) 80 (F_X1_insertSaid 80 v11 v14 (m_sI M 80 4 (nI (s.2.2.2.1.1 - 1)))) fun v15 M3 =>
    some ((1 : Int32), M3)
  ) else
  x_gI 1 (m_sI M 80 4 (nI (s.2.2.2.1.1 - 1))) 80 2 fun v16 =>
  x_bd (F_J9_max_7cf53 (v16 - (1 : Int32)) (0 : Int32) (m_sI M 80 4 (nI (s.2.2.2.1.1 - 1)))) fun v17 M4 =>
  x_pI 1 M4 80 2 v17 fun M5 =>
  some ((1 : Int32), M5)) = o) → F_X1_undoLast 80 M = o := by
    intro o ho
    unfold F_X1_undoLast
    rw [x_gI_ok K80, c7, if_neg (show ¬ nI s.2.2.2.1.1 = (0 : Int32) from fun q => by have := (nI_eq (b := 0) (by omega) (by omega)).mp q; omega), x_gI_ok K80, c7, show nI s.2.2.2.1.1 - (1 : Int32) = nI (s.2.2.2.1.1 - 1) from nI_sub' (b := 1) (by omega), x_pI_ok K80, x_gN_ok (show m_K (m_sI M 80 4 (nI (s.2.2.2.1.1 - 1))) 80 = 1 from K80) (show m_R (m_sI M 80 4 (nI (s.2.2.2.1.1 - 1))) 80 10 = some 85 from R10), x_gI_ok (show m_K (m_sI M 80 4 (nI (s.2.2.2.1.1 - 1))) 80 = 1 from K80), e4, x_aI_ok (show m_K (m_sI M 80 4 (nI (s.2.2.2.1.1 - 1))) 85 = 12 from K85) (show s.2.2.2.1.1 - 1 < m_len M 85 by rw [L85]; omega) (by omega), f1 85 (by omega)]
    exact ho _ rfl
  have fr : ∀ {M'}, G M' → (∀ a, a ≠ 80 → m_I M' a = m_I M a) → m_L M' = m_L M → frC M M' := fun hG' hI hL => ⟨hG', fun a h1 h2 => ⟨hI a (by omega), by rw [hL]⟩⟩
  replace hd := hd.2
  rcases hd with ⟨d1, d2, d3, d4, d5⟩ | ⟨d1, d2, d3, p, d4, d5, d6, d7, x, d8, d9⟩ | ⟨d1, d2, d3, d4⟩
  · have hI : ∀ a, a ≠ 80 → m_I (m_sI (m_sI M 80 4 (nI (s.2.2.2.1.1 - 1))) 80 1 (nI (s.2.2.2.1.2 (s.2.2.2.1.1 - 1)).1.1)) a = m_I M a := fun a ha => by rw [sI_ne ha, sI_ne ha]
    have gI : ∀ j, j ≠ 1 → j ≠ 4 → m_I (m_sI (m_sI M 80 4 (nI (s.2.2.2.1.1 - 1))) 80 1 (nI (s.2.2.2.1.2 (s.2.2.2.1.1 - 1)).1.1)) 80 j = m_I M 80 j := fun j h1 h4 => by rw [mI_sI, if_neg (by omega), mI_sI, if_neg (by omega)]
    have hh := hiK_R82 (M := M) (M' := m_sI (m_sI M 80 4 (nI (s.2.2.2.1.1 - 1))) 80 1 (nI (s.2.2.2.1.2 (s.2.2.2.1.1 - 1)).1.1)) (fun _ _ => rfl) rfl rfl hI
    have e := S_removeSaid (M := m_sI M 80 4 (nI (s.2.2.2.1.1 - 1))) hG (p := (s.2.2.2.1.2 (s.2.2.2.1.1 - 1)).1.1) (c := (s.2.2.2.1.2 (s.2.2.2.1.1 - 1)).1.1) (Nat.le_refl _) (by omega) (by rw [g1 1 (by omega), t3, d2]) (fun i hi => by
      obtain ⟨r, r1, r2⟩ := t5 i (by omega)
      exact ⟨r, r1, r2.K⟩)
    rw [Nat.sub_self, mvR_0] at e
    refine ⟨m_sI (m_sI M 80 4 (nI (s.2.2.2.1.1 - 1))) 80 1 (nI (s.2.2.2.1.2 (s.2.2.2.1.1 - 1)).1.1), fin _ (start _ fun d hd => ?_), CI_undo (M' := m_sI (m_sI M 80 4 (nI (s.2.2.2.1.1 - 1))) 80 1 (nI (s.2.2.2.1.2 (s.2.2.2.1.1 - 1)).1.1)) hc h0 (fun _ _ => rfl) rfl rfl hI (gI 0 (by omega) (by omega)) (gI 3 (by omega) (by omega)) (by rw [mI_sI, if_neg (by omega), mI_sI, if_pos ⟨rfl, rfl⟩]) ⟨⟨by omega, by rw [← d5]; exact t2⟩, ⟨by rw [mI_sI, if_pos ⟨rfl, rfl⟩], by rw [gI 2 (by omega) (by omega), ← d5]; exact t4⟩, fun i hi => ?_, fun i hi => ?_⟩, fr hG hI rfl, by show m_N M ≤ m_N M + 8; omega, hk.same rfl rfl⟩
    · rw [hd, d1, if_pos (by decide), x_gN_ok (show m_K (m_sI M 80 4 (nI (s.2.2.2.1.1 - 1))) 80 = 1 from K80) (show m_R (m_sI M 80 4 (nI (s.2.2.2.1.1 - 1))) 80 11 = some 86 from R11), x_gI_ok (show m_K (m_sI M 80 4 (nI (s.2.2.2.1.1 - 1))) 80 = 1 from K80), e4, x_aI_ok (show m_K (m_sI M 80 4 (nI (s.2.2.2.1.1 - 1))) 86 = 12 from K86) (show s.2.2.2.1.1 - 1 < m_len M 86 by rw [L86]; omega) (by omega), f1 86 (by omega), d3, x_cV_ok (show m_K (m_sI M 80 4 (nI (s.2.2.2.1.1 - 1))) 80 = 1 from K80) e]
      rfl
    · obtain ⟨r, r1, r2⟩ := t5 i (by omega)
      rw [d4 i hi] at r2
      exact ⟨r, r1, r2.hi hh⟩
    · rw [← d5] at hi ⊢
      obtain ⟨r, r1, r2⟩ := t6 i hi
      exact ⟨r, r1, r2.hi hh⟩
  · have okx : m_K M x = 6 := d9.K
    have hR : ∀ a, a ≠ 82 → inR (m_R M) p s.2.2.1.2.1.1.1 x a = m_R M a := fun a ha => by
      funext y
      unfold inR
      rw [upR_at, if_neg (by omega), mvR_fr ha]
    have hin : ∀ y, inR (m_R M) p s.2.2.1.2.1.1.1 x 82 y = if y = p then some x else if p + 1 ≤ y ∧ y < s.2.2.1.2.1.1.1 + 1 then m_R M 82 (y - 1) else m_R M 82 y := fun y => by
      unfold inR
      rw [upR_at]
      by_cases q : y = p
      · rw [if_pos ⟨rfl, q⟩, if_pos q]
      · rw [if_neg (fun z => q z.2), if_neg q, mvR_at]
        by_cases z : p + 1 ≤ y ∧ y < s.2.2.1.2.1.1.1 + 1
        · rw [if_pos ⟨rfl, by omega, by omega⟩, if_pos z, show p + (y - (p + 1)) = y - 1 by omega]
        · rw [if_neg (by omega), if_neg z]
    have hI : ∀ a, a ≠ 80 → m_I (m_sI (m_xR (m_sI M 80 4 (nI (s.2.2.2.1.1 - 1))) (inR (m_R M) p s.2.2.1.2.1.1.1 x)) 80 1 (nI (s.2.2.1.2.1.1.1 + 1))) a = m_I M a := fun a ha => by rw [sI_ne ha, xR_I, sI_ne ha]
    have gI : ∀ j, j ≠ 1 → j ≠ 4 → m_I (m_sI (m_xR (m_sI M 80 4 (nI (s.2.2.2.1.1 - 1))) (inR (m_R M) p s.2.2.1.2.1.1.1 x)) 80 1 (nI (s.2.2.1.2.1.1.1 + 1))) 80 j = m_I M 80 j := fun j h1 h4 => by rw [mI_sI, if_neg (by omega), xR_I, mI_sI, if_neg (by omega)]
    have hh := hiK_R82 (M := M) (M' := m_sI (m_xR (m_sI M 80 4 (nI (s.2.2.2.1.1 - 1))) (inR (m_R M) p s.2.2.1.2.1.1.1 x)) 80 1 (nI (s.2.2.1.2.1.1.1 + 1))) hR rfl rfl hI
    have hle : s.2.2.1.2.1.1.1 < 12 := by omega
    have e := S_insertSaid (M := (m_sI M 80 4 (nI (s.2.2.2.1.1 - 1)))) (r := x) hG (p := p) (c := s.2.2.1.2.1.1.1) d4 hle (by rw [g1 1 (by omega), t3]) (fun i hi => by
      obtain ⟨r, r1, r2⟩ := t5 i (by omega)
      exact ⟨r, r1, r2.K⟩) okx
    refine ⟨(m_sI (m_xR (m_sI M 80 4 (nI (s.2.2.2.1.1 - 1))) (inR (m_R M) p s.2.2.1.2.1.1.1 x)) 80 1 (nI (s.2.2.1.2.1.1.1 + 1))), fin _ (start _ fun d hd => ?_), CI_undo (M' := (m_sI (m_xR (m_sI M 80 4 (nI (s.2.2.2.1.1 - 1))) (inR (m_R M) p s.2.2.1.2.1.1.1 x)) 80 1 (nI (s.2.2.1.2.1.1.1 + 1)))) hc h0 hR rfl rfl hI (gI 0 (by omega) (by omega)) (gI 3 (by omega) (by omega)) (by rw [mI_sI, if_neg (by omega), xR_I, mI_sI, if_pos ⟨rfl, rfl⟩]) ⟨⟨hb, by rw [← d3]; exact t2⟩, ⟨by rw [mI_sI, if_pos ⟨rfl, rfl⟩, d2], by rw [gI 2 (by omega) (by omega), ← d3]; exact t4⟩, fun i hi => ?_, fun i hi => ?_⟩, fr (show G (m_xR (m_sI M 80 4 (nI (s.2.2.2.1.1 - 1))) _) from G.xR hG (fun a ha _ _ _ => hR a ha)) hI rfl, by show m_N M ≤ m_N M + 8; omega, fun a ha hka i y hy => ?_⟩
    · rw [hd, d1, if_neg (by decide), if_pos (by decide), x_gN_ok (show m_K (m_sI M 80 4 (nI (s.2.2.2.1.1 - 1))) 80 = 1 from K80) (show m_R (m_sI M 80 4 (nI (s.2.2.2.1.1 - 1))) 80 11 = some 86 from R11), x_gI_ok (show m_K (m_sI M 80 4 (nI (s.2.2.2.1.1 - 1))) 80 = 1 from K80), e4, x_aI_ok (show m_K (m_sI M 80 4 (nI (s.2.2.2.1.1 - 1))) 86 = 12 from K86) (show s.2.2.2.1.1 - 1 < m_len M 86 by rw [L86]; omega) (by omega), f1 86 (by omega), d5, x_gN_ok (show m_K (m_sI M 80 4 (nI (s.2.2.2.1.1 - 1))) 80 = 1 from K80) (show m_R (m_sI M 80 4 (nI (s.2.2.2.1.1 - 1))) 80 12 = some 87 from R12), x_gI_ok (show m_K (m_sI M 80 4 (nI (s.2.2.2.1.1 - 1))) 80 = 1 from K80), e4, x_aN_ok (show m_K (m_sI M 80 4 (nI (s.2.2.2.1.1 - 1))) 87 = 16 from K87) (show s.2.2.2.1.1 - 1 < m_len M 87 by rw [L87]; omega) (by omega) (show m_R (m_sI M 80 4 (nI (s.2.2.2.1.1 - 1))) 87 (s.2.2.2.1.1 - 1) = some x from d8), x_cV_ok (show m_K (m_sI M 80 4 (nI (s.2.2.2.1.1 - 1))) 80 = 1 from K80) e]
      rfl
    · show ∃ r, inR (m_R M) p s.2.2.1.2.1.1.1 x 82 i = some r ∧ _
      rw [hin]
      by_cases q : i = p
      · rw [if_pos q, q]
        exact ⟨x, rfl, d9.hi hh⟩
      · rw [if_neg q]
        by_cases z : p + 1 ≤ i ∧ i < s.2.2.1.2.1.1.1 + 1
        · rw [if_pos z]
          obtain ⟨r, r1, r2⟩ := t5 (i - 1) (by omega)
          rw [d7 (i - 1) (by omega) (by omega), show i - 1 + 1 = i by omega] at r2
          exact ⟨r, r1, r2.hi hh⟩
        · rw [if_neg z]
          obtain ⟨r, r1, r2⟩ := t5 i (by omega)
          rw [d6 i (by omega)] at r2
          exact ⟨r, r1, r2.hi hh⟩
    · rw [← d3] at hi ⊢
      obtain ⟨r, r1, r2⟩ := t6 i hi
      exact ⟨r, (congrFun (hR (80 + 3) (by omega)) i).trans r1, r2.hi hh⟩
    · show 178 ≤ y ∧ m_K M y = 6
      have hka' : m_K M a = 16 := hka
      have hy' : inR (m_R M) p s.2.2.1.2.1.1.1 x a i = some y := hy
      by_cases q : a = 82
      · rw [q, hin] at hy'
        split at hy'
        · cases hy'
          exact ⟨d9.1, okx⟩
        · split at hy'
          · exact hk 82 (by omega) K82 _ _ hy'
          · exact hk 82 (by omega) K82 _ _ hy'
      · rw [hR a q] at hy'
        exact hk a ha hka' i y hy'
  · have hI : ∀ a, a ≠ 80 → m_I (m_sI (m_sI M 80 4 (nI (s.2.2.2.1.1 - 1))) 80 2 (nI (s.2.2.2.1.2 (s.2.2.2.1.1 - 1)).2.1)) a = m_I M a := fun a ha => by rw [sI_ne ha, sI_ne ha]
    have gI : ∀ j, j ≠ 2 → j ≠ 4 → m_I (m_sI (m_sI M 80 4 (nI (s.2.2.2.1.1 - 1))) 80 2 (nI (s.2.2.2.1.2 (s.2.2.2.1.1 - 1)).2.1)) 80 j = m_I M 80 j := fun j h1 h4 => by rw [mI_sI, if_neg (by omega), mI_sI, if_neg (by omega)]
    have hh := hiK_R82 (M := M) (M' := (m_sI (m_sI M 80 4 (nI (s.2.2.2.1.1 - 1))) 80 2 (nI (s.2.2.2.1.2 (s.2.2.2.1.1 - 1)).2.1))) (fun _ _ => rfl) rfl rfl hI
    refine ⟨(m_sI (m_sI M 80 4 (nI (s.2.2.2.1.1 - 1))) 80 2 (nI (s.2.2.2.1.2 (s.2.2.2.1.1 - 1)).2.1)), fin _ (start _ fun d hd => ?_), CI_undo (M' := (m_sI (m_sI M 80 4 (nI (s.2.2.2.1.1 - 1))) 80 2 (nI (s.2.2.2.1.2 (s.2.2.2.1.1 - 1)).2.1))) hc h0 (fun _ _ => rfl) rfl rfl hI (gI 0 (by omega) (by omega)) (gI 3 (by omega) (by omega)) (by rw [mI_sI, if_neg (by omega), mI_sI, if_pos ⟨rfl, rfl⟩]) ⟨⟨by rw [← d4]; exact t1, by omega⟩, ⟨by rw [gI 1 (by omega) (by omega), ← d4]; exact t3, by rw [mI_sI, if_pos ⟨rfl, rfl⟩]⟩, fun i hi => ?_, fun i hi => ?_⟩, fr hG hI rfl, by show m_N M ≤ m_N M + 8; omega, hk.same rfl rfl⟩
    · have mx : F_J9_max_7cf53 (nI (s.2.2.2.1.2 (s.2.2.2.1.1 - 1)).2.1) (0 : Int32) (m_sI M 80 4 (nI (s.2.2.2.1.1 - 1))) = some (nI (s.2.2.2.1.2 (s.2.2.2.1.1 - 1)).2.1, (m_sI M 80 4 (nI (s.2.2.2.1.1 - 1)))) := by
        unfold F_J9_max_7cf53
        rw [if_neg (nI_pos (by omega))]
      rw [hd, d1, if_neg (by decide), if_neg (by decide), x_gI_ok (show m_K (m_sI M 80 4 (nI (s.2.2.2.1.1 - 1))) 80 = 1 from K80), g1 2 (by omega), t4, d2, show nI ((s.2.2.2.1.2 (s.2.2.2.1.1 - 1)).2.1 + 1) - (1 : Int32) = nI (s.2.2.2.1.2 (s.2.2.2.1.1 - 1)).2.1 from nI_sub' (b := 1) (by omega), x_bd_ok mx, x_pI_ok (show m_K (m_sI M 80 4 (nI (s.2.2.2.1.1 - 1))) 80 = 1 from K80)]
      rfl
    · rw [← d4] at hi ⊢
      obtain ⟨r, r1, r2⟩ := t5 i hi
      exact ⟨r, r1, r2.hi hh⟩
    · obtain ⟨r, r1, r2⟩ := t6 i (by omega)
      rw [d3 i hi] at r2
      exact ⟨r, r1, r2.hi hh⟩
theorem O_undo0 (h0 : s.2.2.2.1.1 = 0) : RO s (F_X11_undo 0) (F_X12_undo 128) := by
  refine ⟨nI 0, fun M h => ⟨⟨M, ?_, SC.rfl' M⟩, ⟨m_sI M 128 0 0, ?_, SC_thr M 0⟩⟩⟩
  · obtain ⟨hG, _, hc, _⟩ := h.split
    obtain ⟨K0, R9, K80, _⟩ := bk_cells hG
    have c7 : m_I M 80 4 = nI 0 := by rw [hc.2.2.2.1.2.1, h0]
    have e : F_X1_undoLast 80 M = some (nI 0, M) := by
      unfold F_X1_undoLast
      rw [x_gI_ok K80, c7, if_pos (by decide)]
      rfl
    unfold F_X11_undo
    rw [x_gN_ok K0 R9, x_cV_ok K80 e]
    rfl
  · obtain ⟨hG, _, _, hm⟩ := h.split
    have m6 : m_I (m_sI M 128 0 0) 128 52 = nI 0 := by rw [mI_sI, if_neg (by omega), hm.2.2.2.1.1, h0]
    unfold F_X12_undo
    rw [x_pI_ok h.K0, x_gI_ok (show m_K (m_sI M 128 0 0) 128 = 10 from h.K0), m6, if_pos (by decide)]
    rfl
theorem R_undo (hd : dB D s) : RUN D s (F_X11_undo 0) (F_X12_undo 128) := by
  intro M h hk hN
  by_cases q : s.2.2.2.1.1 = 0
  · exact (O_undo0 q).run hd M h hk hN
  · obtain ⟨hG, hp, hc, hm⟩ := h.split
    have hu := hc.2.2.2.1.1
    have hb := (hm.2.2.2.1.2 (s.2.2.2.1.1 - 1) (by omega)).1.1
    refine WO.run (s := s) ⟨nI 1, stUn s, PI_undo hp (by omega), ⟨by have := hd.1; show s.2.2.1.1 ≤ D + 1000; omega, fun i hi b hb => by have := hd.2 i hi b hb; omega⟩, fun M hG _ hc hk _ => C_undo hG hc hk (by omega) hb, fun M hG _ hm => M_undo hG hm (by omega) hu⟩ M h hk hN
end UNDO
