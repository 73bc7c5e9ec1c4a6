/-! say, order: the class's side -/
def adT (t : Tl) (y : Sy) : Tl := ((t.1.1 + 1, fun j => if j = t.1.1 then y else t.1.2 j), t.2)
def adO (t : Tl) (y : Sy) : Tl := (t.1, (t.2.1 + 1, fun j => if j = t.2.1 then y else t.2.2 j))
section TELL
variable {M M' : m_M} {s : St} {D : Nat}
theorem CIm_of {t : Tl} (hc : CI s M) (hR : ∀ a, a ≠ 82 → a ≠ 83 → m_R M' a = m_R M a) (hT : M'.1 = M.1) (hL : m_L M' = m_L M) (hI : ∀ a, a ≠ 80 → m_I M' a = m_I M a) (i80 : ∀ j, j ≠ 1 → j ≠ 2 → m_I M' 80 j = m_I M 80 j) (ht : TlC s.2.1 t 80 M') : CIm s t M' := by
  have hh : hiK M M' := ⟨by unfold m_N; rw [hT]; exact Nat.le_refl _, fun a ha _ => ⟨by unfold m_T; rw [hT], hI a (by omega), by rw [hL], hR a (by omega) (by omega)⟩⟩
  have hK : ∀ a, m_K M' a = m_K M a ∧ m_len M' a = m_len M a := fun a => by
    unfold m_K m_len m_N m_T
    rw [hT]
    exact ⟨rfl, rfl⟩
  obtain ⟨⟨c0, c1, c2⟩, ⟨c3, c4⟩, ⟨b1, _, ⟨fr, q1, q2, q3⟩, q4, q5⟩, ⟨c6, c7, c8⟩, c9⟩ := hc
  refine ⟨⟨c0.cong (fun a _ h2 => hI a (by omega)), by rw [hL]; exact c1, by unfold NmC; rw [hL]; exact c2⟩, ⟨by rw [hI 0 (by omega)]; exact c3, by rw [hI 1 (by omega)]; exact c4⟩, ⟨by rw [i80 0 (by omega) (by omega)]; exact b1, ht, ⟨fr, by rw [hR 80 (by omega) (by omega)]; exact q1, fun q => by rw [(hK fr).1, (hK fr).2]; exact q2 q, fun f hf => (q3 f hf).hi hh⟩, by rw [i80 3 (by omega) (by omega)]; exact q4, by rw [hI (80 + 4) (by omega)]; exact q5⟩, ⟨c6, by rw [i80 4 (by omega) (by omega)]; exact c7, ?_⟩, fun i hi => ⟨by rw [hI 89 (by omega)]; exact (c9 i hi).1, fun b hb => ((c9 i hi).2 b hb).congr hh hK (hI _ (by omega)) (hR _ (by omega) (by omega)) (hR _ (by omega) (by omega)) (hR _ (by omega) (by omega)) (hI _ (by omega))⟩⟩
  rw [hI 85 (by omega), hI 86 (by omega), hR 87 (by omega) (by omega)]
  exact fun j hj => (c8 j hj).hi hh
theorem C_today2 (hG : G M) (hc : CI s M) (ho : lOk s.2.1) (hd : s.2.2.1.1 < 2147483648) : F_X11_verbToday 0 M = some (iO (vOf s.2.1 s.2.2.1.1), M) := by
  have K0 : m_K M 0 = 9 := by simp only [gK hG]
  have R2 : m_R M 0 2 = some 2 := by simp only [gR hG]
  have R9 : m_R M 0 9 = some 80 := by simp only [gR hG]
  have K80 : m_K M 80 = 1 := by simp only [gK hG]
  have K2 : m_K M 2 = 3 := by simp only [gK hG]
  unfold F_X11_verbToday
  rw [x_gN_ok K0 R2, x_gN_ok K0 R9, x_gI_ok K80, hc.2.2.1.1, x_cV_ok K2 (S_verbOfC hG hc.1.1 ho hd)]
/-- what is told, told -/
theorem C_tell (hG : G M) (hc : CI s M) (hk : RefK M) {y : Sy} {r : Nat} (hy : SyC s.2.1 y r M) (h12 : s.2.2.1.2.1.1.1 < 12) : ∃ M', F_X1_tell 80 r M = some ((), M') ∧ CI (stTell s (adT s.2.2.1.2.1 y)) M' ∧ frC M M' ∧ m_N M' = m_N M ∧ RefK M' := by
  have hc' := hc
  obtain ⟨_, _, ⟨_, ht, _⟩, _⟩ := hc'
  obtain ⟨K0, R9, K80, R7, _, K82, L82, _⟩ := bk_cells hG
  obtain ⟨⟨t1, t2⟩, ⟨t3, t4⟩, t5, t6⟩ := ht
  have e := S_insertSaid hG (p := s.2.2.1.2.1.1.1) (c := s.2.2.1.2.1.1.1) (r := r) (Nat.le_refl _) h12 t3 (fun i hi => by
    obtain ⟨x, x1, x2⟩ := t5 i hi
    exact ⟨x, x1, x2.K⟩) hy.K
  have er : inR (m_R M) s.2.2.1.2.1.1.1 s.2.2.1.2.1.1.1 r = m_up (m_R M) 82 s.2.2.1.2.1.1.1 (some r) := by
    unfold inR
    rw [Nat.sub_self, mvR_0]
  rw [er] at e
  have hR : ∀ a, a ≠ 82 → m_R (m_sI (m_xR M (m_up (m_R M) 82 s.2.2.1.2.1.1.1 (some r))) 80 1 (nI (s.2.2.1.2.1.1.1 + 1))) a = m_R M a := fun a ha => by
    funext j
    show m_up (m_R M) 82 _ _ a j = _
    rw [upR_at, if_neg (fun z => ha z.1)]
  have hI : ∀ a, a ≠ 80 → m_I (m_sI (m_xR M (m_up (m_R M) 82 s.2.2.1.2.1.1.1 (some r))) 80 1 (nI (s.2.2.1.2.1.1.1 + 1))) a = m_I M a := fun a ha => by rw [sI_ne ha, xR_I]
  have gI : ∀ j, j ≠ 1 → m_I (m_sI (m_xR M (m_up (m_R M) 82 s.2.2.1.2.1.1.1 (some r))) 80 1 (nI (s.2.2.1.2.1.1.1 + 1))) 80 j = m_I M 80 j := fun j hj => by rw [mI_sI, if_neg (fun z => hj z.2), xR_I]
  have hh := hiK_R82 (M := M) (M' := m_sI (m_xR M (m_up (m_R M) 82 s.2.2.1.2.1.1.1 (some r))) 80 1 (nI (s.2.2.1.2.1.1.1 + 1))) hR rfl rfl hI
  have hG1 : G (m_sI (m_xR M (m_up (m_R M) 82 s.2.2.1.2.1.1.1 (some r))) 80 1 (nI (s.2.2.1.2.1.1.1 + 1))) := by
    have : G (m_xR M (m_up (m_R M) 82 s.2.2.1.2.1.1.1 (some r))) := G.xR hG (fun a h1 _ _ _ => hR a h1)
    exact this
  have hk1 : RefK (m_sI (m_xR M (m_up (m_R M) 82 s.2.2.1.2.1.1.1 (some r))) 80 1 (nI (s.2.2.1.2.1.1.1 + 1))) := by
    intro a ha hka j x hx
    show 178 ≤ x ∧ m_K M x = 6
    have hx' : m_up (m_R M) 82 s.2.2.1.2.1.1.1 (some r) a j = some x := hx
    rw [upR_at] at hx'
    split at hx'
    · cases hx'
      exact ⟨hy.1, hy.K⟩
    · exact hk a ha hka j x hx'
  have cm : CIm s (adT s.2.2.1.2.1 y) (m_sI (m_xR M (m_up (m_R M) 82 s.2.2.1.2.1.1.1 (some r))) 80 1 (nI (s.2.2.1.2.1.1.1 + 1))) := by
    refine CIm_of hc (fun a h1 _ => hR a h1) rfl rfl hI (fun j h1 _ => gI j h1) ⟨⟨by show s.2.2.1.2.1.1.1 + 1 ≤ 12; omega, t2⟩, ⟨by rw [mI_sI, if_pos ⟨rfl, rfl⟩]; rfl, by rw [gI 2 (by omega)]; exact t4⟩, fun j hj => ?_, fun j hj => ?_⟩
    · have hj' : j < s.2.2.1.2.1.1.1 + 1 := hj
      show ∃ x, m_up (m_R M) 82 s.2.2.1.2.1.1.1 (some r) 82 j = some x ∧ SyC s.2.1 (if j = s.2.2.1.2.1.1.1 then y else s.2.2.1.2.1.1.2 j) x _
      rw [upR_at]
      by_cases q : j = s.2.2.1.2.1.1.1
      · rw [if_pos ⟨rfl, q⟩, if_pos q]
        exact ⟨r, rfl, hy.hi hh⟩
      · rw [if_neg (fun z => q z.2), if_neg q]
        obtain ⟨x, x1, x2⟩ := t5 j (by omega)
        exact ⟨x, x1, x2.hi hh⟩
    · obtain ⟨x, x1, x2⟩ := t6 j hj
      exact ⟨x, by rw [hR (80 + 3) (by omega)]; exact x1, x2.hi hh⟩
  have dr : dRel s.2.1 s.2.2.1.2.1 (adT s.2.2.1.2.1 y) (nI 0) (nI s.2.2.1.2.1.1.1) (some r) (m_sI (m_xR M (m_up (m_R M) 82 s.2.2.1.2.1.1.1 (some r))) 80 1 (nI (s.2.2.1.2.1.1.1 + 1))) :=
    ⟨⟨r, rfl⟩, .inl ⟨rfl, rfl, rfl, fun i hi => if_neg (by omega), rfl⟩⟩
  obtain ⟨M', e3, c3, f3, n3, k3⟩ := C_push hG1 cm hk1 hy.1 (show m_K M r = 6 from hy.K) dr
  have e3' : F_X1_noteDeed 80 (0 : Int32) (nI s.2.2.1.2.1.1.1) r (m_sI (m_xR M (m_up (m_R M) 82 s.2.2.1.2.1.1.1 (some r))) 80 1 (nI (s.2.2.1.2.1.1.1 + 1))) = _ := e3
  refine ⟨M', ?_, c3, ⟨f3.1, fun a h1 h2 => ⟨((f3.2 a h1 h2).1).trans (hI a (by omega)), (f3.2 a h1 h2).2⟩⟩, n3, k3⟩
  have g1 : m_I (m_sI (m_xR M (m_up (m_R M) 82 s.2.2.1.2.1.1.1 (some r))) 80 1 (nI (s.2.2.1.2.1.1.1 + 1))) 80 1 = nI (s.2.2.1.2.1.1.1 + 1) := by rw [mI_sI, if_pos ⟨rfl, rfl⟩]
  have K80' : m_K (m_sI (m_xR M (m_up (m_R M) 82 s.2.2.1.2.1.1.1 (some r))) 80 1 (nI (s.2.2.1.2.1.1.1 + 1))) 80 = 1 := K80
  unfold F_X1_tell
  rw [x_gI_ok K80, t3, x_cV_ok K80 e, if_neg (by decide), x_gI_ok K80', g1, show nI (s.2.2.1.2.1.1.1 + 1) - (1 : Int32) = nI s.2.2.1.2.1.1.1 from nI_sub' (b := 1) (by omega), x_cV_ok K80' e3']
/-- an order kept -/
theorem C_keep (hG : G M) (hc : CI s M) (hk : RefK M) {y : Sy} {r : Nat} (hy : SyC s.2.1 y r M) (h4 : s.2.2.1.2.1.2.1 < 4) : ∃ M', F_X1_keepOrder 80 r M = some ((), M') ∧ CI (stTell s (adO s.2.2.1.2.1 y)) M' ∧ frC M M' ∧ m_N M' = m_N M ∧ RefK M' := by
  have hc' := hc
  obtain ⟨_, _, ⟨_, ht, _⟩, _⟩ := hc'
  obtain ⟨K0, R9, K80, R7, R8, K82, L82, K83, L83, _⟩ := bk_cells hG
  obtain ⟨⟨t1, t2⟩, ⟨t3, t4⟩, t5, t6⟩ := ht
  have hR : ∀ a, a ≠ 83 → m_R (m_sI (m_sR M 83 s.2.2.1.2.1.2.1 (some r)) 80 2 (nI (s.2.2.1.2.1.2.1 + 1))) a = m_R M a := fun a ha => by
    funext j
    rw [mR_sI, mR_sR, if_neg (fun z => ha z.1)]
  have hI : ∀ a, a ≠ 80 → m_I (m_sI (m_sR M 83 s.2.2.1.2.1.2.1 (some r)) 80 2 (nI (s.2.2.1.2.1.2.1 + 1))) a = m_I M a := fun a ha => by rw [sI_ne ha]; rfl
  have gI : ∀ j, j ≠ 2 → m_I (m_sI (m_sR M 83 s.2.2.1.2.1.2.1 (some r)) 80 2 (nI (s.2.2.1.2.1.2.1 + 1))) 80 j = m_I M 80 j := fun j hj => by rw [mI_sI, if_neg (fun z => hj z.2)]; rfl
  have hh : hiK M (m_sI (m_sR M 83 s.2.2.1.2.1.2.1 (some r)) 80 2 (nI (s.2.2.1.2.1.2.1 + 1))) := ⟨Nat.le_refl _, fun a ha _ => ⟨rfl, hI a (by omega), rfl, hR a (by omega)⟩⟩
  have hG1 : G (m_sI (m_sR M 83 s.2.2.1.2.1.2.1 (some r)) 80 2 (nI (s.2.2.1.2.1.2.1 + 1))) := by
    have : G (m_xR M (m_up (m_R M) 83 s.2.2.1.2.1.2.1 (some r))) := G.xR hG (fun a _ h1 _ _ => by funext j; rw [upR_at, if_neg (fun z => h1 z.1)])
    exact this
  have hk1 : RefK (m_sI (m_sR M 83 s.2.2.1.2.1.2.1 (some r)) 80 2 (nI (s.2.2.1.2.1.2.1 + 1))) := by
    intro a ha hka j x hx
    show 178 ≤ x ∧ m_K M x = 6
    rw [mR_sI, mR_sR] at hx
    split at hx
    · cases hx
      exact ⟨hy.1, hy.K⟩
    · exact hk a ha hka j x hx
  have cm : CIm s (adO s.2.2.1.2.1 y) (m_sI (m_sR M 83 s.2.2.1.2.1.2.1 (some r)) 80 2 (nI (s.2.2.1.2.1.2.1 + 1))) := by
    refine CIm_of hc (fun a _ h1 => hR a h1) rfl rfl hI (fun j _ h1 => gI j h1) ⟨⟨t1, by show s.2.2.1.2.1.2.1 + 1 ≤ 4; omega⟩, ⟨by rw [gI 1 (by omega)]; exact t3, by rw [mI_sI, if_pos ⟨rfl, rfl⟩]; rfl⟩, fun j hj => ?_, fun j hj => ?_⟩
    · obtain ⟨x, x1, x2⟩ := t5 j hj
      exact ⟨x, by rw [hR (80 + 2) (by omega)]; exact x1, x2.hi hh⟩
    · have hj' : j < s.2.2.1.2.1.2.1 + 1 := hj
      show ∃ x, m_R (m_sI (m_sR M 83 s.2.2.1.2.1.2.1 (some r)) 80 2 _) 83 j = some x ∧ SyC s.2.1 (if j = s.2.2.1.2.1.2.1 then y else s.2.2.1.2.1.2.2 j) x _
      rw [mR_sI, mR_sR]
      by_cases q : j = s.2.2.1.2.1.2.1
      · rw [if_pos ⟨rfl, q⟩, if_pos q]
        exact ⟨r, rfl, hy.hi hh⟩
      · rw [if_neg (fun z => q z.2), if_neg q]
        obtain ⟨x, x1, x2⟩ := t6 j (by omega)
        exact ⟨x, x1, x2.hi hh⟩
  have dr : dRel s.2.1 s.2.2.1.2.1 (adO s.2.2.1.2.1 y) (nI 2) (nI s.2.2.1.2.1.2.1) (some r) (m_sI (m_sR M 83 s.2.2.1.2.1.2.1 (some r)) 80 2 (nI (s.2.2.1.2.1.2.1 + 1))) :=
    ⟨⟨r, rfl⟩, .inr (.inr ⟨rfl, rfl, fun i hi => if_neg (by omega), rfl⟩)⟩
  obtain ⟨M', e3, c3, f3, n3, k3⟩ := C_push hG1 cm hk1 hy.1 (show m_K M r = 6 from hy.K) dr
  have e3' : F_X1_noteDeed 80 (2 : Int32) (nI s.2.2.1.2.1.2.1) r (m_sI (m_sR M 83 s.2.2.1.2.1.2.1 (some r)) 80 2 (nI (s.2.2.1.2.1.2.1 + 1))) = _ := e3
  refine ⟨M', ?_, c3, ⟨f3.1, fun a h1 h2 => ⟨((f3.2 a h1 h2).1).trans (hI a (by omega)), (f3.2 a h1 h2).2⟩⟩, n3, k3⟩
  have g0 : m_I (m_sR M 83 s.2.2.1.2.1.2.1 (some r)) 80 2 = nI s.2.2.1.2.1.2.1 := t4
  have g1 : m_I (m_sI (m_sR M 83 s.2.2.1.2.1.2.1 (some r)) 80 2 (nI (s.2.2.1.2.1.2.1 + 1))) 80 2 = nI (s.2.2.1.2.1.2.1 + 1) := by rw [mI_sI, if_pos ⟨rfl, rfl⟩]
  have K80' : m_K (m_sI (m_sR M 83 s.2.2.1.2.1.2.1 (some r)) 80 2 (nI (s.2.2.1.2.1.2.1 + 1))) 80 = 1 := K80
  have K80'' : m_K (m_sR M 83 s.2.2.1.2.1.2.1 (some r)) 80 = 1 := K80
  unfold F_X1_keepOrder
  rw [x_gI_ok K80, t4, if_neg (show ¬ (4 : Int32) ≤ nI s.2.2.1.2.1.2.1 from nI_ge (b := 4) h4 (by omega)), x_gN_ok K80 R8, x_gI_ok K80, t4, x_sR_ok K83 (by rw [L83]; exact h4) (by omega) hy.K, x_gI_ok K80'', g0, nI_1, x_pI_ok K80'', x_gI_ok K80', g1, show nI (s.2.2.1.2.1.2.1 + 1) - (1 : Int32) = nI s.2.2.1.2.1.2.1 from nI_sub' (b := 1) (by omega), x_cV_ok K80' e3']
end TELL
