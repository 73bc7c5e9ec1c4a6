/-! unsay, the class's side -/
def rmT (t : Tl) (i : Nat) : Tl := ((t.1.1 - 1, fun j => if j < i then t.1.2 j else t.1.2 (j + 1)), t.2)
section CUNSAY
variable {M : m_M} {s : St}
theorem C_unsay (hG : G M) (hc : CI s M) (hk : RefK M) {i : Nat} (hi : i < s.2.2.1.2.1.1.1) : ∃ M', F_X11_unsay 0 (nI i) M = some (nI 1, M') ∧ CI (stTell s (rmT s.2.2.1.2.1 i)) M' ∧ frC M M' ∧ m_N M' = m_N M ∧ RefK M' := by
  obtain ⟨a0, a1, ⟨b1, ht, ⟨fr, q1, q2, q3⟩, q4⟩, ⟨u1, u2, u3⟩, a5⟩ := hc
  obtain ⟨K0, R9, K80, R7, _, K82, L82, _⟩ := bk_cells hG
  obtain ⟨r, e1, sy, er⟩ := S_saidAt hG ht hi
  obtain ⟨⟨t1, t2⟩, ⟨t3, t4⟩, t5, t6⟩ := ht
  obtain ⟨c, hcc⟩ : ∃ c, s.2.2.1.2.1.1.1 = c + 1 := ⟨s.2.2.1.2.1.1.1 - 1, by omega⟩
  have e2 := S_removeSaid hG (p := i) (c := c) (by omega) (by omega) (by rw [t3, hcc]) (fun j hj => by
    obtain ⟨x, x1, x2⟩ := t5 j (by omega)
    exact ⟨x, x1, x2.K⟩)
  have hR : ∀ a, a ≠ 82 → m_R (m_xR (m_sI M 80 1 (nI c)) (mvR (m_R M) 82 (i + 1) i (c - i))) a = m_R M a := fun a ha => mvR_fr ha
  have hI : ∀ a, a ≠ 80 → m_I (m_xR (m_sI M 80 1 (nI c)) (mvR (m_R M) 82 (i + 1) i (c - i))) a = m_I M a := fun a ha => by rw [xR_I, sI_ne ha]
  have gI : ∀ j, j ≠ 1 → m_I (m_xR (m_sI M 80 1 (nI c)) (mvR (m_R M) 82 (i + 1) i (c - i))) 80 j = m_I M 80 j := fun j hj => by rw [xR_I, mI_sI, if_neg (fun z => hj z.2)]
  have hh := hiK_R82 (M := M) (M' := m_xR (m_sI M 80 1 (nI c)) (mvR (m_R M) 82 (i + 1) i (c - i))) hR rfl rfl hI
  have hG1 : G (m_xR (m_sI M 80 1 (nI c)) (mvR (m_R M) 82 (i + 1) i (c - i))) := G.xR hG (fun a ha _ _ _ => hR a ha)
  have hk1 : RefK (m_xR (m_sI M 80 1 (nI c)) (mvR (m_R M) 82 (i + 1) i (c - i))) := by
    intro a ha hka j y hy
    show 178 ≤ y ∧ m_K M y = 6
    have hka' : m_K M a = 16 := hka
    have hy' : mvR (m_R M) 82 (i + 1) i (c - i) a j = some y := hy
    rw [mvR_at] at hy'
    split at hy'
    · exact hk 82 (by omega) K82 _ _ hy'
    · exact hk a ha hka' j y hy'
  have cm : CIm s (rmT s.2.2.1.2.1 i) (m_xR (m_sI M 80 1 (nI c)) (mvR (m_R M) 82 (i + 1) i (c - i))) := by
    refine ⟨⟨a0.1.cong (fun a _ h2 => hI a (by omega)), a0.2.1, a0.2.2⟩, ⟨by rw [hI 0 (by omega)]; exact a1.1, by rw [hI 1 (by omega)]; exact a1.2⟩, ⟨by rw [gI 0 (by omega)]; exact b1, ⟨⟨by show s.2.2.1.2.1.1.1 - 1 ≤ 12; omega, t2⟩, ⟨?_, by rw [gI 2 (by omega)]; exact t4⟩, fun j hj => ?_, fun j hj => ?_⟩, ⟨fr, by rw [hR 80 (by omega)]; exact q1, q2, fun f hf => (q3 f hf).hi hh⟩, by rw [gI 3 (by omega)]; exact q4.1, by rw [hI (80 + 4) (by omega)]; exact q4.2⟩, ⟨u1, by rw [gI 4 (by omega)]; exact u2, fun j hj => ?_⟩, fun j hj => ⟨by rw [hI 89 (by omega)]; exact (a5 j hj).1, fun b hb => ((a5 j hj).2 b hb).congr hh (fun _ => ⟨rfl, rfl⟩) (hI _ (by omega)) (hR _ (by omega)) (hR _ (by omega)) (hR _ (by omega)) (hI _ (by omega))⟩⟩
    · rw [xR_I, mI_sI, if_pos ⟨rfl, rfl⟩]
      show nI c = nI (s.2.2.1.2.1.1.1 - 1)
      rw [hcc]; rfl
    · have hj' : j < s.2.2.1.2.1.1.1 - 1 := hj
      show ∃ r, mvR (m_R M) 82 (i + 1) i (c - i) 82 j = some r ∧ SyC s.2.1 (if j < i then s.2.2.1.2.1.1.2 j else s.2.2.1.2.1.1.2 (j + 1)) r _
      by_cases z : j < i
      · rw [if_pos z, mvR_out (by omega)]
        obtain ⟨x, x1, x2⟩ := t5 j (by omega)
        exact ⟨x, x1, x2.hi hh⟩
      · rw [if_neg z, mvR_at, if_pos ⟨rfl, by omega, by omega⟩, show i + 1 + (j - i) = j + 1 by omega]
        obtain ⟨x, x1, x2⟩ := t5 (j + 1) (by omega)
        exact ⟨x, x1, x2.hi hh⟩
    · obtain ⟨x, x1, x2⟩ := t6 j hj
      exact ⟨x, (congrFun (hR (80 + 3) (by omega)) j).trans x1, x2.hi hh⟩
    · rw [hI 85 (by omega), hI 86 (by omega), hR 87 (by omega)]
      exact (u3 j hj).hi hh
  have dr : dRel s.2.1 s.2.2.1.2.1 (rmT s.2.2.1.2.1 i) (nI 1) (nI i) (some r) (m_xR (m_sI M 80 1 (nI c)) (mvR (m_R M) 82 (i + 1) i (c - i))) := by
    refine ⟨⟨r, rfl⟩, .inr (.inl ⟨rfl, by show s.2.2.1.2.1.1.1 = s.2.2.1.2.1.1.1 - 1 + 1; omega, rfl, i, by show i ≤ s.2.2.1.2.1.1.1 - 1; omega, rfl, fun j hj => if_pos hj, fun j h1 _ => if_neg (by omega), r, rfl, sy.hi hh⟩)⟩
  obtain ⟨M', e3, c3, f3, n3, k3⟩ := C_push hG1 cm hk1 sy.1 sy.K dr
  refine ⟨M', ?_, c3, ⟨f3.1, fun a h1 h2 => ⟨((f3.2 a h1 h2).1).trans (hI a (by omega)), (f3.2 a h1 h2).2⟩⟩, n3, k3⟩
  have e3' : F_X1_noteDeed 80 (1 : Int32) (nI i) r (m_xR (m_sI M 80 1 (nI c)) (mvR (m_R M) 82 (i + 1) i (c - i))) = some ((), M') := e3
  have e4 : F_X1_takeBack 80 (nI i) M = some (nI 1, M') := by
    unfold F_X1_takeBack
    rw [x_cV_ok K80 e1, x_nul_some, x_cV_ok K80 e2, x_cV_ok (show m_K (m_xR (m_sI M 80 1 (nI c)) (mvR (m_R M) 82 (i + 1) i (c - i))) 80 = 1 from K80) e3']
    rfl
  unfold F_X11_unsay
  rw [x_gN_ok K0 R9, x_cV_ok K80 e4]
  rfl
end CUNSAY
