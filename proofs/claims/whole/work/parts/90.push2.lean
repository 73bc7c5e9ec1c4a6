/-! the class notes a deed: what holds then -/
section PUSH2
variable {M : m_M} {s : St}
theorem dAdd_frames {n r : Nat} {a b : Int32} : (∀ x, x ≠ 87 → m_R (dAdd M n a b r) x = m_R M x) ∧ (∀ x, x ≠ 80 → x ≠ 85 → x ≠ 86 → m_I (dAdd M n a b r) x = m_I M x) ∧ (∀ j, j ≠ 4 → m_I (dAdd M n a b r) 80 j = m_I M 80 j) ∧ m_I (dAdd M n a b r) 80 4 = nI (n + 1) ∧ (∀ j, m_I (dAdd M n a b r) 85 j = if j = n then a else m_I M 85 j) ∧ (∀ j, m_I (dAdd M n a b r) 86 j = if j = n then b else m_I M 86 j) ∧ ∀ j, m_R (dAdd M n a b r) 87 j = if j = n then some r else m_R M 87 j := by
  unfold dAdd
  refine ⟨fun x hx => ?_, fun x h1 h2 h3 => ?_, fun j hj => ?_, ?_, fun j => ?_, fun j => ?_, fun j => ?_⟩
  · funext y
    show m_up (m_R M) 87 n (some r) x y = _
    rw [upR_at, if_neg (fun q => hx q.1)]
  · rw [sI_ne h1, x3_I, up_fr h3, up_fr h2]
  · rw [mI_sI, if_neg (fun q => hj q.2), x3_I, up_fr (by omega), up_fr (by omega)]
  · rw [mI_sI, if_pos ⟨rfl, rfl⟩]
  · rw [sI_ne (by omega), x3_I, up_fr (by omega), up_at]
    by_cases q : j = n
    · rw [if_pos ⟨rfl, q⟩, if_pos q]
    · rw [if_neg (fun z => q z.2), if_neg q]
  · rw [sI_ne (by omega), x3_I, up_at, up_fr (by omega)]
    by_cases q : j = n
    · rw [if_pos ⟨rfl, q⟩, if_pos q]
    · rw [if_neg (fun z => q z.2), if_neg q]
  · show m_up (m_R M) 87 n (some r) 87 j = _
    rw [upR_at]
    by_cases q : j = n
    · rw [if_pos ⟨rfl, q⟩, if_pos q]
    · rw [if_neg (fun z => q z.2), if_neg q]
theorem C_push (hG : G M) {t : Tl} (hc : CIm s t M) (hk : RefK M) {a b : Int32} {r : Nat} (hr0 : 178 ≤ r) (hr : m_K M r = 6) (hd : dRel s.2.1 s.2.2.1.2.1 t a b (some r) M) : ∃ M', F_X1_noteDeed 80 a b r M = some ((), M') ∧ CI (stTell s t) M' ∧ frC M M' ∧ m_N M' = m_N M ∧ RefK M' := by
  have K87 : m_K M 87 = 16 := by simp only [gK hG]
  have hc2 := hc
  obtain ⟨_, _, _, ⟨c6, c7, c8⟩, _⟩ := hc2
  have e := S_noteDeed hG c6 c7 (fun i hi => by
    obtain ⟨x, hx⟩ := (c8 i hi).1
    exact ⟨x, hx, (hk 87 (by omega) K87 i x hx).2⟩) (a := a) (b := b) hr
  have rk : ∀ M' : m_M, M'.1 = M.1 → (∀ x, x ≠ 87 → m_R M' x = m_R M x) → (∀ j, m_R M' 87 j = some r ∨ ∃ i, m_R M' 87 j = m_R M 87 i) → RefK M' := by
    intro M' hT hR h87 x hx hkx i y hy
    have hK : ∀ a, m_K M' a = m_K M a := fun a => by unfold m_K m_N m_T; rw [hT]
    rw [hK] at hkx
    rw [hK]
    by_cases q : x = 87
    · rw [q] at hy
      rcases h87 i with z | ⟨i', z⟩
      · rw [z] at hy
        cases hy
        exact ⟨hr0, hr⟩
      · rw [z] at hy
        exact hk 87 (by omega) K87 i' y hy
    · rw [hR x q] at hy
      exact hk x hx hkx i y hy
  by_cases q : s.2.2.2.1.1 < 12
  · rw [if_pos q] at e
    obtain ⟨f1, f2, f3, f4, f5, f6, f7⟩ := dAdd_frames (M := M) (n := s.2.2.2.1.1) (r := r) (a := a) (b := b)
    refine ⟨_, e, hc.fin f1 rfl rfl f2 f3 (by rw [f4]; unfold unPush; rw [if_pos q]) (push_rows c6 c8 hd (A := m_I (dAdd M s.2.2.2.1.1 a b r)) (R := m_R (dAdd M s.2.2.2.1.1 a b r) 87) (fun _ => ⟨fun j hj => ⟨by rw [f5, if_neg (by omega)], by rw [f6, if_neg (by omega)], by rw [f7, if_neg (by omega)]⟩, by rw [f5, if_pos rfl], by rw [f6, if_pos rfl], by rw [f7, if_pos rfl]⟩) (fun z => absurd q z)), ⟨?_, fun x h1 h2 => ⟨f2 x (by omega) (by omega) (by omega), rfl⟩⟩, rfl, rk _ rfl f1 (fun j => ?_)⟩
    · have : G (m_xR M (m_up (m_R M) 87 s.2.2.2.1.1 (some r))) := G.xR hG (fun x _ _ h3 _ => f1 x h3)
      exact this
    · rw [f7]
      by_cases z : j = s.2.2.2.1.1
      · rw [if_pos z]; exact .inl rfl
      · rw [if_neg z]; exact .inr ⟨j, rfl⟩
  · rw [if_neg q] at e
    obtain ⟨f1, f2, f3, f4, f5, f6, f7⟩ := dAdd_frames (M := m_x3 (m_sI M 80 4 (nI 11)) (dA (m_I (m_sI M 80 4 (nI 11))) 11) (dR (m_R M) 11)) (n := 11) (r := r) (a := a) (b := b)
    have g1 : ∀ x, x ≠ 87 → dR (m_R M) 11 x = m_R M x := fun x hx => by unfold dR; exact mvR_fr hx
    have g2 : ∀ x, x ≠ 80 → x ≠ 85 → x ≠ 86 → dA (m_I (m_sI M 80 4 (nI 11))) 11 x = m_I M x := fun x h1 h2 h3 => by rw [dA_fr h2 h3, sI_ne h1]
    have g3 : ∀ j, j ≠ 4 → dA (m_I (m_sI M 80 4 (nI 11))) 11 80 j = m_I M 80 j := fun j hj => by rw [dA_fr (by omega) (by omega), mI_sI, if_neg (fun z => hj z.2)]
    have g5 : ∀ j, j < 11 → dA (m_I (m_sI M 80 4 (nI 11))) 11 85 j = m_I M 85 (j + 1) := fun j hj => by rw [dA_85, mvR_at, if_pos ⟨rfl, by omega, by omega⟩, sI_ne (by omega), show 1 + (j - 0) = j + 1 by omega]
    have g6 : ∀ j, j < 11 → dA (m_I (m_sI M 80 4 (nI 11))) 11 86 j = m_I M 86 (j + 1) := fun j hj => by rw [dA_86, mvR_at, if_pos ⟨rfl, by omega, by omega⟩, sI_ne (by omega), show 1 + (j - 0) = j + 1 by omega]
    have g7 : ∀ j, dR (m_R M) 11 87 j = m_R M 87 (if j < 11 then j + 1 else j) := fun j => by
      unfold dR
      rw [mvR_at]
      by_cases z : j < 11
      · rw [if_pos ⟨rfl, by omega, by omega⟩, if_pos z, show 1 + (j - 0) = j + 1 by omega]
      · rw [if_neg (by omega), if_neg z]
    have F1 : ∀ x, x ≠ 87 → m_R (dAdd (m_x3 (m_sI M 80 4 (nI 11)) (dA (m_I (m_sI M 80 4 (nI 11))) 11) (dR (m_R M) 11)) 11 a b r) x = m_R M x := fun x hx => by rw [f1 x hx, x3_R, g1 x hx]
    have F2 : ∀ x, x ≠ 80 → x ≠ 85 → x ≠ 86 → m_I (dAdd (m_x3 (m_sI M 80 4 (nI 11)) (dA (m_I (m_sI M 80 4 (nI 11))) 11) (dR (m_R M) 11)) 11 a b r) x = m_I M x := fun x h1 h2 h3 => by rw [f2 x h1 h2 h3, x3_I, g2 x h1 h2 h3]
    refine ⟨_, e, hc.fin F1 rfl rfl F2 (fun j hj => by rw [f3 j hj, x3_I, g3 j hj]) (by rw [f4]; unfold unPush; rw [if_neg q]) (push_rows c6 c8 hd (A := m_I (dAdd (m_x3 (m_sI M 80 4 (nI 11)) (dA (m_I (m_sI M 80 4 (nI 11))) 11) (dR (m_R M) 11)) 11 a b r)) (R := m_R (dAdd (m_x3 (m_sI M 80 4 (nI 11)) (dA (m_I (m_sI M 80 4 (nI 11))) 11) (dR (m_R M) 11)) 11 a b r) 87) (fun z => absurd z q) (fun _ => ⟨fun j hj => ⟨by rw [f5, if_neg (by omega), x3_I, g5 j hj], by rw [f6, if_neg (by omega), x3_I, g6 j hj], by rw [f7, if_neg (by omega), x3_R, g7, if_pos hj]⟩, by rw [f5, if_pos rfl], by rw [f6, if_pos rfl], by rw [f7, if_pos rfl]⟩)), ⟨?_, fun x h1 h2 => ⟨F2 x (by omega) (by omega) (by omega), rfl⟩⟩, rfl, rk _ rfl F1 (fun j => ?_)⟩
    · have : G (m_xR M (m_up (dR (m_R M) 11) 87 11 (some r))) := G.xR hG (fun x _ _ h3 _ => F1 x h3)
      exact this
    · rw [f7]
      by_cases z : j = 11
      · rw [if_pos z]; exact .inl rfl
      · rw [if_neg z, x3_R, g7]; exact .inr ⟨_, rfl⟩
end PUSH2
