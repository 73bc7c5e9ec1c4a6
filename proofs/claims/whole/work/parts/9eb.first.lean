/-! the first state, and the whole law -/
def m_z : m_M := ((0, fun _ => (99, 0)), fun _ _ => 0, fun _ _ => 0, fun _ _ => none)
def st0 : St := stLd ((0, fun _ => 0), ld0, bk0, (0, fun _ => tl0), fun _ => none) ld0
section FIRST
variable {M : m_M} {L : Nat} {xs : Nat → Int32}
theorem IP_z : IP 0 0 false m_z := ⟨rfl, fun i hi => absurd hi (Nat.not_lt_zero _), fun x hx => (by cases hx), fun a ha => absurd ha (Nat.not_lt_zero _), ⟨fun _ _ _ _ _ _ => rfl, fun _ _ _ => rfl⟩, fun he => (by cases he)⟩
theorem g_sub : ∀ x ∈ g_Rl, x ∈ g_Ro.take 187 := by decide +kernel
theorem first_inv (h : IP 178 187 true M) (h130 : ∀ k, k < 8 → m_I M 130 k = nI (lH ld0 k)) (h42 : m_I M 128 42 = nI 1) (h43 : m_I M 128 43 = nI 1) : INV st0 M ∧ RefK M := by
  have hG : G M := ⟨by rw [h.1]; exact Nat.le_refl _, fun i hi => h.2.1 i hi, fun x hx => h.2.2.1 x (g_sub x hx)⟩
  obtain ⟨_, g0, g1, g2, g3, g4⟩ := h.2.2.2.2.2 rfl
  have z := h.2.2.2.2.1.1
  have z8 := h.2.2.2.2.1.2
  have bf : bI false = (0 : Int32) := rfl
  refine ⟨INV.join hG (PI_ld lOk_0) ?_ ?_, fun a ha hk i x hx => ?_⟩
  · refine ⟨⟨⟨⟨g0, g1, g2, g3, g4⟩, ⟨z 3 (by omega) (by omega) (by omega) (by omega) 0, z 3 (by omega) (by omega) (by omega) (by omega) 1, z 3 (by omega) (by omega) (by omega) (by omega) 2, z 3 (by omega) (by omega) (by omega) (by omega) 3⟩, fun t ht => absurd ht (Nat.not_lt_zero _), fun t ht => absurd ht (Nat.not_lt_zero _), fun t ht => absurd ht (Nat.not_lt_zero _), fun j t hj => absurd hj (Nat.not_lt_zero _), fun v f s hv => absurd hv (Nat.not_lt_zero _)⟩, fun t a ht => absurd ht (Nat.not_lt_zero _), fun t ht => absurd ht (Nat.not_lt_zero _), fun t ht => absurd ht (Nat.not_lt_zero _)⟩, ⟨z 0 (by omega) (by omega) (by omega) (by omega) 1, fun i hi => absurd hi (Nat.not_lt_zero _)⟩, ⟨z 80 (by omega) (by omega) (by omega) (by omega) 0, ⟨⟨Nat.zero_le _, Nat.zero_le _⟩, ⟨z 80 (by omega) (by omega) (by omega) (by omega) 1, z 80 (by omega) (by omega) (by omega) (by omega) 2⟩, fun i hi => absurd hi (Nat.not_lt_zero _), fun i hi => absurd hi (Nat.not_lt_zero _)⟩, ⟨81, h.2.2.1 (80, 5, 81) (by decide +kernel), fun _ => ⟨by simp only [gK hG], by simp only [gl hG], .inl (by omega)⟩, fun f hf => (by cases hf)⟩, z 80 (by omega) (by omega) (by omega) (by omega) 3, fun i hi => absurd hi (Nat.not_lt_zero _)⟩, ⟨Nat.zero_le _, z 80 (by omega) (by omega) (by omega) (by omega) 4, fun j hj => absurd hj (Nat.not_lt_zero _)⟩, fun i hi => ⟨z 89 (by omega) (by omega) (by omega) (by omega) i, fun b hb => (by cases hb)⟩⟩
  · refine ⟨⟨⟨fun k hk => h130 k (by omega), fun t ht => absurd ht (Nat.not_lt_zero _), fun t ht => absurd ht (Nat.not_lt_zero _), fun t ht => absurd ht (Nat.not_lt_zero _), fun line hl => ?_, h42, h43⟩, fun t ht => absurd ht (Nat.not_lt_zero _), fun t ht => absurd ht (Nat.not_lt_zero _)⟩, ⟨z8 1 (by omega) (by omega), fun i hi => absurd hi (Nat.not_lt_zero _)⟩, ⟨⟨⟨⟨Nat.zero_le _, Nat.zero_le _⟩, ⟨z 161 (by omega) (by omega) (by omega) (by omega) _, z 161 (by omega) (by omega) (by omega) (by omega) _⟩, fun i hi => absurd hi (Nat.not_lt_zero _), fun i hi => absurd hi (Nat.not_lt_zero _)⟩, ⟨z 163 (by omega) (by omega) (by omega) (by omega) 0, fun f hf => (by cases hf)⟩, z 167 (by omega) (by omega) (by omega) (by omega) 0, fun i hi => absurd hi (Nat.not_lt_zero _)⟩, z8 53 (by omega) (by omega)⟩, ⟨z8 52 (by omega) (by omega), fun j hj => absurd hj (Nat.not_lt_zero _)⟩, fun i hi => ⟨z 169 (by omega) (by omega) (by omega) (by omega) i, fun b hb => (by cases hb)⟩⟩
    rcases hl with w | ⟨w1, w2⟩
    · exact absurd w (Nat.not_lt_zero _)
    · have w2 : line < 3 + 0 := w2
      omega
  · have hk2 : (g_Tl.getD a (99, 0)).1 = 16 := by rw [← h.K ha rfl]; exact hk
    rw [h.2.2.2.1 a ha hk2 i] at hx
    cases hx
theorem law_some (hL : L ≤ 3584) : ∃ M', F_L_law L xs m_z = some ((1 : Int32), M') := by
  unfold F_L_law
  refine i_new (Q := fun o => ∃ M', o = some ((1 : Int32), M')) IP_z (by decide +kernel) (by decide +kernel) (by decide +kernel) (fun M h => ?_)
  refine I_X11 (Q := fun o => ∃ M', x_bd o _ = some ((1 : Int32), M')) h (fun M h => ?_)
  refine i_end (Q := fun o => ∃ M', o = some ((1 : Int32), M')) ?_
  refine i_new (Q := fun o => ∃ M', o = some ((1 : Int32), M')) h (by decide +kernel) (by decide +kernel) (by decide +kernel) (fun M h => ?_)
  refine I_X12 (Q := fun o => ∃ M', x_bd o _ = some ((1 : Int32), M')) h (fun M hx => ?_)
  obtain ⟨h, h130, h42, h43⟩ := hx
  have hn := h.new (kd := 13) (len := 1) (by decide +kernel) (by decide +kernel)
  have e : ∀ a j, a ≠ 177 → m_I (m_new M 13 1) a j = m_I M a j := fun a j ha => by
    show (if a = m_N M then 0 else m_I M a j) = m_I M a j
    rw [if_neg (by rw [h.1]; exact ha)]
  obtain ⟨hi, hr⟩ := first_inv hn (fun k hk => by rw [e 130 k (by omega)]; exact h130 k hk) (by rw [e 128 42 (by omega)]; exact h42) (by rw [e 128 43 (by omega)]; exact h43)
  obtain ⟨M', r⟩ := law_l (xs := xs) hL 512 0 513 (m_new M 13 1) st0 (by omega) (by omega) hi hr (by rw [hn.1]; omega) dB_ld
  refine ⟨M', ?_⟩
  show x_newA 13 1 M (nI 1) (fun v3 M5 => F_L_law_loop L xs 513 0 128 v3 0 M5) = _
  unfold x_newA
  rw [nI_cl (by omega), h.1, if_pos ⟨⟨nI_pos' (by omega), by omega⟩, by omega⟩]
  exact r
end FIRST
