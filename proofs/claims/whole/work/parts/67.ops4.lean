/-! reading calls: count -/
theorem aI_lit {β : Type} {kd : Nat} {M : m_M} {a n : Nat} {x : Int32} {f : Int32 → Option β} (h : m_K M a = kd) (h2 : n < m_len M a) (hx : x = nI n) (h3 : n < 2147483648) : x_aI kd M a x f = f (m_I M a n) := by rw [hx, x_aI_ok h h2 h3]
section OPS4
variable {M : m_M} {s : St}
theorem w13 (k : Nat) (hk : k < 14) (M : m_M) : F_X12_within (nI k) (0 : Int32) (13 : Int32) M = some (nI 1, M) := by
  have := S_within (M := M) (k := k) (a := 0) (b := 13) (by omega) (by omega) (by omega)
  rw [decide_eq_true (p := k ≤ 13) (by omega), decide_eq_true (p := 0 ≤ k) (by omega)] at this
  exact this
theorem O_count_0 : RO s (F_X11_count 0 (nI 0)) (F_X12_count 128 (nI 0)) := by
  refine ⟨nI (lH s.2.1 0), fun M h => ⟨⟨M, ?_, SC.rfl' M⟩, ⟨m_sI M 128 0 0, ?_, SC_thr M 0⟩⟩⟩
  · unfold F_X11_count
    rw [if_pos (by decide), x_gN_ok h.C0 h.R2, x_gI_ok h.C2, h.lc.1.1]
  · have h1 := h.thr 0
    unfold F_X12_count
    rw [x_pI_ok h.K0, x_bd_ok (w13 0 (by omega) _), if_neg (by decide), if_neg (by decide), x_gN_ok h1.K0 (r := 130) (by simp only [gR h1.1]), x_aI_ok (by simp only [gK h1.1]) (by rw [show m_len (m_sI M 128 0 0) 130 = 16 from by simp only [gl h1.1]]; omega) (by omega), h1.lm.1 0 (by omega)]
theorem O_count_1 : RO s (F_X11_count 0 (nI 1)) (F_X12_count 128 (nI 1)) := by
  refine ⟨nI (lH s.2.1 1), fun M h => ⟨⟨M, ?_, SC.rfl' M⟩, ⟨m_sI M 128 0 0, ?_, SC_thr M 0⟩⟩⟩
  · unfold F_X11_count
    rw [if_neg (by decide), if_pos (by decide), x_gN_ok h.C0 h.R2, x_gN_ok h.C2 (r := 3) (by simp only [gR h.1]), aI_lit (x := (0 : Int32)) (n := 0) (by simp only [gK h.1]) (by rw [show m_len M 3 = 4 from by simp only [gl h.1]]; omega) rfl (by omega), h.lc.2.1.1]
  · have h1 := h.thr 0
    unfold F_X12_count
    rw [x_pI_ok h.K0, x_bd_ok (w13 1 (by omega) _), if_neg (by decide), if_neg (by decide), x_gN_ok h1.K0 (r := 130) (by simp only [gR h1.1]), x_aI_ok (by simp only [gK h1.1]) (by rw [show m_len (m_sI M 128 0 0) 130 = 16 from by simp only [gl h1.1]]; omega) (by omega), h1.lm.1 1 (by omega)]
theorem O_count_2 : RO s (F_X11_count 0 (nI 2)) (F_X12_count 128 (nI 2)) := by
  refine ⟨nI (lH s.2.1 2), fun M h => ⟨⟨M, ?_, SC.rfl' M⟩, ⟨m_sI M 128 0 0, ?_, SC_thr M 0⟩⟩⟩
  · unfold F_X11_count
    rw [if_neg (by decide), if_neg (by decide), if_pos (by decide), x_gN_ok h.C0 h.R2, x_gN_ok h.C2 (r := 3) (by simp only [gR h.1]), aI_lit (x := (1 : Int32)) (n := 1) (by simp only [gK h.1]) (by rw [show m_len M 3 = 4 from by simp only [gl h.1]]; omega) rfl (by omega), h.lc.2.1.2.1]
  · have h1 := h.thr 0
    unfold F_X12_count
    rw [x_pI_ok h.K0, x_bd_ok (w13 2 (by omega) _), if_neg (by decide), if_neg (by decide), x_gN_ok h1.K0 (r := 130) (by simp only [gR h1.1]), x_aI_ok (by simp only [gK h1.1]) (by rw [show m_len (m_sI M 128 0 0) 130 = 16 from by simp only [gl h1.1]]; omega) (by omega), h1.lm.1 2 (by omega)]
theorem O_count_3 : RO s (F_X11_count 0 (nI 3)) (F_X12_count 128 (nI 3)) := by
  refine ⟨nI (lH s.2.1 3), fun M h => ⟨⟨M, ?_, SC.rfl' M⟩, ⟨m_sI M 128 0 0, ?_, SC_thr M 0⟩⟩⟩
  · unfold F_X11_count
    rw [if_neg (by decide), if_neg (by decide), if_neg (by decide), if_pos (by decide), x_gN_ok h.C0 h.R2, x_gN_ok h.C2 (r := 3) (by simp only [gR h.1]), aI_lit (x := (2 : Int32)) (n := 2) (by simp only [gK h.1]) (by rw [show m_len M 3 = 4 from by simp only [gl h.1]]; omega) rfl (by omega), h.lc.2.1.2.2.1]
  · have h1 := h.thr 0
    unfold F_X12_count
    rw [x_pI_ok h.K0, x_bd_ok (w13 3 (by omega) _), if_neg (by decide), if_neg (by decide), x_gN_ok h1.K0 (r := 130) (by simp only [gR h1.1]), x_aI_ok (by simp only [gK h1.1]) (by rw [show m_len (m_sI M 128 0 0) 130 = 16 from by simp only [gl h1.1]]; omega) (by omega), h1.lm.1 3 (by omega)]
theorem O_count_4 : RO s (F_X11_count 0 (nI 4)) (F_X12_count 128 (nI 4)) := by
  refine ⟨nI (lH s.2.1 4), fun M h => ⟨⟨M, ?_, SC.rfl' M⟩, ⟨m_sI M 128 0 0, ?_, SC_thr M 0⟩⟩⟩
  · unfold F_X11_count
    rw [if_neg (by decide), if_neg (by decide), if_neg (by decide), if_neg (by decide), if_pos (by decide), x_gN_ok h.C0 h.R2, x_gN_ok h.C2 (r := 3) (by simp only [gR h.1]), aI_lit (x := (3 : Int32)) (n := 3) (by simp only [gK h.1]) (by rw [show m_len M 3 = 4 from by simp only [gl h.1]]; omega) rfl (by omega), h.lc.2.1.2.2.2]
  · have h1 := h.thr 0
    unfold F_X12_count
    rw [x_pI_ok h.K0, x_bd_ok (w13 4 (by omega) _), if_neg (by decide), if_neg (by decide), x_gN_ok h1.K0 (r := 130) (by simp only [gR h1.1]), x_aI_ok (by simp only [gK h1.1]) (by rw [show m_len (m_sI M 128 0 0) 130 = 16 from by simp only [gl h1.1]]; omega) (by omega), h1.lm.1 4 (by omega)]
theorem O_count_5 : RO s (F_X11_count 0 (nI 5)) (F_X12_count 128 (nI 5)) := by
  refine ⟨nI (lH s.2.1 5), fun M h => ⟨⟨M, ?_, SC.rfl' M⟩, ⟨m_sI M 128 0 0, ?_, SC_thr M 0⟩⟩⟩
  · unfold F_X11_count
    rw [if_neg (by decide), if_neg (by decide), if_neg (by decide), if_neg (by decide), if_neg (by decide), if_pos (by decide), x_gN_ok h.C0 h.R2, x_gI_ok h.C2, h.lc.1.2.2.1]
  · have h1 := h.thr 0
    unfold F_X12_count
    rw [x_pI_ok h.K0, x_bd_ok (w13 5 (by omega) _), if_neg (by decide), if_neg (by decide), x_gN_ok h1.K0 (r := 130) (by simp only [gR h1.1]), x_aI_ok (by simp only [gK h1.1]) (by rw [show m_len (m_sI M 128 0 0) 130 = 16 from by simp only [gl h1.1]]; omega) (by omega), h1.lm.1 5 (by omega)]
theorem O_count_6 : RO s (F_X11_count 0 (nI 6)) (F_X12_count 128 (nI 6)) := by
  refine ⟨nI (s.2.2.1.1), fun M h => ⟨⟨M, ?_, SC.rfl' M⟩, ⟨m_sI M 128 0 0, ?_, SC_thr M 0⟩⟩⟩
  · unfold F_X11_count
    rw [if_neg (by decide), if_neg (by decide), if_neg (by decide), if_neg (by decide), if_neg (by decide), if_neg (by decide), if_pos (by decide), x_gN_ok h.C0 h.R9, x_gI_ok h.B80, h.bc.1]
  · have h1 := h.thr 0
    unfold F_X12_count
    rw [x_pI_ok h.K0, x_bd_ok (w13 6 (by omega) _), if_neg (by decide), if_pos (by decide), if_pos (by decide), x_gI_ok h1.K0, h1.md]
theorem O_count_7 : RO s (F_X11_count 0 (nI 7)) (F_X12_count 128 (nI 7)) := by
  refine ⟨nI (s.2.2.1.2.1.1.1), fun M h => ⟨⟨M, ?_, SC.rfl' M⟩, ⟨m_sI M 128 0 0, ?_, SC_thr M 0⟩⟩⟩
  · unfold F_X11_count
    rw [if_neg (by decide), if_neg (by decide), if_neg (by decide), if_neg (by decide), if_neg (by decide), if_neg (by decide), if_neg (by decide), if_pos (by decide), x_gN_ok h.C0 h.R9, x_gI_ok h.B80, h.bc.2.1.2.1.1]
  · have h1 := h.thr 0
    unfold F_X12_count
    rw [x_pI_ok h.K0, x_bd_ok (w13 7 (by omega) _), if_neg (by decide), if_pos (by decide), if_neg (by decide), if_neg (by decide), x_gN_ok h1.K0 (r := 161) (by simp only [gR h1.1]), show nI 7 - (7 : Int32) = nI 0 from by decide, x_aI_ok (by simp only [gK h1.1]) (by rw [show m_len (m_sI M 128 0 0) 161 = 34 from by simp only [gl h1.1]]; omega) (by omega), show m_I (m_sI M 128 0 0) 161 0 = _ from h1.bm.1.2.1.1]
theorem O_count_8 : RO s (F_X11_count 0 (nI 8)) (F_X12_count 128 (nI 8)) := by
  refine ⟨nI (s.2.2.1.2.1.2.1), fun M h => ⟨⟨M, ?_, SC.rfl' M⟩, ⟨m_sI M 128 0 0, ?_, SC_thr M 0⟩⟩⟩
  · unfold F_X11_count
    rw [if_neg (by decide), if_neg (by decide), if_neg (by decide), if_neg (by decide), if_neg (by decide), if_neg (by decide), if_neg (by decide), if_neg (by decide), if_pos (by decide), x_gN_ok h.C0 h.R9, x_gI_ok h.B80, h.bc.2.1.2.1.2]
  · have h1 := h.thr 0
    unfold F_X12_count
    rw [x_pI_ok h.K0, x_bd_ok (w13 8 (by omega) _), if_neg (by decide), if_pos (by decide), if_neg (by decide), if_neg (by decide), x_gN_ok h1.K0 (r := 161) (by simp only [gR h1.1]), show nI 8 - (7 : Int32) = nI 1 from by decide, x_aI_ok (by simp only [gK h1.1]) (by rw [show m_len (m_sI M 128 0 0) 161 = 34 from by simp only [gl h1.1]]; omega) (by omega), show m_I (m_sI M 128 0 0) 161 1 = _ from h1.bm.1.2.1.2]
theorem O_count_10 : RO s (F_X11_count 0 (nI 10)) (F_X12_count 128 (nI 10)) := by
  refine ⟨nI (s.2.2.1.2.2.2.1), fun M h => ⟨⟨M, ?_, SC.rfl' M⟩, ⟨m_sI M 128 0 0, ?_, SC_thr M 0⟩⟩⟩
  · unfold F_X11_count
    rw [if_neg (by decide), if_neg (by decide), if_neg (by decide), if_neg (by decide), if_neg (by decide), if_neg (by decide), if_neg (by decide), if_neg (by decide), if_neg (by decide), if_neg (by decide), if_pos (by decide), x_gN_ok h.C0 h.R9, x_gI_ok h.B80, h.bc.2.2.2.1]
  · have h1 := h.thr 0
    unfold F_X12_count
    rw [x_pI_ok h.K0, x_bd_ok (w13 10 (by omega) _), if_neg (by decide), if_pos (by decide), if_neg (by decide), if_pos (by decide), if_neg (by decide), if_pos (by decide), x_gN_ok h1.K0 (r := 167) (by simp only [gR h1.1]), aI_lit (x := (0 : Int32)) (n := 0) (by simp only [gK h1.1]) (by rw [show m_len (m_sI M 128 0 0) 167 = 5 from by simp only [gl h1.1]]; omega) rfl (by omega), h1.bm.2.2.1]
theorem O_count_11 : RO s (F_X11_count 0 (nI 11)) (F_X12_count 128 (nI 11)) := by
  refine ⟨nI (s.2.2.2.1.1), fun M h => ⟨⟨M, ?_, SC.rfl' M⟩, ⟨m_sI M 128 0 0, ?_, SC_thr M 0⟩⟩⟩
  · unfold F_X11_count
    rw [if_neg (by decide), if_neg (by decide), if_neg (by decide), if_neg (by decide), if_neg (by decide), if_neg (by decide), if_neg (by decide), if_neg (by decide), if_neg (by decide), if_neg (by decide), if_neg (by decide), if_pos (by decide), x_gN_ok h.C0 h.R9, x_gI_ok h.B80, h.2.2.2.2.2.2.1.1.2.1]
  · have h1 := h.thr 0
    unfold F_X12_count
    rw [x_pI_ok h.K0, x_bd_ok (w13 11 (by omega) _), if_neg (by decide), if_pos (by decide), if_neg (by decide), if_pos (by decide), if_neg (by decide), if_neg (by decide), if_pos (by decide), x_gI_ok h1.K0, h1.2.2.2.2.2.2.1.2.1]
theorem O_count_12 : RO s (F_X11_count 0 (nI 12)) (F_X12_count 128 (nI 12)) := by
  refine ⟨nI (lH s.2.1 6), fun M h => ⟨⟨M, ?_, SC.rfl' M⟩, ⟨m_sI M 128 0 0, ?_, SC_thr M 0⟩⟩⟩
  · unfold F_X11_count
    rw [if_neg (by decide), if_neg (by decide), if_neg (by decide), if_neg (by decide), if_neg (by decide), if_neg (by decide), if_neg (by decide), if_neg (by decide), if_neg (by decide), if_neg (by decide), if_neg (by decide), if_neg (by decide), if_pos (by decide), x_gN_ok h.C0 h.R2, x_gI_ok h.C2, h.lc.1.2.1]
  · have h1 := h.thr 0
    unfold F_X12_count
    rw [x_pI_ok h.K0, x_bd_ok (w13 12 (by omega) _), if_neg (by decide), if_pos (by decide), if_neg (by decide), if_pos (by decide), if_neg (by decide), if_neg (by decide), if_neg (by decide), if_pos (by decide), x_gN_ok h1.K0 (r := 130) (by simp only [gR h1.1]), aI_lit (x := (6 : Int32)) (n := 6) (by simp only [gK h1.1]) (by rw [show m_len (m_sI M 128 0 0) 130 = 16 from by simp only [gl h1.1]]; omega) rfl (by omega), h1.lm.1 6 (by omega)]
theorem O_count_13 : RO s (F_X11_count 0 (nI 13)) (F_X12_count 128 (nI 13)) := by
  refine ⟨nI (s.1.1), fun M h => ⟨⟨M, ?_, SC.rfl' M⟩, ⟨m_sI M 128 0 0, ?_, SC_thr M 0⟩⟩⟩
  · unfold F_X11_count
    rw [if_neg (by decide), if_neg (by decide), if_neg (by decide), if_neg (by decide), if_neg (by decide), if_neg (by decide), if_neg (by decide), if_neg (by decide), if_neg (by decide), if_neg (by decide), if_neg (by decide), if_neg (by decide), if_neg (by decide), if_pos (by decide), x_gI_ok h.C0, h.2.2.2.2.1.2.1]
  · have h1 := h.thr 0
    unfold F_X12_count
    rw [x_pI_ok h.K0, x_bd_ok (w13 13 (by omega) _), if_neg (by decide), if_pos (by decide), if_neg (by decide), if_pos (by decide), if_neg (by decide), if_neg (by decide), if_neg (by decide), if_neg (by decide), x_gI_ok h1.K0, h1.2.2.2.2.1.2.2.1]
theorem O_count_9 : RO s (F_X11_count 0 (nI 9)) (F_X12_count 128 (nI 9)) := by
  refine ⟨bI s.2.2.1.2.2.1.isSome, fun M h => ⟨⟨M, ?_, SC.rfl' M⟩, ⟨m_sI M 128 0 0, ?_, SC_thr M 0⟩⟩⟩
  · unfold F_X11_count
    rw [if_neg (by decide), if_neg (by decide), if_neg (by decide), if_neg (by decide), if_neg (by decide), if_neg (by decide), if_neg (by decide), if_neg (by decide), if_neg (by decide), if_pos (by decide)]
    cases ha : s.2.2.1.2.2.1 with
    | none => rw [x_gN_ok h.C0 h.R9, x_cV_ok h.B80 (C_has0 h ha), if_pos (by decide)]; rfl
    | some f =>
      obtain ⟨fr, _, _, r3⟩ := C_has1 h ha
      rw [x_gN_ok h.C0 h.R9, x_cV_ok h.B80 r3, if_neg (by decide)]; rfl
  · have h1 := h.thr 0
    unfold F_X12_count
    rw [x_pI_ok h.K0, x_bd_ok (w13 9 (by omega) _), if_neg (by decide), if_pos (by decide), if_neg (by decide), if_pos (by decide), if_pos (by decide), M_ask h1]
    cases s.2.2.1.2.2.1.isSome <;> rfl
theorem O_count (x : Int32) : RO s (F_X11_count 0 x) (F_X12_count 128 x) := by
  have bad : (x < 0 ∨ ∃ k, 13 < k ∧ k < 2147483648 ∧ x = nI k) → RO s (F_X11_count 0 x) (F_X12_count 128 x) := by
    intro hq
    have hne : ∀ n, n < 14 → ¬ x = nI n := by
      intro n hn e
      rcases hq with hx | ⟨k, h1, hk, rfl⟩
      · rw [e] at hx; exact nI_pos (by omega) hx
      · have := (nI_eq hk (by omega)).mp e; omega
    refine ⟨NO, fun M h => ⟨⟨M, ?_, SC.rfl' M⟩, ⟨m_sI M 128 0 0, ?_, SC_thr M 0⟩⟩⟩
    · unfold F_X11_count
      rw [if_neg (show ¬ x = (0 : Int32) from hne 0 (by omega)), if_neg (show ¬ x = (1 : Int32) from hne 1 (by omega)), if_neg (show ¬ x = (2 : Int32) from hne 2 (by omega)), if_neg (show ¬ x = (3 : Int32) from hne 3 (by omega)), if_neg (show ¬ x = (4 : Int32) from hne 4 (by omega)), if_neg (show ¬ x = (5 : Int32) from hne 5 (by omega)), if_neg (show ¬ x = (6 : Int32) from hne 6 (by omega)), if_neg (show ¬ x = (7 : Int32) from hne 7 (by omega)), if_neg (show ¬ x = (8 : Int32) from hne 8 (by omega)), if_neg (show ¬ x = (9 : Int32) from hne 9 (by omega)), if_neg (show ¬ x = (10 : Int32) from hne 10 (by omega)), if_neg (show ¬ x = (11 : Int32) from hne 11 (by omega)), if_neg (show ¬ x = (12 : Int32) from hne 12 (by omega)), if_neg (show ¬ x = (13 : Int32) from hne 13 (by omega))]; rfl
    · have hw : F_X12_within x (0 : Int32) (13 : Int32) (m_sI M 128 0 0) = some (nI 0, m_sI M 128 0 0) := by
        rcases hq with hx | ⟨k, h1, hk, rfl⟩
        · exact S_within_neg (a := 0) hx (by omega)
        · have := S_within (M := m_sI M 128 0 0) (k := k) (a := 0) (b := 13) hk (by omega) (by omega)
          rw [decide_eq_false (p := k ≤ 13) (by omega), Bool.and_false] at this
          exact this
      unfold F_X12_count
      rw [x_pI_ok h.K0, x_bd_ok hw, if_pos (by decide)]; rfl
  rcases i_cases x with ⟨k, hk, rfl⟩ | hx
  · by_cases q : 13 < k
    · exact bad (.inr ⟨k, q, hk, rfl⟩)
    · have hc : k = 0 ∨ k = 1 ∨ k = 2 ∨ k = 3 ∨ k = 4 ∨ k = 5 ∨ k = 6 ∨ k = 7 ∨ k = 8 ∨ k = 9 ∨ k = 10 ∨ k = 11 ∨ k = 12 ∨ k = 13 := by omega
      rcases hc with rfl | rfl | rfl | rfl | rfl | rfl | rfl | rfl | rfl | rfl | rfl | rfl | rfl | rfl
      · exact O_count_0
      · exact O_count_1
      · exact O_count_2
      · exact O_count_3
      · exact O_count_4
      · exact O_count_5
      · exact O_count_6
      · exact O_count_7
      · exact O_count_8
      · exact O_count_9
      · exact O_count_10
      · exact O_count_11
      · exact O_count_12
      · exact O_count_13
  · exact bad (.inl hx)
end OPS4
