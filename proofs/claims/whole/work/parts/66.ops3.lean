/-! reading calls: same, asked, saying -/
section OPS3
variable {M : m_M} {s : St}
theorem M_ask (h : INV s M) {g : Int32 → Option (Int32 × m_M)} : (x_gN 10 M 128 55 fun v1 => x_aI 14 M v1 (0 : Int32) g) = g (bI s.2.2.1.2.2.1.isSome) := by
  have R55 : m_R M 128 55 = some 163 := by simp only [gR h.1]
  have K163 : m_K M 163 = 14 := by simp only [gK h.1]
  have L163 : m_len M 163 = 5 := by simp only [gl h.1]
  rw [x_gN_ok h.K0 R55, show x_aI 14 M 163 (0 : Int32) g = x_aI 14 M 163 (nI 0) g from rfl, x_aI_ok K163 (by rw [L163]; omega) (by omega), M_has h]
theorem C_askn (h : INV s M) (ha : s.2.2.1.2.2.1 = none) {g : Int32 → m_M → Option (Int32 × m_M)} : (x_gN 9 M 0 9 fun v1 => x_cV 1 M v1 (F_X1_hasAsked v1 M) g) = g (nI 0) M := by
  rw [x_gN_ok h.C0 h.R9, x_cV_ok h.B80 (C_has0 h ha)]
theorem if_bI {b : Bool} {β : Type} {x y : β} : (if bI b = 0 then x else y) = if b then y else x := by cases b <;> rfl
theorem ite_01 {p : Prop} [Decidable p] : (if (if p then nI 1 else nI 0) = 0 then some ((0 : Int32), M) else some ((1 : Int32), M)) = some (if p then nI 1 else nI 0, M) := by
  by_cases q : p
  · rw [if_pos q, if_neg (by decide)]; rfl
  · rw [if_neg q, if_pos (by decide)]; rfl
theorem O_same (x y : Int32) : RO s (F_X11_same 0 x y) (F_X12_same 128 x y) := by
  by_cases hx : x < 0
  · refine ⟨NO, fun M h => ⟨⟨M, ?_, SC.rfl' M⟩, ⟨m_sI M 128 0 0, ?_, SC_thr M 0⟩⟩⟩
    · unfold F_X11_same; rw [if_pos hx]; rfl
    · unfold F_X12_same
      rw [x_pI_ok h.K0, M_ask (h.thr 0), if_bI, if_pos hx]
      cases s.2.2.1.2.2.1.isSome <;> rfl
  by_cases hy : y < 0
  · refine ⟨NO, fun M h => ⟨⟨M, ?_, SC.rfl' M⟩, ⟨m_sI M 128 0 0, ?_, SC_thr M 0⟩⟩⟩
    · unfold F_X11_same; rw [if_neg hx, if_pos hy]; rfl
    · unfold F_X12_same
      rw [x_pI_ok h.K0, M_ask (h.thr 0), if_bI, if_neg hx, if_neg (ge_neg hy)]
      cases s.2.2.1.2.2.1.isSome <;> rfl
  obtain ⟨d1, hd1, rfl⟩ := nI_of hx
  obtain ⟨d2, hd2, rfl⟩ := nI_of hy
  cases ha : s.2.2.1.2.2.1 with
  | none =>
    refine ⟨NO, fun M h => ⟨⟨M, ?_, SC.rfl' M⟩, ⟨m_sI M 128 0 0, ?_, SC_thr M 0⟩⟩⟩
    · unfold F_X11_same
      rw [if_neg hx, if_neg hy, C_askn h ha, if_pos (by decide)]; rfl
    · unfold F_X12_same
      rw [x_pI_ok h.K0, M_ask (h.thr 0), if_bI, ha]; rfl
  | some f =>
    refine ⟨if ∀ w, w < wN s.2.1 → fMn s.2.1 (vOf s.2.1 d1) f.1 f.2 w = fMn s.2.1 (vOf s.2.1 d2) f.1 f.2 w then nI 1 else nI 0, fun M h => ⟨?_, ?_⟩⟩
    · obtain ⟨fr, r1, r2, r3⟩ := C_has1 h ha
      obtain ⟨B, e, e1, _, e2⟩ := C_find h r2 (vOf_in h.lo d1) h.W92 (by omega)
      have h2 := e1.INV h
      have r2' := r2.hi e1.hi
      have r1' : m_R (m_wB M B) 80 5 = some fr := r1
      obtain ⟨B2, e3, e4, e5, e6⟩ := C_find h2 r2' (vOf_in h2.lo d2) h2.W94 (by omega)
      have h3 := e4.INV h2
      refine ⟨_, ?_, e1.trans e4⟩
      have hP : Rw (wN s.2.1) (fMn s.2.1 (vOf s.2.1 d1) f.1 f.2) (m_L (m_wB (m_wB M B) B2) 93) := by
        rw [wB_L, e5 93 (by omega) (by omega), wB_L]; exact e2
      unfold F_X11_same
      rw [if_neg hx, if_neg hy, x_gN_ok h.C0 h.R9, x_cV_ok h.B80 r3, if_neg (by decide), x_gN_ok h.C0 h.R6, x_gN_ok h.C0 h.R9, x_gN_ok h.B80 r1, x_gN_ok h.C0 h.R2, x_cV_ok h.C2 (S_verbOfC h.1 h.lc h.lo hd1), x_gN_ok h.C0 h.R13, x_cV_ok h.B33 e, x_gN_ok h2.C0 h2.R6, x_gN_ok h2.C0 h2.R9, x_gN_ok h2.B80 r1', x_gN_ok h2.C0 h2.R2, x_cV_ok h2.C2 (S_verbOfC h2.1 h2.lc h2.lo hd2), x_gN_ok h2.C0 h2.R14, x_cV_ok h2.B33 e3, x_gN_ok h3.C0 h3.R13, x_gN_ok h3.C0 h3.R14, x_cV_ok h3.W92.1 (S_isLike h3.W92 h3.W94 (wN_le h.lo) hP (show Rw _ _ (B2 95) from e6)), ite_01]
    · have h1 := h.thr 0
      have v1 := vOf_in h1.lo d1
      have v2 := vOf_in h1.lo d2
      have l1 := aAt_le h1 v1
      have l2 := aAt_le h1 v2
      refine ⟨_, ?_, SC_thr M 0⟩
      have R54 : m_R (m_sI M 128 0 0) 128 54 = some 162 := by simp only [gR h1.1]
      have K162 : m_K (m_sI M 128 0 0) 162 = 13 := by simp only [gK h1.1]
      have L162 : m_len (m_sI M 128 0 0) 162 = 560 := by simp only [gl h1.1]
      unfold F_X12_same
      rw [x_pI_ok h.K0, M_ask h1, if_bI, ha, show (some f).isSome = true from rfl, if_pos rfl, if_neg hx, if_pos (nI_pos' hd2), x_gN_ok h1.K0 R54, x_cV_ok h1.K0 (S_verbOfM h1.1 h1.lm h1.lo hd1), x_bd_ok (S_askedAt h1 v1), x_gN_ok h1.K0 R54, x_cV_ok h1.K0 (S_verbOfM h1.1 h1.lm h1.lo hd2), x_bd_ok (S_askedAt h1 v2), x_cV_ok h1.K0 (S_areAlike h1.1 h1.lm h1.lo K162 L162 (by omega) (by omega) K162 L162 (by omega) (by omega) (M_row h1 ha v1) (M_row h1 ha v2)), ite_01]
theorem vt_in (h : INV s M) : vIn s.2.1 (vOf s.2.1 s.2.2.1.1) := vOf_in h.lo _
theorem C_today (h : INV s M) : F_X11_verbToday 0 M = some (iO (vOf s.2.1 s.2.2.1.1), M) := by
  have hb := h.bd.1
  unfold F_X11_verbToday
  rw [x_gN_ok h.C0 h.R2, x_gN_ok h.C0 h.R9, x_gI_ok h.B80, h.bc.1, x_cV_ok h.C2 (S_verbOfC h.1 h.lc h.lo (by omega))]
theorem M_asked_l (h : INV s M) {f : Fm} (ha : s.2.2.1.2.2.1 = some f) {P : Nat → Bool} (hP : Rw (wN s.2.1) P (m_L M 170)) : F_X12_asked_24 m_FU 128 (0 : Int32) (0 : Int32) M = some (nI (cnt (fun w => P w && fMn s.2.1 (vOf s.2.1 s.2.2.1.1) f.1 f.2 w) (wN s.2.1)), M) := by
  have hn := wN_le h.lo
  have hb := h.bd.1
  have hv := vt_in h
  have hle := aAt_le h hv
  have I43 : m_I M 128 43 = nI ((wN s.2.1 + 63) / 64) := h.lm.2.2.2.2.2.2
  have R62 : m_R M 128 62 = some 170 := by simp only [gR h.1]
  have K170 : m_K M 170 = 13 := by simp only [gK h.1]
  have L170 : m_len M 170 = 16 := by simp only [gl h.1]
  have R54 : m_R M 128 54 = some 162 := by simp only [gR h.1]
  have K162 : m_K M 162 = 13 := by simp only [gK h.1]
  have L162 : m_len M 162 = 560 := by simp only [gl h.1]
  have hr := hP.and (M_row h ha hv)
  rw [← sumL_lw hr hn]
  refine up_0 (fun g k c => F_X12_asked_24 g 128 c (nI k) M = some (nI (sumL (fun k => m_L M 170 k &&& m_L M 162 (aAt (vOf s.2.1 s.2.2.1.1) + k)) ((wN s.2.1 + 63) / 64)), M)) ((wN s.2.1 + 63) / 64) (fun k c => c = nI (sumL (fun k => m_L M 170 k &&& m_L M 162 (aAt (vOf s.2.1 s.2.2.1.1) + k)) k)) (by omega) rfl ?_ ?_
  · intro g k c hk hc ih
    have e := ih (nI (sumL (fun k => m_L M 170 k &&& m_L M 162 (aAt (vOf s.2.1 s.2.2.1.1) + k)) (k + 1))) rfl
    rw [F_X12_asked_24, x_gI_ok h.K0, I43, if_neg (nI_ge hk (by omega)), x_gN_ok h.K0 R62, x_aL_ok K170 (by rw [L170]; omega) (by omega), x_gN_ok h.K0 R54, x_gI_ok h.K0, h.md, x_cV_ok h.K0 (S_verbOfM h.1 h.lm h.lo (by omega)), x_bd_ok (S_askedAt h hv), nI_add, x_aL_ok K162 (by rw [L162]; omega) (by omega), x_bd_ok (S_ones _ _), m_let_eq, m_let_eq, nI_1, hc, nI_add, pc_lb]
    exact e
  · intro g c hc
    rw [F_X12_asked_24, x_gI_ok h.K0, I43, if_pos (nI_le (Nat.le_refl _) (by omega)), hc]
theorem O_asked : RO s (F_X11_asked 0) (F_X12_asked 128) := by
  cases ha : s.2.2.1.2.2.1 with
  | none =>
    refine ⟨NO, fun M h => ⟨⟨M, ?_, SC.rfl' M⟩, ⟨m_sI M 128 0 0, ?_, SC_thr M 0⟩⟩⟩
    · unfold F_X11_asked
      rw [C_askn h ha, if_pos (by decide)]; rfl
    · unfold F_X12_asked
      rw [x_pI_ok h.K0, M_ask (h.thr 0), if_bI, ha]; rfl
  | some f =>
    refine ⟨nI (cnt (fun w => lefN s w && fMn s.2.1 (vOf s.2.1 s.2.2.1.1) f.1 f.2 w) (wN s.2.1)), fun M h => ⟨?_, ?_⟩⟩
    · obtain ⟨fr, r1, r2, r3⟩ := C_has1 h ha
      obtain ⟨g, q1, q2⟩ := C_left h
      have h1 := SC_left (g := g) |>.INV h
      have r2' := r2.hi (SC_left (g := g)).hi
      have r1' : m_R (m_wL M 91 g) 80 5 = some fr := r1
      obtain ⟨B, e, e1, e5, e2⟩ := C_find h1 r2' (vt_in h1) h1.W92 (by omega)
      have h2 := e1.INV h1
      have hL : Rw (wN s.2.1) (lefN s) (m_L (m_wB (m_wL M 91 g) B) 91) := by
        rw [wB_L, e5 91 (by omega) (by omega)]
        exact q2.of (fun k _ => by rw [mL_wL, if_pos rfl])
      have hF : Rw (wN s.2.1) (fMn s.2.1 (vOf s.2.1 s.2.2.1.1) f.1 f.2) (m_L (m_wB (m_wL M 91 g) B) 93) := e2
      have sc3 : SC (m_wB (m_wL M 91 g) B) (w16 (m_wB (m_wL M 91 g) B) 93 (fun k => m_L (m_wB (m_wL M 91 g) B) 93 k &&& m_L (m_wB (m_wL M 91 g) B) 91 k)) := SC_wL _ _ (by unfold scL; omega)
      have h3 := sc3.INV h2
      refine ⟨_, ?_, ((SC_left (g := g)).trans e1).trans sc3⟩
      have hrow : Rw (wN s.2.1) (fun w => lefN s w && fMn s.2.1 (vOf s.2.1 s.2.2.1.1) f.1 f.2 w) (m_L (w16 (m_wB (m_wL M 91 g) B) 93 (fun k => m_L (m_wB (m_wL M 91 g) B) 93 k &&& m_L (m_wB (m_wL M 91 g) B) 91 k)) 93) := by
        refine ((hF.and hL).of (fun k hk => ?_)).cong (fun w _ => Bool.and_comm _ _)
        unfold w16
        rw [mL_wL, if_pos rfl, if_pos hk]
      unfold F_X11_asked
      rw [x_gN_ok h.C0 h.R9, x_cV_ok h.B80 r3, if_neg (by decide), x_cV_ok h.C0 q1, x_gN_ok h1.C0 h1.R6, x_gN_ok h1.C0 h1.R9, x_gN_ok h1.B80 r1', x_cV_ok h1.C0 (C_today h1), x_gN_ok h1.C0 h1.R13, x_cV_ok h1.B33 e, x_gN_ok h2.C0 h2.R13, x_gN_ok h2.C0 h2.R12, x_cV_ok h2.W92.1 (S_keep h2.W92 h2.W90 (by omega)), x_gN_ok h3.C0 h3.R13, x_cV_ok h3.W92.1 (C_cnt h3 h3.W92 hrow)]
    · have h1 := h.thr 0
      obtain ⟨B, e, e1, e2⟩ := M_left h1
      have h2 := (SC_mleft e1).INV h1
      refine ⟨_, ?_, (SC_thr M 0).trans (SC_mleft e1)⟩
      unfold F_X12_asked
      rw [x_pI_ok h.K0, M_ask h1, if_bI, ha, show (some f).isSome = true from rfl, if_pos rfl, x_cV_ok h1.K0 e, M_asked_l h2 ha (P := lefN s) e2]
theorem O_saying (x y : Int32) : RO s (F_X11_saying 0 x y) (F_X12_saying 128 x y) := by
  have R51 : ∀ {M : m_M}, INV s M → m_R M 128 51 = some 161 := fun h => by simp only [gR h.1]
  have K161 : ∀ {M : m_M}, INV s M → m_K M 161 = 12 := fun h => by simp only [gK h.1]
  have L161 : ∀ {M : m_M}, INV s M → m_len M 161 = 34 := fun h => by simp only [gl h.1]
  have I161 : ∀ {M : m_M}, INV s M → m_I M 161 0 = nI s.2.2.1.2.1.1.1 := fun h => h.bm.1.2.1.1
  have X161 : ∀ {M : m_M} (h : INV s M) (g : Int32 → Option (Int32 × m_M)), x_aI 12 M 161 (0 : Int32) g = g (nI s.2.2.1.2.1.1.1) := fun {M} h g => by
    rw [show x_aI 12 M 161 (0 : Int32) g = x_aI 12 M 161 (nI 0) g from rfl, x_aI_ok (K161 h) (by rw [L161 h]; omega) (by omega), I161 h]
  by_cases hx : x < 0
  · refine ⟨NO, fun M h => ⟨⟨M, ?_, SC.rfl' M⟩, ⟨m_sI M 128 0 0, ?_, SC_thr M 0⟩⟩⟩
    · unfold F_X11_saying F_X1_saidAt
      rw [x_gN_ok h.C0 h.R9, m_let_eq, if_pos hx, x_cV_ok h.B80 rfl]; rfl
    · unfold F_X12_saying
      rw [x_pI_ok h.K0, if_pos hx]; rfl
  obtain ⟨i, hi, rfl⟩ := nI_of hx
  by_cases q : i < s.2.2.1.2.1.1.1
  · -- the saying is there
    have bad : (y < 0 ∨ ∃ k, 1 < k ∧ k < 2147483648 ∧ y = nI k) → RO s (F_X11_saying 0 (nI i) y) (F_X12_saying 128 (nI i) y) := by
      intro hq
      have h0 : ¬ y = (0 : Int32) := by
        rcases hq with hx | ⟨k, h1, hk, rfl⟩
        · intro e; rw [e] at hx; exact absurd hx (by decide)
        · exact nI_ne0 (by omega) hk
      have h1 : ¬ y = (1 : Int32) := by
        rcases hq with hx | ⟨k, h1, hk, rfl⟩
        · intro e; rw [e] at hx; exact absurd hx (by decide)
        · intro e; have := (nI_eq (b := 1) hk (by omega)).mp e; omega
      refine ⟨NO, fun M h => ⟨⟨M, ?_, SC.rfl' M⟩, ⟨m_sI M 128 0 0, ?_, SC_thr M 0⟩⟩⟩
      · obtain ⟨r, e, _⟩ := S_saidAt h.1 h.bc.2.1 q
        unfold F_X11_saying
        rw [x_gN_ok h.C0 h.R9, x_cV_ok h.B80 e, x_nul_some, if_neg h0, if_neg h1]; rfl
      · have h1' := h.thr 0
        have hb := h1'.bm.1.1.1
        have hw : F_X12_within y (0 : Int32) (1 : Int32) (m_sI M 128 0 0) = some (nI 0, m_sI M 128 0 0) := by
          rcases hq with hx | ⟨k, h1, hk, rfl⟩
          · exact S_within_neg (a := 0) hx (by omega)
          · have := S_within (M := m_sI M 128 0 0) (k := k) (a := 0) (b := 1) hk (by omega) (by omega)
            rw [decide_eq_false (p := k ≤ 1) (by omega), Bool.and_false] at this
            exact this
        unfold F_X12_saying
        rw [x_pI_ok h.K0, if_neg hx, x_gN_ok h1'.K0 (R51 h1'), X161 h1', if_neg (nI_ge q (by omega)), x_bd_ok hw, if_pos (by decide)]; rfl
    rcases i_cases y with ⟨k, hk, rfl⟩ | hy
    · by_cases q1 : 1 < k
      · exact bad (.inr ⟨k, q1, hk, rfl⟩)
      · have hw : ∀ M : m_M, F_X12_within (nI k) (0 : Int32) (1 : Int32) M = some (nI 1, M) := fun M => by
          have := S_within (M := M) (k := k) (a := 0) (b := 1) hk (by omega) (by omega)
          rw [decide_eq_true (p := k ≤ 1) (by omega), decide_eq_true (p := 0 ≤ k) (by omega)] at this
          exact this
        by_cases q0 : k = 0
        · subst q0
          refine ⟨nI (s.2.2.1.2.1.1.2 i).2.1, fun M h => ⟨⟨M, ?_, SC.rfl' M⟩, ⟨m_sI M 128 0 0, ?_, SC_thr M 0⟩⟩⟩
          · obtain ⟨r, e, ⟨_, Kr, fr, st, la, _, ⟨_, hd⟩, _⟩, _⟩ := S_saidAt h.1 h.bc.2.1 q
            unfold F_X11_saying
            rw [x_gN_ok h.C0 h.R9, x_cV_ok h.B80 e, x_nul_some, if_pos (by decide), x_gI_ok Kr, hd]
          · have h1 := h.thr 0
            have hb := h1.bm.1.1.1
            obtain ⟨hd, _⟩ := h1.bm.1.2.2.1 i q
            have hd' : m_I (m_sI M 128 0 0) 157 i = nI (s.2.2.1.2.1.1.2 i).2.1 := by rw [show 12 * 0 + i = i by omega] at hd; exact hd
            unfold F_X12_saying
            rw [x_pI_ok h.K0, if_neg hx, x_gN_ok h1.K0 (R51 h1), X161 h1, if_neg (nI_ge q (by omega)), x_bd_ok (hw _), if_neg (by decide), if_pos (by decide), x_gN_ok h1.K0 (r := 157) (by simp only [gR h1.1]), x_aI_ok (by simp only [gK h1.1]) (by rw [show m_len (m_sI M 128 0 0) 157 = 204 from by simp only [gl h1.1]]; omega) (by omega), hd']
        · have hk1 : k = 1 := by omega
          subst hk1
          refine ⟨nI (cnt (bdS s.2.1 (s.2.2.1.2.1.1.2 i)) (wN s.2.1)), fun M h => ⟨⟨M, ?_, SC.rfl' M⟩, ⟨m_sI M 128 0 0, ?_, SC_thr M 0⟩⟩⟩
          · obtain ⟨r, e, ⟨_, Kr, fr, st, la, _, _, hr3, hws, _, _, hrow⟩, _⟩ := S_saidAt h.1 h.bc.2.1 q
            unfold F_X11_saying
            rw [x_gN_ok h.C0 h.R9, x_cV_ok h.B80 e, x_nul_some, if_neg (by decide), if_pos (by decide), x_gN_ok Kr hr3, x_cV_ok hws.1 (C_cnt h hws hrow)]
          · have h1 := h.thr 0
            have hb := h1.bm.1.1.1
            obtain ⟨_, hrow⟩ := h1.bm.1.2.2.1 i q
            have hrow' : Rw (wN s.2.1) (bdS s.2.1 (s.2.2.1.2.1.1.2 i)) (fun k => m_L (m_sI M 128 0 0) 156 (16 * i + k)) := hrow.of (fun k _ => by rw [show 192 * 0 + 16 * i + k = 16 * i + k by omega])
            unfold F_X12_saying
            rw [x_pI_ok h.K0, if_neg hx, x_gN_ok h1.K0 (R51 h1), X161 h1, if_neg (nI_ge q (by omega)), x_bd_ok (hw _), if_neg (by decide), if_neg (by decide), x_gN_ok h1.K0 (r := 156) (by simp only [gR h1.1]), show (16 : Int32) = nI 16 from rfl, nI_mul, x_cV_ok h1.K0 (S_countOf h1.1 h1.lm h1.lo (row := 156) (at0 := 16 * i) (len := 3264) (by simp only [gK h1.1]) (by simp only [gl h1.1]) (by omega) (by omega) hrow')]
    · exact bad (.inl hy)
  · refine ⟨NO, fun M h => ⟨⟨M, ?_, SC.rfl' M⟩, ⟨m_sI M 128 0 0, ?_, SC_thr M 0⟩⟩⟩
    · have hb := h.bc.2.1.1.1
      unfold F_X11_saying F_X1_saidAt
      rw [x_gN_ok h.C0 h.R9, m_let_eq, if_neg hx, x_gI_ok h.B80, h.bc.2.1.2.1.1, if_pos (nI_le (by omega) hi), x_cV_ok h.B80 rfl]; rfl
    · have h1 := h.thr 0
      unfold F_X12_saying
      rw [x_pI_ok h.K0, if_neg hx, x_gN_ok h1.K0 (R51 h1), X161 h1, if_pos (nI_le (by omega) hi)]; rfl
end OPS3
