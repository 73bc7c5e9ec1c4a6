/-! reading calls: worlds left, clauses, what is asked -/
def aAt : Option Nat → Nat
  | none => 96
  | some k => 16 * k
section OPS2
variable {M : m_M} {s : St}
theorem fR_pos {l : Ld} {f : Fm} (h : fRok l f.1 f.2 0 0) : 0 < f.2 := by
  cases hq : f.2 with
  | zero => rw [hq] at h; exact absurd h (Nat.lt_irrefl 0)
  | succ n => omega
theorem C_has0 (h : INV s M) (ha : s.2.2.1.2.2.1 = none) : F_X1_hasAsked 80 M = some (nI 0, M) := by
  obtain ⟨fr, r1, r2, _⟩ := h.bc.2.2.1
  obtain ⟨k1, k2, _⟩ := r2 ha
  unfold F_X1_hasAsked
  rw [x_gN_ok h.B80 r1, x_len_ok k1, k2, if_pos (by decide)]; rfl
theorem C_has1 (h : INV s M) {f : Fm} (ha : s.2.2.1.2.2.1 = some f) : ∃ fr, m_R M 80 5 = some fr ∧ FmC s.2.1 f fr M ∧ F_X1_hasAsked 80 M = some (nI 1, M) := by
  obtain ⟨fr, r1, _, r3⟩ := h.bc.2.2.1
  have hf := r3 f ha
  refine ⟨fr, r1, hf, ?_⟩
  have hp := fR_pos hf.2.2.2.2.2
  have hb := hf.2.2.2.1
  unfold F_X1_hasAsked
  rw [x_gN_ok h.B80 r1, x_len_ok hf.2.1, hf.2.2.1, if_neg (nI_nle hp (by omega))]; rfl
theorem C_find (h : INV s M) {f : Fm} {fr st la : Nat} (hf : FmC s.2.1 f fr M) {v : Option Nat} (hv : vIn s.2.1 v) (w : Ws M st la) (hla : la = 91 ∨ la = 93 ∨ la = 95) :
    ∃ B, F_X5_find 33 fr (iO v) st M = some ((), m_wB M B) ∧ SC M (m_wB M B) ∧ (∀ a, (a < 36 ∨ 66 < a) → a ≠ la → B a = m_L M a) ∧ Rw (wN s.2.1) (fMn s.2.1 v f.1 f.2) (B la) := by
  obtain ⟨f1, f2, f3, f4, f5, f6⟩ := hf
  obtain ⟨B, e, e1, e2⟩ := S_find h.1 h.lc h.lo h.ls (st := st) (la := la) hv f4 f2 f3 f5 f6 w (by omega)
  refine ⟨B, e, SC_wB M (fun a ha => e1 a ?_ ?_), e1, e2⟩
  · unfold scL at ha; omega
  · unfold scL at ha; omega
theorem M_has (h : INV s M) : m_I M 163 0 = bI s.2.2.1.2.2.1.isSome := h.bm.2.1.1
theorem M_row (h : INV s M) {f : Fm} (ha : s.2.2.1.2.2.1 = some f) {v : Option Nat} (hv : vIn s.2.1 v) : Rw (wN s.2.1) (fMn s.2.1 v f.1 f.2) (fun k => m_L M 162 (aAt v + k)) := by
  obtain ⟨q1, q2⟩ := h.bm.2.1.2 f ha
  cases v with
  | none => exact q2.of (fun k _ => by rw [show 112 * 0 + 96 + k = aAt none + k from (show 112 * 0 + 96 + k = 96 + k by omega)])
  | some v => exact (q1 v (hv v rfl)).of (fun k _ => by rw [show 112 * 0 + 16 * v + k = aAt (some v) + k from (show 112 * 0 + 16 * v + k = 16 * v + k by omega)])
theorem aAt_le (h : INV s M) {v : Option Nat} (hv : vIn s.2.1 v) : aAt v ≤ 96 := by
  have := h.lo.2.2.2.1
  cases v with
  | none => exact Nat.le_refl _
  | some v => have := hv v rfl; show 16 * v ≤ 96; omega
theorem S_askedAt (h : INV s M) {v : Option Nat} (hv : vIn s.2.1 v) {M' : m_M} : F_X12_askedAt (iO v) M' = some (nI (aAt v), M') := by
  have hb := h.lo.2.2.2.1
  unfold F_X12_askedAt
  cases v with
  | none => rw [if_neg (by decide)]; rfl
  | some v =>
    have := hv v rfl
    show (if (0 : Int32) ≤ nI v then some ((16 : Int32) * nI v, M') else _) = _
    rw [if_pos (nI_pos' (by omega)), show (16 : Int32) = nI 16 from rfl, nI_mul]; rfl
theorem O_left (x : Int32) : RO s (F_X11_left 0 x) (F_X12_left 128 x) := by
  have bad : (x < 0 ∨ ∃ k, wN s.2.1 ≤ k ∧ k < 2147483648 ∧ x = nI k) → RO s (F_X11_left 0 x) (F_X12_left 128 x) := by
    intro hq
    refine ⟨NO, fun M h => ⟨⟨M, ?_, SC.rfl' M⟩, ⟨m_sI M 128 0 0, ?_, SC_thr M 0⟩⟩⟩
    · have e : F_X3_isWorld 2 x M = some (nI 0, M) := by
        rcases hq with hx | ⟨k, h1, hk, rfl⟩
        · exact S_isWorldC_neg hx
        · rw [S_isWorldC h.1 h.lc (wN_le h.lo) hk, decide_eq_false (by omega)]; rfl
      unfold F_X11_left
      rw [x_gN_ok h.C0 h.R2, x_cV_ok h.C2 e, if_pos (by decide)]; rfl
    · have h1 := h.thr 0
      have e : F_X12_isWorld 128 x (m_sI M 128 0 0) = some (nI 0, m_sI M 128 0 0) := by
        rcases hq with hx | ⟨k, h1', hk, rfl⟩
        · exact S_isWorldM_neg hx
        · rw [S_isWorldM h1.1 h1.lm (wN_le h1.lo) hk, decide_eq_false (by omega)]; rfl
      unfold F_X12_left
      rw [x_pI_ok h.K0, x_cV_ok h1.K0 e, if_pos (by decide)]; rfl
  rcases i_cases x with ⟨k, hk, rfl⟩ | hx
  · by_cases q : k < wN s.2.1
    · refine ⟨bI (lefN s k), fun M h => ⟨?_, ?_⟩⟩
      · have hn := wN_le h.lo
        obtain ⟨g, e, e1⟩ := C_left h
        have h2 := SC_left (g := g) |>.INV h
        refine ⟨_, ?_, SC_left (g := g)⟩
        unfold F_X11_left
        rw [x_gN_ok h.C0 h.R2, x_cV_ok h.C2 (S_isWorldC h.1 h.lc hn hk), decide_eq_true q, if_neg (by decide), x_cV_ok h.C0 e, x_gN_ok h2.C0 h2.R12, x_cV_ok h2.W90.1 (S_has h2.W90 hn (P := lefN s) (e1.of (fun k hk => by rw [mL_wL, if_pos rfl])) q)]
        cases lefN s k <;> rfl
      · have h1 := h.thr 0
        have hn := wN_le h.lo
        obtain ⟨B, e, e1, e2⟩ := M_left h1
        have h2 := (SC_mleft e1).INV h1
        refine ⟨_, ?_, (SC_thr M 0).trans (SC_mleft e1)⟩
        have eb := lb_shr (B 170 (k / 64)) (j := k % 64) (by omega)
        rw [e2.at q hn] at eb
        have e64 : nI k - nI (k / 64) * (64 : Int32) = nI (k % 64) := by rw [show (64 : Int32) = nI 64 from rfl, nI_mul, i32_rem2]
        unfold F_X12_left
        rw [x_pI_ok h.K0, x_cV_ok h1.K0 (S_isWorldM h1.1 h1.lm hn hk), decide_eq_true q, if_neg (by decide), x_cV_ok h1.K0 e, x_gN_ok h2.K0 (r := 170) (by simp only [gR h2.1]), x_nz_eq, if_neg (by decide), show nI k / (64 : Int32) = nI (k / 64) from i32_div (b := 64) hk (by omega), x_aL_ok (by simp only [gK h2.1]) (by rw [show m_len (m_w2 (m_sI M 128 0 0) (m_I (m_sI M 128 0 0)) B) 170 = 16 from by simp only [gl h2.1]]; omega) (by omega), x_nz_eq, if_neg (by decide), w2_L, e64, eb]
        cases lefN s k <;> rfl
    · exact bad (.inr ⟨k, by omega, hk, rfl⟩)
  · exact bad (.inl hx)
theorem O_holds (x y z : Int32) : RO s (F_X11_holds 0 x y z) (F_X12_holds 128 x y z) := by
  have bc : (x < 0 ∨ ∃ k, ccOk s.2.1 k = false ∧ k < 2147483648 ∧ x = nI k) → RO s (F_X11_holds 0 x y z) (F_X12_holds 128 x y z) := by
    intro hq
    refine ⟨NO, fun M h => ⟨⟨M, ?_, SC.rfl' M⟩, ⟨m_sI M 128 0 0, ?_, SC_thr M 0⟩⟩⟩
    · have e : F_X3_isClause 2 x M = some (nI 0, M) := by
        rcases hq with hx | ⟨k, h1, hk, rfl⟩
        · exact S_isClauseC_neg hx
        · rw [S_isClauseC h.1 h.lc h.lo hk, h1]; rfl
      unfold F_X11_holds
      rw [x_gN_ok h.C0 h.R2, x_cV_ok h.C2 e, if_pos (by decide)]; rfl
    · have h1 := h.thr 0
      have e : F_X12_isClause 128 x (m_sI M 128 0 0) = some (nI 0, m_sI M 128 0 0) := by
        rcases hq with hx | ⟨k, h1', hk, rfl⟩
        · exact S_isClauseM_neg hx
        · rw [S_isClauseM h1.1 h1.lm h1.lo hk, h1']; rfl
      unfold F_X12_holds
      rw [x_pI_ok h.K0, x_cV_ok h1.K0 e, if_pos (by decide)]; rfl
  rcases i_cases x with ⟨c, hc, rfl⟩ | hx
  · cases hcc : ccOk s.2.1 c
    · exact bc (.inr ⟨c, hcc, hc, rfl⟩)
    · rcases i_cases y with ⟨d, hd, rfl⟩ | hy
      · have bw : (z < 0 ∨ ∃ k, wN s.2.1 ≤ k ∧ k < 2147483648 ∧ z = nI k) → RO s (F_X11_holds 0 (nI c) (nI d) z) (F_X12_holds 128 (nI c) (nI d) z) := by
          intro hq
          refine ⟨NO, fun M h => ⟨⟨M, ?_, SC.rfl' M⟩, ⟨m_sI M 128 0 0, ?_, SC_thr M 0⟩⟩⟩
          · have e : F_X3_isWorld 2 z M = some (nI 0, M) := by
              rcases hq with hx | ⟨k, h1, hk, rfl⟩
              · exact S_isWorldC_neg hx
              · rw [S_isWorldC h.1 h.lc (wN_le h.lo) hk, decide_eq_false (by omega)]; rfl
            unfold F_X11_holds
            rw [x_gN_ok h.C0 h.R2, x_cV_ok h.C2 (S_isClauseC h.1 h.lc h.lo hc), hcc, if_neg (by decide), if_neg (nI_pos hd), x_gN_ok h.C0 h.R2, x_cV_ok h.C2 e, if_pos (by decide)]; rfl
          · have h1 := h.thr 0
            have e : F_X12_isWorld 128 z (m_sI M 128 0 0) = some (nI 0, m_sI M 128 0 0) := by
              rcases hq with hx | ⟨k, h1', hk, rfl⟩
              · exact S_isWorldM_neg hx
              · rw [S_isWorldM h1.1 h1.lm (wN_le h1.lo) hk, decide_eq_false (by omega)]; rfl
            unfold F_X12_holds
            rw [x_pI_ok h.K0, x_cV_ok h1.K0 (S_isClauseM h1.1 h1.lm h1.lo hc), hcc, if_neg (by decide), if_neg (nI_pos hd), x_cV_ok h1.K0 e, if_pos (by decide)]; rfl
        rcases i_cases z with ⟨w, hw, rfl⟩ | hz
        · by_cases q : w < wN s.2.1
          · refine ⟨bI (cby s.2.1 (vOf s.2.1 d) c w), fun M h => ⟨⟨M, ?_, SC.rfl' M⟩, ?_⟩⟩
            · have hn := wN_le h.lo
              obtain ⟨q400, n1, n2⟩ := ccOk_iff.mp hcc
              unfold F_X11_holds
              rw [x_gN_ok h.C0 h.R2, x_cV_ok h.C2 (S_isClauseC h.1 h.lc h.lo hc), hcc, if_neg (by decide), if_neg (nI_pos hd), x_gN_ok h.C0 h.R2, x_cV_ok h.C2 (S_isWorldC h.1 h.lc hn hw), decide_eq_true q, if_neg (by decide), x_gN_ok h.C0 h.R2, x_gN_ok h.C0 h.R2, x_cV_ok h.C2 (S_verbOfC h.1 h.lc h.lo hd), x_cV_ok h.C2 (S_clauseHoldsC h.1 h.lc h.lo (vOf_in h.lo d) q400 n1 n2 hw)]
              unfold cby
              cases hby s.2.1 (vOf s.2.1 d) (partN (c / 20)) (partN (c % 20)) w <;> rfl
            · have h1 := h.thr 0
              have hn := wN_le h.lo
              obtain ⟨A1, s1, s2, s3⟩ := S_shows (M := m_sI M 128 0 0) (A := m_I (m_sI M 128 0 0)) h1.1 h1.lm h1.lo (w := w) (by omega)
              have hl1 : LMi s.2.1 A1 := h1.lm.sc (fun a ha => s2 a (by omega))
              obtain ⟨A2, t1, t2⟩ := S_clauseHoldsM (M := m_sI M 128 0 0) h1.1 hl1 h1.lo (vOf_in h1.lo d) hcc s3
              rw [wA_0] at s1
              refine ⟨m_wA (m_sI M 128 0 0) A2, ?_, (SC_thr M 0).trans ?_⟩
              · have K1 : ∀ A, m_K (m_wA (m_sI M 128 0 0) A) 128 = 10 := fun A => by rw [wA_K]; exact h1.K0
                unfold F_X12_holds
                rw [x_pI_ok h.K0, x_cV_ok h1.K0 (S_isClauseM h1.1 h1.lm h1.lo hc), hcc, if_neg (by decide), if_neg (nI_pos hd), x_cV_ok h1.K0 (S_isWorldM h1.1 h1.lm hn hw), decide_eq_true q, if_neg (by decide), x_cV_ok h1.K0 s1, x_cV_ok (K1 _) (S_verbOfM (M := m_wA (m_sI M 128 0 0) A1) h1.1 (by rw [wA_I]; exact hl1) h1.lo hd), x_cV_ok (K1 _) t1]
                cases cby s.2.1 (vOf s.2.1 d) c w <;> rfl
              · rw [w2_A]
                refine SC_w2 _ (fun a ha => ?_) (fun _ _ => rfl)
                unfold scr at ha
                rw [t2 a (by omega), s2 a (by omega)]
          · exact bw (.inr ⟨w, by omega, hw, rfl⟩)
        · exact bw (.inl hz)
      · refine ⟨NO, fun M h => ⟨⟨M, ?_, SC.rfl' M⟩, ⟨m_sI M 128 0 0, ?_, SC_thr M 0⟩⟩⟩
        · unfold F_X11_holds
          rw [x_gN_ok h.C0 h.R2, x_cV_ok h.C2 (S_isClauseC h.1 h.lc h.lo hc), hcc, if_neg (by decide), if_pos hy]; rfl
        · have h1 := h.thr 0
          unfold F_X12_holds
          rw [x_pI_ok h.K0, x_cV_ok h1.K0 (S_isClauseM h1.1 h1.lm h1.lo hc), hcc, if_neg (by decide), if_pos hy]; rfl
  · exact bc (.inl hx)
theorem O_meant (x : Int32) : RO s (F_X11_meant 0 x) (F_X12_meant 128 x) := by
  have R55 : ∀ {M : m_M}, INV s M → m_R M 128 55 = some 163 := fun h => by simp only [gR h.1]
  have K163 : ∀ {M : m_M}, INV s M → m_K M 163 = 14 := fun h => by simp only [gK h.1]
  have L163 : ∀ {M : m_M}, INV s M → m_len M 163 = 5 := fun h => by simp only [gl h.1]
  have hI : ∀ {M : m_M}, INV s M → ∀ g : Int32 → Option (Int32 × m_M), x_aI 14 M 163 (0 : Int32) g = g (bI s.2.2.1.2.2.1.isSome) := fun {M} h g => by
    rw [show x_aI 14 M 163 (0 : Int32) g = x_aI 14 M 163 (nI 0) g from rfl, x_aI_ok (K163 h) (by rw [L163 h]; omega) (by omega), M_has h]
  rcases i_cases x with ⟨d, hd, rfl⟩ | hx
  · cases ha : s.2.2.1.2.2.1 with
    | none =>
      refine ⟨NO, fun M h => ⟨⟨M, ?_, SC.rfl' M⟩, ⟨m_sI M 128 0 0, ?_, SC_thr M 0⟩⟩⟩
      · unfold F_X11_meant
        rw [if_neg (nI_pos hd), x_gN_ok h.C0 h.R9, x_cV_ok h.B80 (C_has0 h ha), if_pos (by decide)]; rfl
      · have h1 := h.thr 0
        unfold F_X12_meant
        rw [m_let_eq, x_pI_ok h.K0, x_gN_ok h1.K0 (R55 h1), hI h1, ha, if_pos (by decide)]; rfl
    | some f =>
      refine ⟨nI (cnt (fMn s.2.1 (vOf s.2.1 d) f.1 f.2) (wN s.2.1)), fun M h => ⟨?_, ?_⟩⟩
      · obtain ⟨fr, r1, r2, r3⟩ := C_has1 h ha
        obtain ⟨B, e, e1, _, e2⟩ := C_find h r2 (vOf_in h.lo d) h.W92 (by omega)
        have h2 := e1.INV h
        refine ⟨_, ?_, e1⟩
        unfold F_X11_meant
        rw [if_neg (nI_pos hd), x_gN_ok h.C0 h.R9, x_cV_ok h.B80 r3, if_neg (by decide), x_gN_ok h.C0 h.R6, x_gN_ok h.C0 h.R9, x_gN_ok h.B80 r1, x_gN_ok h.C0 h.R2, x_cV_ok h.C2 (S_verbOfC h.1 h.lc h.lo hd), x_gN_ok h.C0 h.R13, x_cV_ok h.B33 e, x_gN_ok h2.C0 h2.R13, x_cV_ok h2.W92.1 (C_cnt h2 h2.W92 (show Rw _ _ (B 93) from e2))]
      · have h1 := h.thr 0
        have hv := vOf_in h1.lo d
        have hle := aAt_le h1 hv
        refine ⟨_, ?_, SC_thr M 0⟩
        unfold F_X12_meant
        rw [m_let_eq, x_pI_ok h.K0, x_gN_ok h1.K0 (R55 h1), hI h1, ha, show (some f).isSome = true from rfl, if_neg (by decide), if_neg (nI_pos hd), x_gN_ok h1.K0 (r := 162) (by simp only [gR h1.1]), x_cV_ok h1.K0 (S_verbOfM h1.1 h1.lm h1.lo hd), x_bd_ok (S_askedAt h1 hv), x_cV_ok h1.K0 (S_countOf h1.1 h1.lm h1.lo (row := 162) (at0 := aAt (vOf s.2.1 d)) (len := 560) (by simp only [gK h1.1]) (by simp only [gl h1.1]) (by omega) (by omega) (M_row h1 ha hv))]
  · refine ⟨NO, fun M h => ⟨⟨M, ?_, SC.rfl' M⟩, ⟨m_sI M 128 0 0, ?_, SC_thr M 0⟩⟩⟩
    · unfold F_X11_meant
      rw [if_pos hx]; rfl
    · have h1 := h.thr 0
      unfold F_X12_meant
      rw [m_let_eq, x_pI_ok h.K0, x_gN_ok h1.K0 (R55 h1), hI h1]
      cases s.2.2.1.2.2.1.isSome
      · rw [if_pos (by decide)]; rfl
      · rw [if_neg (by decide), if_pos hx]; rfl
end OPS2
