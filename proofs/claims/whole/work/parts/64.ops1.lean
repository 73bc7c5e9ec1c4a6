/-! reading calls: both sides give one answer and leave the state -/
def RO (s : St) (fc fm : m_M → Option (Int32 × m_M)) : Prop := ∃ v, ∀ M, INV s M → (∃ M', fc M = some (v, M') ∧ SC M M') ∧ ∃ M', fm M = some (v, M') ∧ SC M M'
section OPS1
variable {M : m_M} {s : St}
theorem SC_thr (M : m_M) (v : Int32) : SC M (m_sI M 128 0 v) := by
  refine ⟨rfl, rfl, fun a _ ha => ?_, fun k hk _ => ?_, fun _ _ => rfl⟩
  · funext j; rw [mI_sI, if_neg (fun q => ha q.1)]
  · rw [mI_sI, if_neg (by omega)]
theorem SC_wL (M : m_M) {a : Nat} (f : Nat → Int64) (ha : scL a) : SC M (m_wL M a f) := by
  refine ⟨rfl, rfl, fun _ _ _ => rfl, fun _ _ _ => rfl, fun b hb => ?_⟩
  funext j
  rw [mL_wL, if_neg (fun q => hb (by rw [q]; exact ha))]
theorem SC_wB (M : m_M) {B : Nat → Nat → Int64} (h : ∀ a, ¬ scL a → B a = m_L M a) : SC M (m_wB M B) := ⟨rfl, rfl, fun _ _ _ => rfl, fun _ _ _ => rfl, h⟩
theorem SC_w2 (M : m_M) {A : IA} {B : Nat → Nat → Int64} (h1 : ∀ a, ¬ scr a → A a = m_I M a) (h : ∀ a, ¬ scL a → B a = m_L M a) : SC M (m_w2 M A B) := by
  refine ⟨rfl, rfl, fun a ha _ => h1 a (fun q => ha ?_), fun k _ _ => ?_, h⟩
  · unfold scr at q; unfold scI; omega
  · show A 128 k = _
    rw [h1 128 (by unfold scr; omega)]
theorem SC_w2' (M : m_M) {B : Nat → Nat → Int64} (h : ∀ a, ¬ scL a → B a = m_L M a) : SC M (m_w2 M (m_I M) B) := SC_w2 M (fun _ _ => rfl) h
theorem INV.thr (h : INV s M) (v : Int32) : INV s (m_sI M 128 0 v) := (SC_thr M v).INV h
theorem INV.K0 (h : INV s M) : m_K M 128 = 10 := by simp only [gK h.1]
theorem INV.C0 (h : INV s M) : m_K M 0 = 9 := by simp only [gK h.1]
theorem INV.C2 (h : INV s M) : m_K M 2 = 3 := by simp only [gK h.1]
theorem INV.R2 (h : INV s M) : m_R M 0 2 = some 2 := by simp only [gR h.1]
theorem INV.R9 (h : INV s M) : m_R M 0 9 = some 80 := by simp only [gR h.1]
theorem INV.R12 (h : INV s M) : m_R M 0 12 = some 90 := by simp only [gR h.1]
theorem INV.R13 (h : INV s M) : m_R M 0 13 = some 92 := by simp only [gR h.1]
theorem INV.R14 (h : INV s M) : m_R M 0 14 = some 94 := by simp only [gR h.1]
theorem INV.R6 (h : INV s M) : m_R M 0 6 = some 33 := by simp only [gR h.1]
theorem INV.W90 (h : INV s M) : Ws M 90 91 := by refine ⟨?_, ?_, ?_, ?_⟩ <;> simp only [gK h.1, gR h.1, gl h.1]
theorem INV.W92 (h : INV s M) : Ws M 92 93 := by refine ⟨?_, ?_, ?_, ?_⟩ <;> simp only [gK h.1, gR h.1, gl h.1]
theorem INV.W94 (h : INV s M) : Ws M 94 95 := by refine ⟨?_, ?_, ?_, ?_⟩ <;> simp only [gK h.1, gR h.1, gl h.1]
theorem INV.B80 (h : INV s M) : m_K M 80 = 1 := by simp only [gK h.1]
theorem INV.B33 (h : INV s M) : m_K M 33 = 5 := by simp only [gK h.1]
theorem INV.lo (h : INV s M) : lOk s.2.1 := h.2.1
theorem INV.lc (h : INV s M) : LCi s.2.1 (m_I M) := h.2.2.1.1
theorem INV.ls (h : INV s M) : LCs s.2.1 (m_L M 13) := h.2.2.1.2.1
theorem INV.lm (h : INV s M) : LMi s.2.1 (m_I M) := h.2.2.2.1.1
theorem INV.bc (h : INV s M) : BkC s.2.1 s.2.2.1 80 M := h.2.2.2.2.2.1.1
theorem INV.bm (h : INV s M) : BkM s.2.1 s.2.2.1 0 (m_I M) (m_L M) := h.2.2.2.2.2.1.2.1
theorem INV.bd (h : INV s M) : BkD s.2.1 s.2.2.1 := h.2.2.2.2.2.1.2.2.1
theorem INV.md (h : INV s M) : m_I M 128 53 = nI s.2.2.1.1 := h.2.2.2.2.2.1.2.2.2
/-- what is left now -/
def lefN (s : St) : Nat → Bool := lefP s.2.1 s.2.2.1.2.1 s.2.2.1.1 4095
theorem C_left (h : INV s M) : ∃ g, F_X11_findLeft 0 M = some ((), m_wL M 91 g) ∧ Rw (wN s.2.1) (lefN s) g := S_findLeft h.1 h.lc h.lo (by have := h.bd.1; omega) h.bc.1 h.bd.2.1 h.bc.2.1
theorem M_left (h : INV s M) : ∃ B, F_X12_leaves 128 M = some ((), m_w2 M (m_I M) B) ∧ (∀ b, b ≠ 170 → B b = m_L M b) ∧ Rw (wN s.2.1) (lefN s) (B 170) := by
  obtain ⟨B, e, e1, e2⟩ := S_leaves (A := m_I M) (B := m_L M) h.1 h.lm h.lo (by have := h.bd.1; omega) h.md h.bd.2.1 h.bm.1
  rw [w2_0] at e
  exact ⟨B, e, e1, e2⟩
theorem SC_left {g : Nat → Int64} : SC M (m_wL M 91 g) := SC_wL M g (by unfold scL; omega)
theorem SC_mleft {B : Nat → Nat → Int64} (h : ∀ b, b ≠ 170 → B b = m_L M b) : SC M (m_w2 M (m_I M) B) := SC_w2' M (fun a ha => h a (by unfold scL at ha; omega))
theorem verbC_neg {x : Int32} (hx : x < 0) : F_X3_verbOf 2 x M = some (NO, M) := by
  unfold F_X3_verbOf
  rw [if_neg (fun q => Int32.lt_irrefl (Int32.lt_of_lt_of_le hx q))]; rfl
theorem ge_neg {x : Int32} (hx : x < 0) : ¬ (0 : Int32) ≤ x := fun q => Int32.lt_irrefl (Int32.lt_of_lt_of_le hx q)
theorem O_verb (x : Int32) : RO s (F_X11_verb 0 x) (F_X12_verb 128 x) := by
  rcases i_cases x with ⟨k, hk, rfl⟩ | hx
  · refine ⟨iO (vOf s.2.1 k), fun M h => ⟨⟨M, ?_, SC.rfl' M⟩, ⟨m_sI M 128 0 0, ?_, SC_thr M 0⟩⟩⟩
    · unfold F_X11_verb
      rw [x_gN_ok h.C0 h.R2, x_cV_ok h.C2 (S_verbOfC h.1 h.lc h.lo hk)]
    · have h1 := h.thr 0
      unfold F_X12_verb
      rw [x_pI_ok h.K0, if_pos (nI_pos' hk), x_cV_ok h1.K0 (S_verbOfM h1.1 h1.lm h1.lo hk)]
  · refine ⟨NO, fun M h => ⟨⟨M, ?_, SC.rfl' M⟩, ⟨m_sI M 128 0 0, ?_, SC_thr M 0⟩⟩⟩
    · unfold F_X11_verb
      rw [x_gN_ok h.C0 h.R2, x_cV_ok h.C2 (verbC_neg hx)]
    · unfold F_X12_verb
      rw [x_pI_ok h.K0, if_neg (ge_neg hx)]; rfl
theorem O_thing (x : Int32) : RO s (F_X11_thing 0 x) (F_X12_thing 128 x) := by
  rcases i_cases x with ⟨k, hk, rfl⟩ | hx
  · by_cases q : k < lH s.2.1 1
    · refine ⟨nI (lW s.2.1 k), fun M h => ⟨⟨M, ?_, SC.rfl' M⟩, ⟨m_sI M 128 0 0, ?_, SC_thr M 0⟩⟩⟩
      · have b1 := h.lo.2.1
        have R7 : m_R M 2 7 = some 4 := by simp only [gR h.1]
        have K4 : m_K M 4 = 12 := by simp only [gK h.1]
        have L4 : m_len M 4 = 5 := by simp only [gl h.1]
        unfold F_X11_thing
        rw [x_gN_ok h.C0 h.R2, x_cV_ok h.C2 (S_isThingC h.1 h.lc h.lo hk), decide_eq_true q, if_neg (by decide), x_gN_ok h.C0 h.R2, x_gN_ok h.C2 R7, x_aI_ok K4 (by rw [L4]; omega) hk, h.lc.2.2.1 k q]
      · have h1 := h.thr 0
        have b1 := h.lo.2.1
        have R10 : m_R (m_sI M 128 0 0) 128 10 = some 130 := by simp only [gR h1.1]
        have R15 : m_R (m_sI M 128 0 0) 128 15 = some 135 := by simp only [gR h1.1]
        have K130 : m_K (m_sI M 128 0 0) 130 = 12 := by simp only [gK h1.1]
        have L130 : m_len (m_sI M 128 0 0) 130 = 16 := by simp only [gl h1.1]
        have K135 : m_K (m_sI M 128 0 0) 135 = 12 := by simp only [gK h1.1]
        have L135 : m_len (m_sI M 128 0 0) 135 = 10 := by simp only [gl h1.1]
        unfold F_X12_thing
        rw [m_let_eq, x_pI_ok h.K0, if_neg (nI_pos hk), x_gN_ok h1.K0 R10, show (1 : Int32) = nI 1 from rfl, x_aI_ok K130 (by rw [L130]; omega) (by omega), h1.lm.1 1 (by omega), if_neg (nI_ge q (by omega)), x_gN_ok h1.K0 R15, x_aI_ok K135 (by rw [L135]; omega) hk, h1.lm.2.1 k q]
    · refine ⟨NO, fun M h => ⟨⟨M, ?_, SC.rfl' M⟩, ⟨m_sI M 128 0 0, ?_, SC_thr M 0⟩⟩⟩
      · unfold F_X11_thing
        rw [x_gN_ok h.C0 h.R2, x_cV_ok h.C2 (S_isThingC h.1 h.lc h.lo hk), decide_eq_false q, if_pos (by decide)]; rfl
      · have h1 := h.thr 0
        have b1 := h.lo.2.1
        have R10 : m_R (m_sI M 128 0 0) 128 10 = some 130 := by simp only [gR h1.1]
        have K130 : m_K (m_sI M 128 0 0) 130 = 12 := by simp only [gK h1.1]
        have L130 : m_len (m_sI M 128 0 0) 130 = 16 := by simp only [gl h1.1]
        unfold F_X12_thing
        rw [m_let_eq, x_pI_ok h.K0, if_neg (nI_pos hk), x_gN_ok h1.K0 R10, show x_aI 12 (m_sI M 128 0 0) 130 (1 : Int32) = x_aI 12 (m_sI M 128 0 0) 130 (nI 1) from rfl, x_aI_ok K130 (by rw [L130]; omega) (by omega), h1.lm.1 1 (by omega), if_pos (nI_le (by omega) hk)]; rfl
  · refine ⟨NO, fun M h => ⟨⟨M, ?_, SC.rfl' M⟩, ⟨m_sI M 128 0 0, ?_, SC_thr M 0⟩⟩⟩
    · unfold F_X11_thing
      rw [x_gN_ok h.C0 h.R2, x_cV_ok h.C2 (S_isThingC_neg hx), if_pos (by decide)]; rfl
    · unfold F_X12_thing
      rw [m_let_eq, x_pI_ok h.K0, if_pos hx]; rfl
theorem S_within {k a b : Nat} (hk : k < 2147483648) (ha : a < 2147483648) (hb : b < 2147483648) : F_X12_within (nI k) (nI a) (nI b) M = some (bI (decide (a ≤ k) && decide (k ≤ b)), M) := by
  unfold F_X12_within
  rw [m_let_eq]
  by_cases q1 : k < a
  · rw [if_pos (nI_lt q1 ha), decide_eq_false (by omega)]; rfl
  · by_cases q2 : b < k
    · rw [if_neg (nI_nlt (by omega) hk), if_pos (nI_lt q2 hk), decide_eq_true (p := a ≤ k) (by omega), decide_eq_false (p := k ≤ b) (by omega)]; rfl
    · rw [if_neg (nI_nlt (by omega) hk), if_neg (nI_nlt (by omega) hb), decide_eq_true (p := a ≤ k) (by omega), decide_eq_true (p := k ≤ b) (by omega)]; rfl
theorem S_within_neg {x y : Int32} {a : Nat} (hx : x < 0) (ha : a < 2147483648) : F_X12_within x (nI a) y M = some (nI 0, M) := by
  unfold F_X12_within
  rw [m_let_eq, if_pos (of_eq_true (neg_lt hx ha))]; rfl
theorem M_cnt (h : INV s M) {P : Nat → Bool} (e : Rw (wN s.2.1) P (m_L M 170)) : F_X12_countOf 128 170 (0 : Int32) M = some (nI (cnt P (wN s.2.1)), M) :=
  S_countOf h.1 h.lm h.lo (row := 170) (at0 := 0) (len := 16) (by simp only [gK h.1]) (by simp only [gl h.1]) (by omega) (by omega) (e.of (fun k hk => by rw [Nat.zero_add]))
theorem C_cnt (h : INV s M) {P : Nat → Bool} {a la : Nat} (w : Ws M a la) (e : Rw (wN s.2.1) P (m_L M la)) : F_X10_size a M = some (nI (cnt P (wN s.2.1)), M) := by
  rw [S_size w, sumL_all e (wN_le h.lo)]
theorem O_worlds (x : Int32) : RO s (F_X11_worlds 0 x) (F_X12_worlds 128 x) := by
  have bad : (x < 0 ∨ ∃ k, 1 < k ∧ k < 2147483648 ∧ x = nI k) → RO s (F_X11_worlds 0 x) (F_X12_worlds 128 x) := by
    intro hq
    have h0 : ¬ x = (0 : Int32) := by
      rcases hq with hx | ⟨k, h1, hk, rfl⟩
      · intro e; rw [e] at hx; exact absurd hx (by decide)
      · exact nI_ne0 (by omega) hk
    have h1 : ¬ x = (1 : Int32) := by
      rcases hq with hx | ⟨k, h1, hk, rfl⟩
      · intro e; rw [e] at hx; exact absurd hx (by decide)
      · intro e; have := (nI_eq (b := 1) hk (by omega)).mp e; omega
    refine ⟨NO, fun M h => ⟨⟨M, ?_, SC.rfl' M⟩, ⟨m_sI M 128 0 0, ?_, SC_thr M 0⟩⟩⟩
    · unfold F_X11_worlds
      rw [if_neg h0, if_neg h1]; rfl
    · have hw : F_X12_within x (0 : Int32) (1 : Int32) (m_sI M 128 0 0) = some (nI 0, m_sI M 128 0 0) := by
        rcases hq with hx | ⟨k, h1, hk, rfl⟩
        · exact S_within_neg (a := 0) hx (by omega)
        · have := S_within (M := m_sI M 128 0 0) (k := k) (a := 0) (b := 1) hk (by omega) (by omega)
          rw [decide_eq_false (p := k ≤ 1) (by omega), Bool.and_false] at this
          exact this
      unfold F_X12_worlds
      rw [x_pI_ok h.K0, x_bd_ok hw, if_pos (by decide)]; rfl
  rcases i_cases x with ⟨k, hk, rfl⟩ | hx
  · by_cases q : 1 < k
    · exact bad (.inr ⟨k, q, hk, rfl⟩)
    · have hw : ∀ M : m_M, F_X12_within (nI k) (0 : Int32) (1 : Int32) M = some (nI 1, M) := fun M => by
        have := S_within (M := M) (k := k) (a := 0) (b := 1) hk (by omega) (by omega)
        rw [decide_eq_true (p := k ≤ 1) (by omega), decide_eq_true (p := 0 ≤ k) (by omega)] at this
        exact this
      by_cases q0 : k = 0
      · subst q0
        refine ⟨nI (wN s.2.1), fun M h => ⟨⟨M, ?_, SC.rfl' M⟩, ?_⟩⟩
        · unfold F_X11_worlds
          rw [if_pos (by decide), x_gN_ok h.C0 h.R2, x_gI_ok h.C2, h.lc.1.2.2.2.1]
        · have h1 := h.thr 0
          obtain ⟨B, e, e1, e2⟩ := M_left h1
          refine ⟨_, ?_, (SC_thr M 0).trans (SC_mleft e1)⟩
          unfold F_X12_worlds
          rw [x_pI_ok h.K0, x_bd_ok (hw _), if_neg (by decide), x_cV_ok h1.K0 e, if_pos (by decide), x_gI_ok (by rw [w2_K]; exact h1.K0), w2_I, h1.lm.2.2.2.2.2.1]
      · have hk1 : k = 1 := by omega
        subst hk1
        refine ⟨nI (cnt (lefN s) (wN s.2.1)), fun M h => ⟨?_, ?_⟩⟩
        · obtain ⟨g, e, e1⟩ := C_left h
          have h2 := SC_left (g := g) |>.INV h
          refine ⟨_, ?_, SC_left (g := g)⟩
          unfold F_X11_worlds
          rw [if_neg (by decide), if_pos (by decide), x_cV_ok h.C0 e, x_gN_ok h2.C0 h2.R12, x_cV_ok h2.W90.1 (S_size h2.W90), sumL_all (P := lefN s) (n := wN s.2.1) (e1.of (fun k hk => by rw [mL_wL, if_pos rfl])) (wN_le h.lo)]
        · have h1 := h.thr 0
          obtain ⟨B, e, e1, e2⟩ := M_left h1
          have h2 := (SC_mleft e1).INV h1
          refine ⟨_, ?_, (SC_thr M 0).trans (SC_mleft e1)⟩
          unfold F_X12_worlds
          rw [x_pI_ok h.K0, x_bd_ok (hw _), if_neg (by decide), x_cV_ok h1.K0 e, if_neg (by decide), x_gN_ok h2.K0 (r := 170) (by simp only [gR h2.1]), x_cV_ok h2.K0 (M_cnt h2 (show Rw _ (lefN s) (B 170) from e2))]
  · exact bad (.inl hx)
end OPS1
