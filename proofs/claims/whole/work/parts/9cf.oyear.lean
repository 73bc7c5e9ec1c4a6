/-! a year: the call -/
def wtn (x a b : Int32) : Bool := decide (a ≤ x ∧ x ≤ b)
theorem M_within {M : m_M} {x a b : Int32} : F_X12_within x a b M = some (bI (wtn x a b), M) := by
  unfold F_X12_within wtn
  rw [m_let_eq]
  by_cases q : x < a
  · rw [if_pos q, decide_eq_false (fun z => Int32.lt_irrefl (Int32.lt_of_lt_of_le q z.1))]; rfl
  · rw [if_neg q]
    by_cases q2 : b < x
    · rw [if_pos q2, decide_eq_false (fun z => Int32.lt_irrefl (Int32.lt_of_lt_of_le q2 z.2))]; rfl
    · rw [if_neg q2, decide_eq_true ⟨Int32.not_lt.mp q, Int32.not_lt.mp q2⟩]; rfl
theorem wtn_if {β : Type} {x a b : Int32} {u v : β} : (if x < a then u else if b < x then u else v) = if wtn x a b = true then v else u := by
  unfold wtn
  by_cases q : x < a
  · rw [if_pos q, decide_eq_false (fun z => Int32.lt_irrefl (Int32.lt_of_lt_of_le q z.1)), if_neg (by decide)]
  · rw [if_neg q]
    by_cases q2 : b < x
    · rw [if_pos q2, decide_eq_false (fun z => Int32.lt_irrefl (Int32.lt_of_lt_of_le q2 z.2)), if_neg (by decide)]
    · rw [if_neg q2, decide_eq_true ⟨Int32.not_lt.mp q, Int32.not_lt.mp q2⟩, if_pos rfl]
theorem wtn_nI {x : Int32} {a b : Nat} (hb : b < 2147483648) (ha : a ≤ b) (h : wtn x (nI a) (nI b) = true) : ∃ k, x = nI k ∧ a ≤ k ∧ k ≤ b := by
  unfold wtn at h
  rw [decide_eq_true_iff] at h
  rcases i_cases x with ⟨k, hk, rfl⟩ | hx
  · refine ⟨k, rfl, ?_, ?_⟩
    · by_cases q : a ≤ k
      · exact q
      · exact absurd h.1 (nI_ge (by omega) (by omega))
    · by_cases q : k ≤ b
      · exact q
      · exact absurd h.2 (nI_ge (by omega) (by omega))
  · have := neg_ge hx (n := a) (by omega)
    rw [this] at h
    exact h.1.elim
noncomputable def yrF (s : St) (S D : Nat) : Nat × ((Nat → Bool) × (Nat × Nat)) := fF (yrS s.2.1 s.2.2.1.2.1 s.2.2.1.1) D 0 (S, lefN s, 0, 0)
noncomputable def yrR (s : St) (S D W : Nat) : Int32 := if W = 0 then nI (yrF s S D).2.2.1 else if W = 1 then nI (yrF s S D).2.2.2 else nI (cnt (yrF s S D).2.1 (wN s.2.1))
section OYEAR
variable {M M' : m_M} {s : St}
theorem O_year (x y z : Int32) : RO s (F_X11_year 0 x y z) (F_X12_year 128 x y z) := by
  have cls : ∀ {M : m_M}, INV s M → ∃ k, F_X11_year 0 x y z M = (if (wtn x (nI 0) (nI 9999) && (wtn y (nI 1) (nI 60) && (wtn z (nI 0) (nI 2) && (!decide (lH s.2.1 3 = 0) && !decide (lH s.2.1 1 = 0))))) = true then k else some (NO, M)) ∧ k = (x_pL 9 M 0 15 x.toInt64 fun M2 =>
    x_cV 9 M2 0 (F_X11_findLeft 0 M2) fun _ M3 =>
    m_let (fun (v12 : Nat) (v13 : Int32) (v14 : Int32) (v15 : Int32) (M4 : m_M) =>
      if v13 = (0 : Int32) then (
        some (v14, M4)
      ) else
      if v13 = (1 : Int32) then (
        some (v15, M4)
      ) else
      x_gN 9 M4 v12 12 fun v16 =>
      x_cV 8 M4 v16 (F_X10_size v16 M4) fun v17 M5 =>
      some (v17, M5)
    ) fun (k163 : Nat → Int32 → Int32 → Int32 → m_M → Option (Int32 × m_M)) =>
    F_X11_year_88 k163 m_FU 0 y z (0 : Int32) (0 : Int32) (0 : Int32) M3) := by
    intro M h
    refine ⟨_, ?_, rfl⟩
    have hv := h.lo.2.2.2.1
    have ht := h.lo.2.1
    have K2 : m_K M 2 = 3 := by simp only [gK h.1]
    have R6 : m_R M 2 6 = some 3 := by simp only [gR h.1]
    have K3 : m_K M 3 = 12 := by simp only [gK h.1]
    have L3 : m_len M 3 = 4 := by simp only [gl h.1]
    have e2 : m_I M 3 2 = nI (lH s.2.1 3) := h.lc.2.1.2.2.1
    have e0 : m_I M 3 0 = nI (lH s.2.1 1) := h.lc.2.1.1
    unfold F_X11_year
    refine m_let_e ?_
    intro K1 hK1
    refine m_let_e ?_
    intro K2' hK2
    have bad : K2' 0 x y z M = some (NO, M) := by
      rw [hK2]
      dsimp only
      rw [hK1]
      dsimp only
      rw [if_pos rfl]; rfl
    rw [show ∀ u v : Option (Int32 × m_M), (if x < 0 then u else if (9999 : Int32) < x then u else v) = if wtn x (nI 0) (nI 9999) = true then v else u from fun u v => wtn_if]
    cases q1 : wtn x (nI 0) (nI 9999)
    · rw [if_neg (by decide), bad]; rfl
    rw [if_pos rfl, show ∀ u v : Option (Int32 × m_M), (if y < (1 : Int32) then u else if (60 : Int32) < y then u else v) = if wtn y (nI 1) (nI 60) = true then v else u from fun u v => wtn_if]
    cases q2 : wtn y (nI 1) (nI 60)
    · rw [if_neg (by decide), bad]; rfl
    rw [if_pos rfl, show ∀ u v : Option (Int32 × m_M), (if z < 0 then u else if (2 : Int32) < z then u else v) = if wtn z (nI 0) (nI 2) = true then v else u from fun u v => wtn_if]
    cases q3 : wtn z (nI 0) (nI 2)
    · rw [if_neg (by decide), bad]; rfl
    rw [if_pos rfl, hK1]
    dsimp only
    rw [if_neg (by decide), x_gN_ok h.C0 h.R2, x_gN_ok K2 R6, aI_lit (x := (2 : Int32)) (n := 2) K3 (by rw [L3]; omega) rfl (by omega), e2]
    by_cases q4 : lH s.2.1 3 = 0
    · rw [q4, if_pos (by decide)]; rfl
    rw [if_neg (nI_nz q4 (by omega)), x_gN_ok h.C0 h.R2, x_gN_ok K2 R6, aI_lit (x := (0 : Int32)) (n := 0) K3 (by rw [L3]; omega) rfl (by omega), e0]
    by_cases q5 : lH s.2.1 1 = 0
    · rw [q5, if_pos (by decide), decide_eq_false q4]; rfl
    rw [if_neg (nI_nz q5 (by omega)), decide_eq_false q4, decide_eq_false q5]
    rfl
  have mdl : ∀ {M : m_M}, INV s M → ∃ k, F_X12_year 128 x y z M = (if (wtn x (nI 0) (nI 9999) && (wtn y (nI 1) (nI 60) && (wtn z (nI 0) (nI 2) && (!decide (lH s.2.1 3 = 0) && !decide (lH s.2.1 1 = 0))))) = true then k else some (NO, m_sI M 128 0 0)) ∧ k = (x_pL 10 (m_sI M 128 0 0) 128 73 x.toInt64 fun M5 =>
  x_cV 10 M5 128 (F_X12_leaves 128 M5) fun _ M6 =>
  m_let (fun (v8 : Nat) (v9 : Int32) (v10 : Int32) (v11 : Int32) (M7 : m_M) =>
    if v9 = 0 then (
      some (v10, M7)
    ) else
    if v9 = (1 : Int32) then (
      some (v11, M7)
    ) else
    x_gN 10 M7 v8 62 fun v12 =>
    x_cV 10 M7 v8 (F_X12_countOf v8 v12 (0 : Int32) M7) fun v13 M8 =>
    some (v13, M8)
  ) fun (k271 : Nat → Int32 → Int32 → Int32 → m_M → Option (Int32 × m_M)) =>
  F_X12_year_74 k271 m_FU 128 y z (0 : Int32) (0 : Int32) (0 : Int32) M6) := by
    intro M h
    refine ⟨_, ?_, rfl⟩
    have h1 := h.thr 0
    have hv := h.lo.2.2.2.1
    have ht := h.lo.2.1
    have R10 : m_R (m_sI M 128 0 0) 128 10 = some 130 := by simp only [gR h1.1]
    have K130 : m_K (m_sI M 128 0 0) 130 = 12 := by simp only [gK h1.1]
    have L130 : m_len (m_sI M 128 0 0) 130 = 16 := by simp only [gl h1.1]
    have e2 : m_I (m_sI M 128 0 0) 130 3 = nI (lH s.2.1 3) := h1.lm.1 3 (by omega)
    have e0 : m_I (m_sI M 128 0 0) 130 1 = nI (lH s.2.1 1) := h1.lm.1 1 (by omega)
    unfold F_X12_year
    rw [x_pI_ok h.K0, x_bd_ok (show F_X12_within x (0 : Int32) (9999 : Int32) (m_sI M 128 0 0) = some (bI (wtn x (nI 0) (nI 9999)), m_sI M 128 0 0) from M_within)]
    cases q1 : wtn x (nI 0) (nI 9999)
    · rw [if_pos (by decide)]; rfl
    rw [if_neg (by decide), x_bd_ok (show F_X12_within y (1 : Int32) (60 : Int32) (m_sI M 128 0 0) = some (bI (wtn y (nI 1) (nI 60)), m_sI M 128 0 0) from M_within)]
    cases q2 : wtn y (nI 1) (nI 60)
    · rw [if_pos (by decide)]; rfl
    rw [if_neg (by decide), x_bd_ok (show F_X12_within z (0 : Int32) (2 : Int32) (m_sI M 128 0 0) = some (bI (wtn z (nI 0) (nI 2)), m_sI M 128 0 0) from M_within)]
    cases q3 : wtn z (nI 0) (nI 2)
    · rw [if_pos (by decide)]; rfl
    rw [if_neg (by decide), x_gN_ok h1.K0 R10, aI_lit (x := (3 : Int32)) (n := 3) K130 (by rw [L130]; omega) rfl (by omega), e2]
    by_cases q4 : lH s.2.1 3 = 0
    · rw [q4, if_pos (by decide)]; rfl
    rw [if_neg (nI_nz q4 (by omega)), x_gN_ok h1.K0 R10, aI_lit (x := (1 : Int32)) (n := 1) K130 (by rw [L130]; omega) rfl (by omega), e0]
    by_cases q5 : lH s.2.1 1 = 0
    · rw [q5, if_pos (by decide), decide_eq_false q4]; rfl
    rw [if_neg (nI_nz q5 (by omega)), decide_eq_false q4, decide_eq_false q5]
    rfl
  cases q : (wtn x (nI 0) (nI 9999) && (wtn y (nI 1) (nI 60) && (wtn z (nI 0) (nI 2) && (!decide (lH s.2.1 3 = 0) && !decide (lH s.2.1 1 = 0)))))
  · refine ⟨NO, fun M h => ⟨⟨M, ?_, SC.rfl' M⟩, ⟨m_sI M 128 0 0, ?_, SC_thr M 0⟩⟩⟩
    · obtain ⟨k, e, _⟩ := cls h
      rw [e, q]; rfl
    · obtain ⟨k, e, _⟩ := mdl h
      rw [e, q]; rfl
  · have q' := q
    rw [Bool.and_eq_true, Bool.and_eq_true, Bool.and_eq_true, Bool.and_eq_true] at q'
    obtain ⟨a1, a2, a3, a4, a5⟩ := q'
    obtain ⟨S, rfl, _, hS⟩ := wtn_nI (by omega) (by omega) a1
    obtain ⟨D, rfl, _, hD⟩ := wtn_nI (by omega) (by omega) a2
    obtain ⟨W, rfl, _, hW⟩ := wtn_nI (by omega) (by omega) a3
    have h3 : 0 < lH s.2.1 3 := by simp at a4; omega
    have h1' : 0 < lH s.2.1 1 := by simp at a5; omega
    have n1 : ¬ W = 1 → ¬ nI W = (1 : Int32) := fun z1 z => z1 ((nI_eq (b := 1) (by omega) (by omega)).mp z)
    refine ⟨yrR s S D W, fun M h => ⟨?_, ?_⟩⟩
    · have hn := wN_le h.lo
      obtain ⟨k, e, hk⟩ := cls h
      rw [e, q, if_pos rfl, hk]
      obtain ⟨M1, hM1⟩ : ∃ M1, M1 = m_wB M (upB (m_L M) 0 15 (lI S)) := ⟨_, rfl⟩
      have sc1 : SC M M1 := by rw [hM1]; exact SC_wB M (fun a ha => upB_fr (fun z => ha (by unfold scL; omega)))
      have h1 := sc1.INV h
      obtain ⟨g, f1, f2⟩ := C_left h1
      have e0 : m_sL M 0 15 (nI S).toInt64 = M1 := by rw [nI_64 (by omega), hM1]; rfl
      rw [x_pL_ok h.C0, e0, x_cV_ok h1.C0 f1]
      have eM : m_wL M1 91 g = m_wB M (fun b => if b = 91 then g else upB (m_L M) 0 15 (lI S) b) := by rw [hM1, wB_w]
      rw [eM]
      refine m_let_P (fun o => ∃ M', o = some (yrR s S D W, M') ∧ SC M M') ?_
      intro K hK
      obtain ⟨B', u, u1, u2⟩ := S_yr88 h h3 h1' (days := D) hD (wh := nI W) (K := K) D 0 m_FU (fun b => if b = 91 then g else upB (m_L M) 0 15 (lI S) b) (S, lefN s, 0, 0) (by omega) (m_FU_lt (by omega)) (by show S < 2147483648; omega) (by rw [if_neg (by omega), upB_at, if_pos ⟨rfl, rfl⟩]) (by rw [if_pos rfl]; exact f2) (fun b x y _ => by rw [if_neg y, upB_fr x])
      have u' : F_X11_year_88 K m_FU 0 (nI D) (nI W) (0 : Int32) (0 : Int32) (0 : Int32) (m_wB M (fun b => if b = 91 then g else upB (m_L M) 0 15 (lI S) b)) = K 0 (nI W) (nI (yrF s S D).2.2.1) (nI (yrF s S D).2.2.2) (m_wB M B') := u
      have u1' : Rw (wN s.2.1) (yrF s S D).2.1 (B' 91) := u1
      have sc : SC M (m_wB M B') := SC_wB M (fun a ha => u2 a (fun z => ha (by unfold scL; omega)) (fun z => ha (by unfold scL; omega)) (fun z => ha (by unfold scL; omega)))
      have h2 := sc.INV h
      refine ⟨m_wB M B', ?_, sc⟩
      rw [u', hK]
      dsimp only
      unfold yrR
      by_cases z0 : W = 0
      · rw [if_pos (show nI W = (0 : Int32) from by rw [z0]; rfl), if_pos z0]
      rw [if_neg (nI_nz z0 (by omega)), if_neg z0]
      by_cases z1 : W = 1
      · rw [if_pos (show nI W = (1 : Int32) from by rw [z1]; rfl), if_pos z1]
      rw [if_neg (n1 z1), if_neg z1, x_gN_ok h2.C0 h2.R12, x_cV_ok h2.W90.1 (S_size h2.W90), wB_L, sumL_all u1' hn]
    · have h1 := h.thr 0
      have hn := wN_le h.lo
      obtain ⟨k, e, hk⟩ := mdl h
      rw [e, q, if_pos rfl, hk]
      obtain ⟨M1, hM1⟩ : ∃ M1, M1 = m_w2 (m_sI M 128 0 0) (m_I (m_sI M 128 0 0)) (upB (m_L M) 128 73 (lI S)) := ⟨_, rfl⟩
      have sc1 : SC M M1 := by
        rw [hM1]
        exact (SC_thr M 0).trans (SC_w2' _ (fun a ha => upB_fr (fun z => ha (by unfold scL; omega))))
      have h2 := sc1.INV h
      obtain ⟨B, f0, f1, f2⟩ := M_left h2
      have e0 : m_sL (m_sI M 128 0 0) 128 73 (nI S).toInt64 = M1 := by rw [nI_64 (by omega), hM1]; rfl
      rw [x_pL_ok h1.K0, e0, x_cV_ok h2.K0 f0]
      refine m_let_P (fun o => ∃ M', o = some (yrR s S D W, M') ∧ SC M M') ?_
      intro K hK
      have hc : B 128 73 = lI S := by
        rw [f1 128 (by omega), hM1]
        show upB (m_L M) 128 73 (lI S) 128 73 = _
        rw [upB_at, if_pos ⟨rfl, rfl⟩]
      have ht : TlM s.2.1 s.2.2.1.2.1 0 (m_I M1) B := h2.bm.1.frB (fun _ _ => rfl) (fun b hb => f1 b (by omega))
      have hday := h2.bd.1
      obtain ⟨A', B', u, u1, u2, u3⟩ := M_y74 (M := M1) h2.1 h2.lo h3 h1' (days := D) (day := s.2.2.1.1) hD (by omega) h2.bd.2.1 (wh := nI W) (K := K) D 0 m_FU (m_I M1) B (S, lefN s, 0, 0) (by omega) (m_FU_lt (by omega)) (by show S < 2147483648; omega) h2.lm h2.md ht hc f2
      have u' : F_X12_year_74 K m_FU 128 (nI D) (nI W) (0 : Int32) (0 : Int32) (0 : Int32) (m_w2 M1 (m_I M1) B) = K 128 (nI W) (nI (yrF s S D).2.2.1) (nI (yrF s S D).2.2.2) (m_w2 M1 A' B') := u
      have u1' : Rw (wN s.2.1) (yrF s S D).2.1 (B' 170) := u1
      have sc : SC M1 (m_w2 M1 A' B') := SC_w2 M1 u2 (fun b hb => by rw [u3 b (fun z => hb (by unfold scL; omega)) (fun z => hb (by unfold scL; omega)) (fun z => hb (by unfold scL; omega)), f1 b (fun z => hb (by unfold scL; omega))])
      have h5 := sc.INV h2
      refine ⟨m_w2 M1 A' B', ?_, sc1.trans sc⟩
      rw [u', hK]
      dsimp only
      unfold yrR
      by_cases z0 : W = 0
      · rw [if_pos (show nI W = (0 : Int32) from by rw [z0]; rfl), if_pos z0]
      rw [if_neg (nI_nz z0 (by omega)), if_neg z0]
      by_cases z1 : W = 1
      · rw [if_pos (show nI W = (1 : Int32) from by rw [z1]; rfl), if_pos z1]
      have R62 : m_R (m_w2 M1 A' B') 128 62 = some 170 := by simp only [gR h5.1]
      have ct := S_countOf (M := m_w2 M1 A' B') h5.1 h5.lm h5.lo (row := 170) (at0 := 0) (len := 16) (by simp only [gK h5.1]) (by simp only [gl h5.1]) (by omega) (by omega) (P := (yrF s S D).2.1) (u1'.of (fun k _ => by rw [Nat.zero_add, w2_L]))
      have ct' : F_X12_countOf 128 170 (0 : Int32) (m_w2 M1 A' B') = _ := ct
      rw [if_neg (n1 z1), if_neg z1, x_gN_ok h5.K0 R62, x_cV_ok h5.K0 ct']
end OYEAR
