/-! laws: operands, and a whole law -/
def fcW (isB : Bool) (w : Int64) : Option Nat :=
  if isB = true then (if w = 8740067 then some 0 else if w = 332864552 then some 1 else none)
  else (if w = 3379448 then some 0 else if w = 275356804 then some 1 else if w = 6559778 then some 2 else if w = 4351291 then some 3 else if w = 774500 then some 4 else none)
section EPART
variable {M M' : m_M} {T : Nat → Nat} {n : Nat} {isB : Bool}
theorem fct_w {t : Tok} (h : t.2.2.1 = 2) : fct isB t = fcW isB t.2.2.2.1 := by
  have hw : ∀ c : Int64, tkW c t = decide (t.2.2.2.1 = c) := fun c => by unfold tkW; rw [decide_eq_true h, Bool.true_and]
  unfold fct fcW
  simp only [hw, decide_eq_true_eq]
theorem fcW_all : ∀ b, ∀ j, j < 20 → (fcW b (k_wl.getD j 0) = none ∧ ¬ k_wo.getD j 0 = nI (owN b)) ∨ ∃ x, x < 5 ∧ fcW b (k_wl.getD j 0) = some x ∧ k_wo.getD j 0 = nI (owN b) ∧ k_wf.getD j 0 = nI x := by decide +kernel
theorem fcW_n {w : Int64} (h : ∀ j, j < 20 → k_wl.getD j 0 ≠ w) : fcW isB w = none := by
  unfold fcW
  have e13 : w ≠ 3379448 := fun z => h 13 (by omega) (by rw [z]; rfl)
  have e14 : w ≠ 275356804 := fun z => h 14 (by omega) (by rw [z]; rfl)
  have e15 : w ≠ 6559778 := fun z => h 15 (by omega) (by rw [z]; rfl)
  have e16 : w ≠ 4351291 := fun z => h 16 (by omega) (by rw [z]; rfl)
  have e17 : w ≠ 774500 := fun z => h 17 (by omega) (by rw [z]; rfl)
  have e18 : w ≠ 8740067 := fun z => h 18 (by omega) (by rw [z]; rfl)
  have e19 : w ≠ 332864552 := fun z => h 19 (by omega) (by rw [z]; rfl)
  rw [if_neg e13, if_neg e14, if_neg e15, if_neg e16, if_neg e17, if_neg e18, if_neg e19]
  split <;> rfl
theorem J_lvl (hn : n ≤ 1000) {lv d B : Nat} (hl : lv < 4) (hl1 : lv ≠ 1) (hj : ∀ q, q ≤ n → JE T n isB (lv + 1) d q B) {q : Nat} (hq : q ≤ n) : JE T n isB lv d q (B + 1) := by
  obtain ⟨o, g, hc, ha⟩ := hj q hq
  have st : ∀ f M cc0, B ≤ f → cc0.length ≤ q → ECS T n q cc0 M → ∃ v M1, eCl T n cc0 o M M1 v ∧ (G_E (f + 1)).1 30 (nI (owN isB)) (nI lv) (nI d) M = if v = 0 then some ((0 : Int32), M1) else F_X4_readLevel_29 (G_E f).1 (G_E f).2 m_FU 30 (nI (owN isB)) (nI lv) (nI d) (nI 0) M1 := by
    intro f M cc0 hf hlen h
    obtain ⟨v, M1, a1, a2⟩ := hc f M cc0 hf hlen h
    refine ⟨v, M1, a2, ?_⟩
    show F_X4_readLevel (G_E f).1 (G_E f).2 30 (nI (owN isB)) (nI lv) (nI d) M = _
    unfold F_X4_readLevel
    rw [if_pos (show nI lv < (4 : Int32) from nI_lt (b := 4) hl (by omega)), nI_1, x_cV_ok h.K a1]
    rfl
  cases o with
  | inl fl =>
    refine ⟨.inl fl, g, fun f M cc0 hf hlen h => ?_, fun op cp mc0 h1 h2 => ha op cp mc0 (fun z => h1 (by omega)) (fun z => h2 (by omega))⟩
    obtain ⟨f, rfl⟩ : ∃ x, f = x + 1 := ⟨f - 1, by omega⟩
    obtain ⟨v, M1, e1, e2⟩ := st f M cc0 (by omega) hlen h
    obtain ⟨f1, hv, f2⟩ := e1
    exact ⟨0, M1, by rw [e2, hv, if_pos (by decide)], f1, rfl, f2⟩
  | inr r =>
    obtain ⟨q1, cc1, mc1, V1⟩ := r
    obtain ⟨⟨g1, g2⟩, ⟨g3, g4⟩, g5, g6, g7⟩ := g
    have hcN : cN (lv + 1) d ≤ cN lv d := by unfold cN; omega
    obtain ⟨o', k1, k2, k3⟩ := J_lp hn hl hl1 hj (n + 1) q1 cc1 mc1 V1 g2 (by omega) (g5.mono hcN) (Sx_up hl g6) g7
    refine ⟨o', ?_, fun f M cc0 hf hlen h => ?_, fun op cp mc0 h1 h2 => ?_⟩
    · cases o' with
      | inl _ => exact k1
      | inr r' =>
        obtain ⟨q', cc', mc', V'⟩ := r'
        obtain ⟨⟨y1, y2⟩, ⟨y3, y4⟩, y5⟩ := k1
        exact ⟨⟨by omega, y2⟩, ⟨by omega, by omega⟩, y5⟩
    · obtain ⟨f, rfl⟩ : ∃ x, f = x + 1 := ⟨f - 1, by omega⟩
      obtain ⟨v, M1, e1, e2⟩ := st f M cc0 (by omega) hlen h
      obtain ⟨f1, hv, f2⟩ := e1
      obtain ⟨w, M', u1, u2⟩ := k2 f m_FU 0 M1 cc0 (by omega) (by rw [List.length_append]; omega) (by omega) (m_FU_lt (by omega)) f2
      exact ⟨w, M', by rw [e2, hv, if_neg (by decide)]; exact u1, f1.trans u2.1, u2.2⟩
    · obtain ⟨op1, cp1, x1, x2, x3, x4, x5⟩ := ha op cp mc0 (fun _ => h1 hl) (fun z => h2 (by omega))
      have hd1 : d = 0 ∨ ¬ op1 d = 1 := by rw [x1 d (Nat.le_refl _)]; exact h1 hl
      rw [popN_no hd1] at x4
      have k3' := k3 op1 cp1 mc0 hd1 x5
      cases o' with
      | inl fl =>
        dsimp only at k3' ⊢
        rw [x4]; exact k3'
      | inr r' =>
        obtain ⟨q', cc', mc', V'⟩ := r'
        obtain ⟨op2, cp2, z1, z2, z3, z4, z5⟩ := k3'
        have ho2 : popN op2 d = d := popN_no (by rw [z1 d (Nat.le_refl _)]; exact hd1)
        refine ⟨op2, cp2, fun j hj => by rw [z1 j hj, x1 j hj], fun j hj => by rw [z2 j hj, x2 j hj], fun z => by rw [z3 z, x3 (by omega)], ?_, z5⟩
        rw [x4, z4, ho2]
theorem J_cmp (hn : n ≤ 1000) {d B : Nat} (hj : ∀ q, q ≤ n → JE T n isB 2 d q B) {q : Nat} (hq : q ≤ n) : JE T n isB 1 d q (B + 1) := by
  obtain ⟨o, g, hc, ha⟩ := hj q hq
  have st : ∀ f M cc0, B ≤ f → cc0.length ≤ q → ECS T n q cc0 M → ∃ v M1, eCl T n cc0 o M M1 v ∧ (G_E (f + 1)).1 30 (nI (owN isB)) (nI 1) (nI d) M = if v = 0 then some ((0 : Int32), M1) else F_X4_readLevel_29 (G_E f).1 (G_E f).2 m_FU 30 (nI (owN isB)) (nI 1) (nI d) (nI 0) M1 := by
    intro f M cc0 hf hlen h
    obtain ⟨v, M1, a1, a2⟩ := hc f M cc0 hf hlen h
    refine ⟨v, M1, a2, ?_⟩
    show F_X4_readLevel (G_E f).1 (G_E f).2 30 (nI (owN isB)) (nI 1) (nI d) M = _
    unfold F_X4_readLevel
    rw [if_pos (show nI 1 < (4 : Int32) from by decide), nI_1, x_cV_ok h.K a1]
    rfl
  cases o with
  | inl fl =>
    refine ⟨.inl fl, g, fun f M cc0 hf hlen h => ?_, fun op cp mc0 h1 h2 => ha op cp mc0 (fun z => h1 (by omega)) (fun z => by omega)⟩
    obtain ⟨f, rfl⟩ : ∃ x, f = x + 1 := ⟨f - 1, by omega⟩
    obtain ⟨v, M1, e1, e2⟩ := st f M cc0 (by omega) hlen h
    obtain ⟨f1, hv, f2⟩ := e1
    exact ⟨0, M1, by rw [e2, hv, if_pos (by decide)], f1, rfl, f2⟩
  | inr r =>
    obtain ⟨q1, cc1, mc1, V1⟩ := r
    obtain ⟨⟨g1, g2⟩, ⟨g3, g4⟩, g5, g6, g7⟩ := g
    have hcN : cN 2 d + 1 ≤ cN 1 d := by unfold cN; omega
    -- where the class's row stands at an operator
    have opo : ∀ q2 cc M, q2 ≤ n → ECS T n q2 cc M → F_X4_operatorOf 30 (nI 1) M = some (match opr T (tokAt T n q2) with | some (l, _, c) => if l = 1 then cw c else 0 | none => 0, M) := fun q2 cc M h2 h => S_operatorOf h h2 (by omega)
    by_cases hop : ∃ m c, opr T (tokAt T n q1) = some (1, m, c)
    · obtain ⟨m, c, ho⟩ := hop
      obtain ⟨c1, c2, c3⟩ := opr_c ho
      obtain ⟨t1, t2, t3⟩ := tok_lt g2 (opr_k ho)
      obtain ⟨o2, g', hc', ha'⟩ := hj (tokAt T n q1).2.1 t2
      have turn : ∀ f M cc0, B ≤ f → cc0.length ≤ q → ECS T n q cc0 M → ∃ v M2, csE M M2 ∧ (match o2 with | .inl f => v = nI 0 ∧ m_I M2 30 9 = nI f | .inr (q', cc, _, _) => v = nI 1 ∧ ECS T n q' (cc0 ++ cc1 ++ cc) M2) ∧ (G_E (f + 1)).1 30 (nI (owN isB)) (nI 1) (nI d) M = (if v = 0 then some ((0 : Int32), M2) else x_gN 4 M2 30 10 fun v14 => x_cV 3 M2 v14 (F_X3_addCode v14 (cw c) M2) fun _ M5 => m_let (nI 0 + (1 : Int32)) fun v15 => F_X4_readLevel_29 (G_E f).1 (G_E f).2 (m_FU - 1) 30 (nI (owN isB)) (nI 1) (nI d) v15 M5) := by
        intro f M cc0 hf hlen h
        obtain ⟨v, M1, e1, e2⟩ := st f M cc0 hf hlen h
        obtain ⟨f1, hv, f2⟩ := e1
        obtain ⟨M2, a1, a2, a3⟩ := f2.adv hn g2
        obtain ⟨w, M3, b1, b2⟩ := hc' f M2 (cc0 ++ cc1) hf (by rw [List.length_append]; omega) a2
        refine ⟨w, M3, (f1.trans a3).trans b2.1, b2.2, ?_⟩
        have oo := opo q1 _ M1 g2 f2
        rw [ho] at oo
        dsimp only at oo
        rw [if_pos rfl] at oo
        have hfu : m_FU = (m_FU - 1) + 1 := by have := m_FU_lt (show 0 < 100000 by omega); omega
        rw [e2, hv, if_neg (by decide), hfu, F_X4_readLevel_29, if_neg (by decide), x_cV_ok f2.K oo, if_neg (cw_ne ⟨c1, c2⟩)]
        refine m_let_e ?_
        intro K hK
        rw [if_pos (show nI 1 = (1 : Int32) from rfl), if_pos (by decide), hK]
        dsimp only
        rw [x_cV_ok f2.K a1, nI_1, x_cV_ok a2.K b1]
        rfl
      have au : ∀ (op : Nat → Nat) (cp : Nat → Bool) (mc0 : List Nat), (d = 0 ∨ ¬ op d = 1) → cp d = false → ∃ op1 cp1, (∀ j, j ≤ d → op1 j = op j) ∧ (∀ j, j < d → cp1 j = cp j) ∧ cp1 d = true ∧ (d = 0 ∨ ¬ op1 d = 1) ∧ aR T n isB (q, d, true, op, cp, mc0) = aR T n isB ((tokAt T n q1).2.1, d, true, op1, cp1, mc0 ++ mc1 ++ [m]) := by
        intro op cp mc0 h1 h2
        obtain ⟨op1, cp1, x1, x2, x3, x4, x5⟩ := ha op cp mc0 (fun _ => h1) (fun z => by omega)
        have hd1 : d = 0 ∨ ¬ op1 d = 1 := by rw [x1 d (Nat.le_refl _)]; exact h1
        have hcp : cp1 d = false := by rw [x3 (Nat.le_refl _)]; exact h2
        rw [popN_no hd1] at x4
        refine ⟨op1, upf cp1 d true, x1, fun j hj => by unfold upf; rw [if_neg (by omega)]; exact x2 j hj, if_pos rfl, hd1, ?_⟩
        rw [x4, a_op g2 ho (fun _ => hcp), if_pos rfl]
      cases o2 with
      | inl fl =>
        refine ⟨.inl fl, g', fun f M cc0 hf hlen h => ?_, fun op cp mc0 h1 h2 => ?_⟩
        · obtain ⟨f, rfl⟩ : ∃ x, f = x + 1 := ⟨f - 1, by omega⟩
          obtain ⟨v, M2, e1, ⟨hv, e2⟩, e3⟩ := turn f M cc0 (by omega) hlen h
          exact ⟨0, M2, by rw [e3, hv, if_pos (by decide)], e1, rfl, e2⟩
        · obtain ⟨op1, cp1, y1, y2, y3, y4, y5⟩ := au op cp mc0 (h1 (by omega)) (h2 (by omega))
          dsimp only
          rw [y5]
          exact ha' op1 cp1 _ (fun _ => y4) (fun z => by omega)
      | inr r2 =>
        obtain ⟨q2, cc2, mc2, V2⟩ := r2
        obtain ⟨⟨i1, i2⟩, ⟨i3, i4⟩, i5, i6, i7⟩ := g'
        have lc : (cc1 ++ (cc2 ++ [c])).length = cc1.length + cc2.length + 1 := by rw [List.length_append, List.length_append]; show _ + (_ + 1) = _; omega
        have lm : (mc1 ++ (m :: mc2)).length = mc1.length + mc2.length + 1 := by rw [List.length_append]; show _ + (_ + 1) = _; omega
        refine ⟨.inr (q2, cc1 ++ (cc2 ++ [c]), mc1 ++ (m :: mc2), bV c V1 V2), ⟨⟨by omega, i2⟩, ⟨by rw [lc]; omega, by rw [lm]; omega⟩, SCl_bin g5 i5 ⟨c1, c2⟩ (by omega) hcN, Sx_cmp ho g6 i6, vLoc_b g7 i7⟩, fun f M cc0 hf hlen h => ?_, fun op cp mc0 h1 h2 => ?_⟩
        · obtain ⟨f, rfl⟩ : ∃ x, f = x + 1 := ⟨f - 1, by omega⟩
          obtain ⟨v, M2, e1, ⟨hv, e2⟩, e3⟩ := turn f M cc0 (by omega) hlen h
          have hlen2 : (cc0 ++ cc1 ++ cc2).length < 1000 := by rw [List.length_append, List.length_append]; omega
          obtain ⟨M3, s1, s2, s3⟩ := e2.add hlen2 (c := c)
          have hass : cc0 ++ cc1 ++ cc2 ++ [c] = cc0 ++ (cc1 ++ (cc2 ++ [c])) := by rw [List.append_assoc, List.append_assoc]
          rw [hass] at s2
          refine ⟨1, M3, ?_, e1.trans s3, rfl, s2⟩
          have hfu : m_FU - 1 = (m_FU - 2) + 1 := by have := m_FU_lt (show 2 < 100000 by omega); omega
          obtain ⟨zz, oo⟩ : ∃ zz, F_X4_operatorOf 30 (nI 1) M3 = some (zz, M3) := ⟨_, opo q2 _ M3 i2 s2⟩
          rw [e3, hv, if_neg (by decide), x_gN_ok e2.K (rd30 e2.1).2.1, x_cV_ok (rd30 e2.1).2.2.1 s1, nI_1, m_let_eq, hfu, F_X4_readLevel_29, if_neg (by decide), x_cV_ok s2.K oo]
          by_cases z0 : zz = 0
          · rw [if_pos z0]
          · rw [if_neg z0]
            refine m_let_e ?_
            intro K hK
            rw [if_pos (show nI 1 = (1 : Int32) from rfl), if_neg (by decide)]
        · obtain ⟨op1, cp1, y1, y2, y3, y4, y5⟩ := au op cp mc0 (h1 (by omega)) (h2 (by omega))
          obtain ⟨op2, cp2, z1, z2, z3, z4, z5⟩ := ha' op1 cp1 (mc0 ++ mc1 ++ [m]) (fun _ => y4) (fun z => by omega)
          have hass : mc0 ++ mc1 ++ [m] ++ mc2 = mc0 ++ (mc1 ++ (m :: mc2)) := by rw [List.append_assoc, List.append_assoc]; rfl
          refine ⟨op2, cp2, fun j hj => by rw [z1 j hj, y1 j hj], fun j hj => by rw [z2 j hj, y2 j hj], fun z => by omega, by rw [y5, z4, hass], fun l m' c' hx => ?_⟩
          rcases z5 l m' c' hx with w | w
          · by_cases l1 : l = 1
            · exact .inr ⟨l1, by rw [z3 (Nat.le_refl _)]; exact y3⟩
            · exact .inl (by omega)
          · exact .inr w
    · refine ⟨.inr (q1, cc1, mc1, V1), ⟨⟨g1, g2⟩, ⟨g3, g4⟩, g5.mono (by omega), S1_of g6, g7⟩, fun f M cc0 hf hlen h => ?_, fun op cp mc0 h1 h2 => ?_⟩
      · obtain ⟨f, rfl⟩ : ∃ x, f = x + 1 := ⟨f - 1, by omega⟩
        obtain ⟨v, M1, e1, e2⟩ := st f M cc0 (by omega) hlen h
        obtain ⟨f1, hv, f2⟩ := e1
        refine ⟨1, M1, ?_, f1, rfl, f2⟩
        have hfu : m_FU = (m_FU - 1) + 1 := by have := m_FU_lt (show 0 < 100000 by omega); omega
        have oo := opo q1 _ M1 g2 f2
        have h0 : (match opr T (tokAt T n q1) with | some (l, _, c) => if l = 1 then cw c else (0 : Int32) | none => 0) = 0 := by
          cases hx : opr T (tokAt T n q1) with
          | none => rfl
          | some x =>
            obtain ⟨l, m, c⟩ := x
            dsimp only
            rw [if_neg (fun z => hop ⟨m, c, by rw [hx, z]⟩)]
        rw [h0] at oo
        rw [e2, hv, if_neg (by decide), hfu, F_X4_readLevel_29, if_neg (by decide), x_cV_ok f2.K oo, if_pos rfl]
      · obtain ⟨op1, cp1, x1, x2, x3, x4, x5⟩ := ha op cp mc0 (fun _ => h1 (by omega)) (fun z => by omega)
        refine ⟨op1, cp1, x1, x2, fun z => by omega, x4, fun l m c hx => ?_⟩
        rcases x5 l m c hx with w | w
        · by_cases l1 : l = 1
          · exact absurd ⟨m, c, by rw [hx, l1]⟩ hop
          · exact .inl (by omega)
        · exact .inr w
theorem J_four {d B q : Nat} (hj : JPt T n isB d q B) : JE T n isB 4 d q (B + 1) := by
  obtain ⟨o, g, hc, ha⟩ := hj
  refine ⟨o, g, fun f M cc0 hf hlen h => ?_, ha⟩
  obtain ⟨f, rfl⟩ : ∃ x, f = x + 1 := ⟨f - 1, by omega⟩
  obtain ⟨v, M1, a1, a2⟩ := hc f M cc0 (by omega) hlen h
  refine ⟨v, M1, ?_, a2⟩
  show F_X4_readLevel (G_E f).1 (G_E f).2 30 (nI (owN isB)) (nI 4) (nI d) M = _
  unfold F_X4_readLevel
  rw [if_neg (by decide), x_cV_ok h.K a1]
  obtain ⟨_, a3⟩ := a2
  cases o with
  | inl fl => obtain ⟨a4, _⟩ := a3; rw [a4]; exact x_b0
  | inr r => obtain ⟨a4, _⟩ := a3; rw [a4]; exact x_b1
/-- an operand's step of the machine -/
theorem a_bad {q d : Nat} {op : Nat → Nat} {cp : Nat → Bool} {mc : List Nat} (h : (okd T isB (tokAt T n q)).1 = 0) : aR T n isB (q, d, true, op, cp, mc) = .inl (1 + 16 * (tokAt T n q).1) := aR_end (if_pos h)
theorem a_deep {q : Nat} {op : Nat → Nat} {cp : Nat → Bool} {mc : List Nat} (h : ¬ (okd T isB (tokAt T n q)).1 = 0) : aR T n isB (q, 5, true, op, cp, mc) = .inl (5 + 16 * (tokAt T n q).1) := aR_end (by
  show (if (okd T isB (tokAt T n q)).1 = 0 then _ else if 5 = 5 then _ else _) = _
  rw [if_neg h, if_pos rfl])
theorem a_val {q d m c : Nat} {op : Nat → Nat} {cp : Nat → Bool} {mc : List Nat} (hq : q ≤ n) (hd : d ≠ 5) (h : okd T isB (tokAt T n q) = (3, m, c)) : aR T n isB (q, d, true, op, cp, mc) = aR T n isB ((tokAt T n q).2.1, popN op d, false, op, cp, mc ++ [m]) := aR_next hq (by
  show (if (okd T isB (tokAt T n q)).1 = 0 then _ else if d = 5 then _ else if (okd T isB (tokAt T n q)).1 = 3 then _ else _) = _
  rw [h]
  dsimp only
  rw [if_neg (by omega), if_neg hd, if_pos rfl])
theorem a_push {q d o m c : Nat} {op : Nat → Nat} {cp : Nat → Bool} {mc : List Nat} (hq : q ≤ n) (hd : d ≠ 5) (h : okd T isB (tokAt T n q) = (o, m, c)) (ho : o = 1 ∨ o = 2) : aR T n isB (q, d, true, op, cp, mc) = aR T n isB ((tokAt T n q).2.1, d + 1, true, upf op (d + 1) o, upf cp (d + 1) false, mc ++ [m]) := aR_next hq (by
  show (if (okd T isB (tokAt T n q)).1 = 0 then _ else if d = 5 then _ else if (okd T isB (tokAt T n q)).1 = 3 then _ else _) = _
  rw [h]
  dsimp only
  rw [if_neg (by omega), if_neg hd, if_neg (by omega)])
/-- how the class's operand begins: whether it is a fact -/
theorem S_part0 {q d : Nat} {cc : List Nat} (h : ECS T n q cc M) (hq : q ≤ n) {rl : Nat → Int32 → Int32 → Int32 → m_M → Option (Int32 × m_M)} {rp : Nat → Int32 → Int32 → m_M → Option (Int32 × m_M)} {P : Option (Int32 × m_M) → Prop}
    (hP : ∀ k31 : Nat → Int32 → Int32 → Int32 → m_M → Option (Int32 × m_M), (k31 = fun (v1 : Nat) (v2 : Int32) (v3 : Int32) (v4 : Int32) (M1 : m_M) =>
    m_let (fun (v5 : Nat) (v6 : Int32) (v7 : Int32) (v8 : Int32) (M2 : m_M) =>
      if v7 < (5 : Int32) then (
        x_cV 4 M2 v5 (F_X8_isAt 4 v5 (1000000 + 10) M2) fun v9 M3 =>
        if v9 = 0 then (
          x_cV 4 M3 v5 (F_X8_isAt_ 4 v5 (40 : Int32) M3) fun v10 M4 =>
          if v10 = 0 then (
            m_let (fun (v11 : Nat) (v12 : Nat) (v13 : Int32) (M5 : m_M) =>
              x_cV 3 M5 v12 (F_X3_addCode v12 v13 M5) fun _ M6 =>
              x_cV 4 M6 v11 (F_X8_advance 4 v11 M6) fun _ M7 =>
              some ((1 : Int32), M7)
            ) fun (k182 : Nat → Nat → Int32 → m_M → Option (Int32 × m_M)) =>
            x_gN 4 M4 v5 10 fun v14 =>
            if v8 = 0 then (
              x_gI 4 M4 v5 5 fun v15 =>
              k182 v5 v14 v15 M4
            ) else
            x_gO 4 M4 v5 8 fun v16 =>
            x_nn v16 fun v17 =>
            x_k v17 fun v18 =>
            k182 v5 v14 ((-1 : Int32) - (k_wf.getD v18 0)) M4
          ) else
          m_let (fun  (M8 : m_M) =>
            some ((0 : Int32), M8)
          ) fun (k156 : m_M → Option (Int32 × m_M)) =>
          x_cV 4 M4 v5 (F_X8_advance 4 v5 M4) fun _ M9 =>
          x_cV 4 M9 v5 (rl v5 v6 (0 : Int32) (v7 + (1 : Int32)) M9) fun v19 M10 =>
          if v19 = 0 then (
            k156 M10
          ) else
          x_cV 4 M10 v5 (F_X8_pass_ 4 v5 (41 : Int32) M10) fun v20 M11 =>
          if v20 = 0 then (
            k156 M11
          ) else
          some ((1 : Int32), M11)
        ) else
        x_cV 4 M3 v5 (F_X8_advance 4 v5 M3) fun _ M12 =>
        x_cV 4 M12 v5 (rp v5 v6 (v7 + (1 : Int32)) M12) fun v21 M13 =>
        if v21 = 0 then (
          some ((0 : Int32), M13)
        ) else
        x_gN 4 M13 v5 10 fun v22 =>
        x_cV 3 M13 v22 (F_X3_addCode v22 (-11 : Int32) M13) fun _ M14 =>
        some ((1 : Int32), M14)
      ) else
      x_cV 4 M2 v5 (F_X8_fail 4 v5 (5 : Int32) M2) fun v23 M15 =>
      x_b v23 <| some (v23, M15)
    ) fun (k69 : Nat → Int32 → Int32 → Int32 → m_M → Option (Int32 × m_M)) =>
    x_gI 4 M1 v1 4 fun v24 =>
    if v24 = (3 : Int32) then (
      k69 v1 v2 v3 v4 M1
    ) else
    if v4 = 0 then (
      x_cV 4 M1 v1 (F_X8_isAt 4 v1 (1000000 + 10) M1) fun v25 M16 =>
      if v25 = 0 then (
        x_cV 4 M16 v1 (F_X8_isAt_ 4 v1 (40 : Int32) M16) fun v26 M17 =>
        if v26 = 0 then (
          x_cV 4 M17 v1 (F_X8_fail 4 v1 (1 : Int32) M17) fun v27 M18 =>
          x_b v27 <| some (v27, M18)
        ) else
        k69 v1 v2 v3 v4 M17
      ) else
      k69 v1 v2 v3 v4 M16
    ) else
    k69 v1 v2 v3 v4 M1) → P (k31 30 (nI (owN isB)) (nI d) (bI (fct isB (tokAt T n q)).isSome) M)) : P (F_X4_readPart rl rp 30 (nI (owN isB)) (nI d) M) := by
  have K := h.K
  have h4 := tok_4 (T := T) hq
  have e4 : m_I M 30 4 = nI (tokAt T n q).2.2.1 := h.2.2.1.1.2.2.2
  unfold F_X4_readPart
  refine m_let_P P ?_
  intro k31 h31
  have go := hP k31 h31
  refine m_let_P P ?_
  intro k30 h30
  rw [x_gI_ok K, e4]
  by_cases q2 : (tokAt T n q).2.2.1 = 2
  · obtain ⟨_, e8⟩ := h.2.2.1.2.1 q2
    rw [if_pos (show nI (tokAt T n q).2.2.1 = (2 : Int32) from by rw [q2]; rfl), x_gO_ok K, e8]
    rw [fct_w q2] at go
    rcases wdR_cases (tokAt T n q).2.2.2.1 with ⟨w1, w2⟩ | ⟨j, hj, w1, w2⟩
    · rw [fcW_n w2] at go
      rw [w1]
      show P (k30 30 (nI (owN isB)) (nI d) M)
      rw [h30]
      exact go
    · rw [w2, x_nul_some, x_gO_ok K, e8, w2]
      show P (x_k (1000000 + j) fun v36 => if k_wo.getD v36 0 = nI (owN isB) then k31 30 (nI (owN isB)) (nI d) 1 M else k30 30 (nI (owN isB)) (nI d) M)
      rw [x_k_ok hj]
      rw [← w1] at go
      rcases fcW_all isB j hj with ⟨y1, y2⟩ | ⟨x, y0, y1, y2, y3⟩
      · rw [y1] at go
        rw [if_neg y2, h30]
        exact go
      · rw [y1] at go
        rw [if_pos y2]
        exact go
  · have hf : fct isB (tokAt T n q) = none := by
      cases hx : fct isB (tokAt T n q) with
      | none => rfl
      | some x => exact absurd (fct_W hx) q2
    rw [hf] at go
    rw [if_neg (show ¬ nI (tokAt T n q).2.2.1 = (2 : Int32) from fun z => q2 ((nI_eq (b := 2) (by omega) (by omega)).mp z)), h30]
    exact go
end EPART
