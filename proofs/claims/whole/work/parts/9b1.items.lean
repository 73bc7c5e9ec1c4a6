/-! sayings are read: items, the whole -/
section ITEMS
variable {M M' : m_M} {l : Ld} {T : Nat → Nat} {n : Nat}
noncomputable def cfI (d : Nat) (f : Nat) (M : m_M) : Option (Int32 × m_M) := (G_S f).1 31 (nI d) M
noncomputable def cfF (d : Nat) (f : Nat) (M : m_M) : Option (Int32 × m_M) := (G_S f).2.1 31 (nI d) M
noncomputable def cfT (d : Nat) (f : Nat) (M : m_M) : Option (Int32 × m_M) := (G_S f).2.2 31 (nI d) M
noncomputable def mfI (f : Nat) (M : m_M) : Option (Int32 × m_M) := (G_R f).1 128 M
noncomputable def mfF (f : Nat) (M : m_M) : Option (Int32 × m_M) := (G_R f).2.1 128 M
noncomputable def mfT (f : Nat) (M : m_M) : Option (Int32 × m_M) := (G_R f).2.2 128 M
theorem J_term (hn : n ≤ 1000) {d N B : Nat} (hN : 1 ≤ N) (hj : ∀ s : PS, s.1 ≤ n → s.2.2 ≤ s.1 → JC l T n N B (cfI d) mfI d s) {s : PS} (hq : s.1 ≤ n) (hs : s.2.2 ≤ s.1) : JC l T n (N + 1) (B + 1) (cfT d) mfT d s :=
  J_row hn (w := 11) (by omega) (x := 1) (.inl rfl) (c := -12) (.inr (.inl ⟨rfl, rfl⟩)) hN hj (LC := fun f fl v3 M => F_X7_readTerm_12 ((G_S f).1) ((G_S f).2.1) ((G_S f).2.2) fl 31 (nI d) v3 M) (LM := fun f fl M => F_X12_readsTerm_9 ((G_R f).1) ((G_R f).2.1) ((G_R f).2.2) fl 128 M) (fun f fl v3 M => by rw [F_X7_readTerm_12]; rfl) (fun f fl M => by rw [F_X12_readsTerm_9]; rfl) (fun f M => by
    show F_X7_readTerm ((G_S f).1) ((G_S f).2.1) ((G_S f).2.2) 31 (nI d) M = _
    unfold F_X7_readTerm cfI
    congr 1) (fun f M => by
    show F_X12_readsTerm ((G_R f).1) ((G_R f).2.1) ((G_R f).2.2) 128 M = _
    unfold F_X12_readsTerm mfI
    congr 1) hq hs
theorem J_formula (hn : n ≤ 1000) {d N B : Nat} (hN : 1 ≤ N) (hj : ∀ s : PS, s.1 ≤ n → s.2.2 ≤ s.1 → JC l T n N B (cfT d) mfT d s) {s : PS} (hq : s.1 ≤ n) (hs : s.2.2 ≤ s.1) : JC l T n (N + 1) (B + 1) (cfF d) mfF d s :=
  J_row hn (w := 12) (by omega) (x := 2) (.inr rfl) (c := -13) (.inr (.inr (.inl ⟨rfl, rfl⟩))) hN hj (LC := fun f fl v3 M => F_X7_readFormula_12 ((G_S f).1) ((G_S f).2.1) ((G_S f).2.2) fl 31 (nI d) v3 M) (LM := fun f fl M => F_X12_readsFormula_9 ((G_R f).1) ((G_R f).2.1) ((G_R f).2.2) fl 128 M) (fun f fl v3 M => by rw [F_X7_readFormula_12]; rfl) (fun f fl M => by rw [F_X12_readsFormula_9]; rfl) (fun f M => by
    show F_X7_readFormula ((G_S f).1) ((G_S f).2.1) ((G_S f).2.2) 31 (nI d) M = _
    unfold F_X7_readFormula cfT
    congr 1) (fun f M => by
    show F_X12_readsFormula ((G_R f).1) ((G_R f).2.1) ((G_R f).2.2) 128 M = _
    unfold F_X12_readsFormula mfT
    congr 1) hq hs
/-- a fault on both sides -/
theorem J_flt {need d : Nat} {fc fm : Nat → m_M → Option (Int32 × m_M)} {B : Nat} {s : PS} (hn : n ≤ 1000) (hq : s.1 ≤ n) (k : Nat) (h0 : 0 < k) (h5 : k ≤ 5) (hc : ∀ f M, B ≤ f → CS l T n s M → fc f M = x_cV 7 M 31 (F_X8_fail 7 31 (nI k) M) fun v2 M2 => x_b v2 <| some (v2, M2)) (hm : ∀ f M, B ≤ f → MS l T n d s M → fm f M = x_cV 10 M 128 (F_X12_fails 128 (nI k) M) fun v2 M2 => x_b v2 <| some (v2, M2)) : JC l T n need B fc fm d s := by
  obtain ⟨t1, t2, _⟩ := tok_ok (T := T) (n := n) s.1 hq
  refine ⟨.inl (k + 16 * (tokAt T n s.1).1), ⟨by omega, by omega⟩, fun f M hf h => ?_, fun f M hf h => ?_⟩
  · obtain ⟨M', e, e1, e2⟩ := h.fail (k := k)
    refine ⟨nI 0, M', ?_, e2, rfl, e1⟩
    rw [hc f M hf h, x_cV_ok h.K e]
    rfl
  · obtain ⟨M', e, e1, e2⟩ := h.fail (k := k)
    refine ⟨nI 0, M', ?_, e2, rfl, e1⟩
    rw [hm f M hf h, x_cV_ok h.K e]
    rfl
theorem x_b1 {β : Type} {f : Option β} : x_b (nI 1) f = f := rfl
theorem x_b0 {β : Type} {f : Option β} : x_b (nI 0) f = f := rfl
theorem tkS_W {t : Tok} {c : Nat} {w : Int64} (h : tkS T c t = true) : tkW w t = false := by
  unfold tkS at h
  unfold tkW
  rw [Bool.and_eq_true, decide_eq_true_eq] at h
  rw [decide_eq_false (by omega), Bool.false_and]
theorem J_item (ho : lOk l) (hn : n ≤ 1000) {d e : Nat} (hd : d + e = 5)
    (hi : 0 < e → ∀ s : PS, s.1 ≤ n → s.2.2 ≤ s.1 → JC l T n (2 * e - 1) (3 * e - 2) (cfI (d + 1)) mfI (d + 1) s)
    (hf : 0 < e → ∀ s : PS, s.1 ≤ n → s.2.2 ≤ s.1 → JC l T n (2 * e + 1) (3 * e) (cfF (d + 1)) mfF (d + 1) s) {s : PS} (hq : s.1 ≤ n) (hs : s.2.2 ≤ s.1) : JC l T n (2 * e + 1) (3 * e + 1) (cfI d) mfI d s := by
  obtain ⟨t1, t2, t3, t4, t5, t6, t7, t8⟩ := tok_ok (T := T) (n := n) s.1 hq
  have uC : ∀ f M, cfI d (f + 1) M = F_X7_readItem ((G_S f).1) ((G_S f).2.1) ((G_S f).2.2) 31 (nI d) M := fun _ _ => rfl
  have uM : ∀ f M, mfI (f + 1) M = F_X12_readsItem ((G_R f).1) ((G_R f).2.1) ((G_R f).2.2) 128 M := fun _ _ => rfl
  by_cases j1 : tkW (k_wl.getD 10 0) (tokAt T n s.1) = true
  · -- not
    have hk : (tokAt T n s.1).2.2.1 = 2 := by
      unfold tkW at j1
      rw [Bool.and_eq_true, decide_eq_true_eq] at j1
      exact j1.1
    have hS : tkS T 40 (tokAt T n s.1) = false := by
      unfold tkS
      rw [decide_eq_false (by omega), Bool.false_and]
    by_cases d5 : d = 5
    · refine J_flt hn hq 5 (by omega) (by omega) (fun f M hf h => ?_) (fun f M hf h => ?_)
      · obtain ⟨f, rfl⟩ : ∃ f', f = f' + 1 := ⟨f - 1, by omega⟩
        rw [uC]
        unfold F_X7_readItem
        rw [m_let_eq, m_let_eq, x_cV_ok h.K (h.W hq (j := 10) (by omega)), j1, if_neg (by decide)]
        dsimp only
        rw [m_let_eq, if_neg (by decide)]
        dsimp only
        rw [m_let_eq, if_neg (by decide)]
        dsimp only
        rw [d5, if_neg (by decide)]
        rfl
      · obtain ⟨f, rfl⟩ : ∃ f', f = f' + 1 := ⟨f - 1, by omega⟩
        rw [uM]
        unfold F_X12_readsItem
        have hw : F_X12_isWord 128 (10631 : Int64) M = _ := h.W hq (c := k_wl.getD 10 0)
        rw [m_let_eq, x_cV_ok h.K hw, j1, if_neg (by decide)]
        dsimp only
        rw [x_gI_ok h.K, h.2.2.2.1.2, d5, if_pos (by decide)]
        rfl
    · have e0 : 0 < e := by omega
      have t5' : (tokAt T n s.1).1 < (tokAt T n s.1).2.1 := by omega
      obtain ⟨o1, a1, a2, a3⟩ := hi e0 ((tokAt T n s.1).2.1, s.2) t4 (by show s.2.2 ≤ (tokAt T n s.1).2.1; omega)
      have cpre : ∀ f M, 3 * e ≤ f → CS l T n s M → ∃ v M2, COk l T n o1 M M2 v ∧ cfI d (f + 1) M = if v = 0 then some ((0 : Int32), M2) else x_cV 7 M2 31 (F_X7_add 31 (-11 : Int32) M2) fun _ M9 => some ((1 : Int32), M9) := by
        intro f M hf h
        obtain ⟨M1, e2, e3, e4⟩ := h.adv hn hq
        obtain ⟨v, M2, e5, e6, e7⟩ := a2 f M1 (by omega) e3
        refine ⟨v, M2, ⟨e4.trans e6, e7⟩, ?_⟩
        rw [uC]
        unfold F_X7_readItem
        have e5' : (G_S f).1 31 (nI d + (1 : Int32)) M1 = some (v, M2) := by rw [nI_1]; exact e5
        have hS2 : F_X8_isAt_ 7 31 (40 : Int32) M = _ := h.S hq (c := 40) (by omega)
        rw [m_let_eq, m_let_eq, x_cV_ok h.K (h.W hq (j := 10) (by omega)), j1, if_neg (by decide)]
        dsimp only
        rw [m_let_eq, if_neg (by decide)]
        dsimp only
        rw [m_let_eq, if_neg (by decide)]
        dsimp only
        rw [if_pos (show nI d < (5 : Int32) from nI_lt (b := 5) (by omega) (by omega)), x_cV_ok h.K hS2, hS, if_pos (by decide), x_cV_ok h.K (h.W hq (j := 10) (by omega)), j1, if_neg (by decide), x_cV_ok h.K e2, x_cV_ok e3.K e5']
      have mpre : ∀ f M, 3 * e ≤ f → MS l T n d s M → ∃ v M2, MOk l T n (d + 1) o1 M M2 v ∧ mfI (f + 1) M = if v = 0 then some ((0 : Int32), M2) else x_gI 10 M2 128 40 fun v6 => x_pI 10 M2 128 40 (v6 - (1 : Int32)) fun M3 => x_cV 10 M3 128 (F_X12_adds 128 (0 : Int32) M3) fun _ M7 => some ((1 : Int32), M7) := by
        intro f M hf h
        obtain ⟨M1, e2, e3, e4, _⟩ := h.next hn hq
        obtain ⟨g1, g2⟩ := e3.sD (d' := d + 1)
        obtain ⟨v, M2, e5, e6, e7⟩ := a3 f _ (by omega) g1
        refine ⟨v, M2, ⟨(e4.trans g2).trans e6, e7⟩, ?_⟩
        rw [uM]
        unfold F_X12_readsItem
        have hw : F_X12_isWord 128 (10631 : Int64) M = _ := h.W hq (c := k_wl.getD 10 0)
        have e5' : (G_R f).1 128 (m_sI M1 128 40 (nI (d + 1))) = some (v, M2) := e5
        rw [m_let_eq, x_cV_ok h.K hw, j1, if_neg (by decide)]
        dsimp only
        rw [x_gI_ok h.K, h.2.2.2.1.2, if_neg (show ¬ nI d = (5 : Int32) from fun z => by have := (nI_eq (b := 5) (by omega) (by omega)).mp z; omega), m_let_eq, x_cV_ok h.K e2, x_gI_ok e3.K, e3.2.2.2.1.2, nI_1, x_pI_ok e3.K, if_neg (by decide), x_cV_ok g1.K e5']
        by_cases z : v = 0
        · rw [if_pos z, if_pos z]
        · rw [if_neg z, if_neg z]
          simp only [show (bI true = 0) = False from by decide, if_false]
      cases o1 with
      | inl k =>
        refine ⟨.inl k, a1, fun f M hf h => ?_, fun f M hf h => ?_⟩
        · obtain ⟨f, rfl⟩ : ∃ f', f = f' + 1 := ⟨f - 1, by omega⟩
          obtain ⟨v, M2, ⟨e1, e2, e3⟩, e4⟩ := cpre f M (by omega) h
          refine ⟨nI 0, M2, ?_, e1, rfl, e3⟩
          rw [e4, e2, if_pos (by decide)]
          rfl
        · obtain ⟨f, rfl⟩ : ∃ f', f = f' + 1 := ⟨f - 1, by omega⟩
          obtain ⟨v, M2, ⟨e1, e2, e3⟩, e4⟩ := mpre f M (by omega) h
          refine ⟨nI 0, M2, ?_, e1, rfl, e3⟩
          rw [e4, e2, if_pos (by decide)]
          rfl
      | inr s1 =>
        obtain ⟨g1, g2, g3, g4, g5, g6⟩ := a1
        have g1' : (tokAt T n s.1).2.1 < s1.1 := g1
        have g3' : s.2.2 ≤ s1.2.2 := g3
        have g4' : s1.2.2 + (tokAt T n s.1).2.1 ≤ s1.1 + s.2.2 := g4
        have g5' : ∀ i, i < s.2.2 → s1.2.1 i = s.2.1 i := g5
        refine ⟨.inr (s1.1, apP s1.2.1 s1.2.2 0, s1.2.2 + 1), ⟨by show s.1 < s1.1; omega, g2, by show s.2.2 ≤ s1.2.2 + 1; omega, by show s1.2.2 + 1 + s.1 ≤ s1.1 + s.2.2; omega, fun i hi => by show apP s1.2.1 s1.2.2 0 i = _; rw [CS.ap s1 i (by omega), g5' i hi], fun top ht => ?_⟩, fun f M hf h => ?_, fun f M hf h => ?_⟩
        · have f1 := fSg_cg (p' := apP s1.2.1 s1.2.2 0) _ _ _ _ (fun i h1 h2 => CS.ap s1 i (by have : i < s.2.2 + (s1.2.2 - s.2.2) := h2; omega)) (g6 top (by omega))
          have f1' : fSg l (apP s1.2.1 s1.2.2 0) (s1.2.2 - s.2.2) s.2.2 top (top + 1) := f1
          have ex : apP s1.2.1 s1.2.2 0 s1.2.2 = 0 := if_pos rfl
          have f2 : fSg l (apP s1.2.1 s1.2.2 0) 1 s1.2.2 (top + 1) (top + 1) := by
            refine ⟨?_, ?_⟩
            · rw [ex]
              exact ⟨by omega, .inl ⟨rfl, by omega⟩⟩
            · rw [ex]
              exact if_pos rfl
          have f3 := fSg_app _ _ _ _ _ _ f1' (by rw [show s.2.2 + (s1.2.2 - s.2.2) = s1.2.2 by omega]; exact f2)
          show fSg l (apP s1.2.1 s1.2.2 0) (s1.2.2 + 1 - s.2.2) s.2.2 top (top + 1)
          rw [show s1.2.2 + 1 - s.2.2 = s1.2.2 - s.2.2 + 1 by omega]
          exact f3
        · obtain ⟨f, rfl⟩ : ∃ f', f = f' + 1 := ⟨f - 1, by omega⟩
          obtain ⟨v, M2, ⟨e1, e2, e3⟩, e4⟩ := cpre f M (by omega) h
          obtain ⟨M3, k1, k2, k3⟩ := e3.add (by omega) (x := 0) (c := -11) (.inl ⟨rfl, rfl⟩)
          refine ⟨nI 1, M3, ?_, e1.trans k3, rfl, k2⟩
          rw [e4, e2, if_neg (by decide), x_cV_ok e3.K k1]
          rfl
        · obtain ⟨f, rfl⟩ : ∃ f', f = f' + 1 := ⟨f - 1, by omega⟩
          obtain ⟨v, M2, ⟨e1, e2, e3⟩, e4⟩ := mpre f M (by omega) h
          obtain ⟨h1, h2⟩ := e3.sD (d' := d)
          obtain ⟨M3, k1, k2, k3⟩ := h1.add (by omega) (x := 0)
          have k1' : F_X12_adds 128 (0 : Int32) (m_sI M2 128 40 (nI d)) = _ := k1
          refine ⟨nI 1, M3, ?_, (e1.trans h2).trans k3, rfl, k2⟩
          rw [e4, e2, if_neg (by decide), x_gI_ok e3.K, e3.2.2.2.1.2, show nI (d + 1) - (1 : Int32) = nI d from nI_sub' (b := 1) (by omega), x_pI_ok e3.K, x_cV_ok h1.K k1']
          rfl
  · have j1' := Bool.eq_false_iff.mpr j1
    by_cases j2 : tkS T 40 (tokAt T n s.1) = true
    · -- (
      have hk : (tokAt T n s.1).2.2.1 = 4 := by
        unfold tkS at j2
        rw [Bool.and_eq_true, decide_eq_true_eq] at j2
        exact j2.1
      by_cases d5 : d = 5
      · refine J_flt hn hq 5 (by omega) (by omega) (fun f M hf h => ?_) (fun f M hf h => ?_)
        · obtain ⟨f, rfl⟩ : ∃ f', f = f' + 1 := ⟨f - 1, by omega⟩
          rw [uC]
          unfold F_X7_readItem
          have hS2 : F_X8_isAt_ 7 31 (40 : Int32) M = _ := h.S hq (c := 40) (by omega)
          rw [m_let_eq, m_let_eq, x_cV_ok h.K (h.W hq (j := 10) (by omega)), j1', if_pos (by decide), x_cV_ok h.K hS2, j2, if_neg (by decide)]
          dsimp only
          rw [m_let_eq, if_neg (by decide)]
          dsimp only
          rw [m_let_eq, if_neg (by decide)]
          dsimp only
          rw [d5, if_neg (by decide)]
          rfl
        · obtain ⟨f, rfl⟩ : ∃ f', f = f' + 1 := ⟨f - 1, by omega⟩
          rw [uM]
          unfold F_X12_readsItem
          have hw : F_X12_isWord 128 (10631 : Int64) M = _ := h.W hq (c := k_wl.getD 10 0)
          have hS2 : F_X12_isSign 128 (40 : Int32) M = _ := h.S hn hq (c := 40) (by omega)
          rw [m_let_eq, x_cV_ok h.K hw, j1', if_pos (by decide), x_cV_ok h.K hS2, j2, if_neg (by decide)]
          dsimp only
          rw [x_gI_ok h.K, h.2.2.2.1.2, d5, if_pos (by decide)]
          rfl
      · have e0 : 0 < e := by omega
        have t5' : (tokAt T n s.1).1 < (tokAt T n s.1).2.1 := by omega
        obtain ⟨o1, a1, a2, a3⟩ := hf e0 ((tokAt T n s.1).2.1, s.2) t4 (by show s.2.2 ≤ (tokAt T n s.1).2.1; omega)
        have cpre : ∀ f M, 3 * e ≤ f → CS l T n s M → ∃ v M2, COk l T n o1 M M2 v ∧ cfI d (f + 1) M = if v = 0 then some ((0 : Int32), M2) else x_cV 7 M2 31 (F_X8_pass_ 7 31 (41 : Int32) M2) fun v14 M13 => if v14 = 0 then some ((0 : Int32), M13) else some ((1 : Int32), M13) := by
          intro f M hf h
          obtain ⟨M1, e2, e3, e4⟩ := h.adv hn hq
          obtain ⟨v, M2, e5, e6, e7⟩ := a2 f M1 (by omega) e3
          refine ⟨v, M2, ⟨e4.trans e6, e7⟩, ?_⟩
          rw [uC]
          unfold F_X7_readItem
          have e5' : (G_S f).2.1 31 (nI d + (1 : Int32)) M1 = some (v, M2) := by rw [nI_1]; exact e5
          have hS2 : F_X8_isAt_ 7 31 (40 : Int32) M = _ := h.S hq (c := 40) (by omega)
          rw [m_let_eq, m_let_eq, x_cV_ok h.K (h.W hq (j := 10) (by omega)), j1', if_pos (by decide), x_cV_ok h.K hS2, j2, if_neg (by decide)]
          dsimp only
          rw [m_let_eq, if_neg (by decide)]
          dsimp only
          rw [m_let_eq, if_neg (by decide)]
          dsimp only
          rw [if_pos (show nI d < (5 : Int32) from nI_lt (b := 5) (by omega) (by omega)), x_cV_ok h.K hS2, j2, if_neg (by decide), m_let_eq, x_cV_ok h.K e2, x_cV_ok e3.K e5']
        have mpre : ∀ f M, 3 * e ≤ f → MS l T n d s M → ∃ v M2, MOk l T n (d + 1) o1 M M2 v ∧ mfI (f + 1) M = if v = 0 then some ((0 : Int32), M2) else x_gI 10 M2 128 40 fun v6 => x_pI 10 M2 128 40 (v6 - (1 : Int32)) fun M3 => x_cV 10 M3 128 (F_X12_isSign 128 (41 : Int32) M3) fun v7 M4 => if v7 = 0 then x_cV 10 M4 128 (F_X12_fails 128 (1 : Int32) M4) fun v8 M6 => x_b v8 <| some (v8, M6) else x_cV 10 M4 128 (F_X12_nextToken 128 M4) fun _ M5 => some ((1 : Int32), M5) := by
          intro f M hf h
          obtain ⟨M1, e2, e3, e4, _⟩ := h.next hn hq
          obtain ⟨g1, g2⟩ := e3.sD (d' := d + 1)
          obtain ⟨v, M2, e5, e6, e7⟩ := a3 f _ (by omega) g1
          refine ⟨v, M2, ⟨(e4.trans g2).trans e6, e7⟩, ?_⟩
          rw [uM]
          unfold F_X12_readsItem
          have hw : F_X12_isWord 128 (10631 : Int64) M = _ := h.W hq (c := k_wl.getD 10 0)
          have hS2 : F_X12_isSign 128 (40 : Int32) M = _ := h.S hn hq (c := 40) (by omega)
          have e5' : (G_R f).2.1 128 (m_sI M1 128 40 (nI (d + 1))) = some (v, M2) := e5
          rw [m_let_eq, x_cV_ok h.K hw, j1', if_pos (by decide), x_cV_ok h.K hS2, j2, if_neg (by decide)]
          dsimp only
          rw [x_gI_ok h.K, h.2.2.2.1.2, if_neg (show ¬ nI d = (5 : Int32) from fun z => by have := (nI_eq (b := 5) (by omega) (by omega)).mp z; omega), m_let_eq, x_cV_ok h.K e2, x_gI_ok e3.K, e3.2.2.2.1.2, nI_1, x_pI_ok e3.K, if_pos (by decide), x_cV_ok g1.K e5']
          by_cases z : v = 0
          · rw [if_pos z, if_pos z]
          · rw [if_neg z, if_neg z]
            simp only [show (bI false = 0) = True from by decide, if_true]
        cases o1 with
        | inl k =>
          refine ⟨.inl k, a1, fun f M hf h => ?_, fun f M hf h => ?_⟩
          · obtain ⟨f, rfl⟩ : ∃ f', f = f' + 1 := ⟨f - 1, by omega⟩
            obtain ⟨v, M2, ⟨e1, e2, e3⟩, e4⟩ := cpre f M (by omega) h
            refine ⟨nI 0, M2, ?_, e1, rfl, e3⟩
            rw [e4, e2, if_pos (by decide)]
            rfl
          · obtain ⟨f, rfl⟩ : ∃ f', f = f' + 1 := ⟨f - 1, by omega⟩
            obtain ⟨v, M2, ⟨e1, e2, e3⟩, e4⟩ := mpre f M (by omega) h
            refine ⟨nI 0, M2, ?_, e1, rfl, e3⟩
            rw [e4, e2, if_pos (by decide)]
            rfl
        | inr s1 =>
          obtain ⟨g1, g2, g3, g4, g5, g6⟩ := a1
          have g1' : (tokAt T n s.1).2.1 < s1.1 := g1
          have g3' : s.2.2 ≤ s1.2.2 := g3
          have g4' : s1.2.2 + (tokAt T n s.1).2.1 ≤ s1.1 + s.2.2 := g4
          obtain ⟨u1, u2, u3, u4, u5, u6, u7, u8⟩ := tok_ok (T := T) (n := n) s1.1 g2
          by_cases j3 : tkS T 41 (tokAt T n s1.1) = true
          · have hk3 : (tokAt T n s1.1).2.2.1 = 4 := by
              unfold tkS at j3
              rw [Bool.and_eq_true, decide_eq_true_eq] at j3
              exact j3.1
            have u5' : (tokAt T n s1.1).1 < (tokAt T n s1.1).2.1 := by omega
            refine ⟨.inr ((tokAt T n s1.1).2.1, s1.2), ⟨by show s.1 < (tokAt T n s1.1).2.1; omega, u4, g3', by show s1.2.2 + s.1 ≤ (tokAt T n s1.1).2.1 + s.2.2; omega, g5, g6⟩, fun f M hf h => ?_, fun f M hf h => ?_⟩
            · obtain ⟨f, rfl⟩ : ∃ f', f = f' + 1 := ⟨f - 1, by omega⟩
              obtain ⟨v, M2, ⟨e1, e2, e3⟩, e4⟩ := cpre f M (by omega) h
              obtain ⟨M3, k1, k2, k3⟩ := e3.adv hn g2
              refine ⟨nI 1, M3, ?_, e1.trans k3, rfl, k2⟩
              have hS3 : F_X8_isAt_ 7 31 (41 : Int32) M2 = _ := e3.S g2 (c := 41) (by omega)
              have hp : F_X8_pass_ 7 31 (41 : Int32) M2 = some (1, M3) := by
                unfold F_X8_pass_
                rw [x_cV_ok e3.K hS3, j3, if_neg (by decide), x_cV_ok e3.K k1]
              rw [e4, e2, if_neg (by decide), x_cV_ok e3.K hp, if_neg (by decide)]
              rfl
            · obtain ⟨f, rfl⟩ : ∃ f', f = f' + 1 := ⟨f - 1, by omega⟩
              obtain ⟨v, M2, ⟨e1, e2, e3⟩, e4⟩ := mpre f M (by omega) h
              obtain ⟨h1, h2⟩ := e3.sD (d' := d)
              obtain ⟨M3, k1, k2, k3, _⟩ := h1.next hn g2
              refine ⟨nI 1, M3, ?_, (e1.trans h2).trans k3, rfl, k2⟩
              have hS3 : F_X12_isSign 128 (41 : Int32) (m_sI M2 128 40 (nI d)) = _ := h1.S hn g2 (c := 41) (by omega)
              rw [e4, e2, if_neg (by decide), x_gI_ok e3.K, e3.2.2.2.1.2, show nI (d + 1) - (1 : Int32) = nI d from nI_sub' (b := 1) (by omega), x_pI_ok e3.K, x_cV_ok h1.K hS3, j3, if_neg (by decide), x_cV_ok h1.K k1]
              rfl
          · refine ⟨.inl (1 + 16 * (tokAt T n s1.1).1), ⟨by omega, by omega⟩, fun f M hf h => ?_, fun f M hf h => ?_⟩
            · obtain ⟨f, rfl⟩ : ∃ f', f = f' + 1 := ⟨f - 1, by omega⟩
              obtain ⟨v, M2, ⟨e1, e2, e3⟩, e4⟩ := cpre f M (by omega) h
              obtain ⟨M3, k1, k2, k3⟩ := e3.fail (k := 1)
              have k1' : F_X8_fail 7 31 (1 : Int32) M2 = _ := k1
              refine ⟨nI 0, M3, ?_, e1.trans k3, rfl, k2⟩
              have hS3 : F_X8_isAt_ 7 31 (41 : Int32) M2 = _ := e3.S g2 (c := 41) (by omega)
              have hp : F_X8_pass_ 7 31 (41 : Int32) M2 = some (nI 0, M3) := by
                unfold F_X8_pass_
                rw [x_cV_ok e3.K hS3, Bool.eq_false_iff.mpr j3, if_pos (by decide), x_cV_ok e3.K k1']
                rfl
              rw [e4, e2, if_neg (by decide), x_cV_ok e3.K hp, if_pos (by decide)]
              rfl
            · obtain ⟨f, rfl⟩ : ∃ f', f = f' + 1 := ⟨f - 1, by omega⟩
              obtain ⟨v, M2, ⟨e1, e2, e3⟩, e4⟩ := mpre f M (by omega) h
              obtain ⟨h1, h2⟩ := e3.sD (d' := d)
              obtain ⟨M3, k1, k2, k3⟩ := h1.fail (k := 1)
              have k1' : F_X12_fails 128 (1 : Int32) (m_sI M2 128 40 (nI d)) = _ := k1
              refine ⟨nI 0, M3, ?_, (e1.trans h2).trans k3, rfl, k2⟩
              have hS3 : F_X12_isSign 128 (41 : Int32) (m_sI M2 128 40 (nI d)) = _ := h1.S hn g2 (c := 41) (by omega)
              rw [e4, e2, if_neg (by decide), x_gI_ok e3.K, e3.2.2.2.1.2, show nI (d + 1) - (1 : Int32) = nI d from nI_sub' (b := 1) (by omega), x_pI_ok e3.K, x_cV_ok h1.K hS3, Bool.eq_false_iff.mpr j3, if_pos (by decide), x_cV_ok h1.K k1']
              rfl
    · -- a clause
      have j2' := Bool.eq_false_iff.mpr j2
      have b1 := ho.2.1
      have b2 := ho.2.2.1
      -- both begin alike
      have mstart : ∀ f M, MS l T n d s M → mfI (f + 1) M = x_cV 10 M 128 (F_X12_readsClause 128 M) fun v15 M15 => x_b v15 <| some (v15, M15) := by
        intro f M h
        rw [uM]
        unfold F_X12_readsItem
        have hw : F_X12_isWord 128 (10631 : Int64) M = _ := h.W hq (c := k_wl.getD 10 0)
        have hS2 : F_X12_isSign 128 (40 : Int32) M = _ := h.S hn hq (c := 40) (by omega)
        rw [m_let_eq, x_cV_ok h.K hw, j1', if_pos (by decide), x_cV_ok h.K hS2, j2', if_pos (by decide)]
      by_cases nm : tkNm (tokAt T n s.1) = true
      · have hk2 := tkNm_k nm
        by_cases kn : fdN (lM l) (lH l 1) (tokAt T n s.1).2.2.2.1 ≠ none ∨ fdN (fun j => lM l (8 + j)) (lH l 2) (tokAt T n s.1).2.2.2.1 ≠ none
        · -- known
          have cstart : ∀ f M, CS l T n s M → cfI d (f + 1) M = if nI d < (5 : Int32) then (x_cV 7 M 31 (F_X7_readClause 31 M) fun v11 M6 => x_b v11 <| some (v11, M6)) else x_cV 7 M 31 (F_X8_fail 7 31 (5 : Int32) M) fun v15 M14 => x_b v15 <| some (v15, M14) := by
            intro f M h
            rw [uC]
            unfold F_X7_readItem
            obtain ⟨_, R10, _, K2, _⟩ := rd31 h.1.1
            have hS2 : F_X8_isAt_ 7 31 (40 : Int32) M = _ := h.S hq (c := 40) (by omega)
            have e2 : F_X3_find 2 (0 : Int32) (tokAt T n s.1).2.2.2.1 M = _ := S_thingC h.1.1 ho h.1.2.1 h.1.2.2 (w := (tokAt T n s.1).2.2.2.1)
            have e3 : F_X3_find 2 (1 : Int32) (tokAt T n s.1).2.2.2.1 M = _ := S_bendC h.1.1 ho h.1.2.1 h.1.2.2 (w := (tokAt T n s.1).2.2.2.1)
            have fin : (fun (v7 : Nat) (v8 : Int32) (M3 : m_M) =>
              if v8 < (5 : Int32) then (
                x_cV 7 M3 v7 (F_X8_isAt_ 7 v7 (40 : Int32) M3) fun v9 M4 =>
                if v9 = 0 then (
                  x_cV 7 M4 v7 (F_X8_isAt 7 v7 (1000000 + 10) M4) fun v10 M5 =>
                  if v10 = 0 then (
                    x_cV 7 M5 v7 (F_X7_readClause v7 M5) fun v11 M6 =>
                    x_b v11 <| some (v11, M6)
                  ) else
                  x_cV 7 M5 v7 (F_X8_advance 7 v7 M5) fun _ M7 =>
                  x_cV 7 M7 v7 ((G_S f).1 v7 (v8 + (1 : Int32)) M7) fun v12 M8 =>
                  if v12 = 0 then (
                    some ((0 : Int32), M8)
                  ) else
                  x_cV 7 M8 v7 (F_X7_add v7 (-11 : Int32) M8) fun _ M9 =>
                  some ((1 : Int32), M9)
                ) else
                m_let (fun  (M10 : m_M) =>
                  some ((0 : Int32), M10)
                ) fun (k131 : m_M → Option (Int32 × m_M)) =>
                x_cV 7 M4 v7 (F_X8_advance 7 v7 M4) fun _ M11 =>
                x_cV 7 M11 v7 ((G_S f).2.1 v7 (v8 + (1 : Int32)) M11) fun v13 M12 =>
                if v13 = 0 then (
                  k131 M12
                ) else
                x_cV 7 M12 v7 (F_X8_pass_ 7 v7 (41 : Int32) M12) fun v14 M13 =>
                if v14 = 0 then (
                  k131 M13
                ) else
                some ((1 : Int32), M13)
              ) else
              x_cV 7 M3 v7 (F_X8_fail 7 v7 (5 : Int32) M3) fun v15 M14 =>
              x_b v15 <| some (v15, M14)) 31 (nI d) M = if nI d < (5 : Int32) then (x_cV 7 M 31 (F_X7_readClause 31 M) fun v11 M6 => x_b v11 <| some (v11, M6)) else x_cV 7 M 31 (F_X8_fail 7 31 (5 : Int32) M) fun v15 M14 => x_b v15 <| some (v15, M14) := by
              dsimp only
              by_cases z : nI d < (5 : Int32)
              · rw [if_pos z, if_pos z, x_cV_ok h.K hS2, j2', if_pos (by decide), x_cV_ok h.K (h.W hq (j := 10) (by omega)), j1', if_pos (by decide)]
              · rw [if_neg z, if_neg z]
            rw [m_let_eq, m_let_eq, x_cV_ok h.K (h.W hq (j := 10) (by omega)), j1', if_pos (by decide), x_cV_ok h.K hS2, j2', if_pos (by decide)]
            dsimp only
            rw [m_let_eq, if_pos rfl, x_cV_ok h.K (h.Nm hq), nm, if_neg (by decide)]
            dsimp only
            rw [m_let_eq, if_pos rfl, x_gN_ok h.K R10, x_gL_ok h.K, h.w hk2, x_cV_ok K2 e2]
            cases ht : fdN (lM l) (lH l 1) (tokAt T n s.1).2.2.2.1 with
            | some t =>
              have := (fdN_lt ht).1
              rw [if_neg (show ¬ iO (some t) = (-1 : Int32) from nI_nm1 (by omega))]
              exact fin
            | none =>
              rw [if_pos (by decide), x_gN_ok h.K R10, x_gL_ok h.K, h.w hk2, x_cV_ok K2 e3]
              cases hb : fdN (fun j => lM l (8 + j)) (lH l 2) (tokAt T n s.1).2.2.2.1 with
              | some t =>
                have := (fdN_lt hb).1
                rw [if_neg (show ¬ iO (some t) = (-1 : Int32) from nI_nm1 (by omega))]
                exact fin
              | none =>
                rcases kn with z | z
                · exact absurd ht z
                · exact absurd hb z
          by_cases d5 : d = 5
          · refine J_flt hn hq 5 (by omega) (by omega) (fun f M hf h => ?_) (fun f M hf h => ?_)
            · obtain ⟨f, rfl⟩ : ∃ f', f = f' + 1 := ⟨f - 1, by omega⟩
              rw [cstart f M h, if_neg (by rw [d5]; decide)]
              rfl
            · obtain ⟨f, rfl⟩ : ∃ f', f = f' + 1 := ⟨f - 1, by omega⟩
              obtain ⟨M', k1, k2, k3⟩ := h.fail (k := 5)
              have k1' : F_X12_fails 128 (5 : Int32) M = _ := k1
              have e1 := h.Nm hq
              have e2 : F_X12_thingNamed 128 (0 : Int32) M = _ := S_thingM h.1.1 ho h.1.2.1 h.1.2.2 (h.w hk2)
              have e3 : F_X12_bendNamed 128 (0 : Int32) M = _ := S_bendM h.1.1 ho h.1.2.1 h.1.2.2 (h.w hk2)
              have ec : F_X12_readsClause 128 M = some (nI 0, M') := by
                unfold F_X12_readsClause
                rw [x_cV_ok h.K e1, nm, if_pos (by decide), m_let_eq, x_cV_ok h.K e2]
                cases ht : fdN (lM l) (lH l 1) (tokAt T n s.1).2.2.2.1 with
                | some t =>
                  have := (fdN_lt ht).1
                  rw [if_pos (show (0 : Int32) ≤ iO (some t) from nI_pos' (by omega))]
                  dsimp only
                  rw [x_gI_ok h.K, h.2.2.2.1.2, d5, if_pos (by decide), x_cV_ok h.K k1']
                  rfl
                | none =>
                  cases hb : fdN (fun j => lM l (8 + j)) (lH l 2) (tokAt T n s.1).2.2.2.1 with
                  | some t =>
                    have := (fdN_lt hb).1
                    rw [if_neg (by decide), x_cV_ok h.K e3, hb, if_pos (show (0 : Int32) ≤ iO (some t) from nI_pos' (by omega))]
                    dsimp only
                    rw [x_gI_ok h.K, h.2.2.2.1.2, d5, if_pos (by decide), x_cV_ok h.K k1']
                    rfl
                  | none =>
                    rcases kn with z | z
                    · exact absurd ht z
                    · exact absurd hb z
              rw [mstart f M h, x_cV_ok h.K ec, x_cV_ok h.K k1]
          · obtain ⟨o, a1, a2, a3⟩ := J_clause ho hn hq hs d (by omega) nm kn
            refine ⟨o, ?_, fun f M hf h => ?_, fun f M hf h => ?_⟩
            · cases o with
              | inl k => exact a1
              | inr s1 =>
                obtain ⟨g1, g2, g3, g4, g5, g6⟩ := a1
                exact ⟨g1, g2, g3, g4, g5, fun top ht => g6 top (by omega)⟩
            · obtain ⟨f, rfl⟩ : ∃ f', f = f' + 1 := ⟨f - 1, by omega⟩
              obtain ⟨v, M', k1, k2⟩ := a2 0 M (Nat.le_refl _) h
              refine ⟨v, M', ?_, k2⟩
              rw [cstart f M h, if_pos (show nI d < (5 : Int32) from nI_lt (b := 5) (by omega) (by omega)), x_cV_ok h.K k1]
              cases o with
              | inl k => rw [k2.2.1]; rfl
              | inr s1 => rw [k2.2.1]; rfl
            · obtain ⟨f, rfl⟩ : ∃ f', f = f' + 1 := ⟨f - 1, by omega⟩
              obtain ⟨v, M', k1, k2⟩ := a3 0 M (Nat.le_refl _) h
              refine ⟨v, M', ?_, k2⟩
              rw [mstart f M h, x_cV_ok h.K k1]
              cases o with
              | inl k => rw [k2.2.1]; rfl
              | inr s1 => rw [k2.2.1]; rfl
        · -- unknown
          have ht : fdN (lM l) (lH l 1) (tokAt T n s.1).2.2.2.1 = none := Classical.byContradiction (fun z => kn (.inl z))
          have hb : fdN (fun j => lM l (8 + j)) (lH l 2) (tokAt T n s.1).2.2.2.1 = none := Classical.byContradiction (fun z => kn (.inr z))
          refine J_flt hn hq 2 (by omega) (by omega) (fun f M hf h => ?_) (fun f M hf h => ?_)
          · obtain ⟨f, rfl⟩ : ∃ f', f = f' + 1 := ⟨f - 1, by omega⟩
            rw [uC]
            unfold F_X7_readItem
            obtain ⟨_, R10, _, K2, _⟩ := rd31 h.1.1
            have hS2 : F_X8_isAt_ 7 31 (40 : Int32) M = _ := h.S hq (c := 40) (by omega)
            have e2 : F_X3_find 2 (0 : Int32) (tokAt T n s.1).2.2.2.1 M = _ := S_thingC h.1.1 ho h.1.2.1 h.1.2.2 (w := (tokAt T n s.1).2.2.2.1)
            have e3 : F_X3_find 2 (1 : Int32) (tokAt T n s.1).2.2.2.1 M = _ := S_bendC h.1.1 ho h.1.2.1 h.1.2.2 (w := (tokAt T n s.1).2.2.2.1)
            rw [m_let_eq, m_let_eq, x_cV_ok h.K (h.W hq (j := 10) (by omega)), j1', if_pos (by decide), x_cV_ok h.K hS2, j2', if_pos (by decide)]
            dsimp only
            rw [m_let_eq, if_pos rfl, x_cV_ok h.K (h.Nm hq), nm, if_neg (by decide)]
            dsimp only
            rw [m_let_eq, if_pos rfl, x_gN_ok h.K R10, x_gL_ok h.K, h.w hk2, x_cV_ok K2 e2, ht, if_pos (by decide), x_gN_ok h.K R10, x_gL_ok h.K, h.w hk2, x_cV_ok K2 e3, hb, if_pos (by decide)]
            rfl
          · obtain ⟨f, rfl⟩ : ∃ f', f = f' + 1 := ⟨f - 1, by omega⟩
            obtain ⟨M', k1, k2, k3⟩ := h.fail (k := 2)
            have k1' : F_X12_fails 128 (2 : Int32) M = _ := k1
            have e1 := h.Nm hq
            have e2 : F_X12_thingNamed 128 (0 : Int32) M = _ := S_thingM h.1.1 ho h.1.2.1 h.1.2.2 (h.w hk2)
            have e3 : F_X12_bendNamed 128 (0 : Int32) M = _ := S_bendM h.1.1 ho h.1.2.1 h.1.2.2 (h.w hk2)
            have ec : F_X12_readsClause 128 M = some (nI 0, M') := by
              unfold F_X12_readsClause
              rw [x_cV_ok h.K e1, nm, if_pos (by decide), m_let_eq, x_cV_ok h.K e2, ht, if_neg (by decide), x_cV_ok h.K e3, hb, if_neg (by decide), x_cV_ok h.K k1']
              rfl
            rw [mstart f M h, x_cV_ok h.K ec, x_cV_ok h.K k1]
      · refine J_flt hn hq 1 (by omega) (by omega) (fun f M hf h => ?_) (fun f M hf h => ?_)
        · obtain ⟨f, rfl⟩ : ∃ f', f = f' + 1 := ⟨f - 1, by omega⟩
          rw [uC]
          unfold F_X7_readItem
          have hS2 : F_X8_isAt_ 7 31 (40 : Int32) M = _ := h.S hq (c := 40) (by omega)
          rw [m_let_eq, m_let_eq, x_cV_ok h.K (h.W hq (j := 10) (by omega)), j1', if_pos (by decide), x_cV_ok h.K hS2, j2', if_pos (by decide)]
          dsimp only
          rw [m_let_eq, if_pos rfl, x_cV_ok h.K (h.Nm hq), Bool.eq_false_iff.mpr nm, if_pos (by decide)]
          rfl
        · obtain ⟨f, rfl⟩ : ∃ f', f = f' + 1 := ⟨f - 1, by omega⟩
          obtain ⟨M', k1, k2, k3⟩ := h.fail (k := 1)
          have k1' : F_X12_fails 128 (1 : Int32) M = _ := k1
          have e1 := h.Nm hq
          have ec : F_X12_readsClause 128 M = some (nI 0, M') := by
            unfold F_X12_readsClause
            rw [x_cV_ok h.K e1, Bool.eq_false_iff.mpr nm, if_neg (by decide), x_cV_ok h.K k1']
            rfl
          rw [mstart f M h, x_cV_ok h.K ec, x_cV_ok h.K k1]
theorem J_all (ho : lOk l) (hn : n ≤ 1000) : ∀ (e d : Nat), d + e = 5 → ∀ s : PS, s.1 ≤ n → s.2.2 ≤ s.1 → JC l T n (2 * e + 1) (3 * e + 1) (cfI d) mfI d s ∧ JC l T n (2 * e + 3) (3 * e + 3) (cfF d) mfF d s := by
  intro e
  induction e with
  | zero =>
    intro d hd s hq hs
    have it : ∀ s : PS, s.1 ≤ n → s.2.2 ≤ s.1 → JC l T n (2 * 0 + 1) (3 * 0 + 1) (cfI d) mfI d s := fun s hq hs => J_item ho hn hd (fun h => absurd h (Nat.lt_irrefl 0)) (fun h => absurd h (Nat.lt_irrefl 0)) hq hs
    exact ⟨it s hq hs, J_formula hn (N := 2 * 0 + 1 + 1) (B := 3 * 0 + 1 + 1) (by omega) (fun s hq hs => J_term hn (by omega) it hq hs) hq hs⟩
  | succ e ih =>
    intro d hd s hq hs
    have it : ∀ s : PS, s.1 ≤ n → s.2.2 ≤ s.1 → JC l T n (2 * (e + 1) + 1) (3 * (e + 1) + 1) (cfI d) mfI d s := fun s hq hs => J_item ho hn hd (fun _ s hq hs => (ih (d + 1) (by omega) s hq hs).1) (fun _ s hq hs => (ih (d + 1) (by omega) s hq hs).2) hq hs
    exact ⟨it s hq hs, J_formula hn (N := 2 * (e + 1) + 1 + 1) (B := 3 * (e + 1) + 1 + 1) (by omega) (fun s hq hs => J_term hn (by omega) it hq hs) hq hs⟩
end ITEMS
