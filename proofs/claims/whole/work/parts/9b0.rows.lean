/-! sayings are read: rows of items, of terms -/
def lpO (l : Ld) (n need : Nat) (s : PS) (o : Nat ⊕ PS) : Prop := match o with
  | .inl k => 0 < k ∧ k < 20000
  | .inr s' => s.1 ≤ s'.1 ∧ s'.1 ≤ n ∧ s.2.2 ≤ s'.2.2 ∧ s'.2.2 + s.1 ≤ s'.1 + s.2.2 ∧ (∀ i, i < s.2.2 → s'.2.1 i = s.2.1 i) ∧ ∀ top, 0 < top → top + need ≤ 16 → fSg l s'.2.1 (s'.2.2 - s.2.2) s.2.2 top top
section ROWS2
variable {M M' : m_M} {l : Ld} {T : Nat → Nat} {n d N B : Nat}
theorem CS.ap (s : PS) {x : Nat} : ∀ i, i < s.2.2 → apP s.2.1 s.2.2 x i = s.2.1 i := fun i hi => if_neg (by omega)
theorem tok_end {q : Nat} (hq : n ≤ q) : (tokAt T n q).2.2.1 = 0 := by
  unfold tokAt
  have h := rnW_le (P := isBl) (T := T) (n - q) q
  unfold tokF
  rw [if_neg (by omega)]
theorem tkW_end {q : Nat} {c : Int64} (hq : n ≤ q) : tkW c (tokAt T n q) = false := by
  unfold tkW
  rw [tok_end hq]
  rfl
theorem J_loop (hn : n ≤ 1000) {w : Nat} (hw : w < 20) {x : Nat} (hx : x = 1 ∨ x = 2) {c : Int32} (hc : cPt l x c) {fc fm : Nat → m_M → Option (Int32 × m_M)} (hN : 1 ≤ N) (hj : ∀ s : PS, s.1 ≤ n → s.2.2 ≤ s.1 → JC l T n N B fc fm d s) {LC : Nat → Nat → Int32 → m_M → Option (Int32 × m_M)} {LM : Nat → Nat → m_M → Option (Int32 × m_M)}
    (eC : ∀ f fl v3 M, LC f (fl + 1) v3 M = if (1000 : Int32) ≤ v3 then some ((1 : Int32), M) else x_cV 7 M 31 (F_X8_isAt 7 31 (1000000 + w) M) fun v4 M1 => if v4 = 0 then some ((1 : Int32), M1) else x_cV 7 M1 31 (F_X8_advance 7 31 M1) fun _ M2 => x_cV 7 M2 31 (fc f M2) fun v5 M3 => if v5 = 0 then some ((0 : Int32), M3) else x_cV 7 M3 31 (F_X7_add 31 c M3) fun _ M4 => m_let (v3 + (1 : Int32)) fun v6 => LC f fl v6 M4)
    (eM : ∀ f fl M, LM f (fl + 1) M = x_cV 10 M 128 (F_X12_isWord 128 (k_wl.getD w 0) M) fun v2 M1 => if v2 = 0 then some ((1 : Int32), M1) else x_cV 10 M1 128 (F_X12_nextToken 128 M1) fun _ M2 => x_cV 10 M2 128 (fm f M2) fun v3 M3 => if v3 = 0 then some ((0 : Int32), M3) else x_cV 10 M3 128 (F_X12_adds 128 (nI x) M3) fun _ M4 => LM f fl M4) :
    ∀ (L : Nat) (s : PS) (i : Nat), n - s.1 ≤ L → s.1 ≤ n → s.2.2 ≤ s.1 → i ≤ s.1 → ∃ o, lpO l n N s o ∧ (∀ f fl M, B ≤ f → L < fl → CS l T n s M → ∃ v M', LC f fl (nI i) M = some (v, M') ∧ COk l T n o M M' v) ∧ ∀ f fl M, B ≤ f → L < fl → MS l T n d s M → ∃ v M', LM f fl M = some (v, M') ∧ MOk l T n d o M M' v := by
  intro L
  induction L using Nat.strongRecOn with
  | _ L ih =>
    intro s i hL hq hs hi
    obtain ⟨t1, t2, t3, t4, t5, t6, t7, t8⟩ := tok_ok (T := T) (n := n) s.1 hq
    by_cases a : tkW (k_wl.getD w 0) (tokAt T n s.1) = true
    · have hk : (tokAt T n s.1).2.2.1 = 2 := by
        unfold tkW at a
        rw [Bool.and_eq_true, decide_eq_true_eq] at a
        exact a.1
      have t5' : (tokAt T n s.1).1 < (tokAt T n s.1).2.1 := by omega
      have i1 : i < 1000 := by have := t8 (by omega); omega
      obtain ⟨o1, a1, a2, a3⟩ := hj ((tokAt T n s.1).2.1, s.2) t4 (by show s.2.2 ≤ (tokAt T n s.1).2.1; omega)
      have cpre : ∀ f fl M, B ≤ f → CS l T n s M → ∃ v M1 M2, CS l T n ((tokAt T n s.1).2.1, s.2) M1 ∧ COk l T n o1 M M2 v ∧ LC f (fl + 1) (nI i) M = if v = 0 then some ((0 : Int32), M2) else x_cV 7 M2 31 (F_X7_add 31 c M2) fun _ M4 => LC f fl (nI (i + 1)) M4 := by
        intro f fl M hf hm
        have e1 := hm.W hq hw
        obtain ⟨M1, e2, e3, e4⟩ := hm.adv hn hq
        obtain ⟨v, M2, e5, e6, e7⟩ := a2 f M1 hf e3
        refine ⟨v, M1, M2, e3, ⟨e4.trans e6, e7⟩, ?_⟩
        rw [eC, if_neg (show ¬ (1000 : Int32) ≤ nI i from nI_ge (b := 1000) i1 (by omega)), x_cV_ok hm.K e1, a, if_neg (by decide), x_cV_ok hm.K e2, x_cV_ok e3.K e5]
        simp only [m_let_eq, nI_1]
      have mpre : ∀ f fl M, B ≤ f → MS l T n d s M → ∃ v M1 M2, MS l T n d ((tokAt T n s.1).2.1, s.2) M1 ∧ MOk l T n d o1 M M2 v ∧ LM f (fl + 1) M = if v = 0 then some ((0 : Int32), M2) else x_cV 10 M2 128 (F_X12_adds 128 (nI x) M2) fun _ M4 => LM f fl M4 := by
        intro f fl M hf hm
        have e1 := hm.W hq (c := k_wl.getD w 0)
        obtain ⟨M1, e2, e3, e4, _⟩ := hm.next hn hq
        obtain ⟨v, M2, e5, e6, e7⟩ := a3 f M1 hf e3
        refine ⟨v, M1, M2, e3, ⟨e4.trans e6, e7⟩, ?_⟩
        rw [eM, x_cV_ok hm.K e1, a, if_neg (by decide), x_cV_ok hm.K e2, x_cV_ok e3.K e5]
      cases o1 with
      | inl k =>
        refine ⟨.inl k, a1, fun f fl M hf hl hm => ?_, fun f fl M hf hl hm => ?_⟩
        · obtain ⟨fl, rfl⟩ : ∃ f', fl = f' + 1 := ⟨fl - 1, by omega⟩
          obtain ⟨v, M1, M2, _, ⟨e2, e3, e4⟩, e5⟩ := cpre f fl M hf hm
          refine ⟨nI 0, M2, ?_, e2, rfl, e4⟩
          rw [e5, e3, if_pos (by decide)]
          rfl
        · obtain ⟨fl, rfl⟩ : ∃ f', fl = f' + 1 := ⟨fl - 1, by omega⟩
          obtain ⟨v, M1, M2, _, ⟨e2, e3, e4⟩, e5⟩ := mpre f fl M hf hm
          refine ⟨nI 0, M2, ?_, e2, rfl, e4⟩
          rw [e5, e3, if_pos (by decide)]
          rfl
      | inr s1 =>
        obtain ⟨g1, g2, g3, g4, g5, g6⟩ := a1
        have g1' : (tokAt T n s.1).2.1 < s1.1 := g1
        have g3' : s.2.2 ≤ s1.2.2 := g3
        have g4' : s1.2.2 + (tokAt T n s.1).2.1 ≤ s1.1 + s.2.2 := g4
        have g5' : ∀ i, i < s.2.2 → s1.2.1 i = s.2.1 i := g5
        obtain ⟨o2, b1, b2, b3⟩ := ih (n - s1.1) (by omega) (s1.1, apP s1.2.1 s1.2.2 x, s1.2.2 + 1) (i + 1) (Nat.le_refl _) g2 (by show s1.2.2 + 1 ≤ s1.1; omega) (by show i + 1 ≤ s1.1; omega)
        refine ⟨o2, ?_, fun f fl M hf hl hm => ?_, fun f fl M hf hl hm => ?_⟩
        · cases o2 with
          | inl k => exact b1
          | inr s2 =>
            obtain ⟨h1, h2, h3, h4, h5, h6⟩ := b1
            have h1' : s1.1 ≤ s2.1 := h1
            have h3' : s1.2.2 + 1 ≤ s2.2.2 := h3
            have h4' : s2.2.2 + s1.1 ≤ s2.1 + (s1.2.2 + 1) := h4
            have h5' : ∀ i, i < s1.2.2 + 1 → s2.2.1 i = apP s1.2.1 s1.2.2 x i := h5
            refine ⟨by omega, h2, by omega, by omega, fun i hi => ?_, fun top h0 ht => ?_⟩
            · rw [h5' i (by omega), CS.ap s1 i (by omega), g5' i hi]
            · have f1 := fSg_cg (p' := s2.2.1) _ _ _ _ (fun i h1 h2 => by rw [h5' i (by have : i < s.2.2 + (s1.2.2 - s.2.2) := h2; omega), CS.ap s1 i (by have : i < s.2.2 + (s1.2.2 - s.2.2) := h2; omega)]) (g6 top ht)
              have f1' : fSg l s2.2.1 (s1.2.2 - s.2.2) s.2.2 top (top + 1) := f1
              have ex : s2.2.1 s1.2.2 = x := by rw [h5' _ (by omega)]; exact if_pos rfl
              have f2 : fSg l s2.2.1 1 s1.2.2 (top + 1) top := by
                refine ⟨?_, ?_⟩
                · rw [ex]
                  exact ⟨by omega, .inr (.inl ⟨hx, by omega⟩)⟩
                · rw [ex]
                  show fTop x (top + 1) = top
                  unfold fTop
                  rcases hx with rfl | rfl
                  · rw [if_neg (by decide), if_pos rfl]; omega
                  · rw [if_neg (by decide), if_neg (by decide), if_pos rfl]; omega
              have f3 := fSg_app _ _ _ _ _ _ f1' (by rw [show s.2.2 + (s1.2.2 - s.2.2) = s1.2.2 by omega]; exact f2)
              have f4 := fSg_app _ _ _ _ _ _ f3 (by rw [show s.2.2 + (s1.2.2 - s.2.2 + 1) = s1.2.2 + 1 by omega]; exact h6 top h0 ht)
              have f5 : fSg l s2.2.1 (s1.2.2 - s.2.2 + 1 + (s2.2.2 - (s1.2.2 + 1))) s.2.2 top top := f4
              rw [show s1.2.2 - s.2.2 + 1 + (s2.2.2 - (s1.2.2 + 1)) = s2.2.2 - s.2.2 by omega] at f5
              exact f5
        · obtain ⟨fl, rfl⟩ : ∃ f', fl = f' + 1 := ⟨fl - 1, by omega⟩
          obtain ⟨v, M1, M2, _, ⟨e2, e3, e4⟩, e5⟩ := cpre f fl M hf hm
          obtain ⟨M3, k1, k2, k3⟩ := e4.add (by omega) hc
          obtain ⟨v2, M4, m1, m2, m3⟩ := b2 f fl M3 hf (by omega) k2
          refine ⟨v2, M4, ?_, (e2.trans k3).trans m2, m3⟩
          rw [e5, e3, if_neg (by decide), x_cV_ok e4.K k1]
          exact m1
        · obtain ⟨fl, rfl⟩ : ∃ f', fl = f' + 1 := ⟨fl - 1, by omega⟩
          obtain ⟨v, M1, M2, _, ⟨e2, e3, e4⟩, e5⟩ := mpre f fl M hf hm
          obtain ⟨M3, k1, k2, k3⟩ := e4.add (by omega) (x := x)
          obtain ⟨v2, M4, m1, m2, m3⟩ := b3 f fl M3 hf (by omega) k2
          refine ⟨v2, M4, ?_, (e2.trans k3).trans m2, m3⟩
          rw [e5, e3, if_neg (by decide), x_cV_ok e4.K k1]
          exact m1
    · refine ⟨.inr s, ⟨Nat.le_refl _, hq, Nat.le_refl _, by omega, fun _ _ => rfl, fun top h0 ht => by rw [Nat.sub_self]; exact rfl⟩, fun f fl M hf hl hm => ?_, fun f fl M hf hl hm => ?_⟩
      · obtain ⟨fl, rfl⟩ : ∃ f', fl = f' + 1 := ⟨fl - 1, by omega⟩
        have e1 := hm.W hq hw
        refine ⟨nI 1, M, ?_, csF.rfl', rfl, hm⟩
        rw [eC]
        by_cases z : (1000 : Int32) ≤ nI i
        · rw [if_pos z]; rfl
        · rw [if_neg z, x_cV_ok hm.K e1, Bool.eq_false_iff.mpr a, if_pos (by decide)]; rfl
      · obtain ⟨fl, rfl⟩ : ∃ f', fl = f' + 1 := ⟨fl - 1, by omega⟩
        have e1 := hm.W hq (c := k_wl.getD w 0)
        refine ⟨nI 1, M, ?_, msF.rfl', rfl, hm⟩
        rw [eM, x_cV_ok hm.K e1, Bool.eq_false_iff.mpr a, if_pos (by decide)]; rfl
/-- a row: the first, then the rest -/
theorem J_row (hn : n ≤ 1000) {w : Nat} (hw : w < 20) {x : Nat} (hx : x = 1 ∨ x = 2) {c : Int32} (hc : cPt l x c) {fc fm : Nat → m_M → Option (Int32 × m_M)} (hN : 1 ≤ N) (hj : ∀ s : PS, s.1 ≤ n → s.2.2 ≤ s.1 → JC l T n N B fc fm d s) {LC : Nat → Nat → Int32 → m_M → Option (Int32 × m_M)} {LM : Nat → Nat → m_M → Option (Int32 × m_M)}
    (eC : ∀ f fl v3 M, LC f (fl + 1) v3 M = if (1000 : Int32) ≤ v3 then some ((1 : Int32), M) else x_cV 7 M 31 (F_X8_isAt 7 31 (1000000 + w) M) fun v4 M1 => if v4 = 0 then some ((1 : Int32), M1) else x_cV 7 M1 31 (F_X8_advance 7 31 M1) fun _ M2 => x_cV 7 M2 31 (fc f M2) fun v5 M3 => if v5 = 0 then some ((0 : Int32), M3) else x_cV 7 M3 31 (F_X7_add 31 c M3) fun _ M4 => m_let (v3 + (1 : Int32)) fun v6 => LC f fl v6 M4)
    (eM : ∀ f fl M, LM f (fl + 1) M = x_cV 10 M 128 (F_X12_isWord 128 (k_wl.getD w 0) M) fun v2 M1 => if v2 = 0 then some ((1 : Int32), M1) else x_cV 10 M1 128 (F_X12_nextToken 128 M1) fun _ M2 => x_cV 10 M2 128 (fm f M2) fun v3 M3 => if v3 = 0 then some ((0 : Int32), M3) else x_cV 10 M3 128 (F_X12_adds 128 (nI x) M3) fun _ M4 => LM f fl M4)
    {rc rm : Nat → m_M → Option (Int32 × m_M)} (hrc : ∀ f M, rc (f + 1) M = x_cV 7 M 31 (fc f M) fun v1 M1 => if v1 = 0 then some ((0 : Int32), M1) else LC f m_FU (0 : Int32) M1) (hrm : ∀ f M, rm (f + 1) M = x_cV 10 M 128 (fm f M) fun v1 M1 => if v1 = 0 then some ((0 : Int32), M1) else LM f m_FU M1) {s : PS} (hq : s.1 ≤ n) (hs : s.2.2 ≤ s.1) : JC l T n (N + 1) (B + 1) rc rm d s := by
  obtain ⟨o1, a1, a2, a3⟩ := hj s hq hs
  cases o1 with
  | inl k =>
    refine ⟨.inl k, a1, fun f M hf hm => ?_, fun f M hf hm => ?_⟩
    · obtain ⟨f, rfl⟩ : ∃ f', f = f' + 1 := ⟨f - 1, by omega⟩
      obtain ⟨v, M1, e, e1, e2, e3⟩ := a2 f M (by omega) hm
      refine ⟨nI 0, M1, ?_, e1, rfl, e3⟩
      rw [hrc, x_cV_ok hm.K e, e2, if_pos (by decide)]
      rfl
    · obtain ⟨f, rfl⟩ : ∃ f', f = f' + 1 := ⟨f - 1, by omega⟩
      obtain ⟨v, M1, e, e1, e2, e3⟩ := a3 f M (by omega) hm
      refine ⟨nI 0, M1, ?_, e1, rfl, e3⟩
      rw [hrm, x_cV_ok hm.K e, e2, if_pos (by decide)]
      rfl
  | inr s1 =>
    obtain ⟨g1, g2, g3, g4, g5, g6⟩ := a1
    obtain ⟨o2, b1, b2, b3⟩ := J_loop hn hw hx hc hN hj eC eM (n - s1.1) s1 0 (Nat.le_refl _) g2 (by omega) (by omega)
    refine ⟨o2, ?_, fun f M hf hm => ?_, fun f M hf hm => ?_⟩
    · cases o2 with
      | inl k => exact b1
      | inr s2 =>
        obtain ⟨h1, h2, h3, h4, h5, h6⟩ := b1
        refine ⟨by omega, h2, by omega, by omega, fun i hi => by rw [h5 i (by omega), g5 i hi], fun top ht => ?_⟩
        have f1 := fSg_cg (p' := s2.2.1) _ _ _ _ (fun i h1 h2 => h5 i (by omega)) (g6 top (by omega))
        have f2 := fSg_app _ _ _ _ _ _ f1 (by rw [show s.2.2 + (s1.2.2 - s.2.2) = s1.2.2 by omega]; exact h6 (top + 1) (by omega) (by omega))
        rw [show s1.2.2 - s.2.2 + (s2.2.2 - s1.2.2) = s2.2.2 - s.2.2 by omega] at f2
        exact f2
    · obtain ⟨f, rfl⟩ : ∃ f', f = f' + 1 := ⟨f - 1, by omega⟩
      obtain ⟨v, M1, e, e1, e2, e3⟩ := a2 f M (by omega) hm
      obtain ⟨v2, M2, k1, k2, k3⟩ := b2 f m_FU M1 (by omega) (m_FU_lt (by omega)) e3
      refine ⟨v2, M2, ?_, e1.trans k2, k3⟩
      rw [hrc, x_cV_ok hm.K e, e2, if_neg (by decide)]
      exact k1
    · obtain ⟨f, rfl⟩ : ∃ f', f = f' + 1 := ⟨f - 1, by omega⟩
      obtain ⟨v, M1, e, e1, e2, e3⟩ := a3 f M (by omega) hm
      obtain ⟨v2, M2, k1, k2, k3⟩ := b3 f m_FU M1 (by omega) (m_FU_lt (by omega)) e3
      refine ⟨v2, M2, ?_, e1.trans k2, k3⟩
      rw [hrm, x_cV_ok hm.K e, e2, if_neg (by decide)]
      exact k1
end ROWS2
