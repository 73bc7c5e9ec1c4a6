/-! a land read: the model's lines -/
section MLINE
variable {M M' : m_M} {T : Nat → Nat} {n q : Nat} {l l' : Ld} {bt bt' : Bool × Bool}
def vZ (l : Ld) : Prop := ∀ k, 6 * lH l 4 ≤ k → lV l k = 0
theorem MT.mk' (h : MT T n q l bt M) (e1 : M'.1 = M.1) (eR : m_R M' = m_R M) (e129 : m_I M' 129 = m_I M 129) (e128 : ∀ k, (k < 22 ∨ (24 < k ∧ k ≠ 37)) → m_I M' 128 k = m_I M 128 k) (eL : m_L M' 128 = m_L M 128) (ho : lOk l') (hz : vZ l') (hD : ∀ c, DM l c (m_I M) (m_L M) → DM l' c (m_I M') (m_L M')) (h23 : m_I M' 128 23 = bI bt'.2) (h24 : m_I M' 128 24 = bI bt'.1) : MT T n q l' bt' M' := by
  obtain ⟨hq, _, c, hc, g, hx, ⟨⟨t1, t2, t3, t4⟩, t5, t6⟩, e21, hDM, _, _⟩ := h
  refine ⟨hq, ⟨ho, hz⟩, c, hc, ?_, by rw [e129]; exact hx, ⟨⟨by rw [e128 3 (by omega)]; exact t1, by rw [e128 4 (by omega)]; exact t2, by rw [e128 5 (by omega)]; exact t3, by rw [e128 6 (by omega)]; exact t4⟩, fun z => by rw [eL]; exact t5 z, fun z => by rw [e128 8 (by omega)]; exact t6 z⟩, by rw [e128 21 (by omega)]; exact e21, hD c hDM, h23, h24⟩
  unfold G m_N m_T
  rw [e1, eR]
  exact g
theorem MT.f23 (h : MT T n q l bt M) : m_I M 128 23 = bI bt.2 := by obtain ⟨_, _, c, _, _, _, _, _, _, e, _⟩ := h; exact e
theorem MT.f24 (h : MT T n q l bt M) : m_I M 128 24 = bI bt.1 := by obtain ⟨_, _, c, _, _, _, _, _, _, _, e⟩ := h; exact e
theorem MT.hd (h : MT T n q l bt M) {k : Nat} (hk : k < 7) : m_I M 130 (8 + k) = nI (lH l k) := by obtain ⟨_, _, c, _, _, _, _, _, hD, _⟩ := h; exact hD.1 k hk
theorem MT.c130 (h : MT T n q l bt M) : m_R M 128 10 = some 130 ∧ m_K M 130 = 12 ∧ m_len M 130 = 16 := by have g := h.g; refine ⟨?_, ?_, ?_⟩ <;> simp only [gK g, gR g, gl g]
theorem MT.newN (h : MT T n q l bt M) (hn : n ≤ 1000) {kd : Nat} (hlt : lH l (kd + 1) < mostN kd) : ∃ M1 v M2, F_X12_nextToken 128 M = some ((), M1) ∧ MT T n (tokAt T n q).2.1 l bt M1 ∧ tmF M M1 ∧ F_X12_isNew 128 M1 = some (v, M2) ∧ tnF M1 M2 ∧ match nmO T n l kd q with | .inl f => v = nI 0 ∧ m_I M2 128 9 = nI f | .inr (w, q2) => v = nI 1 ∧ M2 = M1 ∧ m_L M1 128 7 = w ∧ q2 = (tokAt T n (tokAt T n q).2.1).2.1 := by
  obtain ⟨M1, a1, a2, a3⟩ := h.nextT hn
  obtain ⟨v, M2, b1, b2, b3⟩ := a2.isNew
  refine ⟨M1, v, M2, a1, a2, a3, b1, b2, ?_⟩
  unfold nmO
  rw [if_neg (by omega)]
  by_cases s : tkNm (tokAt T n (tokAt T n q).2.1) = true
  · rw [if_pos s] at b3 ⊢
    by_cases t : toldW l (tokAt T n (tokAt T n q).2.1).2.2.2.1 = true
    · rw [if_pos t] at b3 ⊢
      exact b3
    · rw [if_neg t] at b3 ⊢
      exact ⟨b3.1, b3.2, a2.w (tkNm_k s), rfl⟩
  · rw [if_neg s] at b3 ⊢
    exact b3
theorem MT.full (h : MT T n q l bt M) {kd : Nat} (hlt : mostN kd ≤ lH l (kd + 1)) : nmO T n l kd q = .inl (flt T n q 5) := by unfold nmO; rw [if_pos hlt]
/-- a name put behind those that are told -/
theorem MT.putN (h : MT T n q l bt M) {a i : Nat} {w : Int64} (ha : (a = 131 ∧ i = 5 + lH l 1) ∨ (a = 132 ∧ i = 3 + lH l 2) ∨ (a = 133 ∧ i = 6 + lH l 3)) : MT T n q l bt (m_sL M a i w) ∧ dmF M (m_sL M a i w) := by
  have s : ∀ b, b ≠ a → m_L (m_sL M a i w) b = m_L M b := fun b hb => by funext j; rw [mL_sL, if_neg (fun z => hb z.1)]
  have s1 : ∀ j, j ≠ i → m_L (m_sL M a i w) a j = m_L M a j := fun j hj => by rw [mL_sL, if_neg (fun z => hj z.2)]
  refine ⟨h.mk' rfl rfl rfl (fun _ _ => rfl) (s 128 (by omega)) h.2.1.1 h.2.1.2 (fun c hD => ?_) h.f23 h.f24, rfl, rfl, fun _ _ _ _ => rfl, fun _ _ => rfl, fun _ _ => rfl, ⟨fun _ _ => rfl, fun _ _ => rfl, fun _ _ => rfl, fun _ _ => ⟨rfl, rfl⟩, fun _ _ => rfl⟩, fun b h1 h2 => s b (by omega), fun k _ => by rw [s 128 (by omega)], fun k hk => ?_, fun k hk => ?_, fun k hk => ?_⟩
  · obtain ⟨d1, d2, d3, d4, ⟨d5, d6, d7, d8⟩, d9⟩ := hD
    refine ⟨d1, d2, d3, d4, ⟨fun t ht => ?_, fun j hj => ?_, fun v hv => ?_, by rw [s 134 (by omega)]; exact d8⟩, d9⟩
    · rcases ha with ⟨rfl, rfl⟩ | ⟨rfl, _⟩ | ⟨rfl, _⟩
      · rw [s1 _ (by omega)]; exact d5 t ht
      · rw [s 131 (by omega)]; exact d5 t ht
      · rw [s 131 (by omega)]; exact d5 t ht
    · rcases ha with ⟨rfl, _⟩ | ⟨rfl, rfl⟩ | ⟨rfl, _⟩
      · rw [s 132 (by omega)]; exact d6 j hj
      · rw [s1 _ (by omega)]; exact d6 j hj
      · rw [s 132 (by omega)]; exact d6 j hj
    · rcases ha with ⟨rfl, _⟩ | ⟨rfl, _⟩ | ⟨rfl, rfl⟩
      · rw [s 133 (by omega)]; exact d7 v hv
      · rw [s 133 (by omega)]; exact d7 v hv
      · rw [s1 _ (by omega)]; exact d7 v hv
  · rcases ha with ⟨rfl, rfl⟩ | ⟨rfl, _⟩ | ⟨rfl, _⟩
    · rw [s1 _ (by omega)]
    · rw [s 131 (by omega)]
    · rw [s 131 (by omega)]
  · rcases ha with ⟨rfl, _⟩ | ⟨rfl, rfl⟩ | ⟨rfl, _⟩
    · rw [s 132 (by omega)]
    · rw [s1 _ (by omega)]
    · rw [s 132 (by omega)]
  · rcases ha with ⟨rfl, _⟩ | ⟨rfl, _⟩ | ⟨rfl, rfl⟩
    · rw [s 133 (by omega)]
    · rw [s 133 (by omega)]
    · rw [s1 _ (by omega)]
theorem dmF_I {a k : Nat} {v : Int32} (h : (a = 130 ∧ 8 ≤ k) ∨ (a = 135 ∧ 5 ≤ k) ∨ (a = 136 ∧ 7 ≤ k) ∨ (a = 137 ∧ 18 ≤ k) ∨ ((a = 138 ∨ a = 139) ∧ 9 ≤ k)) : dmF M (m_sI M a k v) := by
  have s : ∀ b j, (b ≠ a ∨ j ≠ k) → m_I (m_sI M a k v) b j = m_I M b j := fun b j hb => by rw [mI_sI, if_neg (by omega)]
  refine ⟨rfl, rfl, fun b h1 h2 h3 => sI_ne (by omega), fun j _ => s 128 j (by omega), fun j hj => s 130 j (by omega), ⟨fun j hj => s 135 j (by omega), fun j hj => s 136 j (by omega), fun j hj => s 137 j (by omega), fun j hj => ⟨s 138 j (by omega), s 139 j (by omega)⟩, fun j hj => s 140 j (by omega)⟩, fun _ _ _ => rfl, fun _ _ => rfl, fun _ _ => rfl, fun _ _ => rfl, fun _ _ => rfl⟩
theorem vZ_N {kd : Nat} {w : Int64} (h : vZ l) (hk : kd < 3) : vZ (ldN l kd w) := fun k hk2 => by
  have hk2 : 6 * lH (ldN l kd w) 4 ≤ k := hk2
  rw [ldN_H, if_neg (by omega)] at hk2
  exact h k hk2
theorem M_thing (h : MT T n q l bt M) (hn : n ≤ 1000) : MRes T n bt (thO T n l q) (F_X12_readsThing 128 M) M := by
  obtain ⟨R10, K130, L130⟩ := h.c130
  have b1 := h.2.1.1.2.1
  unfold F_X12_readsThing
  rw [x_gN_ok h.K R10, aI_lit (x := (9 : Int32)) (n := 9) K130 (by rw [L130]; omega) rfl (by omega), show m_I M 130 9 = nI (lH l 1) from h.hd (k := 1) (by omega)]
  by_cases c : 5 ≤ lH l 1
  · unfold thO
    rw [h.full (kd := 0) c, sB_l, if_pos (show nI (lH l 1) = (5 : Int32) from by rw [show lH l 1 = 5 by omega]; rfl)]
    exact h.failR (k := 5)
  rw [if_neg (show ¬ nI (lH l 1) = (5 : Int32) from fun z => by have := (nI_eq (b := 5) (by omega) (by omega)).mp z; omega)]
  obtain ⟨M1, v, M2, a1, a2, a3, a4, a5, a6⟩ := h.newN hn (kd := 0) (by show lH l 1 < 5; omega)
  unfold thO
  rw [x_cV_ok h.K a1, x_cV_ok a2.K a4]
  cases hN : nmO T n l 0 q with
  | inl f =>
    rw [hN] at a6
    rw [a6.1, if_pos (by decide)]
    exact ⟨0, M2, rfl, a3.dm.trans a5.dm, rfl, a6.2⟩
  | inr r =>
    obtain ⟨w, q2⟩ := r
    rw [hN] at a6
    obtain ⟨rfl, rfl, hw, hq2⟩ := a6
    have R11 : m_R M2 128 11 = some 131 := by have g := a2.g; simp only [gR g]
    have K131 : m_K M2 131 = 13 := by have g := a2.g; simp only [gK g]
    have L131 : m_len M2 131 = 10 := by have g := a2.g; simp only [gl g]
    obtain ⟨p1, p2⟩ := a2.putN (a := 131) (i := 5 + lH l 1) (w := w) (.inl ⟨rfl, rfl⟩)
    have pn : m_L (m_sL M2 131 (5 + lH l 1) w) 131 (5 + lH l 1) = w := by rw [mL_sL, if_pos ⟨rfl, rfl⟩]
    obtain ⟨M4, b1', b2, b3⟩ := p1.nextT hn
    rw [← hq2] at b2
    rw [if_neg (by decide), sB_r, x_gN_ok a2.K R11, x_gL_ok a2.K, hw, show (5 : Int32) = nI 5 from rfl, nI_add, x_sL_ok K131 (by rw [L131]; omega) (by omega), x_cV_ok p1.K b1']
    refine MRes.tr ?_ ((a3.dm.trans p2).trans b3.dm)
    obtain ⟨v, M5, c1, c2, c3⟩ := b2.needsW hn (c := 12328316)
    rw [x_cV_ok b2.K c1]
    cases hW : wdO T n 12328316 q2 with
    | inl f =>
      rw [hW] at c3
      rw [c3.1, if_pos (by decide)]
      exact ⟨0, M5, rfl, c2.dm, rfl, c3.2⟩
    | inr q3 =>
      rw [hW] at c3
      obtain ⟨rfl, hD3⟩ := c3
      rw [if_neg (by decide), sB_r]
      refine MRes.tr ?_ c2.dm
      obtain ⟨v, M6, d1, d2, d3⟩ := hD3.num hn (lo := 0) (hi := 99) (by omega) (by omega)
      have d1' : F_X12_needsNumber 128 (0 : Int32) (99 : Int32) M5 = _ := d1
      rw [x_cV_ok hD3.K d1']
      cases hU : nuO T n 0 99 q3 with
      | inl f =>
        rw [hU] at d3
        rw [d3.1, if_pos (by decide)]
        exact ⟨0, M6, rfl, d2.dm, rfl, d3.2⟩
      | inr r =>
        obtain ⟨x, q4⟩ := r
        rw [hU] at d3
        obtain ⟨rfl, hx, e37, hT⟩ := d3
        obtain ⟨S10, SK, SL⟩ := hT.c130
        have R15 : m_R M6 128 15 = some 135 := by have g := hT.g; simp only [gR g]
        have K135 : m_K M6 135 = 12 := by have g := hT.g; simp only [gK g]
        have L135 : m_len M6 135 = 10 := by have g := hT.g; simp only [gl g]
        have hname : m_L M6 131 (5 + lH l 1) = w := by
          rw [(d2.2.2.1 131 (by omega)).2, (c2.2.2.1 131 (by omega)).2, (b3.2.2.1 131 (by omega)).2]
          exact pn
        obtain ⟨M8, hM8⟩ : ∃ M8, M8 = m_sI (m_sI M6 135 (5 + lH l 1) (nI x)) 130 9 (nI (lH l 1 + 1)) := ⟨_, rfl⟩
        have s : ∀ a, a ≠ 130 → a ≠ 135 → m_I M8 a = m_I M6 a := fun a x y => by rw [hM8, sI_ne x, sI_ne y]
        have hl' : MT T n q4 (ldN (ldW l (lH l 1) x) 0 w) bt M8 := by
          refine hT.mk' (by rw [hM8]; rfl) (by rw [hM8]; rfl) (s 129 (by omega) (by omega)) (fun k _ => by rw [s 128 (by omega) (by omega)]) (by rw [hM8]; rfl) (lOk_N (lOk_W hT.2.1.1 hx) (by omega) (by show lH l 1 < 5; omega)) (vZ_N (l := ldW l (lH l 1) x) hT.2.1.2 (by omega)) (fun c hD => ?_) (by rw [s 128 (by omega) (by omega)]; exact hT.f23) (by rw [s 128 (by omega) (by omega)]; exact hT.f24)
          obtain ⟨t1, t2, t3, t4, ⟨t5, t6, t7, t8⟩, t9⟩ := hD
          have nb : ∀ j, j ≠ 1 → lH (ldN (ldW l (lH l 1) x) 0 w) j = lH l j := fun j hj => by rw [ldN_H, if_neg (by omega)]; rfl
          have n1 : lH (ldN (ldW l (lH l 1) x) 0 w) 1 = lH l 1 + 1 := rfl
          have eL : m_L M8 = m_L M6 := by rw [hM8]; rfl
          refine ⟨fun k hk => ?_, fun t ht => ?_, by rw [nb 5 (by omega), s 136 (by omega) (by omega)]; exact t3, by rw [nb 4 (by omega), s 137 (by omega) (by omega)]; exact t4, ⟨fun t ht => ?_, fun j hj => ?_, fun v hv => ?_, fun k hk => ?_⟩, ?_⟩
          · rw [hM8, mI_sI]
            by_cases z : k = 1
            · rw [if_pos ⟨rfl, by omega⟩, z]; rfl
            · rw [if_neg (fun y => z (by omega)), sI_ne (by omega), nb k z]
              exact t1 k hk
          · rw [n1] at ht
            rw [hM8, sI_ne (by omega), mI_sI]
            show _ = nI (if t = lH l 1 then x else lW l t)
            by_cases z : t = lH l 1
            · rw [if_pos ⟨rfl, by omega⟩, if_pos z]
            · rw [if_neg (fun y => z (by omega)), if_neg z]
              exact t2 t (by omega)
          · rw [n1] at ht
            rw [eL, ldN_M]
            show _ = if t = 8 * 0 + lH l 1 then w else lM l t
            by_cases z : t = lH l 1
            · rw [if_pos (by omega), z]; exact hname
            · rw [if_neg (by omega)]; exact t5 t (by omega)
          · rw [nb 2 (by omega)] at hj
            rw [eL, ldN_M]
            show _ = if 8 + j = 8 * 0 + lH l 1 then w else lM l (8 + j)
            rw [if_neg (by omega)]; exact t6 j hj
          · rw [nb 3 (by omega)] at hv
            rw [eL, ldN_M]
            show _ = if 16 + v = 8 * 0 + lH l 1 then w else lM l (16 + v)
            rw [if_neg (by omega)]; exact t7 v hv
          · rw [nb 4 (by omega)] at hk
            rw [eL, ldN_M]
            show _ = if 24 + k = 8 * 0 + lH l 1 then w else lM l (24 + k)
            rw [if_neg (by omega)]; exact t8 k hk
          · unfold lnOk MLw
            rw [nb 2 (by omega), nb 3 (by omega), s 138 (by omega) (by omega), s 139 (by omega) (by omega), s 140 (by omega) (by omega)]
            exact t9
        have kk : ∀ v : Int32, m_K (m_sI M6 135 (5 + lH l 1) v) 128 = 10 := fun _ => hT.K
        have e9 : m_I (m_sI M6 135 (5 + lH l 1) (nI x)) 130 9 = nI (lH l 1) := by rw [sI_ne (by omega)]; exact hT.hd (k := 1) (by omega)
        rw [if_neg (by decide), sB_r, x_gN_ok hT.K R15, x_gI_ok hT.K, e37, x_sI_ok K135 (by rw [L135]; omega) (by omega), x_gN_ok (kk _) (show m_R (m_sI M6 135 (5 + lH l 1) (nI x)) 128 10 = some 130 from S10), aI_lit (x := (9 : Int32)) (n := 9) (show m_K (m_sI M6 135 (5 + lH l 1) (nI x)) 130 = 12 from SK) (show 9 < m_len (m_sI M6 135 (5 + lH l 1) (nI x)) 130 by rw [show m_len (m_sI M6 135 (5 + lH l 1) (nI x)) 130 = 16 from SL]; omega) rfl (by omega), e9, nI_1, show (9 : Int32) = nI 9 from rfl, x_sI_ok (show m_K (m_sI M6 135 (5 + lH l 1) (nI x)) 130 = 12 from SK) (show 9 < m_len (m_sI M6 135 (5 + lH l 1) (nI x)) 130 by rw [show m_len (m_sI M6 135 (5 + lH l 1) (nI x)) 130 = 16 from SL]; omega) (by omega), ← hM8]
        refine (hl'.closeX hn).tr (d2.dm.trans ?_)
        rw [hM8]
        exact (dmF_I (by omega)).trans (dmF_I (by omega))
theorem M_bribe (h : MT T n q l bt M) (hn : n ≤ 1000) : MRes T n (true, bt.2) (brO T n l bt.1 q) (F_X12_readsBribe 128 M) M := by
  unfold F_X12_readsBribe brO
  rw [x_gI_ok h.K, h.f24]
  by_cases c : bt.1 = true
  · rw [if_pos c, bI_tr c, if_neg (by decide)]
    exact h.failR (k := 3)
  · have h1 : MT T n q l (true, bt.2) (m_sI M 128 24 (1 : Int32)) := by
      refine h.mk' rfl rfl (sI_ne (by omega)) (fun k hk => by rw [mI_sI, if_neg (by omega)]) rfl h.2.1.1 h.2.1.2 (fun c hD => ?_) (by rw [mI_sI, if_neg (by omega)]; exact h.f23) (by rw [mI_sI, if_pos ⟨rfl, rfl⟩]; rfl)
      obtain ⟨t1, t2, t3, t4, t5, t9⟩ := hD
      have s : ∀ a, a ≠ 128 → m_I (m_sI M 128 24 (1 : Int32)) a = m_I M a := fun a ha => sI_ne ha
      refine ⟨by rw [s 130 (by omega)]; exact t1, by rw [s 135 (by omega)]; exact t2, by rw [s 136 (by omega)]; exact t3, by rw [s 137 (by omega)]; exact t4, t5, ?_⟩
      unfold MLw
      rw [s 138 (by omega), s 139 (by omega), s 140 (by omega)]
      exact t9
    obtain ⟨M2, b1, b2, b3⟩ := h1.next hn
    rw [if_neg c, bI_fa c, if_pos rfl, x_pI_ok h.K, x_cV_ok h1.K b1]
    refine MRes.tr ?_ ((dmF_9 (by omega)).trans b3)
    obtain ⟨v, M6, d1, d2, d3⟩ := b2.num hn (lo := 0) (hi := 99) (by omega) (by omega)
    have d1' : F_X12_needsNumber 128 (0 : Int32) (99 : Int32) M2 = _ := d1
    rw [x_cV_ok b2.K d1']
    cases hU : nuO T n 0 99 (tokAt T n q).2.1 with
    | inl f =>
      rw [hU] at d3
      rw [d3.1, if_pos (by decide)]
      exact ⟨0, M6, rfl, d2.dm, rfl, d3.2⟩
    | inr r =>
      obtain ⟨x, q4⟩ := r
      rw [hU] at d3
      obtain ⟨rfl, hx, e37, hT⟩ := d3
      obtain ⟨S10, SK, SL⟩ := hT.c130
      have s : ∀ a, a ≠ 130 → m_I (m_sI M6 130 14 (nI x)) a = m_I M6 a := fun a ha => sI_ne ha
      have hl' : MT T n q4 (ldH l 6 x) (true, bt.2) (m_sI M6 130 14 (nI x)) := by
        refine hT.mk' rfl rfl (s 129 (by omega)) (fun k _ => by rw [s 128 (by omega)]) rfl (lOk_b hT.2.1.1 hx) hT.2.1.2 (fun c hD => ?_) (by rw [s 128 (by omega)]; exact hT.f23) (by rw [s 128 (by omega)]; exact hT.f24)
        obtain ⟨t1, t2, t3, t4, t5, t9⟩ := hD
        refine ⟨fun k hk => ?_, by rw [s 135 (by omega)]; exact t2, by rw [s 136 (by omega)]; exact t3, by rw [s 137 (by omega)]; exact t4, t5, ?_⟩
        · rw [mI_sI]
          show _ = nI (if k = 6 then x else lH l k)
          by_cases z : k = 6
          · rw [if_pos ⟨rfl, by omega⟩, if_pos z]
          · rw [if_neg (fun y => z (by omega)), if_neg z]; exact t1 k hk
        · unfold MLw
          rw [s 138 (by omega), s 139 (by omega), s 140 (by omega)]
          exact t9
      rw [if_neg (by decide), sB_r, x_gN_ok hT.K S10, x_gI_ok hT.K, e37, show (14 : Int32) = nI 14 from rfl, x_sI_ok SK (by rw [SL]; omega) (by omega)]
      exact (hl'.closeX hn).tr (d2.dm.trans (dmF_I (by omega)))
end MLINE
