/-! a land read: speakers and laws of the model -/
section MLINE3
variable {M M' : m_M} {T : Nat → Nat} {n q : Nat} {l l' : Ld} {bt bt' : Bool × Bool}
theorem M_s56 (h : MT T n q l bt M) (hs : lH l 4 < 3) {w : Int64} {K : Nat → Int32 → Int64 → m_M → Option (Int32 × m_M)} : ∀ (d k f : Nat) (M : m_M), k + d = 6 → d < f → MT T n q l bt M → (∀ v, v < k → m_I M 137 (18 + 6 * lH l 4 + v) = NO) →
    ∃ M', F_X12_readsSpeaker_56 K f 128 (nI (lH l 4)) w (nI k) M = K 128 (nI (lH l 4)) w M' ∧ MT T n q l bt M' ∧ dmF M M' ∧ ∀ v, v < 6 → m_I M' 137 (18 + 6 * lH l 4 + v) = NO := by
  intro d
  induction d with
  | zero =>
    intro k f M hk hf h hv
    obtain ⟨f, rfl⟩ : ∃ x, f = x + 1 := ⟨f - 1, by omega⟩
    obtain rfl : k = 6 := by omega
    exact ⟨M, by rw [F_X12_readsSpeaker_56, if_pos (by decide)], h, dmF.rfl', hv⟩
  | succ d ih =>
    intro k f M hk hf h hv
    obtain ⟨f, rfl⟩ : ∃ x, f = x + 1 := ⟨f - 1, by omega⟩
    have R17 : m_R M 128 17 = some 137 := by have g := h.g; simp only [gR g]
    have K137 : m_K M 137 = 12 := by have g := h.g; simp only [gK g]
    have L137 : m_len M 137 = 36 := by have g := h.g; simp only [gl g]
    have sI : ∀ a, a ≠ 137 → m_I (m_sI M 137 (18 + 6 * lH l 4 + k) NO) a = m_I M a := fun a ha => sI_ne ha
    have h2 : MT T n q l bt (m_sI M 137 (18 + 6 * lH l 4 + k) NO) := by
      refine h.mk' rfl rfl (sI 129 (by omega)) (fun k _ => by rw [sI 128 (by omega)]) rfl h.2.1.1 h.2.1.2 (fun c hD => ?_) (by rw [sI 128 (by omega)]; exact h.f23) (by rw [sI 128 (by omega)]; exact h.f24)
      obtain ⟨t1, t2, t3, t4, t5, t9⟩ := hD
      refine ⟨by rw [sI 130 (by omega)]; exact t1, by rw [sI 135 (by omega)]; exact t2, by rw [sI 136 (by omega)]; exact t3, fun j hj => by rw [mI_sI, if_neg (by omega)]; exact t4 j hj, t5, ?_⟩
      unfold MLw
      rw [sI 138 (by omega), sI 139 (by omega), sI 140 (by omega)]
      exact t9
    obtain ⟨M', e, e1, e2, e3⟩ := ih (k + 1) f _ (by omega) (by omega) h2 (fun v hv2 => by
      rw [mI_sI]
      by_cases z : v = k
      · rw [if_pos ⟨rfl, by omega⟩]
      · rw [if_neg (by omega)]; exact hv v (by omega))
    refine ⟨M', ?_, e1, (dmF_I (by omega)).trans e2, e3⟩
    rw [F_X12_readsSpeaker_56, if_neg (show ¬ (6 : Int32) ≤ nI k from nI_ge (b := 6) (by omega) (by omega)), x_gN_ok h.K R17, show (18 : Int32) = nI 18 from rfl, show (6 : Int32) = nI 6 from rfl, nI_mul, nI_add, nI_add, show (-1 : Int32) = NO from rfl, x_sI_ok K137 (by rw [L137]; omega) (by omega), nI_1, m_let_eq]
    exact e
theorem M_sp_l (hn : n ≤ 1000) {w : Int64} {k135 : Nat → m_M → Option (Int32 × m_M)} {k182 : Nat → Int32 → Int64 → m_M → Option (Int32 × m_M)} (h135 : ∀ M, k135 128 M = x_cV 10 M 128 (F_X12_fails 128 (3 : Int32) M) fun v3 M4 => x_b v3 <| some (v3, M4)) (h182 : ∀ v M, k182 128 v w M = x_gN 10 M 128 14 fun v14 => x_sL M v14 v w fun M9 => x_gN 10 M9 128 10 fun v15 => x_aI 12 M9 v15 (12 : Int32) fun v16 => x_sI 12 M9 v15 (12 : Int32) (v16 + (1 : Int32)) fun M10 => x_cV 10 M10 128 (F_X12_closes 128 M10) fun v17 M11 => x_b v17 <| some (v17, M11)) {l : Ld} (hs : lH l 4 < 3) : ∀ (e i f q set : Nat) (li : Ld) (M : m_M), i + e = 8 → i ≤ 6 → e < f → set < 64 → cnt set.testBit 6 = i → lM li = lM l → lH li = lH l → lW li = lW l → lD li = lD l → lE li = lE l → (∀ k, k < 6 * lH l 4 → lV li k = lV l k) → (∀ k, 6 * lH l 4 + 6 ≤ k → lV li k = 0) → lOk li → (∀ v, v < 6 → m_I M 137 (18 + 6 * lH l 4 + v) = if set.testBit v = true then nI (lV li (6 * lH l 4 + v)) else NO) → (∀ v, v < 6 → ¬ set.testBit v = true → lV li (6 * lH l 4 + v) = 0) → MT T n q l bt M →
    MRes T n bt (sB (spO T n e li set i q) fun r => .inr (r.1, ldN r.2 3 w)) (F_X12_readsSpeaker_88 k135 k182 f 128 (nI (lH l 4)) w (nI i) M) M := by
  intro e
  induction e with
  | zero => intro i f q set li M h1 h2; omega
  | succ e ih =>
    intro i f q set li M hi hi6 hf hset hcnt hM hH hW hD0 hE hV1 hV2 hok hw1 hw2 h
    obtain ⟨f, rfl⟩ : ∃ x, f = x + 1 := ⟨f - 1, by omega⟩
    have b6 := h.2.1.1.2.2.2.1
    rw [F_X12_readsSpeaker_88]
    refine m_let_P (fun o => MRes T n bt (sB (spO T n (e + 1) li set i q) fun r => .inr (r.1, ldN r.2 3 w)) o M) ?_
    intro k102 h102
    have one : ¬ (0 < i ∧ tkS T 59 (tokAt T n q) = true) → MRes T n bt (sB (spO T n (e + 1) li set i q) fun r => .inr (r.1, ldN r.2 3 w)) (k102 128 (nI (lH l 4)) w (nI i) M) M := by
      intro hno
      obtain ⟨v, M1, a1, a2, a3⟩ := h.needsV
      rw [h102]
      dsimp only
      unfold spO
      rw [if_neg hno, vbO_cg hM (by rw [hH]), x_cV_ok h.K a1]
      cases hv : vbO T n l q with
      | inl fl =>
        rw [hv] at a3
        rw [sB_l, sB_l, a3.1, if_pos (by decide)]
        exact ⟨0, M1, rfl, a2.dm, rfl, a3.2⟩
      | inr x =>
        rw [hv] at a3
        obtain ⟨rfl, hx, hM1⟩ := a3
        have h1 : MT T n q l bt M1 := by rw [hM1]; exact h.sI (.inl rfl)
        have e37 : m_I M1 128 37 = nI x := by rw [hM1, s37]
        have e137 : m_I M1 137 = m_I M 137 := (a2.2.2.1 137 (by omega)).1
        have R17 : m_R M1 128 17 = some 137 := by have g := h1.g; simp only [gR g]
        have K137 : m_K M1 137 = 12 := by have g := h1.g; simp only [gK g]
        have L137 : m_len M1 137 = 36 := by have g := h1.g; simp only [gl g]
        have hix : (18 : Int32) + (6 : Int32) * nI (lH l 4) + nI x = nI (18 + 6 * lH l 4 + x) := by rw [show (18 : Int32) = nI 18 from rfl, show (6 : Int32) = nI 6 from rfl, nI_mul, nI_add, nI_add]
        rw [sB_r, if_neg (show ¬ nI 1 = (0 : Int32) from by decide), x_gI_ok h1.K, e37, x_gN_ok h1.K R17, hix, x_aI_ok K137 (by rw [L137]; omega) (by omega), e137, hw1 x (by omega)]
        by_cases qb : set.testBit x = true
        · have h99 := hok.2.2.2.2.2.2.2.2.1 (6 * lH l 4 + x)
          rw [if_pos qb, if_pos qb, if_neg (nI_pos (by omega)), h135, sB_l]
          exact (h1.failR (k := 3)).tr a2.dm
        rw [if_neg qb, if_neg qb, if_pos (show (NO : Int32) < 0 from by decide)]
        obtain ⟨M3, b1, b2, b3⟩ := h1.nextT hn
        rw [x_cV_ok h1.K b1]
        refine MRes.tr ?_ (a2.dm.trans b3.dm)
        obtain ⟨u, M4, d1, d2, d3⟩ := b2.num hn (lo := 0) (hi := 99) (by omega) (by omega)
        have d1' : F_X12_needsNumber 128 (0 : Int32) (99 : Int32) M3 = _ := d1
        rw [x_cV_ok b2.K d1']
        cases hU : nuO T n 0 99 (tokAt T n q).2.1 with
        | inl fl =>
          rw [hU] at d3
          rw [sB_l, sB_l, d3.1, if_pos (by decide)]
          exact ⟨0, M4, rfl, d2.dm, rfl, d3.2⟩
        | inr r =>
          obtain ⟨y, q4⟩ := r
          rw [hU] at d3
          obtain ⟨rfl, hy, e37', hT⟩ := d3
          have R17' : m_R M4 128 17 = some 137 := by have g := hT.g; simp only [gR g]
          have K137' : m_K M4 137 = 12 := by have g := hT.g; simp only [gK g]
          have L137' : m_len M4 137 = 36 := by have g := hT.g; simp only [gl g]
          have e137' : m_I M4 137 = m_I M 137 := by rw [(d2.2.2.1 137 (by omega)).1, (b3.2.2.1 137 (by omega)).1, e137]
          have sI : ∀ a, a ≠ 137 → m_I (m_sI M4 137 (18 + 6 * lH l 4 + x) (nI y)) a = m_I M4 a := fun a ha => sI_ne ha
          have h2 : MT T n q4 l bt (m_sI M4 137 (18 + 6 * lH l 4 + x) (nI y)) := by
            refine hT.mk' rfl rfl (sI 129 (by omega)) (fun k _ => by rw [sI 128 (by omega)]) rfl hT.2.1.1 hT.2.1.2 (fun c hD => ?_) (by rw [sI 128 (by omega)]; exact hT.f23) (by rw [sI 128 (by omega)]; exact hT.f24)
            obtain ⟨t1, t2, t3, t4, t5, t9⟩ := hD
            refine ⟨by rw [sI 130 (by omega)]; exact t1, by rw [sI 135 (by omega)]; exact t2, by rw [sI 136 (by omega)]; exact t3, fun j hj => by rw [mI_sI, if_neg (by omega)]; exact t4 j hj, t5, ?_⟩
            unfold MLw
            rw [sI 138 (by omega), sI 139 (by omega), sI 140 (by omega)]
            exact t9
          have hqf : set.testBit x = false := by simpa using qb
          have hbit : ∀ k, (set ||| 2 ^ x).testBit k = (set.testBit k || decide (k = x)) := fun k => by
            rw [Nat.testBit_or, Nat.testBit_two_pow]
            by_cases z : k = x
            · rw [z, decide_eq_true (p := x = x) rfl]
            · rw [decide_eq_false z, decide_eq_false (fun u => z u.symm)]
          have hc1 : cnt (set ||| 2 ^ x).testBit 6 = i + 1 := by
            rw [cnt_new (P := set.testBit) (Q := (set ||| 2 ^ x).testBit) (v := x) hqf hbit 6, hcnt, if_pos (by omega)]
          have hle := cnt_le (set ||| 2 ^ x).testBit 6
          have hp2 : 2 ^ x ≤ 2 ^ 5 := Nat.pow_le_pow_right (by omega) (by omega)
          have hVn : ∀ k, lV (ldV li (6 * lH li 4 + x) y) k = if k = 6 * lH l 4 + x then y else lV li k := fun k => by rw [hH]; rfl
          rw [sB_r, if_neg (show ¬ nI 1 = (0 : Int32) from by decide), x_gN_ok hT.K R17', x_gI_ok hT.K, e37', x_sI_ok K137' (by rw [L137']; omega) (by omega), nI_1, m_let_eq]
          refine MRes.tr ?_ (d2.dm.trans (dmF_I (a := 137) (k := 18 + 6 * lH l 4 + x) (v := nI y) (by omega)))
          refine ih (i + 1) f q4 (set ||| 2 ^ x) (ldV li (6 * lH li 4 + x) y) _ (by omega) (by omega) (by omega) (Nat.or_lt_two_pow (n := 6) hset (by omega)) hc1 hM hH hW hD0 hE (fun k hk => by rw [hVn, if_neg (by omega)]; exact hV1 k hk) (fun k hk => by rw [hVn, if_neg (by omega)]; exact hV2 k hk) (lOk_V hok hy) (fun v hv6 => ?_) (fun v hv6 hvb => ?_) h2
          · rw [mI_sI, hbit, hVn]
            by_cases z : v = x
            · rw [if_pos ⟨rfl, by omega⟩, z, decide_eq_true (p := x = x) rfl, Bool.or_true, if_pos rfl, if_pos rfl]
            · rw [if_neg (show ¬ (137 = 137 ∧ 18 + 6 * lH l 4 + v = 18 + 6 * lH l 4 + x) by omega), decide_eq_false z, Bool.or_false, if_neg (show ¬ 6 * lH l 4 + v = 6 * lH l 4 + x by omega), e137']
              exact hw1 v hv6
          · rw [hbit] at hvb
            have z : ¬ v = x := fun z => hvb (by rw [z, decide_eq_true (p := x = x) rfl, Bool.or_true])
            rw [decide_eq_false z, Bool.or_false] at hvb
            rw [hVn, if_neg (by omega)]
            exact hw2 v hv6 hvb
    by_cases i0 : i = 0
    · rw [if_pos (show nI i = 0 from by rw [i0]; rfl)]
      exact one (fun z => by omega)
    rw [if_neg (nI_nz i0 (by omega)), x_cV_ok h.K (show F_X12_isSign 128 (59 : Int32) M = _ from h.S hn (c := 59) (by omega))]
    by_cases s : tkS T 59 (tokAt T n q) = true
    · have R14 : m_R M 128 14 = some 134 := by have g := h.g; simp only [gR g]
      have K134 : m_K M 134 = 13 := by have g := h.g; simp only [gK g]
      have L134 : m_len M 134 = 3 := by have g := h.g; simp only [gl g]
      obtain ⟨S10, SK, SL⟩ := h.c130
      obtain ⟨M8, hM8⟩ : ∃ M8, M8 = m_sI (m_sL M 134 (lH l 4) w) 130 12 (nI (lH l 4 + 1)) := ⟨_, rfl⟩
      have sI : ∀ a, a ≠ 130 → m_I M8 a = m_I M a := fun a x => by rw [hM8, sI_ne x]; rfl
      have sL : ∀ a, a ≠ 134 → m_L M8 a = m_L M a := fun a x => by
        rw [hM8]
        show m_L (m_sL M 134 (lH l 4) w) a = _
        funext j; rw [mL_sL, if_neg (fun z => x z.1)]
      have hH4 : ∀ j, lH (ldN li 3 w) j = if j = 4 then lH l 4 + 1 else lH l j := fun j => by rw [ldN_H, hH]
      have hl' : MT T n q (ldN li 3 w) bt M8 := by
        refine h.mk' (by rw [hM8]; rfl) (by rw [hM8]; rfl) (sI 129 (by omega)) (fun k _ => by rw [sI 128 (by omega)]) (sL 128 (by omega)) (lOk_N hok (by omega) (by show lH li 4 < 3; rw [hH]; exact hs)) (fun k hk => ?_) (fun c hD => ?_) (by rw [sI 128 (by omega)]; exact h.f23) (by rw [sI 128 (by omega)]; exact h.f24)
        · rw [hH4, if_pos rfl] at hk
          exact hV2 k (by omega)
        · obtain ⟨t1, t2, t3, t4, ⟨t5, t6, t7, t8⟩, t9⟩ := hD
          have nm : ∀ k, k ≠ 24 + lH l 4 → lM (ldN li 3 w) k = lM l k := fun k hk => by rw [ldN_M, hH, if_neg (by show ¬ k = 8 * 3 + lH l 4; omega), hM]
          refine ⟨fun k hk => ?_, by rw [hH4, if_neg (by omega), sI 135 (by omega)]; intro t ht; have := t2 t ht; rw [this]; show nI (lW l t) = nI (lW li t); rw [hW], by rw [hH4, if_neg (by omega), sI 136 (by omega)]; intro d hd; have := t3 d hd; rw [this]; show iO (lD l d) = iO (lD li d); rw [hD0], fun k hk => ?_, ⟨fun t ht => ?_, fun j hj => ?_, fun v hv => ?_, fun k hk => ?_⟩, ?_⟩
          · rw [hM8, mI_sI, hH4]
            by_cases z : k = 4
            · rw [if_pos ⟨rfl, by omega⟩, if_pos z]
            · rw [if_neg (fun y => z (by omega)), if_neg z]; exact t1 k hk
          · rw [hH4, if_pos rfl] at hk
            rw [sI 137 (by omega)]
            show m_I M 137 (18 + k) = nI (lV li k) ∨ (m_I M 137 (18 + k) = NO ∧ lV li k = 0)
            by_cases z : k < 6 * lH l 4
            · rw [hV1 k z]; exact t4 k z
            · have e := hw1 (k - 6 * lH l 4) (by omega)
              rw [show 18 + 6 * lH l 4 + (k - 6 * lH l 4) = 18 + k by omega, show 6 * lH l 4 + (k - 6 * lH l 4) = k by omega] at e
              by_cases y : set.testBit (k - 6 * lH l 4) = true
              · rw [if_pos y] at e; exact .inl e
              · rw [if_neg y] at e
                have e2 := hw2 (k - 6 * lH l 4) (by omega) y
                rw [show 6 * lH l 4 + (k - 6 * lH l 4) = k by omega] at e2
                exact .inr ⟨e, e2⟩
          · rw [hH4, if_neg (by omega)] at ht
            have := h.2.1.1.2.1
            rw [sL 131 (by omega), nm _ (by omega)]; exact t5 t ht
          · rw [hH4, if_neg (by omega)] at hj
            have := h.2.1.1.2.2.1
            rw [sL 132 (by omega), nm _ (by omega)]; exact t6 j hj
          · rw [hH4, if_neg (by omega)] at hv
            rw [sL 133 (by omega), nm _ (by omega)]; exact t7 v hv
          · rw [hH4, if_pos rfl] at hk
            rw [hM8]
            show m_L (m_sL M 134 (lH l 4) w) 134 k = _
            rw [mL_sL]
            by_cases z : k = lH l 4
            · rw [if_pos ⟨rfl, z⟩, ldN_M, hH, if_pos (by show 24 + k = 8 * 3 + lH l 4; omega)]
            · rw [if_neg (fun y => z y.2), nm _ (by omega)]; exact t8 k (by omega)
          · unfold lnOk MLw
            rw [hH4, if_neg (by omega), hH4, if_neg (by omega), sI 138 (by omega), sI 139 (by omega), sI 140 (by omega)]
            show ∀ line, _ → ∃ a mc V, _ ∧ _ ∧ _ ∧ _ ∧ _ ∧ _ ∧ lE li line = _
            rw [hE]
            exact t9
      have := hl'.closeX hn
      rw [clO_t s] at this
      unfold spO
      have k8 : m_K (m_sL M 134 (lH l 4) w) 128 = 10 := h.K
      have e12 : m_I (m_sL M 134 (lH l 4) w) 130 12 = nI (lH l 4) := h.hd (k := 4) (by omega)
      rw [if_pos (show 0 < i ∧ tkS T 59 (tokAt T n q) = true from ⟨by omega, s⟩), sB_r, bI_tr s, if_neg (by decide), h182, x_gN_ok h.K R14, x_sL_ok K134 (by rw [L134]; exact hs) (by omega), x_gN_ok k8 (show m_R (m_sL M 134 (lH l 4) w) 128 10 = some 130 from S10), aI_lit (x := (12 : Int32)) (n := 12) (show m_K (m_sL M 134 (lH l 4) w) 130 = 12 from SK) (show 12 < m_len (m_sL M 134 (lH l 4) w) 130 by rw [show m_len (m_sL M 134 (lH l 4) w) 130 = 16 from SL]; omega) rfl (by omega), e12, nI_1, show (12 : Int32) = nI 12 from rfl, x_sI_ok (show m_K (m_sL M 134 (lH l 4) w) 130 = 12 from SK) (show 12 < m_len (m_sL M 134 (lH l 4) w) 130 by rw [show m_len (m_sL M 134 (lH l 4) w) 130 = 16 from SL]; omega) (by omega), ← hM8]
      refine this.tr ?_
      rw [hM8]
      refine dmF.trans (M2 := m_sL M 134 (lH l 4) w) ⟨rfl, rfl, fun _ _ _ _ => rfl, fun _ _ => rfl, fun _ _ => rfl, ⟨fun _ _ => rfl, fun _ _ => rfl, fun _ _ => rfl, fun _ _ => ⟨rfl, rfl⟩, fun _ _ => rfl⟩, fun b h1 h2 => by funext j; rw [mL_sL, if_neg (by omega)], fun k _ => by rw [mL_sL, if_neg (by omega)], fun k hk => by rw [mL_sL, if_neg (by omega)], fun k hk => by rw [mL_sL, if_neg (by omega)], fun k hk => by rw [mL_sL, if_neg (by omega)]⟩ (dmF_I (by omega))
    · rw [bI_fa s, if_pos rfl]
      exact one (fun z => s z.2)
theorem M_speaker (h : MT T n q l bt M) (hn : n ≤ 1000) : MRes T n bt (seO T n l q) (F_X12_readsSpeaker 128 M) M := by
  obtain ⟨R10, K130, L130⟩ := h.c130
  have b1 := h.2.1.1.2.2.2.2.1
  unfold F_X12_readsSpeaker
  rw [x_gN_ok h.K R10, aI_lit (x := (12 : Int32)) (n := 12) K130 (by rw [L130]; omega) rfl (by omega), show m_I M 130 12 = nI (lH l 4) from h.hd (k := 4) (by omega)]
  by_cases c : 3 ≤ lH l 4
  · unfold seO
    rw [h.full (kd := 3) c, sB_l, if_pos (show nI (lH l 4) = (3 : Int32) from by rw [show lH l 4 = 3 by omega]; rfl)]
    exact h.failR (k := 5)
  rw [if_neg (show ¬ nI (lH l 4) = (3 : Int32) from fun z => by have := (nI_eq (b := 3) (by omega) (by omega)).mp z; omega)]
  obtain ⟨M1, v, M2, a1, a2, a3, a4, a5, a6⟩ := h.newN hn (kd := 3) (by show lH l 4 < 3; omega)
  unfold seO
  rw [x_cV_ok h.K a1, x_cV_ok a2.K a4]
  cases hN : nmO T n l 3 q with
  | inl f =>
    rw [hN] at a6
    rw [a6.1, if_pos (by decide)]
    exact ⟨0, M2, rfl, a3.dm.trans a5.dm, rfl, a6.2⟩
  | inr r =>
    obtain ⟨w, q2⟩ := r
    rw [hN] at a6
    obtain ⟨rfl, e12, hw, hq2⟩ := a6
    rw [e12]
    obtain ⟨M4, b1', b2, b3⟩ := a2.nextT hn
    rw [← hq2] at b2
    rw [if_neg (by decide), sB_r, x_gL_ok a2.K, hw, x_cV_ok a2.K b1']
    refine MRes.tr ?_ (a3.dm.trans b3.dm)
    obtain ⟨v, M5, c1, c2, c3⟩ := b2.needsW hn (c := 12253591)
    rw [x_cV_ok b2.K c1]
    cases hW : wdO T n 12253591 q2 with
    | inl f =>
      rw [hW] at c3
      rw [c3.1, if_pos (by decide)]
      exact ⟨0, M5, rfl, c2.dm, rfl, c3.2⟩
    | inr q3 =>
      rw [hW] at c3
      obtain ⟨rfl, hD3⟩ := c3
      rw [if_neg (by decide), sB_r]
      refine MRes.tr ?_ c2.dm
      refine m_let_P (fun o => MRes T n bt (sB (spO T n 8 l 0 0 q3) fun r => .inr (r.1, ldN r.2 3 w)) o M5) ?_
      intro k85 h85
      obtain ⟨M6, d1, d2, d3, d4⟩ := M_s56 hD3 (by omega) (w := w) (K := k85) 6 0 m_FU M5 (by omega) (m_FU_lt (by omega)) hD3 (fun v hv => absurd hv (by omega))
      have d1' : F_X12_readsSpeaker_56 k85 m_FU 128 (nI (lH l 4)) w (0 : Int32) M5 = _ := d1
      rw [d1', h85]
      dsimp only
      refine MRes.tr ?_ d3
      refine m_let_P (fun o => MRes T n bt (sB (spO T n 8 l 0 0 q3) fun r => .inr (r.1, ldN r.2 3 w)) o M6) ?_
      intro k135 h135
      refine m_let_P (fun o => MRes T n bt (sB (spO T n 8 l 0 0 q3) fun r => .inr (r.1, ldN r.2 3 w)) o M6) ?_
      intro k182 h182
      exact M_sp_l hn (fun M => by rw [h135]) (fun v M => by rw [h182]) (by omega) 8 0 m_FU q3 0 l M6 (by omega) (by omega) (m_FU_lt (by omega)) (by omega) (by decide) rfl rfl rfl rfl rfl (fun _ _ => rfl) (fun k hk => h.2.1.2 k (by omega)) h.2.1.1 (fun v hv => by rw [d4 v hv, if_neg (by rw [Nat.zero_testBit]; decide)]) (fun v hv _ => h.2.1.2 _ (by omega)) d2
end MLINE3
