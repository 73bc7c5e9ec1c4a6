/-! a land read: speakers and laws of the class -/
section CLINE3
variable {M M' : m_M} {T : Nat → Nat} {n q : Nat} {l : Ld} {pd : Option (Nat × Int64)} {bt : Bool}
theorem C_sp_l (hn : n ≤ 1000) {w : Int64} {k43 k66 k94 : Nat → m_M → Option (Int32 × m_M)} (h94 : ∀ M, k94 30 M = x_cV 4 M 30 (F_X8_pass_ 4 30 (59 : Int32) M) fun v4 M3 => x_b v4 <| some (v4, M3)) (h43 : ∀ M, k43 30 M = k94 30 M) (h66 : ∀ M, k66 30 M = x_cV 4 M 30 (F_X8_fail 4 30 (3 : Int32) M) fun v7 M7 => x_b v7 <| some (v7, M7)) : ∀ (e i f q set : Nat) (l : Ld) (M : m_M), i + e = 8 → i ≤ 6 → e < f → set < 64 → cnt set.testBit 6 = i → lH l 4 < 3 → DS T n q l (some (3, w)) bt M → CRes T n (some (3, w)) bt (spO T n e l set i q) (F_X4_readSpeaker_24 k43 k66 k94 f 30 (nI set) (nI i) M) M := by
  intro e
  induction e with
  | zero => intro i f q set l M h1 h2; omega
  | succ e ih =>
    intro i f q set l M hi hi6 hf hset hcnt hl4 h
    obtain ⟨f, rfl⟩ : ∃ x, f = x + 1 := ⟨f - 1, by omega⟩
    have b6 := h.2.1.2.2.2.1
    rw [F_X4_readSpeaker_24, if_neg (show ¬ (6 : Int32) < nI i from nI_nlt (a := 6) hi6 (by omega))]
    refine m_let_P (fun o => CRes T n (some (3, w)) bt (spO T n (e + 1) l set i q) o M) ?_
    intro K hK
    have one : ¬ (0 < i ∧ tkS T 59 (tokAt T n q) = true) → CRes T n (some (3, w)) bt (spO T n (e + 1) l set i q) (K 30 (nI set) (nI i) M) M := by
      intro hno
      obtain ⟨v, M1, a1, a2, a3⟩ := h.verbHere rfl
      rw [hK]
      dsimp only
      unfold spO
      rw [x_cV_ok h.K a1, if_neg hno]
      cases hv : vbO T n l q with
      | inl fl =>
        rw [hv] at a3
        rw [a3.1, if_pos (show NO = (-1 : Int32) from rfl)]
        exact ⟨0, M1, rfl, a2, rfl, a3.2⟩
      | inr x =>
        rw [hv] at a3
        obtain ⟨rfl, hx, rfl⟩ := a3
        have hB2 : set / 2 ^ x < 2147483648 := Nat.lt_of_le_of_lt (Nat.div_le_self _ _) (by omega)
        rw [if_neg (show ¬ nI x = (-1 : Int32) from nI_nm1 (by omega)), sB_r, nI_shr (by omega) (by omega), show (1 : Int32) = nI 1 from rfl, nI_m1]
        by_cases qb : set.testBit x = true
        · have hq : set / 2 ^ x % 2 = 1 := by rw [tb_div] at qb; simpa using qb
          obtain ⟨M2, c1, c2, c3⟩ := h.fail (k := 3)
          have c1' : F_X8_fail 4 30 (3 : Int32) M1 = _ := c1
          rw [if_pos qb, hq, if_neg (by decide), h66, x_cV_ok h.K c1', x_b0]
          exact ⟨nI 0, M2, rfl, c3, rfl, c2⟩
        have hq : set / 2 ^ x % 2 = 0 := by
          rw [tb_div] at qb
          have : ¬ set / 2 ^ x % 2 = 1 := by simpa using qb
          omega
        have hqf : set.testBit x = false := by simpa using qb
        rw [if_neg qb, hq, if_pos (by decide), nI_shl (by omega), Nat.one_mul, nI_or, m_let_eq]
        -- the worth
        obtain ⟨M2, c1, c2, c3⟩ := h.adv hn
        obtain ⟨u, M3, d1, d2, d3⟩ := c2.num hn (lo := 0) (hi := 99) (by omega) (by omega)
        have d1' : F_X8_passNumber 4 30 (0 : Int32) (99 : Int32) M2 = _ := d1
        cases hU : nuO T n 0 99 (tokAt T n q).2.1 with
        | inl fl =>
          rw [hU] at d3
          rw [x_cV_ok h.K c1, x_cV_ok c2.K d1', d3.1, if_pos (show NO = -nI 1 from rfl)]
          exact ⟨0, M3, rfl, c3.trans d2, rfl, d3.2⟩
        | inr r =>
          obtain ⟨y, q4⟩ := r
          rw [hU] at d3
          obtain ⟨rfl, hy, hq4, ho, cc, hcc, hE, hD4, hb⟩ := d3
          obtain ⟨S10, S16, S6, S17, SL17, S21, SK21, SL21, S7, K18, L18, S8, K19, L19, S9, K20, L20, _⟩ := dr_cells hE.1
          have e17 : m_I M3 17 3 = nI (lH l 4 + 1) := hD4.2.1 3 (by omega)
          have wl : F_X3_wantLast 16 (nI x) (nI y) M3 = some ((), m_sI M3 20 (6 * lH l 4 + x) (nI y)) := by
            unfold F_X3_wantLast
            rw [x_gN_ok S16 S6, aI_lit (x := (3 : Int32)) (n := 3) S17 (by rw [SL17]; omega) rfl (by omega), e17, show nI (lH l 4 + 1) - (1 : Int32) = nI (lH l 4) from nI_sub' (b := 1) (by omega), m_let_eq, if_neg (nI_pos (by omega)), if_neg (show ¬ (3 : Int32) ≤ nI (lH l 4) from nI_ge (b := 3) (by omega) (by omega)), if_neg (nI_pos (by omega)), if_neg (show ¬ (6 : Int32) ≤ nI x from nI_ge (b := 6) (by omega) (by omega)), x_gN_ok S16 S9, show (6 : Int32) = nI 6 from rfl, nI_mul, nI_add, Nat.mul_comm (lH l 4) 6, x_sI_ok K20 (by rw [L20]; omega) (by omega)]
          have hDS : DS T n q4 (ldV l (6 * lH l 4 + x) y) (some (3, w)) bt (m_sI M3 20 (6 * lH l 4 + x) (nI y)) := by
            refine ⟨hq4, lOk_V ho hy, cc, hcc, hE.wI (by omega) (by omega) (by omega) (by omega), ?_, by rw [mI_sI, if_neg (by omega)]; exact hb⟩
            have s : ∀ b, b ≠ 20 → m_I (m_sI M3 20 (6 * lH l 4 + x) (nI y)) b = m_I M3 b := fun b hb => sI_ne hb
            obtain ⟨t1, t2, t3, t4, t5, t6, t7, t8, t9⟩ := hD4
            refine ⟨by rw [s 16 (by omega)]; exact t1, by rw [s 17 (by omega)]; exact t2, by rw [s 18 (by omega)]; exact t3, by rw [s 19 (by omega)]; exact t4, fun k hk => ?_, t6, t7, fun j hj => (t8 j hj).cong (by rw [s 23 (by omega)]) (by rw [s 24 (by omega)]) ⟨[], (List.append_nil cc).symm⟩, fun v hv => (t9 v hv).cong (by rw [s 23 (by omega)]) (by rw [s 24 (by omega)]) ⟨[], (List.append_nil cc).symm⟩⟩
            rw [mI_sI]
            show _ = nI (if k = 6 * lH l 4 + x then y else lV l k)
            by_cases z : k = 6 * lH l 4 + x
            · rw [if_pos ⟨rfl, z⟩, if_pos z]
            · rw [if_neg (fun u => z u.2), if_neg z]
              exact t5 k hk
          have hc1 : cnt (set ||| 2 ^ x).testBit 6 = i + 1 := by
            have := cnt_new (P := set.testBit) (Q := (set ||| 2 ^ x).testBit) (v := x) hqf (fun k => by
              rw [Nat.testBit_or, Nat.testBit_two_pow]
              by_cases z : k = x
              · rw [z, decide_eq_true (p := x = x) rfl]
              · rw [decide_eq_false z, decide_eq_false (fun u => z u.symm)]) 6
            rw [this, hcnt, if_pos (by omega)]
          have hle := cnt_le (set ||| 2 ^ x).testBit 6
          have hp2 : 2 ^ x ≤ 2 ^ 5 := Nat.pow_le_pow_right (by omega) (by omega)
          rw [x_cV_ok h.K c1, x_cV_ok c2.K d1', if_neg (show ¬ nI y = -nI 1 from nI_nm1 (by omega)), x_gN_ok hE.K S10, x_cV_ok S16 wl, nI_add, m_let_eq, sB_r]
          exact (ih (i + 1) f q4 (set ||| 2 ^ x) (ldV l (6 * lH l 4 + x) y) _ (by omega) (by omega) (by omega) (Nat.or_lt_two_pow (n := 6) hset (by omega)) hc1 hl4 hDS).tr ((c3.trans d2).trans (dcF_wI (by omega)))
    by_cases i0 : i ≤ 0
    · rw [if_pos ((nI_le0 (by omega)).mpr i0)]
      exact one (fun z => by omega)
    rw [if_neg (fun z => i0 ((nI_le0 (by omega)).mp z)), x_cV_ok h.K (show F_X8_isAt_ 4 30 (59 : Int32) M = _ from h.S (c := 59) (by omega))]
    by_cases s : tkS T 59 (tokAt T n q) = true
    · obtain ⟨v, M', a1, a2, a3⟩ := h.passS hn (c := 59) (by omega)
      have a1' : F_X8_pass_ 4 30 (59 : Int32) M = _ := a1
      rw [if_pos s] at a3
      unfold spO
      rw [if_pos (show 0 < i ∧ tkS T 59 (tokAt T n q) = true from ⟨by omega, s⟩), bI_tr s, if_neg (by decide), h43, h94, x_cV_ok h.K a1', a3.1, x_b1]
      exact ⟨nI 1, M', rfl, a2, rfl, a3.2⟩
    · rw [bI_fa s, if_pos rfl]
      exact one (fun z => s z.2)
theorem spO_H : ∀ (e i q set : Nat) (l : Ld) (r : Nat × Ld), spO T n e l set i q = .inr r → ∀ j, lH r.2 j = lH l j := by
  intro e
  induction e with
  | zero => intro i q set l r h; cases h
  | succ e ih =>
    intro i q set l r h j
    unfold spO at h
    split at h
    · cases h; rfl
    · cases hv : vbO T n l q with
      | inl f => rw [hv] at h; cases h
      | inr x =>
        rw [hv, sB_r] at h
        split at h
        · cases h
        · cases hU : nuO T n 0 99 (tokAt T n q).2.1 with
          | inl f => rw [hU] at h; cases h
          | inr b =>
            rw [hU, sB_r] at h
            exact ih _ _ _ _ r h j
theorem C_speaker (h : DS T n q l none bt M) (hn : n ≤ 1000) : CRes T n none bt (seO T n l q) (F_X4_readSpeaker 30 M) M := by
  obtain ⟨v, M1, a1, a2, a3⟩ := h.named hn (kd := 3) (by omega)
  have a1' : F_X4_readNamed 30 (3 : Int32) M = _ := a1
  unfold F_X4_readSpeaker seO
  rw [x_cV_ok h.K a1']
  cases hN : nmO T n l 3 q with
  | inl f =>
    rw [hN] at a3
    rw [a3.1, if_pos (by decide)]
    exact ⟨0, M1, rfl, a2, rfl, a3.2⟩
  | inr r =>
    obtain ⟨w, q2⟩ := r
    rw [hN] at a3
    obtain ⟨rfl, hlt, hD⟩ := a3
    have hlt : lH l 4 < 3 := hlt
    rw [if_neg (by decide), sB_r]
    refine CRes.tr ?_ a2
    obtain ⟨v, M2, b1, b2, b3⟩ := hD.passW hn (j := 8) (by omega)
    rw [show k_wl.getD 8 0 = (12253591 : Int64) from rfl] at b3
    rw [x_cV_ok hD.K b1]
    cases hW : wdO T n 12253591 q2 with
    | inl f =>
      rw [hW] at b3
      rw [b3.1, if_pos (by decide)]
      exact ⟨0, M2, rfl, b2, rfl, b3.2⟩
    | inr q3 =>
      rw [hW] at b3
      obtain ⟨rfl, hD3⟩ := b3
      rw [if_neg (by decide), sB_r]
      refine CRes.tr ?_ b2
      refine m_let_P (fun o => CRes T n none bt (sB (spO T n 8 l 0 0 q3) fun r => .inr (r.1, ldN r.2 3 w)) o M2) ?_
      intro k94 h94
      refine m_let_P (fun o => CRes T n none bt (sB (spO T n 8 l 0 0 q3) fun r => .inr (r.1, ldN r.2 3 w)) o M2) ?_
      intro k43 h43
      refine m_let_P (fun o => CRes T n none bt (sB (spO T n 8 l 0 0 q3) fun r => .inr (r.1, ldN r.2 3 w)) o M2) ?_
      intro k66 h66
      obtain ⟨v, M3, c1, c2, c3⟩ := C_sp_l (bt := bt) hn (w := w) (k43 := k43) (k66 := k66) (k94 := k94) (fun M => by rw [h94]) (fun M => by rw [h43]) (fun M => by rw [h66]) 8 0 m_FU q3 0 l M2 (by omega) (by omega) (m_FU_lt (by omega)) (by omega) (by decide) hlt hD3
      have c1' : F_X4_readSpeaker_24 k43 k66 k94 m_FU 30 (0 : Int32) (0 : Int32) M2 = _ := c1
      rw [c1']
      cases hS : spO T n 8 l 0 0 q3 with
      | inl f =>
        rw [hS] at c3
        exact ⟨v, M3, rfl, c2, c3⟩
      | inr r =>
        obtain ⟨q4, l'⟩ := r
        rw [hS] at c3
        have hH := spO_H 8 0 q3 0 l (q4, l') hS
        obtain ⟨c4, hq4, ho, cc, hcc, hE, hD4, hb⟩ := c3
        refine ⟨v, M3, rfl, c2, c4, hq4, lOk_N ho (by omega) (by show lH l' 4 < 3; rw [hH 4]; exact hlt), cc, hcc, hE, hD4.named (by omega) ho (fun z => by omega) (fun z => by omega) (fun z => by omega), hb⟩
theorem lwK_own (isB : Bool) : nI (lwK isB) = nI (owN isB) := by cases isB <;> rfl
theorem C_law {isB : Bool} {w : Int64} (h : DS T n q l (some (lwK isB, w)) bt M) (hn : n ≤ 1000) (hlt : lH l (lwK isB + 1) < mostN (lwK isB)) {o : EO}
    (ho1 : match o with
    | .inl f => 0 < f ∧ f < 20000
    | .inr (q', cc, mc, V) => (q < q' ∧ q' ≤ n ∧ tkS T 59 (tokAt T n q') = true) ∧ (q + cc.length ≤ q' ∧ q + mc.length ≤ q') ∧ SCl cc V 30 ∧ S0 (ofB isB) mc V 5 ∧ vLoc isB V)
    (hc : ∀ M cc0, cc0.length ≤ q → ECS T n q cc0 M → ∃ v M', FG_X4_readLevel 30 (nI (owN isB)) (0 : Int32) (0 : Int32) M = some (v, M') ∧ csE M M' ∧ match o with
    | .inl f => (v = nI 0 ∧ m_I M' 30 9 = nI f) ∨ ∃ cc q', v = nI 1 ∧ ECS T n q' (cc0 ++ cc) M' ∧ q' ≤ n ∧ ¬ tkS T 59 (tokAt T n q') = true ∧ f = 1 + 16 * (tokAt T n q').1
    | .inr (q', cc, _, _) => v = nI 1 ∧ ECS T n q' (cc0 ++ cc) M') :
    CRes T n none bt (lwO T n l isB w o) (x_gN 4 M 30 10 fun v2 => x_cV 3 M v2 (F_X3_openLaw v2 (nI (lwK isB)) M) fun _ M2 => x_cV 4 M2 30 (FG_X4_readLevel 30 (nI (lwK isB)) (0 : Int32) (0 : Int32) M2) fun v3 M3 => if v3 = 0 then some ((0 : Int32), M3) else x_gN 4 M3 30 10 fun v4 => x_cV 3 M3 v4 (F_X3_closeLaw v4 (nI (lwK isB)) M3) fun _ M4 => x_cV 4 M4 30 (F_X8_pass_ 4 30 (59 : Int32) M4) fun v5 M5 => x_b v5 <| some (v5, M5)) M := by
  obtain ⟨hq, ho, cc, hcc, hE, hD, hb⟩ := h
  have hk4 : lwK isB < 4 := by cases isB <;> decide
  have h6 := mostN_le (lwK isB)
  obtain ⟨kd, hkd⟩ : ∃ kd, kd = lwK isB := ⟨_, rfl⟩
  rw [← hkd] at hlt hk4 h6 hD ⊢
  obtain ⟨N, hN⟩ : ∃ N, N = lH l (kd + 1) := ⟨_, rfl⟩
  rw [← hN] at hlt
  have hi32 : 8 * kd + N < 32 := by omega
  obtain ⟨S10, S16, S6, S17, SL17, S21, SK21, SL21, S7, K18, L18, S8, K19, L19, S9, K20, L20, S12, K23, L23, S13, K24, L24⟩ := dr_cells hE.1
  have e17 : m_I M 17 kd = nI (N + 1) := by
    have := hD.2.1 kd hk4
    rw [this, ← hN]
    show nI (N + (if kd = kd then 1 else 0)) = _
    rw [if_pos rfl]
  have ol : F_X3_openLaw 16 (nI kd) M = some ((), m_sI M 23 (8 * kd + N) (nI cc.length)) := by
    unfold F_X3_openLaw
    rw [x_gN_ok S16 S6, x_aI_ok S17 (by rw [SL17]; exact hk4) (by omega), e17, if_neg (fun z => by have := (nI_le0 (by omega)).mp z; omega), x_gN_ok S16 S12, x_gN_ok S16 S6, x_aI_ok S17 (by rw [SL17]; exact hk4) (by omega), e17, x_gI_ok S16, hE.2.2.2.1, show (8 : Int32) = nI 8 from rfl, nI_mul, nI_add, show nI (kd * 8 + (N + 1)) - (1 : Int32) = nI (8 * kd + N) from by rw [show (1 : Int32) = nI 1 from rfl, nI_sub' (by omega)]; congr 1; omega, x_sI_ok K23 (by rw [L23]; exact hi32) (by omega)]
  have hE1 : ECS T n q cc (m_sI M 23 (8 * kd + N) (nI cc.length)) := hE.wI (by omega) (by omega) (by omega) (by omega)
  obtain ⟨v, M2, a1, a2, a3⟩ := hc _ cc hcc hE1
  rw [← lwK_own, ← hkd] at a1
  rw [x_gN_ok hE.K S10, x_cV_ok S16 ol, x_cV_ok hE1.K a1]
  have f1 : dcF M M2 := (dcF_wI (M := M) (a := 23) (by omega)).trans a2.dc
  -- what follows a row that was read
  have after : ∀ (q' : Nat) (c1 : List Nat), v = nI 1 → ECS T n q' (cc ++ c1) M2 → ∃ M3, M3 = m_sI M2 24 (8 * kd + N) (nI (cc ++ c1).length) ∧ ECS T n q' (cc ++ c1) M3 ∧ dcF M M3 ∧ (if v = 0 then some ((0 : Int32), M2) else x_gN 4 M2 30 10 fun v4 => x_cV 3 M2 v4 (F_X3_closeLaw v4 (nI kd) M2) fun _ M4 => x_cV 4 M4 30 (F_X8_pass_ 4 30 (59 : Int32) M4) fun v5 M5 => x_b v5 <| some (v5, M5)) = x_cV 4 M3 30 (F_X8_pass_ 4 30 (59 : Int32) M3) fun v5 M5 => x_b v5 <| some (v5, M5) := by
    intro q' c1 hv hE2
    obtain ⟨T10, T16, T6, T17, TL17, _, _, _, _, _, _, _, _, _, _, _, _, _, _, _, T13, TK24, TL24⟩ := dr_cells hE2.1
    have e17' : m_I M2 17 kd = nI (N + 1) := by rw [a2.2.1 17 (by omega) (by omega) (by omega), sI_ne (by omega)]; exact e17
    refine ⟨_, rfl, hE2.wI (by omega) (by omega) (by omega) (by omega), f1.trans (dcF_wI (by omega)), ?_⟩
    have cl : F_X3_closeLaw 16 (nI kd) M2 = some ((), m_sI M2 24 (8 * kd + N) (nI (cc ++ c1).length)) := by
      unfold F_X3_closeLaw
      rw [x_gN_ok T16 T6, x_aI_ok T17 (by rw [TL17]; exact hk4) (by omega), e17', if_neg (fun z => by have := (nI_le0 (by omega)).mp z; omega), x_gN_ok T16 T13, x_gN_ok T16 T6, x_aI_ok T17 (by rw [TL17]; exact hk4) (by omega), e17', x_gI_ok T16, hE2.2.2.2.1, show (8 : Int32) = nI 8 from rfl, nI_mul, nI_add, show nI (kd * 8 + (N + 1)) - (1 : Int32) = nI (8 * kd + N) from by rw [show (1 : Int32) = nI 1 from rfl, nI_sub' (by omega)]; congr 1; omega, x_sI_ok TK24 (by rw [TL24]; exact hi32) (by omega)]
    rw [hv, if_neg (by decide), x_gN_ok hE2.K T10, x_cV_ok T16 cl]
  cases o with
  | inl f =>
    rcases a3 with ⟨hv, hf⟩ | ⟨c1, q', hv, hE2, hq', h59, hf⟩
    · rw [hv, if_pos (by decide)]
      exact ⟨0, M2, rfl, f1, rfl, hf⟩
    · obtain ⟨M3, hM3, hE3, f3, e3⟩ := after q' c1 hv hE2
      obtain ⟨u, M4, p1, p2, p3⟩ := hE3.pass hn hq' (c := 59) (by omega)
      have p1' : F_X8_pass_ 4 30 (59 : Int32) M3 = _ := p1
      rw [if_neg h59] at p3
      rw [e3, x_cV_ok hE3.K p1', p3.1, x_b0]
      refine ⟨nI 0, M4, rfl, f3.trans p2.dc, rfl, ?_⟩
      rw [p3.2, hf]
  | inr r =>
    obtain ⟨q', c1, mc, V⟩ := r
    obtain ⟨⟨g1, g2, g3⟩, ⟨g4, g5⟩, g6, g7, g8⟩ := ho1
    obtain ⟨hv, hE2⟩ := a3
    obtain ⟨M3, hM3, hE3, f3, e3⟩ := after q' c1 hv hE2
    obtain ⟨u, M4, p1, p2, p3⟩ := hE3.pass hn g2 (c := 59) (by omega)
    have p1' : F_X8_pass_ 4 30 (59 : Int32) M3 = _ := p1
    rw [if_pos g3] at p3
    rw [e3, x_cV_ok hE3.K p1', p3.1, x_b1]
    refine ⟨nI 1, M4, rfl, f3.trans p2.dc, rfl, ?_⟩
    show DS T n (tokAt T n q').2.1 (ldN (ldE l (lwI l isB) (fun fs => V (fun x => fs (ofB isB + x)))) (lwK isB) w) none bt M4
    rw [← hkd]
    obtain ⟨o1, o2, o3, o4, _⟩ := tok_ok (T := T) q' g2
    have hkk : isB = true ∧ kd = 1 ∧ lwI l isB = lH l 2 ∧ N = lH l 2 ∨ isB = false ∧ kd = 2 ∧ lwI l isB = 3 + lH l 3 ∧ N = lH l 3 := by
      cases isB
      · right; exact ⟨rfl, hkd, rfl, by rw [hN, hkd]; rfl⟩
      · left; exact ⟨rfl, hkd, rfl, by rw [hN, hkd]; rfl⟩
    have hoE : lOk (ldE l (lwI l isB) (fun fs => V (fun x => fs (ofB isB + x)))) := lOk_E ho g8 (by
      rcases hkk with ⟨rfl, z1, z2, z3⟩ | ⟨rfl, z1, z2, z3⟩
      · rw [if_pos rfl, z2]
        rw [z1] at hlt
        have hlt : N < 3 := hlt
        omega
      · rw [if_neg (by decide), z2]; omega)
    have lcc : (cc ++ c1).length = cc.length + c1.length := List.length_append
    refine ⟨o4, lOk_N hoE hk4 (by show lH l (kd + 1) < mostN kd; rw [← hN]; exact hlt), cc ++ c1, by omega, p3.2, ?_, ?_⟩
    · -- the new draft
      have s2 : ∀ a, a ≠ 23 → a ≠ 24 → a ≠ 16 → a ≠ 22 → a ≠ 30 → m_I M3 a = m_I M a := fun a x y z u t => by rw [hM3, sI_ne y, a2.2.1 a z u t, sI_ne x]
      have s16 : ∀ k, k ≠ 5 → m_I M3 16 k = m_I M 16 k := fun k hk => by rw [hM3, sI_ne (by omega), a2.2.2.2.1 k hk, sI_ne (by omega)]
      have s23 : ∀ k, m_I M3 23 k = if k = 8 * kd + N then nI cc.length else m_I M 23 k := fun k => by
        rw [hM3, sI_ne (by omega), a2.2.1 23 (by omega) (by omega) (by omega), mI_sI]
        by_cases z : k = 8 * kd + N
        · rw [if_pos ⟨rfl, z⟩, if_pos z]
        · rw [if_neg (fun y => z y.2), if_neg z]
      have s24 : ∀ k, m_I M3 24 k = if k = 8 * kd + N then nI (cc ++ c1).length else m_I M 24 k := fun k => by
        rw [hM3, mI_sI]
        by_cases z : k = 8 * kd + N
        · rw [if_pos ⟨rfl, z⟩, if_pos z]
        · rw [if_neg (fun y => z y.2), if_neg z, a2.2.1 24 (by omega) (by omega) (by omega), sI_ne (by omega)]
      have s21 : m_L M3 21 = m_L M 21 := by
        rw [hM3]
        show m_L M2 21 = _
        rw [(a2.2.2.1 21 (by omega)).1]
        rfl
      have hnew : CLw isB (cc ++ c1) (m_I M3) (8 * kd + N) (fun fs => V (fun x => fs (ofB isB + x))) := by
        refine ⟨cc.length, c1, V, by omega, by rw [s23, if_pos rfl], by rw [s24, if_pos rfl, lcc], fun j hj => ?_, g6, g8, rfl⟩
        rw [List.getD_eq_getElem?_getD, List.getElem?_append_right (by omega), show cc.length + j - cc.length = j by omega, ← List.getD_eq_getElem?_getD]
      have hbase : DC (ldE l (lwI l isB) (fun fs => V (fun x => fs (ofB isB + x)))) (some (kd, w)) (cc ++ c1) (m_I M3) (m_L M3) := by
        obtain ⟨⟨d1, d1', d1''⟩, d2, d3, d4, d5, d6, d7, d8, d9⟩ := hD
        refine ⟨⟨by rw [s16 0 (by omega)]; exact d1, by rw [s16 1 (by omega)]; exact d1', by rw [s16 2 (by omega)]; exact d1''⟩, by rw [s2 17 (by omega) (by omega) (by omega) (by omega) (by omega)]; exact d2, by rw [s2 18 (by omega) (by omega) (by omega) (by omega) (by omega)]; exact d3, by rw [s2 19 (by omega) (by omega) (by omega) (by omega) (by omega)]; exact d4, by rw [s2 20 (by omega) (by omega) (by omega) (by omega) (by omega)]; exact d5, by rw [s21]; exact d6, by rw [s21]; exact d7, fun j hj => ?_, fun v hv => ?_⟩
        · have hj : j < lH l 2 := hj
          have b3 := ho.2.2.1
          have e : lE (ldE l (lwI l isB) (fun fs => V (fun x => fs (ofB isB + x)))) j = lE l j := by
            show (if j = lwI l isB then _ else lE l j) = lE l j
            rw [if_neg (by rcases hkk with ⟨_, _, z2, _⟩ | ⟨_, _, z2, _⟩ <;> omega)]
          rw [e]
          exact (d8 j hj).cong (by rw [s23, if_neg (by rcases hkk with ⟨_, z1, _, z3⟩ | ⟨_, z1, _, z3⟩ <;> omega)]) (by rw [s24, if_neg (by rcases hkk with ⟨_, z1, _, z3⟩ | ⟨_, z1, _, z3⟩ <;> omega)]) ⟨c1, rfl⟩
        · have hv : v < lH l 3 := hv
          have b3 := ho.2.2.1
          have e : lE (ldE l (lwI l isB) (fun fs => V (fun x => fs (ofB isB + x)))) (3 + v) = lE l (3 + v) := by
            show (if 3 + v = lwI l isB then _ else lE l (3 + v)) = lE l (3 + v)
            have hlt3 : kd = 1 → N < 3 := fun z => by rw [z] at hlt; exact hlt
            rw [if_neg (by rcases hkk with ⟨_, z1, z2, z3⟩ | ⟨_, _, z2, _⟩; have := hlt3 z1; omega; omega)]
          have b6 := ho.2.2.2.1
          rw [e]
          exact (d9 v hv).cong (by rw [s23, if_neg (by rcases hkk with ⟨_, z1, _, z3⟩ | ⟨_, z1, _, z3⟩ <;> omega)]) (by rw [s24, if_neg (by rcases hkk with ⟨_, z1, _, z3⟩ | ⟨_, z1, _, z3⟩ <;> omega)]) ⟨c1, rfl⟩
      have hnm : DC (ldN (ldE l (lwI l isB) (fun fs => V (fun x => fs (ofB isB + x)))) kd w) none (cc ++ c1) (m_I M3) (m_L M3) := by
        refine hbase.named hk4 hoE (fun z => ?_) (fun z => ?_) (fun z => ?_)
        · rcases hkk with ⟨_, z1, _, _⟩ | ⟨_, z1, _, _⟩ <;> omega
        · rcases hkk with ⟨rfl, z1, z2, z3⟩ | ⟨_, z1, _, _⟩
          · have e : lE (ldE l (lwI l true) (fun fs => V (fun x => fs (ofB true + x)))) (lH l 2) = fun fs => V (fun x => fs (ofB true + x)) := by
              show (if lH l 2 = lwI l true then _ else lE l (lH l 2)) = _
              rw [if_pos z2.symm]
            show CLw true (cc ++ c1) (m_I M3) (8 + lH l 2) (lE (ldE l (lwI l true) (fun fs => V (fun x => fs (ofB true + x)))) (lH l 2))
            rw [e, show 8 + lH l 2 = 8 * kd + N by omega]
            exact hnew
          · omega
        · rcases hkk with ⟨_, z1, _, _⟩ | ⟨rfl, z1, z2, z3⟩
          · omega
          · have e : lE (ldE l (lwI l false) (fun fs => V (fun x => fs (ofB false + x)))) (3 + lH l 3) = fun fs => V (fun x => fs (ofB false + x)) := by
              show (if 3 + lH l 3 = lwI l false then _ else lE l (3 + lH l 3)) = _
              rw [if_pos z2.symm]
            show CLw false (cc ++ c1) (m_I M3) (16 + lH l 3) (lE (ldE l (lwI l false) (fun fs => V (fun x => fs (ofB false + x)))) (3 + lH l 3))
            rw [e, show 16 + lH l 3 = 8 * kd + N by omega]
            exact hnew
      exact DS.csE (q' := 0) hnm p2 ⟨[], (List.append_nil _).symm⟩
    · rw [p2.2.2.2.2.1 11 (by omega), hM3, sI_ne (by omega), a2.2.2.2.2.1 11 (by omega), sI_ne (by omega)]
      exact hb
end CLINE3
