/-! a land read: week, speakers, laws of the class -/
theorem cnt_new {P Q : Nat → Bool} {v : Nat} (hv : P v = false) (hQ : ∀ k, Q k = (P k || decide (k = v))) : ∀ m, cnt Q m = cnt P m + (if v < m then 1 else 0) := by
  intro m
  induction m with
  | zero => rfl
  | succ m ih =>
    show cnt Q m + (if Q m then 1 else 0) = cnt P m + (if P m then 1 else 0) + _
    rw [ih, hQ]
    by_cases z : m = v
    · subst z
      rw [hv, decide_eq_true (p := m = m) rfl, if_neg (Nat.lt_irrefl m), if_pos (Nat.lt_succ_self m)]
      rfl
    · rw [decide_eq_false z, Bool.or_false]
      have : (if v < m + 1 then 1 else 0 : Nat) = (if v < m then 1 else 0) := by
        by_cases y : v < m
        · rw [if_pos y, if_pos (by omega)]
        · rw [if_neg y, if_neg (by omega)]
      rw [this]; omega
theorem cnt_all {P : Nat → Bool} : ∀ m, cnt P m = m → ∀ k, k < m → P k = true := by
  intro m
  induction m with
  | zero => intro _ k h; omega
  | succ m ih =>
    intro h k hk
    have h : cnt P m + (if P m then 1 else 0) = m + 1 := h
    have hle := cnt_le P m
    cases hp : P m
    · rw [hp] at h; simp at h; omega
    · by_cases z : k = m
      · rw [z]; exact hp
      · rw [hp] at h
        exact ih (by simp at h; omega) k (by omega)
section CLINE2
variable {M M' : m_M} {T : Nat → Nat} {n q : Nat} {l : Ld} {pd : Option (Nat × Int64)} {bt : Bool}
theorem C_day (h : DS T n q l none bt M) (hn : n ≤ 1000) {i : Nat} (hi : lH l 5 = i) (hi7 : i ≤ 7) : ∃ v M', F_X4_readDay 30 M = some (v, M') ∧ dcF M M' ∧ match (sB (if tkW 277652441 (tokAt T n q) = true then (.inr none : Nat ⊕ Option Nat) else sB (vbO T n l q) fun v => .inr (some v)) fun v => if 7 ≤ i then (.inl (flt T n q 5) : Nat ⊕ Ld) else .inr (ldH (ldD l i v) 5 (i + 1))) with | .inl f => v = nI 0 ∧ m_I M' 30 9 = nI f | .inr l' => v = nI 1 ∧ DS T n (tokAt T n q).2.1 l' none bt M' := by
  obtain ⟨R10, K16, _, _, _, _, _, _, _, _, _, R8, K19, L19, _⟩ := dr_cells h.g
  have e5 : m_I M 16 2 = nI i := by obtain ⟨_, _, cc, _, _, hD, _⟩ := h; rw [hD.1.2.2, hi]
  unfold F_X4_readDay
  refine m_let_P (fun o => ∃ v M', o = some (v, M') ∧ dcF M M' ∧ match (sB (if tkW 277652441 (tokAt T n q) = true then (.inr none : Nat ⊕ Option Nat) else sB (vbO T n l q) fun v => .inr (some v)) fun v => if 7 ≤ i then (.inl (flt T n q 5) : Nat ⊕ Ld) else .inr (ldH (ldD l i v) 5 (i + 1))) with | .inl f => v = nI 0 ∧ m_I M' 30 9 = nI f | .inr l' => v = nI 1 ∧ DS T n (tokAt T n q).2.1 l' none bt M') ?_
  intro K hK
  have put : ∀ vo : Option Nat, (∀ x, vo = some x → x < lH l 3) → ∃ v M', K 30 (iO vo) M = some (v, M') ∧ dcF M M' ∧ match (if 7 ≤ i then (.inl (flt T n q 5) : Nat ⊕ Ld) else .inr (ldH (ldD l i vo) 5 (i + 1))) with | .inl f => v = nI 0 ∧ m_I M' 30 9 = nI f | .inr l' => v = nI 1 ∧ DS T n (tokAt T n q).2.1 l' none bt M' := by
    intro vo hvo
    rw [hK]
    dsimp only
    rw [x_gN_ok h.K R10, x_gI_ok K16, e5]
    by_cases c : 7 ≤ i
    · obtain ⟨M1, a1, a2, a3⟩ := h.fail (k := 5)
      have a1' : F_X8_fail 4 30 (5 : Int32) M = _ := a1
      rw [if_neg (show ¬ nI i < (7 : Int32) from nI_nlt (a := i) (b := 7) c (by omega)), x_cV_ok h.K a1', x_b0, if_pos c]
      exact ⟨nI 0, M1, rfl, a3, rfl, a2⟩
    · have kM : ∀ v : Int32, m_K (m_sI M 19 i v) 16 = 3 := fun _ => K16
      have hDS : DS T n q (ldH (ldD l i vo) 5 (i + 1)) none bt (m_sI (m_sI M 19 i (iO vo)) 16 2 (nI (i + 1))) := by
        obtain ⟨hq, ho, cc, hcc, hE, hD, hb⟩ := h
        have s : ∀ b, b ≠ 16 → b ≠ 19 → m_I (m_sI (m_sI M 19 i (iO vo)) 16 2 (nI (i + 1))) b = m_I M b := fun b x y => by rw [sI_ne x, sI_ne y]
        refine ⟨hq, lOk_d ho (by omega) hvo, cc, hcc, (hE.wI (by omega) (by omega) (by omega) (by omega)).wI (by omega) (by omega) (by omega) (by omega), ?_, by rw [s 30 (by omega) (by omega)]; exact hb⟩
        obtain ⟨⟨a1, a2, a3⟩, d2, d3, d4, d5, d6, d7, d8, d9⟩ := hD
        refine ⟨⟨by rw [mI_sI, if_neg (by omega), mI_sI, if_neg (by omega)]; exact a1, by rw [mI_sI, if_neg (by omega), mI_sI, if_neg (by omega)]; exact a2, by rw [mI_sI, if_pos ⟨rfl, rfl⟩]; rfl⟩, ?_, by rw [s 18 (by omega) (by omega)]; exact d3, fun d hd => ?_, by rw [s 20 (by omega) (by omega)]; exact d5, ?_, fun k w z => (by cases z), fun j hj => (d8 j hj).cong (by rw [s 23 (by omega) (by omega)]) (by rw [s 24 (by omega) (by omega)]) ⟨[], (List.append_nil cc).symm⟩, fun v hv => (d9 v hv).cong (by rw [s 23 (by omega) (by omega)]) (by rw [s 24 (by omega) (by omega)]) ⟨[], (List.append_nil cc).symm⟩⟩
        · intro k hk
          rw [s 17 (by omega) (by omega), d2 k hk]
          show nI (lH l (k + 1) + _) = nI ((if k + 1 = 5 then i + 1 else lH l (k + 1)) + _)
          rw [if_neg (by omega)]
        · have hd : d < i + 1 := hd
          rw [mI_sI, if_neg (by omega), mI_sI]
          show _ = iO (if d = i then vo else lD l d)
          by_cases z : d = i
          · rw [if_pos ⟨rfl, z⟩, if_pos z]
          · rw [if_neg (fun y => z y.2), if_neg z]
            exact d4 d (by omega)
        · intro k hk j hj
          have hj : j < (if k + 1 = 5 then i + 1 else lH l (k + 1)) := hj
          rw [if_neg (by omega)] at hj
          exact d6 k hk j hj
      obtain ⟨M1, a1, a2, a3⟩ := hDS.adv hn
      rw [if_pos (show nI i < (7 : Int32) from nI_lt (b := 7) (by omega) (by omega)), x_gN_ok h.K R10, x_gN_ok K16 R8, x_gN_ok h.K R10, x_gI_ok K16, e5, x_sI_ok K19 (by rw [L19]; omega) (by omega), x_gN_ok (show m_K (m_sI M 19 i (iO vo)) 30 = 4 from h.K) (show m_R (m_sI M 19 i (iO vo)) 30 10 = some 16 from R10), x_gI_ok (kM _), mI_sI, if_neg (by omega), e5, nI_1, x_pI_ok (kM _), x_cV_ok hDS.K a1, if_neg c]
      exact ⟨1, M1, rfl, ((dcF_wI (by omega)).trans (dcF_wI (by omega))).trans a3, rfl, a2⟩
  rw [x_cV_ok h.K (h.W (by omega)), show k_wl.getD 6 0 = (277652441 : Int64) from rfl]
  by_cases w6 : tkW 277652441 (tokAt T n q) = true
  · rw [bI_tr w6, if_neg (by decide), if_pos w6, sB_r]
    exact put none (fun x hx => by cases hx)
  · rw [bI_fa w6, if_pos rfl, if_neg w6]
    obtain ⟨v, M1, a1, a2, a3⟩ := h.verbHere rfl
    have b6 := h.2.1.2.2.2.1
    rw [x_cV_ok h.K a1]
    cases hv : vbO T n l q with
    | inl f =>
      rw [hv] at a3
      rw [a3.1, if_pos (show NO = (-1 : Int32) from rfl)]
      exact ⟨0, M1, rfl, a2, rfl, a3.2⟩
    | inr x =>
      rw [hv] at a3
      obtain ⟨rfl, hx, rfl⟩ := a3
      rw [if_neg (show ¬ nI x = (-1 : Int32) from nI_nm1 (by omega)), sB_r, sB_r]
      exact put (some x) (fun y hy => by cases hy; exact hx)
theorem C_week_l (hn : n ≤ 1000) {k41 k59 : Nat → m_M → Option (Int32 × m_M)} (h59 : ∀ M, k59 30 M = x_cV 4 M 30 (F_X8_pass_ 4 30 (59 : Int32) M) fun v4 M3 => x_b v4 <| some (v4, M3)) (h41 : ∀ M, k41 30 M = k59 30 M) : ∀ (e i f q : Nat) (l : Ld) (M : m_M), i + e = 9 → i ≤ 7 → e < f → lH l 5 = i → DS T n q l none bt M → CRes T n none bt (wkO T n e l i q) (F_X4_readWeek_22 k41 k59 f 30 (nI i) M) M := by
  intro e
  induction e with
  | zero => intro i f q l M h1 h2; omega
  | succ e ih =>
    intro i f q l M hi hi7 hf hl h
    obtain ⟨f, rfl⟩ : ∃ x, f = x + 1 := ⟨f - 1, by omega⟩
    rw [F_X4_readWeek_22, if_neg (show ¬ (7 : Int32) < nI i from nI_nlt (a := 7) hi7 (by omega))]
    refine m_let_P (fun o => CRes T n none bt (wkO T n (e + 1) l i q) o M) ?_
    intro K hK
    have day : ¬ (0 < i ∧ tkS T 59 (tokAt T n q) = true) → CRes T n none bt (wkO T n (e + 1) l i q) (K 30 (nI i) M) M := by
      intro hno
      obtain ⟨v, M1, a1, a2, a3⟩ := C_day h hn hl hi7
      rw [hK]
      dsimp only
      unfold wkO
      rw [x_cV_ok h.K a1, if_neg hno]
      cases ho : (if tkW 277652441 (tokAt T n q) = true then (.inr none : Nat ⊕ Option Nat) else sB (vbO T n l q) fun v => .inr (some v)) with
      | inl fl =>
        rw [ho, sB_l] at a3
        rw [a3.1, if_pos (by decide)]
        exact ⟨0, M1, rfl, a2, rfl, a3.2⟩
      | inr vo =>
        rw [ho, sB_r] at a3
        rw [sB_r]
        by_cases c : 7 ≤ i
        · rw [if_pos c] at a3 ⊢
          rw [a3.1, if_pos (by decide)]
          exact ⟨0, M1, rfl, a2, rfl, a3.2⟩
        · rw [if_neg c] at a3 ⊢
          rw [a3.1, if_neg (by decide), m_let_eq, nI_1]
          exact (ih (i + 1) f _ _ M1 (by omega) (by omega) (by omega) rfl a3.2).tr a2
    by_cases i0 : i ≤ 0
    · rw [if_pos ((nI_le0 (by omega)).mpr i0)]
      exact day (fun z => by omega)
    rw [if_neg (fun z => i0 ((nI_le0 (by omega)).mp z)), x_cV_ok h.K (show F_X8_isAt_ 4 30 (59 : Int32) M = _ from h.S (c := 59) (by omega))]
    by_cases s : tkS T 59 (tokAt T n q) = true
    · have := h.close hn
      unfold clO at this
      rw [if_pos s, sB_r] at this
      unfold wkO
      rw [if_pos (show 0 < i ∧ tkS T 59 (tokAt T n q) = true from ⟨by omega, s⟩), bI_tr s, if_neg (by decide), h41, h59]
      exact this
    · rw [bI_fa s, if_pos rfl]
      exact day (fun z => s z.2)
theorem C_week (h : DS T n q l none bt M) (hn : n ≤ 1000) : CRes T n none bt (weO T n l q) (F_X4_readWeek 30 M) M := by
  obtain ⟨R10, K16, _⟩ := dr_cells h.g
  have b7 := h.2.1.2.2.2.2.2.1
  have e5 : m_I M 16 2 = nI (lH l 5) := by obtain ⟨_, _, cc, _, _, hD, _⟩ := h; exact hD.1.2.2
  unfold F_X4_readWeek weO
  rw [x_gN_ok h.K R10, x_gI_ok K16, e5]
  by_cases c : 0 < lH l 5
  · obtain ⟨M1, a1, a2, a3⟩ := h.fail (k := 3)
    have a1' : F_X8_fail 4 30 (3 : Int32) M = _ := a1
    rw [if_pos c, if_neg (fun z => by have := (nI_le0 (by omega)).mp z; omega), x_cV_ok h.K a1', x_b0]
    exact ⟨nI 0, M1, rfl, a3, rfl, a2⟩
  · obtain ⟨M1, a1, a2, a3⟩ := h.adv hn
    rw [if_neg c, if_pos ((nI_le0 (by omega)).mpr (by omega)), x_cV_ok h.K a1]
    refine CRes.tr ?_ a3
    refine m_let_P (fun o => CRes T n none bt (wkO T n 9 l 0 (tokAt T n q).2.1) o M1) ?_
    intro k59 h59
    refine m_let_P (fun o => CRes T n none bt (wkO T n 9 l 0 (tokAt T n q).2.1) o M1) ?_
    intro k41 h41
    exact C_week_l hn (fun M => by rw [h59]) (fun M => by rw [h41]) 9 0 m_FU _ l M1 (by omega) (by omega) (m_FU_lt (by omega)) (by omega) a2
end CLINE2
