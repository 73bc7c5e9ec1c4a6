/-! sayable: the class's table -/
theorem say_eq {l : Ld} (ho : lOk l) (v j : Nat) : exN 400 (fun c => ccOk l c && noB l v c j) = (decide (j / 4 < lH l 1 ∧ j % 4 < lH l 0) && sayB l (j / 4) (j % 4) v) := by
  have h0 := ho.1.1
  have h1 := ho.1.2
  generalize ht : j / 4 = t
  generalize hp : j % 4 = p
  have hN : ∀ c, noB l v c j = (decide (p < lH l 0) && (decide (t = c / 20 / 4 ∨ t = c % 20 / 4) && siy l v c t p)) := fun c => by unfold noB; rw [ht, hp]
  cases q : exN 400 (fun c => ccOk l c && noB l v c j)
  · refine Eq.symm ?_
    cases z : (decide (t < lH l 1 ∧ p < lH l 0) && sayB l t p v)
    · rfl
    · exfalso
      rw [Bool.and_eq_true, decide_eq_true_iff] at z
      obtain ⟨⟨z1, z2⟩, z3⟩ := z
      obtain ⟨a, ha, hs⟩ := exN_iff.mp z3
      unfold sayL at hs
      rw [Bool.and_eq_true, decide_eq_true_iff] at hs
      obtain ⟨hc, hw⟩ := hs
      obtain ⟨c1, c2, c3⟩ := ccOk_iff.mp hc
      obtain ⟨q1, _, _⟩ := partN_p (show a / 2 / 20 < 20 by omega)
      obtain ⟨q2, _, _⟩ := partN_p (show a / 2 % 20 < 20 by omega)
      have hq : exN 400 (fun c => ccOk l c && noB l v c j) = true := by
        refine exN_iff.mpr ⟨a / 2, by omega, ?_⟩
        rw [hc, hN, decide_eq_true z2, Bool.true_and, Bool.true_and]
        have y1 : t = a / 2 / 20 / 4 ∨ t = a / 2 % 20 / 4 := by
          by_cases y1 : t = a / 2 / 20 / 4 ∨ t = a / 2 % 20 / 4
          · exact y1
          · exfalso
            have n1 : ¬ a / 2 / 20 / 4 = t := fun e => y1 (.inl e.symm)
            have n2 : ¬ a / 2 % 20 / 4 = t := fun e => y1 (.inr e.symm)
            obtain ⟨w0, a0, b0⟩ := wd_l ho (fun i => if i = t then p else 0) (fun i _ => by split <;> omega)
            obtain ⟨w1, a1, b1⟩ := wd_l ho (fun i => if i = t then (if p = 0 then 1 else 0) else 0) (fun i _ => by
              by_cases z8 : i = t
              · rw [if_pos z8]; split <;> omega
              · rw [if_neg z8]; omega)
            have e0 := hw w0 a0
            have e1 := hw w1 a1
            have hcb : cby l (some v) (a / 2) w0 = cby l (some v) (a / 2) w1 := by
              unfold cby
              have f1 : a / 2 / 20 / 4 < lH l 1 := c2.1
              have f2 : a / 2 % 20 / 4 < lH l 1 := c3.1
              rw [hby_tbl ho, hby_tbl ho, q1, q2, b0 _ f1, b0 _ f2, b1 _ f1, b1 _ f2]
              rw [if_neg n1, if_neg n2, if_neg n1, if_neg n2]
            unfold lT at e0 e1
            rw [hcb, e1, b0 t z1, b1 t z1] at e0
            rw [if_pos rfl, if_pos rfl, decide_eq_true (p := p = p) rfl] at e0
            have := of_decide_eq_true e0
            split at this <;> omega
        rw [decide_eq_true y1, Bool.true_and]
        unfold siy mC
        rw [Bool.or_eq_true, decide_eq_true_iff, decide_eq_true_iff]
        by_cases o : a % 2 = 1
        · refine .inr (fun w h => ?_)
          have := hw w h
          unfold lT at this
          rw [decide_eq_true o] at this
          show _ = !decide (whr l w t = p)
          rw [← this]
          simp
        · refine .inl (fun w h => ?_)
          have := hw w h
          unfold lT at this
          rw [decide_eq_false o] at this
          show _ = decide (whr l w t = p)
          rw [← this]
          simp
      rw [q] at hq
      cases hq
  · refine Eq.symm ?_
    obtain ⟨c, hc4, hc⟩ := exN_iff.mp q
    rw [Bool.and_eq_true, hN, Bool.and_eq_true, Bool.and_eq_true, decide_eq_true_iff, decide_eq_true_iff] at hc
    obtain ⟨hc, z1, z2, z3⟩ := hc
    obtain ⟨c1, c2, c3⟩ := ccOk_iff.mp hc
    have f1 : c / 20 / 4 < lH l 1 := c2.1
    have f2 : c % 20 / 4 < lH l 1 := c3.1
    have f3 : t < lH l 1 := by rcases z2 with z2 | z2 <;> omega
    rw [decide_eq_true ⟨f3, z1⟩, Bool.true_and]
    unfold siy mC at z3
    rw [Bool.or_eq_true, decide_eq_true_iff, decide_eq_true_iff] at z3
    refine exN_iff.mpr ?_
    rcases z3 with z3 | z3
    · refine ⟨2 * c, by omega, ?_⟩
      unfold sayL lT
      rw [show 2 * c / 2 = c by omega, hc, decide_eq_false (p := 2 * c % 2 = 1) (by omega), Bool.true_and, decide_eq_true_iff]
      intro w hw
      rw [z3 w hw]
      simp
    · refine ⟨2 * c + 1, by omega, ?_⟩
      unfold sayL lT
      rw [show (2 * c + 1) / 2 = c by omega, hc, decide_eq_true (p := (2 * c + 1) % 2 = 1) (by omega), Bool.true_and, decide_eq_true_iff]
      intro w hw
      rw [z3 w hw]
      simp
def noR (l : Ld) (v j k : Nat) : Bool := exN 400 (fun c => decide (k ≤ c) && (ccOk l c && noB l v c j))
theorem noR_0 {l : Ld} {v j : Nat} : noR l v j 0 = exN 400 (fun c => ccOk l c && noB l v c j) := by
  unfold noR
  refine exN_eq ?_
  constructor
  · rintro ⟨i, h1, h2⟩
    exact ⟨i, h1, by rw [decide_eq_true (Nat.zero_le i), Bool.true_and] at h2; exact h2⟩
  · rintro ⟨i, h1, h2⟩
    exact ⟨i, h1, by rw [decide_eq_true (Nat.zero_le i), Bool.true_and]; exact h2⟩
theorem noR_s {l : Ld} {v j k : Nat} (hk : k < 400) : noR l v j k = ((ccOk l k && noB l v k j) || noR l v j (k + 1)) := by
  cases q : noR l v j k
  · cases z : ((ccOk l k && noB l v k j) || noR l v j (k + 1))
    · rfl
    · exfalso
      have : noR l v j k = true := by
        rw [Bool.or_eq_true] at z
        rcases z with z | z
        · exact exN_iff.mpr ⟨k, hk, by rw [decide_eq_true (Nat.le_refl k), Bool.true_and]; exact z⟩
        · obtain ⟨i, h1, h2⟩ := exN_iff.mp z
          rw [Bool.and_eq_true, decide_eq_true_iff] at h2
          exact exN_iff.mpr ⟨i, h1, by rw [Bool.and_eq_true, decide_eq_true_iff]; exact ⟨by omega, h2.2⟩⟩
      rw [q] at this
      cases this
  · obtain ⟨i, h1, h2⟩ := exN_iff.mp q
    rw [Bool.and_eq_true, decide_eq_true_iff] at h2
    refine Eq.symm ?_
    rw [Bool.or_eq_true]
    by_cases z : i = k
    · exact .inl (by rw [← z]; exact h2.2)
    · exact .inr (exN_iff.mpr ⟨i, h1, by rw [Bool.and_eq_true, decide_eq_true_iff]; exact ⟨by omega, h2.2⟩⟩)
theorem ob_f {v x : Nat} : ob v false x = x := rfl
theorem noR_e {l : Ld} {v j : Nat} : noR l v j 400 = false := exN_f (fun i hi => by rw [decide_eq_false (by omega)]; rfl)
section FSAY
variable {M M' : m_M} {l : Ld}
theorem S_fs25 (h : G M) (ho : lOk l) {v : Nat} (hv : v < lH l 3) {K : Nat → Int32 → m_M → Option (Unit × m_M)} : ∀ (d k f : Nat) (g : Nat → Nat) (A : IA), k + d = 400 → d < f → LCi l A → (∀ j, j < 20 → A 68 j = nI (g j)) →
    ∃ A', F_X2_findSayable_25 K f 67 (nI v) (nI k) (m_wA M A) = K 67 (nI v) (m_wA M A') ∧ (∀ a, a ≠ 68 → A' a = A a) ∧ ∀ j, j < 20 → A' 68 j = nI (ob v (noR l v j k) (g j)) := by
  have K67 : ∀ A, m_K (m_wA M A) 67 = 2 := fun A => by simp only [wA_K, gK h]
  have R5 : ∀ A, m_R (m_wA M A) 67 5 = some 2 := fun A => by simp only [wA_R, gR h]
  have K2 : ∀ A, m_K (m_wA M A) 2 = 3 := fun A => by simp only [wA_K, gK h]
  intro d
  induction d with
  | zero =>
    intro k f g A hk hf hl hg
    obtain ⟨f, rfl⟩ : ∃ f', f = f' + 1 := ⟨f - 1, by omega⟩
    obtain rfl : k = 400 := by omega
    refine ⟨A, ?_, fun _ _ => rfl, fun j hj => by rw [hg j hj, noR_e, ob_f]⟩
    rw [F_X2_findSayable_25, if_pos (by decide)]
  | succ d ih =>
    intro k f g A hk hf hl hg
    obtain ⟨f, rfl⟩ : ∃ f', f = f' + 1 := ⟨f - 1, by omega⟩
    have ic : F_X3_isClause 2 (nI k) (m_wA M A) = some (bI (ccOk l k), m_wA M A) := S_isClauseC (M := m_wA M A) h hl ho (by omega)
    cases q : ccOk l k
    · obtain ⟨A', e, e1, e2⟩ := ih (k + 1) f g A (by omega) (by omega) hl hg
      refine ⟨A', ?_, e1, fun j hj => by rw [e2 j hj, noR_s (k := k) (by omega), q, Bool.false_and, Bool.false_or]⟩
      rw [F_X2_findSayable_25, if_neg (show ¬ (400 : Int32) ≤ nI k from nI_ge (b := 400) (by omega) (by omega))]
      refine m_let_e ?_
      intro K1 hK1
      rw [x_gN_ok (K67 _) (R5 _), x_cV_ok (K2 _) ic, q, if_pos (by decide), hK1]
      dsimp only
      rw [m_let_eq, nI_1, e]
    · obtain ⟨A1, a0, a1, a2⟩ := S_note h ho hv q hl hg
      obtain ⟨A', e, e1, e2⟩ := ih (k + 1) f _ A1 (by omega) (by omega) (hl.cong (fun a _ ha => by rw [a1 a (by omega)])) a2
      refine ⟨A', ?_, fun a ha => by rw [e1 a ha, a1 a ha], fun j hj => by rw [e2 j hj, ob_ob, noR_s (k := k) (by omega), q, Bool.true_and]⟩
      rw [F_X2_findSayable_25, if_neg (show ¬ (400 : Int32) ≤ nI k from nI_ge (b := 400) (by omega) (by omega))]
      refine m_let_e ?_
      intro K1 hK1
      rw [x_gN_ok (K67 _) (R5 _), x_cV_ok (K2 _) ic, q, if_neg (by decide), x_cV_ok (K67 _) a0, hK1]
      dsimp only
      rw [m_let_eq, nI_1, e]
theorem sayN_s {l : Ld} {n j : Nat} : sayN l (n + 1) j = ob n (decide (j / 4 < lH l 1 ∧ j % 4 < lH l 0) && sayB l (j / 4) (j % 4) n) (sayN l n j) := by
  unfold sayN ob
  by_cases q : j / 4 < lH l 1 ∧ j % 4 < lH l 0
  · rw [if_pos q, if_pos q, decide_eq_true q, Bool.true_and]
    rfl
  · rw [if_neg q, if_neg q, decide_eq_false q, Bool.false_and, if_neg (by decide)]
theorem S_fs10 (h : G M) (ho : lOk l) : ∀ (d k f : Nat) (A : IA), k + d = lH l 3 → d < f → LCi l A → (∀ j, j < 20 → A 68 j = nI (sayN l k j)) →
    ∃ A', F_X2_findSayable_10 f 67 (nI k) (m_wA M A) = some ((), m_wA M A') ∧ (∀ a, a ≠ 68 → A' a = A a) ∧ ∀ j, j < 20 → A' 68 j = nI (sayN l (lH l 3) j) := by
  have hv := ho.2.2.2.1
  have K67 : ∀ A, m_K (m_wA M A) 67 = 2 := fun A => by simp only [wA_K, gK h]
  have R5 : ∀ A, m_R (m_wA M A) 67 5 = some 2 := fun A => by simp only [wA_R, gR h]
  have K2 : ∀ A, m_K (m_wA M A) 2 = 3 := fun A => by simp only [wA_K, gK h]
  have R6 : ∀ A, m_R (m_wA M A) 2 6 = some 3 := fun A => by simp only [wA_R, gR h]
  have K3 : ∀ A, m_K (m_wA M A) 3 = 12 := fun A => by simp only [wA_K, gK h]
  have L3 : ∀ A, m_len (m_wA M A) 3 = 4 := fun A => by simp only [wA_n, gl h]
  intro d
  induction d with
  | zero =>
    intro k f A hk hf hl hg
    obtain ⟨f, rfl⟩ : ∃ f', f = f' + 1 := ⟨f - 1, by omega⟩
    obtain rfl : k = lH l 3 := by omega
    refine ⟨A, ?_, fun _ _ => rfl, hg⟩
    rw [F_X2_findSayable_10, x_gN_ok (K67 _) (R5 _), x_gN_ok (K2 _) (R6 _), aI_lit (x := (2 : Int32)) (n := 2) (K3 _) (by rw [L3]; omega) rfl (by omega), wA_I, hl.2.1.2.2.1, if_pos (nI_le (Nat.le_refl _) (by omega))]
  | succ d ih =>
    intro k f A hk hf hl hg
    obtain ⟨f, rfl⟩ : ∃ f', f = f' + 1 := ⟨f - 1, by omega⟩
    rw [F_X2_findSayable_10, x_gN_ok (K67 _) (R5 _), x_gN_ok (K2 _) (R6 _), aI_lit (x := (2 : Int32)) (n := 2) (K3 _) (by rw [L3]; omega) rfl (by omega), wA_I, hl.2.1.2.2.1, if_neg (nI_ge (by omega) (by omega))]
    refine m_let_P (fun o => ∃ A', o = some ((), m_wA M A') ∧ (∀ a, a ≠ 68 → A' a = A a) ∧ ∀ j, j < 20 → A' 68 j = nI (sayN l (lH l 3) j)) ?_
    intro K1 hK1
    obtain ⟨A1, a0, a1, a2⟩ := S_fs25 h ho (v := k) (by omega) (K := K1) 400 0 m_FU _ A (by omega) (m_FU_lt (by omega)) hl hg
    have a0' : F_X2_findSayable_25 K1 m_FU 67 (nI k) (0 : Int32) (m_wA M A) = _ := a0
    obtain ⟨A', e, e1, e2⟩ := ih (k + 1) f A1 (by omega) (by omega) (hl.cong (fun a _ ha => by rw [a1 a (by omega)])) (fun j hj => by rw [a2 j hj, noR_0, say_eq ho, sayN_s])
    refine ⟨A', ?_, fun a ha => by rw [e1 a ha, a1 a ha], e2⟩
    rw [a0', hK1]
    dsimp only
    rw [m_let_eq, nI_1]
    exact e
theorem S_findSayable (h : G M) (ho : lOk l) {A : IA} (hl : LCi l A) : ∃ A', F_X2_findSayable 67 (m_wA M A) = some ((), m_wA M A') ∧ (∀ a, a ≠ 68 → A' a = A a) ∧ ∀ j, j < 20 → A' 68 j = nI (sayN l (lH l 3) j) := by
  obtain ⟨R4, K68, L68⟩ := fin_cells2 (M := m_wA M A) h
  have K67 : m_K (m_wA M A) 67 = 2 := by simp only [wA_K, gK h]
  have hf : F_J7_fill_53178 68 (0 : Int32) (m_wA M A) = some ((), m_wI (m_wA M A) 68 (fun j => if j < 20 then (0 : Int32) else m_I (m_wA M A) 68 j)) := S_fillI (N := 20) (by omega) 0 K68 L68
  have hA : ∀ A2 : IA, A2 = (fun b j => if b = 68 then (if j < 20 then (0 : Int32) else A 68 j) else A b j) → m_wI (m_wA M A) 68 (fun j => if j < 20 then (0 : Int32) else m_I (m_wA M A) 68 j) = m_wA M A2 := fun _ e => by rw [e]; rfl
  rw [hA _ rfl] at hf
  obtain ⟨A', e, e1, e2⟩ := S_fs10 h ho (lH l 3) 0 m_FU (fun b j => if b = 68 then (if j < 20 then (0 : Int32) else A 68 j) else A b j) (by omega) (m_FU_lt (by have := ho.2.2.2.1; omega)) (hl.cong (fun a _ ha => by funext j; rw [if_neg (by omega)])) (fun j hj => by
    rw [if_pos rfl, if_pos hj]
    unfold sayN
    split <;> rfl)
  have e' : F_X2_findSayable_10 m_FU 67 (0 : Int32) _ = _ := e
  refine ⟨A', ?_, fun a ha => by rw [e1 a ha]; funext j; rw [if_neg ha], e2⟩
  unfold F_X2_findSayable
  rw [x_gN_ok K67 R4, x_bd_ok hf, e']
end FSAY
