/-! a land settled: the class's worlds -/
section CWORLD
variable {M M' : m_M} {A : IA} {B : Nat → Nat → Int64} {l : Ld}
theorem nI_dec (c : Nat) : nI c + (-1 : Int32) = nI c - (1 : Int32) := by rw [Int32.sub_eq_add_neg]
def spX (t a i : Nat) : Nat := (t * 4 + a) * 16 + i
def oneW (w : Nat) : Int64 := (1 : Int64) <<< ((nI (w % 64)).toInt64 &&& 63)
theorem S_sw79 (h : G M) (h0 : A 2 0 = nI (lH l 0)) (ho : lOk l) {K : Nat → Int32 → m_M → Option (Unit × m_M)} {f w d c : Nat} (hc : c < 5) (hw : w < 1024) (hd : d ≤ w) : F_X3_settleWorlds_79 K (f + 1) 2 (nI w) (nI d) (nI c) (m_w2 M A B) = F_X3_settleWorlds_79 K f 2 (nI w) (nI (d / lH l 0)) (nI c - (1 : Int32)) (m_w2 M A (upB B 13 (spX c (d % lH l 0) (w / 64)) (B 13 (spX c (d % lH l 0) (w / 64)) ||| oneW w))) := by
  have b0 := ho.1
  have K2 : ∀ A B, m_K (m_w2 M A B) 2 = 3 := fun A B => by simp only [w2_K, gK h]
  have K13 : ∀ A B, m_K (m_w2 M A B) 13 = 13 := fun A B => by simp only [w2_K, gK h]
  have L13 : ∀ A B, m_len (m_w2 M A B) 13 = 320 := fun A B => by simp only [w2_n, gl h]
  have R16 : ∀ A B, m_R (m_w2 M A B) 2 16 = some 13 := fun A B => by simp only [w2_R, gR h]
  have e2 : nI d - nI d / nI (lH l 0) * nI (lH l 0) = nI (d % lH l 0) := by rw [i32_div (by omega) (by omega), nI_mul, i32_rem2]
  have e64 : nI w / nI 64 = nI (w / 64) := i32_div (by omega) (by omega)
  have e65 : nI w - nI (w / 64) * nI 64 = nI (w % 64) := by rw [nI_mul, i32_rem2]
  have ml : d % lH l 0 < lH l 0 := Nat.mod_lt _ (by omega)
  rw [F_X3_settleWorlds_79, if_neg (nI_pos (by omega))]
  refine m_let_e ?_
  intro k100 h100
  rw [x_gI_ok (K2 _ _), w2_I, h0, if_neg (fun z => by have := (nI_le0 (by omega)).mp z; omega), x_gI_ok (K2 _ _), w2_I, h0, x_nz_eq, if_neg (nI_ne0 (by omega) (by omega)), e2, h100]
  dsimp only
  refine m_let_e ?_
  intro k119 h119
  rw [x_gI_ok (K2 _ _), w2_I, h0, if_neg (fun z => by have := (nI_le0 (by omega)).mp z; omega), x_gI_ok (K2 _ _), w2_I, h0, x_nz_eq, if_neg (nI_ne0 (by omega) (by omega)), i32_div (by omega) (by omega), h119]
  dsimp only
  have hix : F_X3_spotIndex (nI c) (nI (d % lH l 0)) (nI w / (64 : Int32)) (m_w2 M A B) = some (nI (spX c (d % lH l 0) (w / 64)), m_w2 M A B) := by
    unfold F_X3_spotIndex spX
    rw [show (64 : Int32) = nI 64 from rfl, e64, show (4 : Int32) = nI 4 from rfl, show (16 : Int32) = nI 16 from rfl, nI_mul, nI_add, nI_mul, nI_add]
  have hlt : spX c (d % lH l 0) (w / 64) < 320 := by unfold spX; omega
  rw [x_gN_ok (K2 _ _) (R16 _ _), x_nz_eq, if_neg (by decide), x_bd_ok hix, x_aL_ok (K13 _ _) (by rw [L13]; exact hlt) (by omega), x_nz_eq, if_neg (by decide), show (64 : Int32) = nI 64 from rfl, e64, e65, x_sL_ok (K13 _ _) (by rw [L13]; exact hlt) (by omega), m_let_eq, w2_sL, nI_dec]
  rfl
/-- the rows once worlds below w are in; those of things from c on have w too -/
def spW (l : Ld) (w c : Nat) (B13 : Nat → Int64) : Prop := ∀ t a, t < lH l 1 → a < lH l 0 → Rw (if c ≤ t then w + 1 else w) (fun v => decide (whr l v t = a)) (fun i => B13 (spX t a i))
theorem S_sw79_l (h : G M) (h0 : A 2 0 = nI (lH l 0)) (ho : lOk l) {K : Nat → Int32 → m_M → Option (Unit × m_M)} {w : Nat} (hw : w < wN l) : ∀ (c f : Nat) (B : Nat → Nat → Int64), c ≤ lH l 1 → c < f → spW l w c (B 13) → ∃ B', F_X3_settleWorlds_79 K f 2 (nI w) (nI (w / lH l 0 ^ (lH l 1 - c))) (nI c - (1 : Int32)) (m_w2 M A B) = K 2 (nI w) (m_w2 M A B') ∧ (∀ b, b ≠ 13 → B' b = B b) ∧ spW l w 0 (B' 13) := by
  have b0 := ho.1
  have b1 := ho.2.1
  have bw := wN_le ho
  intro c
  induction c with
  | zero =>
    intro f B hc hf hB
    obtain ⟨f, rfl⟩ : ∃ f', f = f' + 1 := ⟨f - 1, by omega⟩
    exact ⟨B, by rw [F_X3_settleWorlds_79, if_pos (by decide)], fun _ _ => rfl, hB⟩
  | succ c ih =>
    intro f B hc hf hB
    obtain ⟨f, rfl⟩ : ∃ f', f = f' + 1 := ⟨f - 1, by omega⟩
    obtain ⟨d, hd⟩ : ∃ d, d = w / lH l 0 ^ (lH l 1 - (c + 1)) := ⟨_, rfl⟩
    have hdw : d ≤ w := by rw [hd]; exact Nat.div_le_self _ _
    have hpl : d % lH l 0 = whr l w c := by unfold whr; rw [hd, show lH l 1 - (c + 1) = lH l 1 - 1 - c by omega]
    have hnx : d / lH l 0 = w / lH l 0 ^ (lH l 1 - c) := by rw [hd, Nat.div_div_eq_div_mul, ← Nat.pow_succ, show (lH l 1 - (c + 1)).succ = lH l 1 - c by omega]
    have hlt := whr_lt ho w c
    obtain ⟨B', e1, e2, e3⟩ := ih f (upB B 13 (spX c (d % lH l 0) (w / 64)) (B 13 (spX c (d % lH l 0) (w / 64)) ||| oneW w)) (by omega) (by omega) (by
      intro t a ht ha
      have hr := hB t a ht ha
      by_cases z : t = c
      · rw [if_neg (by omega)] at hr
        rw [if_pos (by omega)]
        have := Rw.set hr (show w < wN l from hw) bw (decide (whr l w t = a))
        intro k hk i hi
        have e4 : (fun i => upB B 13 (spX c (d % lH l 0) (w / 64)) (B 13 (spX c (d % lH l 0) (w / 64)) ||| oneW w) 13 (spX t a i)) k = (fun k => if k = w / 64 ∧ decide (whr l w t = a) = true then B 13 (spX t a k) ||| ((1 : Int64) <<< ((nI (w % 64)).toInt64 &&& 63)) else B 13 (spX t a k)) k := by
          show (if 13 = 13 ∧ spX t a k = spX c (d % lH l 0) (w / 64) then _ else _) = _
          rw [hpl]
          by_cases y : k = w / 64 ∧ whr l w t = a
          · rw [if_pos ⟨rfl, by rw [y.1, ← y.2, z]⟩]
            show _ = if k = w / 64 ∧ decide (whr l w t = a) = true then B 13 (spX t a k) ||| ((1 : Int64) <<< ((nI (w % 64)).toInt64 &&& 63)) else B 13 (spX t a k)
            rw [if_pos ⟨y.1, decide_eq_true y.2⟩, ← z, y.2, ← y.1]
            rfl
          · have hn : ¬ (13 = 13 ∧ spX t a k = spX c (whr l w c) (w / 64)) := fun x => y (by
              have x2 := x.2
              unfold spX at x2
              rw [z]
              constructor <;> omega)
            rw [if_neg hn]
            show _ = if k = w / 64 ∧ decide (whr l w t = a) = true then B 13 (spX t a k) ||| ((1 : Int64) <<< ((nI (w % 64)).toInt64 &&& 63)) else B 13 (spX t a k)
            rw [if_neg (fun x => y ⟨x.1, of_decide_eq_true x.2⟩)]
        rw [e4]
        have h5 := this k hk i hi
        rw [h5]
        congr 1
        dsimp only
        by_cases u : 64 * k + i = w
        · rw [if_pos u, u]
        · rw [if_neg u]
      · have e5 : (if c ≤ t then w + 1 else w) = if c + 1 ≤ t then w + 1 else w := by
          by_cases y : c + 1 ≤ t
          · rw [if_pos y, if_pos (by omega)]
          · rw [if_neg y, if_neg (by omega)]
        rw [e5]
        intro k hk i hi
        have e6 : (fun i => upB B 13 (spX c (d % lH l 0) (w / 64)) (B 13 (spX c (d % lH l 0) (w / 64)) ||| oneW w) 13 (spX t a i)) k = B 13 (spX t a k) := by
          show (if 13 = 13 ∧ spX t a k = spX c (d % lH l 0) (w / 64) then _ else _) = _
          rw [hpl, if_neg (fun x => z (by
            have x2 := x.2
            unfold spX at x2
            omega))]
        rw [e6]
        exact hr k hk i hi)
    refine ⟨B', ?_, fun b hb => by rw [e2 b hb, upB_fr hb], e3⟩
    rw [show nI (c + 1) - (1 : Int32) = nI c from by rw [show (1 : Int32) = nI 1 from rfl, nI_sub' (by omega)]; congr 1, ← hd, S_sw79 h h0 ho (by omega) (by omega) hdw, hnx]
    exact e1
theorem S_sw60_l (h : G M) (h0 : A 2 0 = nI (lH l 0)) (h1 : A 3 0 = nI (lH l 1)) (h3 : A 2 3 = nI (wN l)) (ho : lOk l) : ∀ (d w f : Nat) (B : Nat → Nat → Int64), w + d = wN l → d < f → (∀ t a, t < lH l 1 → a < lH l 0 → Rw w (fun v => decide (whr l v t = a)) (fun i => B 13 (spX t a i))) → ∃ B', F_X3_settleWorlds_60 f 2 (nI w) (m_w2 M A B) = some ((), m_w2 M A B') ∧ (∀ b, b ≠ 13 → B' b = B b) ∧ LCs l (B' 13) := by
  have b1 := ho.2.1
  have bw := wN_le ho
  have K2 : ∀ A B, m_K (m_w2 M A B) 2 = 3 := fun A B => by simp only [w2_K, gK h]
  have K3 : ∀ A B, m_K (m_w2 M A B) 3 = 12 := fun A B => by simp only [w2_K, gK h]
  have L3 : ∀ A B, m_len (m_w2 M A B) 3 = 4 := fun A B => by simp only [w2_n, gl h]
  have R6 : ∀ A B, m_R (m_w2 M A B) 2 6 = some 3 := fun A B => by simp only [w2_R, gR h]
  intro d
  induction d with
  | zero =>
    intro w f B hw hf hB
    obtain ⟨f, rfl⟩ : ∃ f', f = f' + 1 := ⟨f - 1, by omega⟩
    obtain rfl : w = wN l := by omega
    exact ⟨B, by rw [F_X3_settleWorlds_60, x_gI_ok (K2 _ _), w2_I, h3, if_pos (Int32.le_refl _)], fun _ _ => rfl, fun t a ht ha => hB t a ht ha⟩
  | succ d ih =>
    intro w f B hw hf hB
    obtain ⟨f, rfl⟩ : ∃ f', f = f' + 1 := ⟨f - 1, by omega⟩
    rw [F_X3_settleWorlds_60, x_gI_ok (K2 _ _), w2_I, h3, if_neg (nI_ge (by omega) (by omega)), x_gN_ok (K2 _ _) (R6 _ _), show (0 : Int32) = nI 0 from rfl, x_aI_ok (K3 _ _) (by rw [L3]; omega) (by omega), w2_I, h1, m_let_eq]
    refine m_let_P (fun o => ∃ B', o = some ((), m_w2 M A B') ∧ (∀ b, b ≠ 13 → B' b = B b) ∧ LCs l (B' 13)) ?_
    intro k150 h150
    obtain ⟨B1, e1, e2, e3⟩ := S_sw79_l h h0 ho (K := k150) (w := w) (by omega) (lH l 1) m_FU B (Nat.le_refl _) (m_FU_lt (by omega)) (fun t a ht ha => by rw [if_neg (by omega)]; exact hB t a ht ha)
    rw [Nat.sub_self, Nat.pow_zero, Nat.div_one] at e1
    obtain ⟨B2, u1, u2, u3⟩ := ih (w + 1) f B1 (by omega) (by omega) (fun t a ht ha => by
      have := e3 t a ht ha
      rw [if_pos (Nat.zero_le _)] at this
      exact this)
    refine ⟨B2, ?_, fun b hb => by rw [u2 b hb, e2 b hb], u3⟩
    rw [e1, h150]
    dsimp only
    rw [m_let_eq, nI_1]
    exact u1
theorem S_sw7_l (h : G M) (h0 : A 2 0 = nI (lH l 0)) (h1 : A 3 0 = nI (lH l 1)) (ho : lOk l) {K : Nat → m_M → Option (Unit × m_M)} : ∀ (d i f : Nat), i + d = lH l 1 → d < f → F_X3_settleWorlds_7 K f 2 (nI i) (m_w2 M (m_up A 2 3 (nI (lH l 0 ^ i))) B) = K 2 (m_w2 M (m_up A 2 3 (nI (wN l))) B) := by
  have b1 := ho.2.1
  have K2 : ∀ A B, m_K (m_w2 M A B) 2 = 3 := fun A B => by simp only [w2_K, gK h]
  have K3 : ∀ A B, m_K (m_w2 M A B) 3 = 12 := fun A B => by simp only [w2_K, gK h]
  have L3 : ∀ A B, m_len (m_w2 M A B) 3 = 4 := fun A B => by simp only [w2_n, gl h]
  have R6 : ∀ A B, m_R (m_w2 M A B) 2 6 = some 3 := fun A B => by simp only [w2_R, gR h]
  intro d
  induction d with
  | zero =>
    intro i f hi hf
    obtain ⟨f, rfl⟩ : ∃ f', f = f' + 1 := ⟨f - 1, by omega⟩
    obtain rfl : i = lH l 1 := by omega
    rw [F_X3_settleWorlds_7, x_gN_ok (K2 _ _) (R6 _ _), show (0 : Int32) = nI 0 from rfl, x_aI_ok (K3 _ _) (by rw [L3]; omega) (by omega), w2_I, up_fr (by omega), h1, if_pos (Int32.le_refl _)]
    rfl
  | succ d ih =>
    intro i f hi hf
    obtain ⟨f, rfl⟩ : ∃ f', f = f' + 1 := ⟨f - 1, by omega⟩
    rw [F_X3_settleWorlds_7, x_gN_ok (K2 _ _) (R6 _ _), show (0 : Int32) = nI 0 from rfl, x_aI_ok (K3 _ _) (by rw [L3]; omega) (by omega), w2_I, up_fr (by omega), h1, if_neg (nI_ge (by omega) (by omega)), x_gI_ok (K2 _ _), w2_I, up_at, if_pos ⟨rfl, rfl⟩, x_gI_ok (K2 _ _), w2_I, up_at, if_neg (by omega), h0, x_pI_ok (K2 _ _), w2_sI, nI_mul, ← Nat.pow_succ, m_let_eq, nI_1, ← ih (i + 1) f (by omega) (by omega)]
    congr 2
    funext b k
    show (if b = 2 ∧ k = 3 then _ else if b = 2 ∧ k = 3 then _ else A b k) = if b = 2 ∧ k = 3 then _ else A b k
    by_cases z : b = 2 ∧ k = 3
    · rw [if_pos z, if_pos z]
    · rw [if_neg z, if_neg z, if_neg z]
theorem S_settleW (h : G M) (h0 : A 2 0 = nI (lH l 0)) (h1 : A 3 0 = nI (lH l 1)) (ho : lOk l) : ∃ B', F_X3_settleWorlds 2 (m_w2 M A B) = some ((), m_w2 M (m_up (m_up A 2 3 (nI (wN l))) 2 4 (nI ((wN l + 63) / 64))) B') ∧ (∀ b, b ≠ 13 → B' b = B b) ∧ LCs l (B' 13) := by
  have bw := wN_le ho
  have K2 : ∀ A B, m_K (m_w2 M A B) 2 = 3 := fun A B => by simp only [w2_K, gK h]
  have K13 : ∀ A B, m_K (m_w2 M A B) 13 = 13 := fun A B => by simp only [w2_K, gK h]
  have L13 : ∀ A B, m_len (m_w2 M A B) 13 = 320 := fun A B => by simp only [w2_n, gl h]
  have R16 : ∀ A B, m_R (m_w2 M A B) 2 16 = some 13 := fun A B => by simp only [w2_R, gR h]
  unfold F_X3_settleWorlds
  rw [x_pI_ok (K2 _ _), w2_sI]
  refine m_let_P (fun o => ∃ B', o = some ((), m_w2 M (m_up (m_up A 2 3 (nI (wN l))) 2 4 (nI ((wN l + 63) / 64))) B') ∧ (∀ b, b ≠ 13 → B' b = B b) ∧ LCs l (B' 13)) ?_
  intro k36 h36
  have e := S_sw7_l (B := B) h h0 h1 ho (K := k36) (lH l 1) 0 m_FU (by omega) (m_FU_lt (by have := ho.2.1; omega))
  have e' : F_X3_settleWorlds_7 k36 m_FU 2 (0 : Int32) (m_w2 M (m_up A 2 3 (1 : Int32)) B) = _ := e
  rw [e', h36]
  dsimp only
  rw [x_gI_ok (K2 _ _), w2_I, up_at, if_pos ⟨rfl, rfl⟩, x_nz_eq, if_neg (by decide), show (63 : Int32) = nI 63 from rfl, show (64 : Int32) = nI 64 from rfl, nI_add, i32_div (by omega) (by omega), x_pI_ok (K2 _ _), w2_sI, x_gN_ok (K2 _ _) (R16 _ _), x_bd_ok (S_fillL (N := 320) (by omega) 0 (K13 _ _) (L13 _ _))]
  obtain ⟨B1, hB1⟩ : ∃ B1 : Nat → Nat → Int64, B1 = fun b j => if b = 13 then (if j < 320 then 0 else B 13 j) else B b j := ⟨_, rfl⟩
  have eM : m_wL (m_w2 M (m_up (m_up A 2 3 (nI (wN l))) 2 4 (nI ((wN l + 63) / 64))) B) 13 (fun j => if j < 320 then (0 : Int64) else m_L (m_w2 M (m_up (m_up A 2 3 (nI (wN l))) 2 4 (nI ((wN l + 63) / 64))) B) 13 j) = m_w2 M (m_up (m_up A 2 3 (nI (wN l))) 2 4 (nI ((wN l + 63) / 64))) B1 := by rw [hB1]; rfl
  rw [eM]
  obtain ⟨B2, u1, u2, u3⟩ := S_sw60_l (l := l) (A := m_up (m_up A 2 3 (nI (wN l))) 2 4 (nI ((wN l + 63) / 64))) h (by rw [up_at, if_neg (by omega), up_at, if_neg (by omega)]; exact h0) (by rw [up_fr (by omega), up_fr (by omega)]; exact h1) (by rw [up_at, if_neg (by omega), up_at, if_pos ⟨rfl, rfl⟩]) ho (wN l) 0 m_FU B1 (by omega) (m_FU_lt (by omega)) (fun t a ht ha k hk i hi => by
    have hz : spX t a k < 320 := by have := ho.1; have := ho.2.1; unfold spX; omega
    have : B1 13 (spX t a k) = 0 := by
      rw [hB1]
      show (if 13 = 13 then (if spX t a k < 320 then (0 : Int64) else B 13 (spX t a k)) else B 13 (spX t a k)) = 0
      rw [if_pos rfl, if_pos hz]
    show lb (B1 13 (spX t a k)) i = _
    rw [this, lb_0, decide_eq_false (by omega)]
    rfl)
  exact ⟨B2, u1, fun b hb => by
    rw [u2 b hb, hB1]
    funext j
    exact if_neg hb, u3⟩
end CWORLD
