/-! what both sides ask of a land and of numbers -/
def vOf (l : Ld) (day : Nat) : Option Nat := if lH l 3 = 0 then none else if lH l 5 = 0 then some (day % lH l 3) else lD l (day % lH l 5)
theorem vOf_in {l : Ld} (ho : lOk l) (day : Nat) : vIn l (vOf l day) := by
  intro k hk
  unfold vOf at hk
  split at hk
  · exact absurd hk (by simp)
  split at hk
  · rw [← Option.some.inj hk]; exact Nat.mod_lt _ (by omega)
  · exact ho.2.2.2.2.2.2.2.2.2.1 _ _ hk
theorem bI_t : bI true = nI 1 := rfl
theorem bI_f : bI false = nI 0 := rfl
section RDRS
variable {M : m_M} {l : Ld}
theorem S_verbOfC (h : G M) (hl : LCi l (m_I M)) (ho : lOk l) {day : Nat} (hd : day < 2147483648) : F_X3_verbOf 2 (nI day) M = some (iO (vOf l day), M) := by
  have b4 := ho.2.2.2.1
  have b6 := ho.2.2.2.2.2.1
  obtain ⟨⟨_, _, p2, _⟩, ⟨_, _, t2, _⟩, _, hw, _⟩ := hl
  have K2 : m_K M 2 = 3 := by simp only [gK h]
  have K3 : m_K M 3 = 12 := by simp only [gK h]
  have K5 : m_K M 5 = 12 := by simp only [gK h]
  have R6 : m_R M 2 6 = some 3 := by simp only [gR h]
  have R8 : m_R M 2 8 = some 5 := by simp only [gR h]
  have L3 : m_len M 3 = 4 := by simp only [gl h]
  have L5 : m_len M 5 = 7 := by simp only [gl h]
  unfold F_X3_verbOf
  rw [if_pos (nI_pos' hd), x_gI_ok K2, p2]
  by_cases h5 : lH l 5 = 0
  · rw [h5, if_pos (by decide), x_gN_ok K2 R6, show (2 : Int32) = nI 2 from rfl, x_aI_ok K3 (by rw [L3]; omega) (by omega), t2]
    by_cases h3 : lH l 3 = 0
    · rw [h3, if_pos (by decide)]
      unfold vOf
      rw [if_pos h3]
      rfl
    · rw [if_neg (nI_nle (by omega) (by omega)), x_gN_ok K2 R6, x_aI_ok K3 (by rw [L3]; omega) (by omega), t2, x_nz_eq, if_neg (nI_ne0 (by omega) (by omega)), i32_rem hd (by omega)]
      unfold vOf
      rw [if_neg h3, if_pos h5]
      rfl
  · have hm : day % lH l 5 < lH l 5 := Nat.mod_lt _ (by omega)
    rw [if_neg (nI_nle (by omega) (by omega)), x_gN_ok K2 R8, x_gI_ok K2, p2, x_nz_eq, if_neg (nI_ne0 (by omega) (by omega)), i32_rem hd (by omega), x_aI_ok K5 (by rw [L5]; omega) (by omega), hw _ hm]
    unfold vOf
    by_cases h3 : lH l 3 = 0
    · rw [if_pos h3]
      cases hq : lD l (day % lH l 5) with
      | none => rfl
      | some v => exact absurd (ho.2.2.2.2.2.2.2.2.2.1 _ _ hq) (by omega)
    · rw [if_neg h3, if_neg h5]
theorem S_verbOfM (h : G M) (hl : LMi l (m_I M)) (ho : lOk l) {day : Nat} (hd : day < 2147483648) : F_X12_verbOf 128 (nI day) M = some (iO (vOf l day), M) := by
  have b4 := ho.2.2.2.1
  have b6 := ho.2.2.2.2.2.1
  have t3 := hl.1 3 (by omega)
  have t5 := hl.1 5 (by omega)
  have hw := hl.2.2.1
  have K0 : m_K M 128 = 10 := by simp only [gK h]
  have K1 : m_K M 130 = 12 := by simp only [gK h]
  have K6 : m_K M 136 = 12 := by simp only [gK h]
  have R1 : m_R M 128 10 = some 130 := by simp only [gR h]
  have R6 : m_R M 128 16 = some 136 := by simp only [gR h]
  have L1 : m_len M 130 = 16 := by simp only [gl h]
  have L6 : m_len M 136 = 14 := by simp only [gl h]
  unfold F_X12_verbOf
  rw [x_gN_ok K0 R1, show (3 : Int32) = nI 3 from rfl, x_aI_ok K1 (by rw [L1]; omega) (by omega), t3]
  unfold vOf
  by_cases h3 : lH l 3 = 0
  · rw [h3, if_pos (by decide), if_pos rfl]; rfl
  rw [if_neg (nI_ne0 (by omega) (by omega)), if_neg h3, x_gN_ok K0 R1, show (5 : Int32) = nI 5 from rfl, x_aI_ok K1 (by rw [L1]; omega) (by omega), t5]
  by_cases h5 : lH l 5 = 0
  · rw [h5, if_pos (by decide), if_pos rfl, x_gN_ok K0 R1, x_aI_ok K1 (by rw [L1]; omega) (by omega), t3, x_nz_eq, if_neg (nI_ne0 (by omega) (by omega)), i32_rem hd (by omega)]
    rfl
  · have hm : day % lH l 5 < lH l 5 := Nat.mod_lt _ (by omega)
    rw [if_neg (nI_nle (by omega) (by omega)), if_neg h5, x_gN_ok K0 R6, x_gN_ok K0 R1, x_aI_ok K1 (by rw [L1]; omega) (by omega), t5, x_nz_eq, if_neg (nI_ne0 (by omega) (by omega)), i32_rem hd (by omega), x_aI_ok K6 (by rw [L6]; omega) (by omega), hw _ hm]
theorem dec_b {p : Prop} [Decidable p] : bI (decide p) = if p then nI 1 else nI 0 := by
  by_cases h : p
  · rw [decide_eq_true h, if_pos h]; rfl
  · rw [decide_eq_false h, if_neg h]; rfl
theorem S_isWorldC (h : G M) (hl : LCi l (m_I M)) (hn : wN l ≤ 1024) {k : Nat} (hk : k < 2147483648) : F_X3_isWorld 2 (nI k) M = some (bI (decide (k < wN l)), M) := by
  have p3 := hl.1.2.2.2.1
  have K2 : m_K M 2 = 3 := by simp only [gK h]
  unfold F_X3_isWorld
  rw [m_let_eq, if_neg (nI_pos hk), x_gI_ok K2, p3, dec_b]
  by_cases q : k < wN l
  · rw [if_neg (nI_ge q (by omega)), if_pos q]; rfl
  · rw [if_pos (nI_le (by omega) hk), if_neg q]; rfl
theorem S_isWorldM (h : G M) (hl : LMi l (m_I M)) (hn : wN l ≤ 1024) {k : Nat} (hk : k < 2147483648) : F_X12_isWorld 128 (nI k) M = some (bI (decide (k < wN l)), M) := by
  have p3 := hl.2.2.2.2.2.1
  have K2 : m_K M 128 = 10 := by simp only [gK h]
  unfold F_X12_isWorld
  rw [m_let_eq, if_neg (nI_pos hk), x_gI_ok K2, p3, dec_b]
  by_cases q : k < wN l
  · rw [if_neg (nI_ge q (by omega)), if_pos q]; rfl
  · rw [if_pos (nI_le (by omega) hk), if_neg q]; rfl
theorem S_isWorldC_neg {x : Int32} (hx : x < 0) : F_X3_isWorld 2 x M = some (nI 0, M) := by
  unfold F_X3_isWorld; rw [m_let_eq, if_pos hx]; rfl
theorem S_isWorldM_neg {x : Int32} (hx : x < 0) : F_X12_isWorld 128 x M = some (nI 0, M) := by
  unfold F_X12_isWorld; rw [m_let_eq, if_pos hx]; rfl
theorem S_isThingC (h : G M) (hl : LCi l (m_I M)) (ho : lOk l) {k : Nat} (hk : k < 2147483648) : F_X3_isThing 2 (nI k) M = some (bI (decide (k < lH l 1)), M) := by
  have b1 := ho.2.1
  have t0 := hl.2.1.1
  have K2 : m_K M 2 = 3 := by simp only [gK h]
  have K3 : m_K M 3 = 12 := by simp only [gK h]
  have R6 : m_R M 2 6 = some 3 := by simp only [gR h]
  have L3 : m_len M 3 = 4 := by simp only [gl h]
  unfold F_X3_isThing
  rw [m_let_eq, if_neg (nI_pos hk), x_gN_ok K2 R6, show (0 : Int32) = nI 0 from rfl, x_aI_ok K3 (by rw [L3]; omega) (by omega), t0, dec_b]
  by_cases q : k < lH l 1
  · rw [if_neg (nI_ge q (by omega)), if_pos q]; rfl
  · rw [if_pos (nI_le (by omega) hk), if_neg q]
theorem S_isThingC_neg {x : Int32} (hx : x < 0) : F_X3_isThing 2 x M = some (nI 0, M) := by
  unfold F_X3_isThing; rw [m_let_eq, if_pos hx]; rfl
theorem S_isPlaceC (h : G M) (hl : LCi l (m_I M)) (ho : lOk l) {k : Nat} (hk : k < 2147483648) : F_X3_isPlace 2 (nI k) M = some (bI (decide (k < lH l 0)), M) := by
  have b1 := ho.1
  have t0 := hl.1.1
  have K2 : m_K M 2 = 3 := by simp only [gK h]
  unfold F_X3_isPlace
  rw [m_let_eq, if_neg (nI_pos hk), x_gI_ok K2, t0, dec_b]
  by_cases q : k < lH l 0
  · rw [if_neg (nI_ge q (by omega)), if_pos q]; rfl
  · rw [if_pos (nI_le (by omega) hk), if_neg q]; rfl
theorem S_isPlaceC_neg {x : Int32} (hx : x < 0) : F_X3_isPlace 2 x M = some (nI 0, M) := by
  unfold F_X3_isPlace; rw [m_let_eq, if_pos hx]; rfl
/-- a clause by number that is there -/
def ccOk (l : Ld) (c : Nat) : Bool := decide (c < 400) && (decide (c / 20 / 4 < lH l 1) && decide (c / 20 % 4 ≤ lH l 2)) && (decide (c % 20 / 4 < lH l 1) && decide (c % 20 % 4 ≤ lH l 2))
theorem ccOk_iff {c : Nat} : ccOk l c = true ↔ c < 400 ∧ ncOk l (c / 20) ∧ ncOk l (c % 20) := by
  unfold ccOk ncOk
  simp [and_assoc]
theorem S_isClauseC (h : G M) (hl : LCi l (m_I M)) (ho : lOk l) {c : Nat} (hk : c < 2147483648) : F_X3_isClause 2 (nI c) M = some (bI (ccOk l c), M) := by
  have K2 : m_K M 2 = 3 := by simp only [gK h]
  unfold F_X3_isClause
  rw [m_let_eq, if_neg (nI_pos hk)]
  by_cases q : c < 400
  · have nn : ∀ x, x < 2048 → ¬ nI x = (-1 : Int32) := fun x hx e => by have := nat_no (n := x) (by omega); rw [eq_true (show nI x = NO from e)] at this; simp at this
    rw [if_neg (show ¬ (400 : Int32) ≤ nI c from nI_ge (b := 400) q (by omega)), x_nz_eq, if_neg (by decide), show nI c / (20 : Int32) = nI (c / 20) from i32_div (b := 20) (by omega) (by omega)]
    obtain ⟨q1, e1⟩ | ⟨q1, x1, e1, n1⟩ := S_nounOf h hl ho (c := c / 20) (by omega)
    · rw [x_cV_ok K2 e1, if_pos (show NO = (-1 : Int32) from rfl), show ccOk l c = false from by
        cases hc : ccOk l c
        · rfl
        · exact absurd (ccOk_iff.mp hc).2.1 q1]
      rfl
    · rw [x_cV_ok K2 e1, if_neg (nn _ n1.1), x_nz_eq, if_neg (by decide), show nI c - nI (c / 20) * (20 : Int32) = nI (c % 20) from by rw [show (20 : Int32) = nI 20 from rfl, nI_mul, i32_rem2]]
      obtain ⟨q2, e2⟩ | ⟨q2, x2, e2, n2⟩ := S_nounOf h hl ho (c := c % 20) (by omega)
      · rw [x_cV_ok K2 e2, if_pos (show NO = (-1 : Int32) from rfl), show ccOk l c = false from by
          cases hc : ccOk l c
          · rfl
          · exact absurd (ccOk_iff.mp hc).2.2 q2]
        rfl
      · rw [x_cV_ok K2 e2, if_neg (nn _ n2.1), ccOk_iff.mpr ⟨q, q1, q2⟩]
        rfl
  · rw [if_pos (show (400 : Int32) ≤ nI c from nI_le (a := 400) (by omega) hk), show ccOk l c = false from by
      cases hc : ccOk l c
      · rfl
      · exact absurd (ccOk_iff.mp hc).1 q]
    rfl
theorem S_isClauseC_neg {x : Int32} (hx : x < 0) : F_X3_isClause 2 x M = some (nI 0, M) := by
  unfold F_X3_isClause; rw [m_let_eq, if_pos hx]; rfl
theorem S_isNounM (h : G M) (hl : LMi l (m_I M)) (ho : lOk l) {c : Nat} (hc : c < 20) : F_X12_isNoun 128 (nI c) M = some (bI (decide (c / 4 < lH l 1) && decide (c % 4 ≤ lH l 2)), M) := by
  have b1 := ho.2.1
  have b2 := ho.2.2.1
  have t1 := hl.1 1 (by omega)
  have t2 := hl.1 2 (by omega)
  have K0 : m_K M 128 = 10 := by simp only [gK h]
  have K1 : m_K M 130 = 12 := by simp only [gK h]
  have R1 : m_R M 128 10 = some 130 := by simp only [gR h]
  have L1 : m_len M 130 = 16 := by simp only [gl h]
  unfold F_X12_isNoun
  rw [m_let_eq, x_nz_eq, if_neg (by decide), x_gN_ok K0 R1, show (1 : Int32) = nI 1 from rfl, x_aI_ok K1 (by rw [L1]; omega) (by omega), t1, show nI c / (4 : Int32) = nI (c / 4) from i32_div (b := 4) (by omega) (by omega), show nI c - nI (c / 4) * (4 : Int32) = nI (c % 4) from by rw [show (4 : Int32) = nI 4 from rfl, nI_mul, i32_rem2]]
  by_cases q : c / 4 < lH l 1
  · rw [if_neg (nI_ge q (by omega)), x_nz_eq, if_neg (by decide), x_gN_ok K0 R1, show (2 : Int32) = nI 2 from rfl, x_aI_ok K1 (by rw [L1]; omega) (by omega), t2, decide_eq_true q]
    by_cases q2 : c % 4 ≤ lH l 2
    · rw [if_neg (nI_nlt q2 (by omega)), decide_eq_true q2]; rfl
    · rw [if_pos (nI_lt (by omega) (by omega)), decide_eq_false q2]; rfl
  · rw [if_pos (nI_le (by omega) (by omega)), decide_eq_false q]; rfl
theorem S_isClauseM (h : G M) (hl : LMi l (m_I M)) (ho : lOk l) {c : Nat} (hk : c < 2147483648) : F_X12_isClause 128 (nI c) M = some (bI (ccOk l c), M) := by
  have K0 : m_K M 128 = 10 := by simp only [gK h]
  unfold F_X12_isClause ccOk
  rw [m_let_eq, if_neg (nI_pos hk)]
  by_cases q : c < 400
  · rw [if_neg (show ¬ (400 : Int32) ≤ nI c from nI_ge (b := 400) q (by omega)), x_nz_eq, if_neg (by decide), show nI c / (20 : Int32) = nI (c / 20) from i32_div (b := 20) (by omega) (by omega), x_cV_ok K0 (S_isNounM h hl ho (by omega)), show nI c - nI (c / 20) * (20 : Int32) = nI (c % 20) from by rw [show (20 : Int32) = nI 20 from rfl, nI_mul, i32_rem2], decide_eq_true q]
    generalize (decide (c / 20 / 4 < lH l 1) && decide (c / 20 % 4 ≤ lH l 2)) = b1
    cases b1
    · rfl
    · rw [if_neg (by decide), x_nz_eq, if_neg (by decide), x_cV_ok K0 (S_isNounM h hl ho (by omega))]
      generalize (decide (c % 20 / 4 < lH l 1) && decide (c % 20 % 4 ≤ lH l 2)) = b2
      cases b2 <;> rfl
  · rw [if_pos (show (400 : Int32) ≤ nI c from nI_le (a := 400) (by omega) hk), decide_eq_false q]
    rfl
theorem S_isClauseM_neg {x : Int32} (hx : x < 0) : F_X12_isClause 128 x M = some (nI 0, M) := by
  unfold F_X12_isClause; rw [m_let_eq, if_pos hx]; rfl
theorem S_partOf {c : Nat} (hc : c < 20) : F_X12_partOf (nI c) M = some (nI (partN c), M) := by
  unfold F_X12_partOf partN
  rw [x_nz_eq, if_neg (by decide), x_nz_eq, if_neg (by decide), show nI c / (4 : Int32) = nI (c / 4) from i32_div (b := 4) (by omega) (by omega), show nI c - nI (c / 4) * (4 : Int32) = nI (c % 4) from by rw [show (4 : Int32) = nI 4 from rfl, nI_mul, i32_rem2], show (8 : Int32) = nI 8 from rfl, nI_mul, nI_add]
theorem x_b_bI {b : Bool} {β : Type} {f : Option β} : x_b (bI b) f = f := by cases b <;> rfl
/-- what a clause by number means by a verb -/
def cby (l : Ld) (v : Option Nat) (c w : Nat) : Bool := hby l v (partN (c / 20)) (partN (c % 20)) w
theorem S_clauseHoldsM {A : IA} (h : G M) (hl : LMi l A) (ho : lOk l) {c w : Nat} {v : Option Nat} (hv : vIn l v) (hc : ccOk l c = true) (hw : Wh l w A) : ∃ B, F_X12_clauseHolds 128 (nI c) (iO v) (m_wA M A) = some (bI (cby l v c w), m_wA M B) ∧ ∀ b, (b < 143 ∨ 152 < b) → B b = A b := by
  obtain ⟨q, q1, q2⟩ := ccOk_iff.mp hc
  have K0 : m_K (m_wA M A) 128 = 10 := by simp only [wA_K, gK h]
  obtain ⟨B, hB, hf⟩ := S_holdsBy h hl ho hv (nOk_of ho q1) (nOk_of ho q2) hw
  refine ⟨B, ?_, hf⟩
  unfold F_X12_clauseHolds
  rw [x_nz_eq, if_neg (by decide), show nI c / (20 : Int32) = nI (c / 20) from i32_div (b := 20) (by omega) (by omega), x_bd_ok (S_partOf (by omega)), x_nz_eq, if_neg (by decide), show nI c - nI (c / 20) * (20 : Int32) = nI (c % 20) from by rw [show (20 : Int32) = nI 20 from rfl, nI_mul, i32_rem2], x_bd_ok (S_partOf (by omega)), x_cV_ok K0 hB, x_b_bI]
  rfl
theorem S_isThingAt (h : G M) (hl : LMi l (m_I M)) (ho : lOk l) {t k : Nat} (ht : t < 2147483648) (hk : k < 2147483648) : F_X12_isThingAt 128 (nI t) (nI k) M = some (bI (decide (t < lH l 1) && decide (k < lH l 0)), M) := by
  have b1 := ho.2.1
  have b2 := ho.1
  have t1 := hl.1 1 (by omega)
  have t2 := hl.1 0 (by omega)
  have K0 : m_K M 128 = 10 := by simp only [gK h]
  have K1 : m_K M 130 = 12 := by simp only [gK h]
  have R1 : m_R M 128 10 = some 130 := by simp only [gR h]
  have L1 : m_len M 130 = 16 := by simp only [gl h]
  unfold F_X12_isThingAt
  rw [m_let_eq, if_neg (nI_pos ht), x_gN_ok K0 R1, show (1 : Int32) = nI 1 from rfl, x_aI_ok K1 (by rw [L1]; omega) (by omega), t1]
  by_cases q : t < lH l 1
  · rw [if_neg (nI_ge q (by omega)), if_neg (nI_pos hk), x_gN_ok K0 R1, show (0 : Int32) = nI 0 from rfl, x_aI_ok K1 (by rw [L1]; omega) (by omega), t2, decide_eq_true q]
    by_cases q2 : k < lH l 0
    · rw [if_neg (nI_ge q2 (by omega)), decide_eq_true q2]; rfl
    · rw [if_pos (nI_le (by omega) hk), decide_eq_false q2]; rfl
  · rw [if_pos (nI_le (by omega) ht), decide_eq_false q]; rfl
end RDRS
