/-! names, nouns bent -/
def fdN (f : Nat → Int64) (n : Nat) (w : Int64) : Option Nat := (List.range n).find? (fun k => decide (f k = w))
section NAMES
variable {M M' : m_M} {l : Ld}
theorem fdN_none {f : Nat → Int64} {n : Nat} {w : Int64} (h : ∀ k, k < n → f k ≠ w) : fdN f n w = none := by
  unfold fdN
  rw [List.find?_eq_none]
  intro x hx
  rw [decide_eq_true_eq]
  exact h x (List.mem_range.mp hx)
theorem fdN_some {f : Nat → Int64} {n k : Nat} {w : Int64} (hk : k < n) (h : f k = w) (h2 : ∀ j, j < k → f j ≠ w) : fdN f n w = some k := by
  unfold fdN
  rw [List.find?_range_eq_some]
  refine ⟨by rw [decide_eq_true_eq]; exact h, List.mem_range.mpr hk, fun j hj => ?_⟩
  rw [Bool.not_eq_true', decide_eq_false_iff_not]
  exact h2 j hj
theorem fdN_lt {f : Nat → Int64} {n k : Nat} {w : Int64} (h : fdN f n w = some k) : k < n ∧ f k = w := by
  unfold fdN at h
  obtain ⟨h1, h2, _⟩ := List.find?_range_eq_some.mp h
  rw [decide_eq_true_eq] at h1
  exact ⟨List.mem_range.mp h2, h1⟩
theorem fdN_cg {f g : Nat → Int64} {n : Nat} {w : Int64} (h : ∀ k, k < n → f k = g k) : fdN f n w = fdN g n w := by
  cases hg : fdN g n w with
  | none =>
    refine fdN_none (fun k hk q => ?_)
    unfold fdN at hg
    have := List.find?_eq_none.mp hg k (List.mem_range.mpr hk)
    rw [decide_eq_true_eq] at this
    exact this (by rw [← h k hk]; exact q)
  | some k =>
    have hg' := hg
    unfold fdN at hg'
    obtain ⟨h1, h2, h3⟩ := List.find?_range_eq_some.mp hg'
    rw [decide_eq_true_eq] at h1
    have hk := List.mem_range.mp h2
    refine fdN_some hk (by rw [h k hk]; exact h1) (fun j hj => ?_)
    have := h3 j hj
    rw [Bool.not_eq_true', decide_eq_false_iff_not] at this
    rw [h j (by omega)]
    exact this
theorem S_find3 {b mc nc kd n : Nat} {w : Int64} (K : m_K M b = 3) (R6 : m_R M b 6 = some mc) (R10 : m_R M b 10 = some nc) (Km : m_K M mc = 12) (Lm : kd < m_len M mc) (Kn : m_K M nc = 13) (Ln : kd * 8 + n ≤ m_len M nc) (hb : kd * 8 + n < 1000) (hm : m_I M mc kd = nI n) : ∀ (d k f : Nat), k + d = n → d < f → (∀ j, j < k → m_L M nc (kd * 8 + j) ≠ w) →
    F_X3_find_3 f b (nI kd) w (nI k) M = some (iO (fdN (fun j => m_L M nc (kd * 8 + j)) n w), M) := by
  intro d
  induction d with
  | zero =>
    intro k f hk hf hn
    obtain ⟨f, rfl⟩ : ∃ f', f = f' + 1 := ⟨f - 1, by omega⟩
    rw [F_X3_find_3, x_gN_ok K R6, x_aI_ok Km Lm (by omega), hm, if_pos (nI_le (by omega) (by omega)), fdN_none (fun j hj => hn j (by omega))]
    rfl
  | succ d ih =>
    intro k f hk hf hn
    obtain ⟨f, rfl⟩ : ∃ f', f = f' + 1 := ⟨f - 1, by omega⟩
    rw [F_X3_find_3, x_gN_ok K R6, x_aI_ok Km Lm (by omega), hm, if_neg (nI_ge (by omega) (by omega)), x_gN_ok K R10, show (8 : Int32) = nI 8 from rfl, nI_mul, nI_add, x_aL_ok Kn (by omega) (by omega)]
    by_cases q : m_L M nc (kd * 8 + k) = w
    · rw [if_pos ((lg_cmp_eq _ _).mpr q), fdN_some (f := fun j => m_L M nc (kd * 8 + j)) (k := k) (by omega) q hn]
      rfl
    · rw [if_neg (fun z => q ((lg_cmp_eq _ _).mp z)), m_let_eq, nI_1]
      refine ih (k + 1) f (by omega) (by omega) (fun j hj => ?_)
      by_cases z : j = k
      · rw [z]; exact q
      · exact hn j (by omega)
theorem S_thingNm2 (h : G M) {r n : Nat} {w : Int64} (hr : r < 2) (hn : n ≤ 5) (hm : m_I M 130 (8 * r + 1) = nI n) (hw : m_L M 128 7 = w) : ∀ (d k f : Nat), k + d = n → d < f → (∀ j, j < k → m_L M 131 (5 * r + j) ≠ w) →
    F_X12_thingNamed_2 f 128 (nI r) (nI k) M = some (iO (fdN (fun j => m_L M 131 (5 * r + j)) n w), M) := by
  have K : m_K M 128 = 10 := by simp only [gK h]
  have R10 : m_R M 128 10 = some 130 := by simp only [gR h]
  have R11 : m_R M 128 11 = some 131 := by simp only [gR h]
  have Ka : m_K M 130 = 12 := by simp only [gK h]
  have La : m_len M 130 = 16 := by simp only [gl h]
  have Kb : m_K M 131 = 13 := by simp only [gK h]
  have Lb : m_len M 131 = 10 := by simp only [gl h]
  intro d
  induction d with
  | zero =>
    intro k f hk hf hn
    obtain ⟨f, rfl⟩ : ∃ f', f = f' + 1 := ⟨f - 1, by omega⟩
    rw [F_X12_thingNamed_2, x_gN_ok K R10, show (8 : Int32) = nI 8 from rfl, nI_mul, nI_1, x_aI_ok Ka (by rw [La]; omega) (by omega), hm, if_pos (nI_le (by omega) (by omega)), fdN_none (fun j hj => hn j (by omega))]
    rfl
  | succ d ih =>
    intro k f hk hf hn
    obtain ⟨f, rfl⟩ : ∃ f', f = f' + 1 := ⟨f - 1, by omega⟩
    rw [F_X12_thingNamed_2, x_gN_ok K R10, show (8 : Int32) = nI 8 from rfl, nI_mul, nI_1, x_aI_ok Ka (by rw [La]; omega) (by omega), hm, if_neg (nI_ge (by omega) (by omega)), x_gN_ok K R11, show (5 : Int32) = nI 5 from rfl, nI_mul, nI_add, x_aL_ok Kb (by rw [Lb]; omega) (by omega), x_gL_ok K, hw]
    by_cases q : m_L M 131 (5 * r + k) = w
    · rw [if_pos ((lg_cmp_eq _ _).mpr q), fdN_some (f := fun j => m_L M 131 (5 * r + j)) (k := k) (by omega) q hn]
      rfl
    · rw [if_neg (fun z => q ((lg_cmp_eq _ _).mp z)), m_let_eq, nI_1]
      refine ih (k + 1) f (by omega) (by omega) (fun j hj => ?_)
      by_cases z : j = k
      · rw [z]; exact q
      · exact hn j (by omega)
theorem S_bendNm2 (h : G M) {r n : Nat} {w : Int64} (hr : r < 2) (hn : n ≤ 3) (hm : m_I M 130 (8 * r + 2) = nI n) (hw : m_L M 128 7 = w) : ∀ (d k f : Nat), k + d = n → d < f → (∀ j, j < k → m_L M 132 (3 * r + j) ≠ w) →
    F_X12_bendNamed_2 f 128 (nI r) (nI k) M = some (iO (fdN (fun j => m_L M 132 (3 * r + j)) n w), M) := by
  have K : m_K M 128 = 10 := by simp only [gK h]
  have R10 : m_R M 128 10 = some 130 := by simp only [gR h]
  have R11 : m_R M 128 12 = some 132 := by simp only [gR h]
  have Ka : m_K M 130 = 12 := by simp only [gK h]
  have La : m_len M 130 = 16 := by simp only [gl h]
  have Kb : m_K M 132 = 13 := by simp only [gK h]
  have Lb : m_len M 132 = 6 := by simp only [gl h]
  intro d
  induction d with
  | zero =>
    intro k f hk hf hn
    obtain ⟨f, rfl⟩ : ∃ f', f = f' + 1 := ⟨f - 1, by omega⟩
    rw [F_X12_bendNamed_2, x_gN_ok K R10, show (8 : Int32) = nI 8 from rfl, show (2 : Int32) = nI 2 from rfl, nI_mul, nI_add, x_aI_ok Ka (by rw [La]; omega) (by omega), hm, if_pos (nI_le (by omega) (by omega)), fdN_none (fun j hj => hn j (by omega))]
    rfl
  | succ d ih =>
    intro k f hk hf hn
    obtain ⟨f, rfl⟩ : ∃ f', f = f' + 1 := ⟨f - 1, by omega⟩
    rw [F_X12_bendNamed_2, x_gN_ok K R10, show (8 : Int32) = nI 8 from rfl, show (2 : Int32) = nI 2 from rfl, nI_mul, nI_add, x_aI_ok Ka (by rw [La]; omega) (by omega), hm, if_neg (nI_ge (by omega) (by omega)), x_gN_ok K R11, show (3 : Int32) = nI 3 from rfl, nI_mul, nI_add, x_aL_ok Kb (by rw [Lb]; omega) (by omega), x_gL_ok K, hw]
    by_cases q : m_L M 132 (3 * r + k) = w
    · rw [if_pos ((lg_cmp_eq _ _).mpr q), fdN_some (f := fun j => m_L M 132 (3 * r + j)) (k := k) (by omega) q hn]
      rfl
    · rw [if_neg (fun z => q ((lg_cmp_eq _ _).mp z)), m_let_eq, nI_1]
      refine ih (k + 1) f (by omega) (by omega) (fun j hj => ?_)
      by_cases z : j = k
      · rw [z]; exact q
      · exact hn j (by omega)
theorem S_verbNm2 (h : G M) {r n : Nat} {w : Int64} (hr : r < 2) (hn : n ≤ 6) (hm : m_I M 130 (8 * r + 3) = nI n) (hw : m_L M 128 7 = w) : ∀ (d k f : Nat), k + d = n → d < f → (∀ j, j < k → m_L M 133 (6 * r + j) ≠ w) →
    F_X12_verbNamed_2 f 128 (nI r) (nI k) M = some (iO (fdN (fun j => m_L M 133 (6 * r + j)) n w), M) := by
  have K : m_K M 128 = 10 := by simp only [gK h]
  have R10 : m_R M 128 10 = some 130 := by simp only [gR h]
  have R11 : m_R M 128 13 = some 133 := by simp only [gR h]
  have Ka : m_K M 130 = 12 := by simp only [gK h]
  have La : m_len M 130 = 16 := by simp only [gl h]
  have Kb : m_K M 133 = 13 := by simp only [gK h]
  have Lb : m_len M 133 = 12 := by simp only [gl h]
  intro d
  induction d with
  | zero =>
    intro k f hk hf hn
    obtain ⟨f, rfl⟩ : ∃ f', f = f' + 1 := ⟨f - 1, by omega⟩
    rw [F_X12_verbNamed_2, x_gN_ok K R10, show (8 : Int32) = nI 8 from rfl, show (3 : Int32) = nI 3 from rfl, nI_mul, nI_add, x_aI_ok Ka (by rw [La]; omega) (by omega), hm, if_pos (nI_le (by omega) (by omega)), fdN_none (fun j hj => hn j (by omega))]
    rfl
  | succ d ih =>
    intro k f hk hf hn
    obtain ⟨f, rfl⟩ : ∃ f', f = f' + 1 := ⟨f - 1, by omega⟩
    rw [F_X12_verbNamed_2, x_gN_ok K R10, show (8 : Int32) = nI 8 from rfl, show (3 : Int32) = nI 3 from rfl, nI_mul, nI_add, x_aI_ok Ka (by rw [La]; omega) (by omega), hm, if_neg (nI_ge (by omega) (by omega)), x_gN_ok K R11, show (6 : Int32) = nI 6 from rfl, nI_mul, nI_add, x_aL_ok Kb (by rw [Lb]; omega) (by omega), x_gL_ok K, hw]
    by_cases q : m_L M 133 (6 * r + k) = w
    · rw [if_pos ((lg_cmp_eq _ _).mpr q), fdN_some (f := fun j => m_L M 133 (6 * r + j)) (k := k) (by omega) q hn]
      rfl
    · rw [if_neg (fun z => q ((lg_cmp_eq _ _).mp z)), m_let_eq, nI_1]
      refine ih (k + 1) f (by omega) (by omega) (fun j hj => ?_)
      by_cases z : j = k
      · rw [z]; exact q
      · exact hn j (by omega)
/-- the names of the land that is -/
theorem S_thingC (hG : G M) (ho : lOk l) (hl : LCi l (m_I M)) (hn : NmC l M) {w : Int64} : F_X3_find 2 (nI 0) w M = some (iO (fdN (lM l) (lH l 1) w), M) := by
  have b1 := ho.2.1
  have e := S_find3 (M := M) (b := 2) (mc := 3) (nc := 7) (kd := 0) (n := lH l 1) (w := w) (by simp only [gK hG]) (by simp only [gR hG]) (by simp only [gR hG]) (by simp only [gK hG]) (by simp only [gl hG]; omega) (by simp only [gK hG]) (by simp only [gl hG]; omega) (by omega) hl.2.1.1 (lH l 1) 0 m_FU (by omega) (m_FU_lt (by omega)) (fun j hj => absurd hj (Nat.not_lt_zero _))
  unfold F_X3_find
  refine e.trans ?_
  rw [fdN_cg (g := lM l) (fun k hk => by rw [show 0 * 8 + k = k by omega]; exact hn.1 k hk)]
theorem S_bendC (hG : G M) (ho : lOk l) (hl : LCi l (m_I M)) (hn : NmC l M) {w : Int64} : F_X3_find 2 (nI 1) w M = some (iO (fdN (fun j => lM l (8 + j)) (lH l 2) w), M) := by
  have b1 := ho.2.2.1
  have e := S_find3 (M := M) (b := 2) (mc := 3) (nc := 7) (kd := 1) (n := lH l 2) (w := w) (by simp only [gK hG]) (by simp only [gR hG]) (by simp only [gR hG]) (by simp only [gK hG]) (by simp only [gl hG]; omega) (by simp only [gK hG]) (by simp only [gl hG]; omega) (by omega) hl.2.1.2.1 (lH l 2) 0 m_FU (by omega) (m_FU_lt (by omega)) (fun j hj => absurd hj (Nat.not_lt_zero _))
  unfold F_X3_find
  refine e.trans ?_
  rw [fdN_cg (g := fun j => lM l (8 + j)) (fun k hk => by rw [show 1 * 8 + k = 8 + k by omega]; exact hn.2 k hk)]
theorem S_thingM (hG : G M) (ho : lOk l) (hl : LMi l (m_I M)) (hn : NmM l M) {w : Int64} (hw : m_L M 128 7 = w) : F_X12_thingNamed 128 (nI 0) M = some (iO (fdN (lM l) (lH l 1) w), M) := by
  have b1 := ho.2.1
  have e := S_thingNm2 hG (r := 0) (n := lH l 1) (w := w) (by omega) (by omega) (hl.1 1 (by omega)) hw (lH l 1) 0 m_FU (by omega) (m_FU_lt (by omega)) (fun j hj => absurd hj (Nat.not_lt_zero _))
  unfold F_X12_thingNamed
  refine e.trans ?_
  rw [fdN_cg (g := lM l) (fun k hk => by rw [show 5 * 0 + k = k by omega]; exact hn.1 k hk)]
theorem S_bendM (hG : G M) (ho : lOk l) (hl : LMi l (m_I M)) (hn : NmM l M) {w : Int64} (hw : m_L M 128 7 = w) : F_X12_bendNamed 128 (nI 0) M = some (iO (fdN (fun j => lM l (8 + j)) (lH l 2) w), M) := by
  have b1 := ho.2.2.1
  have e := S_bendNm2 hG (r := 0) (n := lH l 2) (w := w) (by omega) (by omega) (hl.1 2 (by omega)) hw (lH l 2) 0 m_FU (by omega) (m_FU_lt (by omega)) (fun j hj => absurd hj (Nat.not_lt_zero _))
  unfold F_X12_bendNamed
  refine e.trans ?_
  rw [fdN_cg (g := fun j => lM l (8 + j)) (fun k hk => by rw [show 3 * 0 + k = k by omega]; exact hn.2 k hk)]
end NAMES
