/-! what stands at a token: tests, faults -/
def tkW (c : Int64) (t : Tok) : Bool := decide (t.2.2.1 = 2) && decide (t.2.2.2.1 = c)
def tkS (T : Nat → Nat) (c : Nat) (t : Tok) : Bool := decide (t.2.2.1 = 4) && decide (T t.1 = c)
def resv (w : Int64) : Bool := (List.range 13).any (fun j => decide (k_wl.getD j 0 = w))
def tkNm (t : Tok) : Bool := decide (t.2.2.1 = 2) && !resv t.2.2.2.1
section TTEST
variable {M M' : m_M} {T : Nat → Nat} {n kd r : Nat} {t : Tok}
theorem wl_inj : ∀ i, i < 20 → ∀ j, j < 20 → k_wl.getD i 0 = k_wl.getD j 0 → i = j := by decide +kernel
theorem wr_lt : ∀ i, i < 20 → (k_wr.getD i 0 = 0 ↔ 13 ≤ i) := by decide +kernel
theorem wdR_cases (w : Int64) : (wdR w = none ∧ ∀ j, j < 20 → k_wl.getD j 0 ≠ w) ∨ ∃ j, j < 20 ∧ k_wl.getD j 0 = w ∧ wdR w = some (1000000 + j) := by
  unfold wdR
  cases h : (List.range 20).find? (fun j => decide (k_wl.getD j 0 = w)) with
  | none =>
    refine .inl ⟨rfl, fun j hj q => ?_⟩
    have := List.find?_eq_none.mp h j (List.mem_range.mpr hj)
    rw [decide_eq_true_eq] at this
    exact this q
  | some j =>
    obtain ⟨h1, h2, _⟩ := List.find?_range_eq_some.mp h
    rw [decide_eq_true_eq] at h1
    exact .inr ⟨j, List.mem_range.mp h2, h1, rfl⟩
theorem wdR_iff {w : Int64} {j : Nat} (hj : j < 20) : wdR w = some (1000000 + j) ↔ w = k_wl.getD j 0 := by
  rcases wdR_cases w with ⟨h1, h2⟩ | ⟨i, h1, h2, h3⟩
  · rw [h1]
    exact ⟨fun q => (by cases q), fun q => absurd q.symm (h2 j hj)⟩
  · rw [h3]
    constructor
    · intro q
      have : 1000000 + i = 1000000 + j := Option.some.inj q
      rw [← h2, show i = j by omega]
    · intro q
      rw [← h2] at q
      rw [wl_inj i h1 j hj q]
theorem wdR_all (w : Int64) : (wdR w).all (fun a => decide (1000000 ≤ a ∧ a < 1000020)) = true := by
  rcases wdR_cases w with ⟨h1, _⟩ | ⟨i, h1, _, h3⟩
  · rw [h1]; rfl
  · rw [h3]
    show decide (1000000 ≤ 1000000 + i ∧ 1000000 + i < 1000020) = true
    rw [decide_eq_true_eq]
    omega
theorem resv_wd (w : Int64) : resv w = true ↔ ∃ j, j < 13 ∧ wdR w = some (1000000 + j) := by
  unfold resv
  rw [List.any_eq_true]
  constructor
  · rintro ⟨j, h1, h2⟩
    rw [decide_eq_true_eq] at h2
    have := List.mem_range.mp h1
    exact ⟨j, this, (wdR_iff (by omega)).mpr h2.symm⟩
  · rintro ⟨j, h1, h2⟩
    exact ⟨j, List.mem_range.mpr h1, by rw [decide_eq_true_eq]; exact ((wdR_iff (by omega)).mp h2).symm⟩
theorem tkM_n {k : Nat} (h : k ≤ 4) : (tkM k = 1 ↔ k = 2) ∧ (tkM k = 3 ↔ k = 4) ∧ (tkM k = 2 ↔ k = 3) ∧ (tkM k = 0 ↔ k = 0) ∧ tkM k ≤ 4 := by
  have hc : k = 0 ∨ k = 1 ∨ k = 2 ∨ k = 3 ∨ k = 4 := by omega
  rcases hc with rfl | rfl | rfl | rfl | rfl <;> decide
theorem kd_4 (h : t.2.2.1 ≤ 4) {k : Nat} (hk : k ≤ 4) : (nI t.2.2.1 = nI k) = (t.2.2.1 = k) := propext (nI_eq (by omega) (by omega))
theorem S_isAtW (K : m_K M r = kd) (ht : TC T n r t M) (h4 : t.2.2.1 ≤ 4) {j : Nat} (hj : j < 20) : F_X8_isAt kd r (1000000 + j) M = some (bI (tkW (k_wl.getD j 0) t), M) := by
  obtain ⟨⟨_, _, _, c4⟩, c5, _⟩ := ht
  unfold F_X8_isAt tkW
  rw [m_let_eq, x_gI_ok K, c4]
  by_cases q : t.2.2.1 = 2
  · obtain ⟨w1, w2⟩ := c5 q
    rw [if_pos (show nI t.2.2.1 = (2 : Int32) by rw [q]; rfl), x_gO_ok K, w2]
    unfold x_kn
    rw [if_pos ⟨wdR_all _, by show decide (1000000 ≤ 1000000 + j ∧ 1000000 + j < 1000020) = true; rw [decide_eq_true_eq]; omega⟩, decide_eq_true q]
    by_cases z : wdR t.2.2.2.1 = some (1000000 + j)
    · rw [if_pos z, decide_eq_true ((wdR_iff hj).mp z)]; rfl
    · rw [if_neg z, decide_eq_false (fun w => z ((wdR_iff hj).mpr w))]; rfl
  · rw [if_neg (show ¬ nI t.2.2.1 = (2 : Int32) from fun z => q ((nI_eq (b := 2) (by omega) (by omega)).mp z)), decide_eq_false q, Bool.false_and]; rfl
theorem S_isAtS (K : m_K M r = kd) (ht : TC T n r t M) (h4 : t.2.2.1 ≤ 4) (hT : t.2.2.1 = 4 → T t.1 < 127) {c : Nat} (hc : c < 127) : F_X8_isAt_ kd r (nI c) M = some (bI (tkS T c t), M) := by
  obtain ⟨⟨_, _, _, c4⟩, _, _, c6, _⟩ := ht
  unfold F_X8_isAt_ tkS
  rw [m_let_eq, x_gI_ok K, c4]
  by_cases q : t.2.2.1 = 4
  · have := hT q
    rw [if_pos (show nI t.2.2.1 = (4 : Int32) by rw [q]; rfl), x_gI_ok K, c6 q, decide_eq_true q]
    by_cases z : T t.1 = c
    · rw [if_pos (by rw [z]), decide_eq_true z]; rfl
    · rw [if_neg (fun w => z ((nI_eq (by omega) (by omega)).mp w)), decide_eq_false z]; rfl
  · rw [if_neg (show ¬ nI t.2.2.1 = (4 : Int32) from fun z => q ((nI_eq (b := 4) (by omega) (by omega)).mp z)), decide_eq_false q, Bool.false_and]; rfl
theorem S_isAtNm (K : m_K M r = kd) (ht : TC T n r t M) (h4 : t.2.2.1 ≤ 4) : F_X8_isAtName kd r M = some (bI (tkNm t), M) := by
  obtain ⟨⟨_, _, _, c4⟩, c5, _⟩ := ht
  unfold F_X8_isAtName tkNm
  rw [m_let_eq, x_gI_ok K, c4]
  by_cases q : t.2.2.1 = 2
  · obtain ⟨w1, w2⟩ := c5 q
    rw [if_pos (show nI t.2.2.1 = (2 : Int32) by rw [q]; rfl), m_let_eq, x_gO_ok K, w2, decide_eq_true q]
    rcases wdR_cases t.2.2.2.1 with ⟨h1, _⟩ | ⟨i, h1, _, h3⟩
    · rw [h1, show resv t.2.2.2.1 = false from Bool.eq_false_iff.mpr (fun z => by
        obtain ⟨j, _, h⟩ := (resv_wd _).mp z
        rw [h1] at h
        cases h)]
      rfl
    · rw [h3, x_nul_some, x_gO_ok K, w2, h3, show ∀ (f : Nat → Option (Int32 × m_M)), x_nn (some (1000000 + i)) f = f (1000000 + i) from fun _ => rfl, x_k_ok h1]
      by_cases z : 13 ≤ i
      · rw [if_pos ((wr_lt i h1).mpr z), show resv t.2.2.2.1 = false from Bool.eq_false_iff.mpr (fun w => by
          obtain ⟨j, h4, h⟩ := (resv_wd _).mp w
          rw [h3] at h
          have : 1000000 + i = 1000000 + j := Option.some.inj h
          omega)]
        rfl
      · rw [if_neg (fun w => z ((wr_lt i h1).mp w)), (resv_wd _).mpr ⟨i, by omega, h3⟩]
        rfl
  · rw [if_neg (show ¬ nI t.2.2.1 = (2 : Int32) from fun z => q ((nI_eq (b := 2) (by omega) (by omega)).mp z)), decide_eq_false q, Bool.false_and]; rfl
theorem TC.sI9 (ht : TC T n r t M) {v : Int32} : TC T n r t (m_sI M r 9 v) := by
  obtain ⟨⟨c1, c2, c3, c4⟩, c5, c6, c7, c8⟩ := ht
  have g : ∀ k, k ≠ 9 → m_I (m_sI M r 9 v) r k = m_I M r k := fun k hk => by rw [mI_sI, if_neg (fun z => hk z.2)]
  exact ⟨⟨by rw [g 1 (by omega)]; exact c1, by rw [g 2 (by omega)]; exact c2, by rw [g 3 (by omega)]; exact c3, by rw [g 4 (by omega)]; exact c4⟩, c5, by rw [g 5 (by omega)]; exact c6, by rw [g 6 (by omega)]; exact c7, c8⟩
theorem S_fail (K : m_K M r = kd) (ht : TC T n r t M) {k : Nat} : F_X8_fail kd r (nI k) M = some (nI 0, m_sI M r 9 (nI (k + 16 * t.1))) := by
  unfold F_X8_fail
  rw [x_gI_ok K, ht.1.2.1, show (16 : Int32) = nI 16 from rfl, nI_mul, nI_add, x_pI_ok K]
  rfl
theorem tkF_sI9 {v : Int32} : tkF r M (m_sI M r 9 v) := ⟨rfl, fun a ha => ⟨sI_ne ha, rfl, rfl⟩, fun k hk => by rw [mI_sI, if_neg (by omega)], fun _ _ => rfl, fun _ _ => rfl⟩
/-- the model's -/
theorem S_misW (hG : G M) (ht : TM n t M) (h4 : t.2.2.1 ≤ 4) {c : Int64} : F_X12_isWord 128 c M = some (bI (tkW c t), M) := by
  obtain ⟨⟨_, _, _, c4⟩, c5, _⟩ := ht
  have K : m_K M 128 = 10 := by simp only [gK hG]
  unfold F_X12_isWord tkW
  rw [m_let_eq, x_gI_ok K, c4]
  by_cases q : t.2.2.1 = 2
  · rw [if_pos (show nI (tkM t.2.2.1) = (1 : Int32) by rw [q]; rfl), x_gL_ok K, c5 q, decide_eq_true q]
    by_cases z : t.2.2.2.1 = c
    · rw [if_pos ((lg_cmp_eq _ _).mpr z), decide_eq_true z]; rfl
    · rw [if_neg (fun w => z ((lg_cmp_eq _ _).mp w)), decide_eq_false z]; rfl
  · have := tkM_n h4
    rw [if_neg (show ¬ nI (tkM t.2.2.1) = (1 : Int32) from fun z => by have := (nI_eq (b := 1) (by omega) (by omega)).mp z; omega), decide_eq_false q, Bool.false_and]; rfl
theorem S_misS (hG : G M) (ht : TM n t M) (h4 : t.2.2.1 ≤ 4) (hn : n ≤ 1000) (hx : TX T n (m_I M 129)) (hT : t.2.2.1 = 4 → t.1 < n) {c : Nat} (hc : c < 127) : F_X12_isSign 128 (nI c) M = some (bI (tkS T c t), M) := by
  obtain ⟨⟨_, _, c3, c4⟩, _⟩ := ht
  have K : m_K M 128 = 10 := by simp only [gK hG]
  unfold F_X12_isSign tkS
  rw [m_let_eq, x_gI_ok K, c4]
  by_cases q : t.2.2.1 = 4
  · have hs := hT q
    obtain ⟨t1, t2⟩ := hx.lt hs
    rw [if_pos (show nI (tkM t.2.2.1) = (3 : Int32) by rw [q]; rfl), x_gN_ok (r := 129) K (by simp only [gR hG]), x_gI_ok K, c3, x_aI_ok (by simp only [gK hG]) (by simp only [gl hG]; omega) (by omega), t1, decide_eq_true q]
    by_cases z : T t.1 = c
    · rw [if_pos (by rw [z]), decide_eq_true z]; rfl
    · rw [if_neg (fun w => z ((nI_eq (by omega) (by omega)).mp w)), decide_eq_false z]; rfl
  · have := tkM_n h4
    rw [if_neg (show ¬ nI (tkM t.2.2.1) = (3 : Int32) from fun z => by have := (nI_eq (b := 3) (by omega) (by omega)).mp z; omega), decide_eq_false q, Bool.false_and]; rfl
theorem S_mkept (hG : G M) (ht : TM n t M) (h4 : t.2.2.1 ≤ 4) : F_X12_isKept 128 M = some (bI (!tkNm t), M) := by
  obtain ⟨⟨_, _, _, c4⟩, c5, _⟩ := ht
  have K : m_K M 128 = 10 := by simp only [gK hG]
  unfold F_X12_isKept tkNm
  rw [x_gI_ok K, c4]
  by_cases q : t.2.2.1 = 2
  · have gL : ∀ (f : Int64 → Option (Int32 × m_M)), x_gL 10 M 128 7 f = f t.2.2.2.1 := fun f => by rw [x_gL_ok K, c5 q]
    rw [if_pos (show nI (tkM t.2.2.1) = (1 : Int32) by rw [q]; rfl), m_let_eq, decide_eq_true q]
    simp only [gL]
    have hr : resv t.2.2.2.1 = true ↔ (((((((((((((k_wl.getD 0 0 = t.2.2.2.1) ∨ k_wl.getD 1 0 = t.2.2.2.1) ∨ k_wl.getD 2 0 = t.2.2.2.1) ∨ k_wl.getD 3 0 = t.2.2.2.1) ∨ k_wl.getD 4 0 = t.2.2.2.1) ∨ k_wl.getD 5 0 = t.2.2.2.1) ∨ k_wl.getD 6 0 = t.2.2.2.1) ∨ k_wl.getD 7 0 = t.2.2.2.1) ∨ k_wl.getD 8 0 = t.2.2.2.1) ∨ k_wl.getD 9 0 = t.2.2.2.1) ∨ k_wl.getD 10 0 = t.2.2.2.1) ∨ k_wl.getD 11 0 = t.2.2.2.1) ∨ k_wl.getD 12 0 = t.2.2.2.1) := by
      unfold resv
      rw [List.any_eq_true]
      constructor
      · rintro ⟨j, h1, h2⟩
        rw [decide_eq_true_eq] at h2
        have h3 := List.mem_range.mp h1
        have hc : j = 0 ∨ j = 1 ∨ j = 2 ∨ j = 3 ∨ j = 4 ∨ j = 5 ∨ j = 6 ∨ j = 7 ∨ j = 8 ∨ j = 9 ∨ j = 10 ∨ j = 11 ∨ j = 12 := by omega
        rcases hc with rfl | rfl | rfl | rfl | rfl | rfl | rfl | rfl | rfl | rfl | rfl | rfl | rfl <;> simp only [h2, true_or, or_true]
      · intro h
        have w : ∀ j, j < 13 → k_wl.getD j 0 = t.2.2.2.1 → ∃ x, x ∈ List.range 13 ∧ decide (k_wl.getD x 0 = t.2.2.2.1) = true := fun j hj hq => ⟨j, List.mem_range.mpr hj, by rw [decide_eq_true_eq]; exact hq⟩
        rcases h with (((((((((((h | h) | h) | h) | h) | h) | h) | h) | h) | h) | h) | h) | h
        · exact w 0 (by omega) h
        · exact w 1 (by omega) h
        · exact w 2 (by omega) h
        · exact w 3 (by omega) h
        · exact w 4 (by omega) h
        · exact w 5 (by omega) h
        · exact w 6 (by omega) h
        · exact w 7 (by omega) h
        · exact w 8 (by omega) h
        · exact w 9 (by omega) h
        · exact w 10 (by omega) h
        · exact w 11 (by omega) h
        · exact w 12 (by omega) h
    have e : ∀ c : Int64, (lg_cmp t.2.2.2.1 c = 0) = (c = t.2.2.2.1) := fun c => propext ⟨fun h => ((lg_cmp_eq _ _).mp h).symm, fun h => (lg_cmp_eq _ _).mpr h.symm⟩
    have f : ∀ (P Q : Prop) [Decidable P] [Decidable Q] (X Y : Option (Int32 × m_M)), (if P then X else if Q then X else Y) = if P ∨ Q then X else Y := by
      intro P Q _ _ X Y
      by_cases p : P
      · rw [if_pos p, if_pos (.inl p)]
      · by_cases q : Q
        · rw [if_neg p, if_pos q, if_pos (.inr q)]
        · rw [if_neg p, if_neg q, if_neg (by rintro (z | z) <;> contradiction)]
    rw [f, f, f, f, f, f, f, f, f, f, f, f]
    simp only [e]
    by_cases z : resv t.2.2.2.1 = true
    · refine (if_pos (hr.mp z)).trans ?_
      rw [z]; rfl
    · refine (if_neg (fun w => z (hr.mpr w))).trans ?_
      rw [Bool.eq_false_iff.mpr z]; rfl
  · have := tkM_n h4
    rw [if_neg (show ¬ nI (tkM t.2.2.1) = (1 : Int32) from fun z => by have := (nI_eq (b := 1) (by omega) (by omega)).mp z; omega), decide_eq_false q, Bool.false_and]; rfl
theorem TM.sI (ht : TM n t M) {k : Nat} {v : Int32} (hk : k < 3 ∨ 8 < k) : TM n t (m_sI M 128 k v) := by
  obtain ⟨⟨c1, c2, c3, c4⟩, c5, c6⟩ := ht
  have g : ∀ j, j ≠ k → m_I (m_sI M 128 k v) 128 j = m_I M 128 j := fun j hk => by rw [mI_sI, if_neg (fun z => hk z.2)]
  exact ⟨⟨by rw [g 3 (by omega)]; exact c1, by rw [g 4 (by omega)]; exact c2, by rw [g 5 (by omega)]; exact c3, by rw [g 6 (by omega)]; exact c4⟩, c5, by rw [g 8 (by omega)]; exact c6⟩
theorem S_mfails (hG : G M) (ht : TM n t M) {k : Nat} : F_X12_fails 128 (nI k) M = some (nI 0, m_sI M 128 9 (nI (k + 16 * t.1))) := by
  have K : m_K M 128 = 10 := by simp only [gK hG]
  unfold F_X12_fails
  rw [x_gI_ok K, ht.1.2.2.1, show (16 : Int32) = nI 16 from rfl, nI_mul, nI_add, x_pI_ok K]
  rfl
end TTEST
