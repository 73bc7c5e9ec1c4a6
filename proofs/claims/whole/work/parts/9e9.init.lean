/-! both inits -/
def g_Ro : List (Nat × Nat × Nat) := [(0, 0, 1), (2, 6, 3), (2, 7, 4), (2, 8, 5), (2, 9, 6), (2, 10, 7), (2, 11, 8), (2, 12, 9), (2, 13, 10), (2, 14, 11), (2, 15, 12), (2, 16, 13), (2, 17, 14), (2, 18, 15), (0, 2, 2), (16, 6, 17), (16, 7, 18), (16, 8, 19), (16, 9, 20), (16, 10, 21), (16, 11, 22), (16, 12, 23), (16, 13, 24), (16, 14, 25), (16, 15, 26), (16, 16, 27), (16, 17, 28), (16, 18, 29), (0, 3, 16), (30, 0, 1), (30, 10, 16), (0, 4, 30), (31, 0, 1), (31, 11, 32), (31, 10, 2), (0, 5, 31), (33, 1, 34), (33, 0, 2), (35, 0, 36), (34, 0, 35), (37, 0, 38), (34, 1, 37), (39, 0, 40), (34, 2, 39), (41, 0, 42), (34, 3, 41), (43, 0, 44), (34, 4, 43), (45, 0, 46), (34, 5, 45), (47, 0, 48), (34, 6, 47), (49, 0, 50), (34, 7, 49), (51, 0, 52), (34, 8, 51), (53, 0, 54), (34, 9, 53), (55, 0, 56), (34, 10, 55), (57, 0, 58), (34, 11, 57), (59, 0, 60), (34, 12, 59), (61, 0, 62), (34, 13, 61), (63, 0, 64), (34, 14, 63), (65, 0, 66), (34, 15, 65), (0, 6, 33), (67, 4, 68), (67, 6, 69), (67, 7, 70), (67, 8, 71), (67, 9, 72), (73, 0, 74), (67, 10, 73), (75, 0, 76), (67, 11, 75), (67, 5, 2), (0, 7, 67), (77, 1, 78), (77, 2, 79), (77, 0, 2), (0, 8, 77), (80, 5, 81), (80, 6, 81), (80, 7, 82), (80, 8, 83), (80, 9, 84), (80, 10, 85), (80, 11, 86), (80, 12, 87), (0, 9, 80), (0, 10, 88), (0, 11, 89), (90, 0, 91), (0, 12, 90), (92, 0, 93), (0, 13, 92), (94, 0, 95), (0, 14, 94), (96, 5, 97), (96, 6, 97), (96, 7, 98), (96, 8, 99), (96, 9, 100), (96, 10, 101), (96, 11, 102), (96, 12, 103), (88, 0, 96), (104, 5, 105), (104, 6, 105), (104, 7, 106), (104, 8, 107), (104, 9, 108), (104, 10, 109), (104, 11, 110), (104, 12, 111), (88, 1, 104), (112, 5, 113), (112, 6, 113), (112, 7, 114), (112, 8, 115), (112, 9, 116), (112, 10, 117), (112, 11, 118), (112, 12, 119), (88, 2, 112), (120, 5, 121), (120, 6, 121), (120, 7, 122), (120, 8, 123), (120, 9, 124), (120, 10, 125), (120, 11, 126), (120, 12, 127), (88, 3, 120), (128, 2, 129), (128, 10, 130), (128, 11, 131), (128, 12, 132), (128, 13, 133), (128, 14, 134), (128, 15, 135), (128, 16, 136), (128, 17, 137), (128, 18, 138), (128, 19, 139), (128, 20, 140), (128, 25, 141), (128, 26, 142), (128, 27, 143), (128, 28, 144), (128, 29, 145), (128, 30, 146), (128, 31, 147), (128, 32, 148), (128, 33, 149), (128, 34, 150), (128, 35, 151), (128, 36, 152), (128, 38, 153), (128, 44, 154), (128, 45, 155), (128, 46, 156), (128, 47, 157), (128, 48, 158), (128, 49, 159), (128, 50, 160), (128, 51, 161), (128, 54, 162), (128, 55, 163), (128, 56, 164), (128, 57, 165), (128, 58, 166), (128, 59, 167), (128, 60, 168), (128, 61, 169), (128, 62, 170), (128, 63, 171), (128, 64, 172), (128, 65, 173), (128, 70, 174), (128, 71, 175), (128, 72, 176)]
def IP (k n : Nat) (e : Bool) (M : m_M) : Prop := m_N M = k ∧ (∀ i, i < k → m_T M i = g_Tl.getD i (99, 0)) ∧ (∀ x, x ∈ g_Ro.take n → m_R M x.1 x.2.1 = some x.2.2) ∧ (∀ a, a < k → (g_Tl.getD a (99, 0)).1 = 16 → ∀ q, m_R M a q = none) ∧ ((∀ a, a ≠ 2 → a ≠ 16 → a ≠ 128 → a ≠ 130 → ∀ j, m_I M a j = 0) ∧ ∀ j, j ≠ 42 → j ≠ 43 → m_I M 128 j = 0) ∧ (e = true → 2 < k ∧ m_I M 2 0 = nI 2 ∧ m_I M 2 1 = nI 1 ∧ m_I M 2 2 = nI 0 ∧ m_I M 2 3 = nI 1 ∧ m_I M 2 4 = nI 1)
def IPx (M : m_M) : Prop := IP 177 187 true M ∧ (∀ k, k < 8 → m_I M 130 k = nI (lH ld0 k)) ∧ m_I M 128 42 = nI 1 ∧ m_I M 128 43 = nI 1
section INITS
variable {M M' : m_M} {k n : Nat} {e : Bool} {α : Type}
theorem IP.K (h : IP k n e M) {a kd : Nat} (ha : a < k) (hk : (g_Tl.getD a (99, 0)).1 = kd) : m_K M a = kd := by
  unfold m_K
  rw [h.1, if_pos ha, h.2.1 a ha, hk]
theorem IP.L (h : IP k n e M) {a l : Nat} (ha : a < k) (hk : (g_Tl.getD a (99, 0)).2 = l) : m_len M a = l := by
  unfold m_len
  rw [h.2.1 a ha, hk]
theorem IP.new (h : IP k n e M) {kd len : Nat} (hk : g_Tl.getD k (99, 0) = (kd, len)) (hc : (g_Ro.take n).all (fun x => decide (x.1 < k)) = true) : IP (k + 1) n e (m_new M kd len) := by
  obtain ⟨h1, h2, h3, h4, ⟨h5, h5'⟩, h6⟩ := h
  refine ⟨by show m_N M + 1 = k + 1; rw [h1], fun i hi => ?_, fun x hx => ?_, fun a ha hk16 q => ?_, ⟨fun a x y z w j => ?_, fun j x y => ?_⟩, fun he => ?_⟩
  · show (if i = m_N M then (kd, len) else m_T M i) = _
    by_cases z : i = m_N M
    · rw [if_pos z, z, h1, hk]
    · rw [if_neg z, h2 i (by omega)]
  · have hx1 := of_decide_eq_true (List.all_eq_true.mp hc x hx)
    show (if x.1 = m_N M then none else m_R M x.1 x.2.1) = _
    rw [if_neg (by omega)]
    exact h3 x hx
  · show (if a = m_N M then none else m_R M a q) = none
    by_cases z : a = m_N M
    · rw [if_pos z]
    · rw [if_neg z]; exact h4 a (by omega) hk16 q
  · show (if a = m_N M then 0 else m_I M a j) = 0
    split
    · rfl
    · exact h5 a x y z w j
  · show (if 128 = m_N M then 0 else m_I M 128 j) = 0
    split
    · rfl
    · exact h5' j x y
  · obtain ⟨e1, e2, e3, e4, e5, e6⟩ := h6 he
    have g : ∀ j, m_I (m_new M kd len) 2 j = m_I M 2 j := fun j => by
      show (if 2 = m_N M then 0 else m_I M 2 j) = m_I M 2 j
      rw [if_neg (by omega)]
    exact ⟨by omega, by rw [g]; exact e2, by rw [g]; exact e3, by rw [g]; exact e4, by rw [g]; exact e5, by rw [g]; exact e6⟩
theorem IP.ref (h : IP k n e M) {a q v : Nat} (hn : g_Ro[n]? = some (a, q, v)) (hc : (g_Ro.take n).all (fun x => !(decide (x.1 = a) && decide (x.2.1 = q))) = true) (h16 : decide ((g_Tl.getD a (99, 0)).1 = 16) = false) : IP k (n + 1) e (m_sR M a q (some v)) := by
  obtain ⟨h1, h2, h3, h4, h5, h6⟩ := h
  refine ⟨h1, h2, fun x hx => ?_, fun b hb hk16 j => ?_, h5, h6⟩
  · rw [List.take_add_one, hn] at hx
    rcases List.mem_append.mp hx with y | y
    · have hx1 := List.all_eq_true.mp hc x y
      show (if x.1 = a ∧ x.2.1 = q then some v else m_R M x.1 x.2.1) = _
      rw [if_neg (fun z => by
        rw [decide_eq_true z.1, decide_eq_true z.2] at hx1
        cases hx1)]
      exact h3 x y
    · have : x = (a, q, v) := by simpa using y
      rw [this]
      exact if_pos ⟨rfl, rfl⟩
  · show (if b = a ∧ j = q then some v else m_R M b j) = none
    rw [if_neg (fun z => by rw [z.1] at hk16; exact of_decide_eq_false h16 hk16)]
    exact h4 b hb hk16 j
theorem i_new {Q : Option α → Prop} {kd : Nat} {f : Nat → m_M → Option α} (h : IP k n e M) (hk : g_Tl.getD k (99, 0) = (kd, 0)) (hb : k < 178) (hc : (g_Ro.take n).all (fun x => decide (x.1 < k)) = true) (c : ∀ M', IP (k + 1) n e M' → Q (f k M')) : Q (x_new kd M f) := by
  unfold x_new
  rw [h.1, if_pos (by omega)]
  exact c _ (h.new hk hc)
theorem i_newA {Q : Option α → Prop} {kd cap len : Nat} {f : Nat → m_M → Option α} (h : IP k n e M) (hk : g_Tl.getD k (99, 0) = (kd, len)) (hb : k < 178) (hl : len ≤ cap ∧ len < 20000) (hc : (g_Ro.take n).all (fun x => decide (x.1 < k)) = true) (c : ∀ M', IP (k + 1) n e M' → Q (f k M')) : Q (x_newA kd cap M (nI len) f) := by
  unfold x_newA
  rw [nI_cl (by omega), h.1, if_pos ⟨⟨nI_pos' (by omega), hl.1⟩, by omega⟩]
  exact c _ (h.new hk hc)
theorem i_pR {Q : Option α → Prop} {kd a q v : Nat} {f : m_M → Option α} (h : IP k n e M) (hk : (g_Tl.getD a (99, 0)).1 = kd) (ha : a < k) (hn : g_Ro[n]? = some (a, q, v)) (hc : (g_Ro.take n).all (fun x => !(decide (x.1 = a) && decide (x.2.1 = q))) = true) (h16 : decide ((g_Tl.getD a (99, 0)).1 = 16) = false) (c : ∀ M', IP k (n + 1) e M' → Q (f M')) : Q (x_pR kd M a q (some v) f) := by
  rw [x_pR_ok (h.K ha hk)]
  exact c _ (h.ref hn hc h16)
theorem i_gN {Q : Option α → Prop} {kd a q v : Nat} {f : Nat → Option α} (h : IP k n e M) (hk : (g_Tl.getD a (99, 0)).1 = kd) (ha : a < k) (hv : (a, q, v) ∈ g_Ro.take n) (c : Q (f v)) : Q (x_gN kd M a q f) := by
  rw [x_gN_ok (h.K ha hk) (h.2.2.1 (a, q, v) hv)]
  exact c
theorem i_sR {Q : Option α → Prop} {kd kr a i v : Nat} {f : m_M → Option α} (h : IP k n e M) (hk : (g_Tl.getD a (99, 0)).1 = kd) (ha : a < k) (hi : i < (g_Tl.getD a (99, 0)).2 ∧ i < 20000) (hv : v < k) (hkr : (g_Tl.getD v (99, 0)).1 = kr) (hn : g_Ro[n]? = some (a, i, v)) (hc : (g_Ro.take n).all (fun x => !(decide (x.1 = a) && decide (x.2.1 = i))) = true) (h16 : decide ((g_Tl.getD a (99, 0)).1 = 16) = false) (c : ∀ M', IP k (n + 1) e M' → Q (f M')) : Q (x_sR kd kr M a (nI i) (some v) f) := by
  unfold x_sR
  rw [nI_cl (by omega), if_pos ⟨⟨h.K ha hk, nI_pos' (by omega), by rw [h.L ha rfl]; exact hi.1⟩, by
    show decide (m_K M v = kr) = true
    exact decide_eq_true (h.K hv hkr)⟩]
  exact c _ (h.ref hn hc h16)
theorem i_end {α β : Type} {Q : Option α → Prop} {a : β} {g : β → m_M → Option α} (c : Q (g a M)) : Q (x_bd (some (a, M)) g) := c
/-- writes of ints alone -/
theorem IP.ints (h : IP k n e M) (h1 : M'.1 = M.1) (hR : m_R M' = m_R M) (hI : ∀ a, a ≠ 2 → a ≠ 16 → a ≠ 128 → a ≠ 130 → ∀ j, m_I M' a j = 0) (h8 : ∀ j, j ≠ 42 → j ≠ 43 → m_I M' 128 j = 0) {e' : Bool} (he : e' = true → 2 < k ∧ m_I M' 2 0 = nI 2 ∧ m_I M' 2 1 = nI 1 ∧ m_I M' 2 2 = nI 0 ∧ m_I M' 2 3 = nI 1 ∧ m_I M' 2 4 = nI 1) : IP k n e' M' := by
  obtain ⟨g1, g2, g3, g4, g5, g6⟩ := h
  exact ⟨by unfold m_N; rw [h1]; exact g1, fun i hi => by unfold m_T; rw [h1]; exact g2 i hi, by rw [hR]; exact g3, by rw [hR]; exact g4, ⟨hI, h8⟩, he⟩
theorem iq_X3 {Q : Option (Unit × m_M) → Prop} {b : Nat} (h : IP k n e M) (hb : (b = 2 ∧ k = 16) ∨ (b = 16 ∧ k = 30)) (hr : (b, 6, b + 1) ∈ g_Ro.take n ∧ (b, 9, b + 4) ∈ g_Ro.take n ∧ (b, 16, b + 11) ∈ g_Ro.take n) (c : ∀ M', IP k n (decide (b = 2) || e) M' → Q (some ((), M'))) : Q (x_cV 3 M b (F_X3_empty b M) fun _ M27 => x_cV 3 M27 b (F_X3_settle b M27) fun _ M28 => some ((), M28)) := by
  have kf : ∀ a, a = b ∨ a = b + 1 ∨ a = b + 4 ∨ a = b + 11 → a < k := fun a ha => by omega
  have Kb : ∀ A B, m_K (m_w2 M A B) b = 3 := fun A B => h.K (kf b (by omega)) (by rcases hb with ⟨rfl, _⟩ | ⟨rfl, _⟩ <;> decide +kernel)
  have K1 : ∀ A B, m_K (m_w2 M A B) (b + 1) = 12 := fun A B => h.K (kf (b + 1) (by omega)) (by rcases hb with ⟨rfl, _⟩ | ⟨rfl, _⟩ <;> decide +kernel)
  have L1 : ∀ A B, m_len (m_w2 M A B) (b + 1) = 4 := fun A B => h.L (kf (b + 1) (by omega)) (by rcases hb with ⟨rfl, _⟩ | ⟨rfl, _⟩ <;> decide +kernel)
  have K4 : ∀ A B, m_K (m_w2 M A B) (b + 4) = 12 := fun A B => h.K (kf (b + 4) (by omega)) (by rcases hb with ⟨rfl, _⟩ | ⟨rfl, _⟩ <;> decide +kernel)
  have L4 : ∀ A B, m_len (m_w2 M A B) (b + 4) = 18 := fun A B => h.L (kf (b + 4) (by omega)) (by rcases hb with ⟨rfl, _⟩ | ⟨rfl, _⟩ <;> decide +kernel)
  have K11 : ∀ A B, m_K (m_w2 M A B) (b + 11) = 13 := fun A B => h.K (kf (b + 11) (by omega)) (by rcases hb with ⟨rfl, _⟩ | ⟨rfl, _⟩ <;> decide +kernel)
  have L11 : ∀ A B, m_len (m_w2 M A B) (b + 11) = 320 := fun A B => h.L (kf (b + 11) (by omega)) (by rcases hb with ⟨rfl, _⟩ | ⟨rfl, _⟩ <;> decide +kernel)
  have R6 : ∀ A B, m_R (m_w2 M A B) b 6 = some (b + 1) := fun A B => h.2.2.1 _ hr.1
  have R9 : ∀ A B, m_R (m_w2 M A B) b 9 = some (b + 4) := fun A B => h.2.2.1 _ hr.2.1
  have R16 : ∀ A B, m_R (m_w2 M A B) b 16 = some (b + 11) := fun A B => h.2.2.1 _ hr.2.2
  obtain ⟨A1, hA1⟩ : ∃ A1, A1 = m_up (m_up (m_up (m_up (m_I M) b 0 2) b 1 1) b 2 0) b 5 0 := ⟨_, rfl⟩
  have fA1 : ∀ a, a ≠ b → A1 a = m_I M a := fun a ha => by rw [hA1, up_fr ha, up_fr ha, up_fr ha, up_fr ha]
  have z1 : ∀ j, A1 (b + 1) j = 0 := fun j => by rw [fA1 (b + 1) (by omega)]; exact h.2.2.2.2.1.1 (b + 1) (by omega) (by omega) (by omega) (by omega) j
  have z4 : ∀ j, A1 (b + 4) j = 0 := fun j => by rw [fA1 (b + 4) (by omega)]; exact h.2.2.2.2.1.1 (b + 4) (by omega) (by omega) (by omega) (by omega) j
  have w1 : ∀ B, m_wI (m_w2 M A1 B) (b + 1) (fun j => if j < 4 then (0 : Int32) else m_I (m_w2 M A1 B) (b + 1) j) = m_w2 M A1 B := fun B => by
    show m_w2 M (fun a j => if a = b + 1 then (if j < 4 then (0 : Int32) else A1 (b + 1) j) else A1 a j) B = m_w2 M A1 B
    congr 1
    funext a j
    by_cases z : a = b + 1
    · rw [if_pos z, z, z1 j]
      split <;> rfl
    · rw [if_neg z]
  have w4 : ∀ B, m_wI (m_w2 M A1 B) (b + 4) (fun j => if j < 18 then (0 : Int32) else m_I (m_w2 M A1 B) (b + 4) j) = m_w2 M A1 B := fun B => by
    show m_w2 M (fun a j => if a = b + 4 then (if j < 18 then (0 : Int32) else A1 (b + 4) j) else A1 a j) B = m_w2 M A1 B
    congr 1
    funext a j
    by_cases z : a = b + 4
    · rw [if_pos z, z, z4 j]
      split <;> rfl
    · rw [if_neg z]
  have ee : F_X3_empty b M = some ((), m_w2 M A1 (m_L M)) := by
    unfold F_X3_empty
    rw [x_pI_ok (show m_K M b = 3 from Kb (m_I M) (m_L M)), show ∀ v, m_sI M b 0 v = m_w2 M (m_up (m_I M) b 0 v) (m_L M) from fun _ => rfl, x_pI_ok (Kb _ _), w2_sI, x_pI_ok (Kb _ _), w2_sI, x_pI_ok (Kb _ _), w2_sI, ← hA1, x_gN_ok (Kb _ _) (R6 _ _), x_bd_ok (S_fillI (N := 4) (by omega) 0 (K1 _ _) (L1 _ _)), w1, x_gN_ok (Kb _ _) (R9 _ _), x_bd_ok (S_fillI (N := 18) (by omega) 0 (K4 _ _) (L4 _ _)), w4]
  obtain ⟨A2, hA2⟩ : ∃ A2, A2 = m_up (m_up A1 b 3 1) b 4 1 := ⟨_, rfl⟩
  have fA2 : ∀ a, a ≠ b → A2 a = A1 a := fun a ha => by rw [hA2, up_fr ha, up_fr ha]
  have y1 : ∀ j, A2 (b + 1) j = 0 := fun j => by rw [fA2 (b + 1) (by omega)]; exact z1 j
  obtain ⟨f, hf⟩ : ∃ f, m_FU = f + 2 := ⟨m_FU - 2, by have := m_FU_lt (show 2 < 100000 by omega); omega⟩
  have zz : ∀ A B j, A (b + 1) j = 0 → j < 4 → ∀ g : Int32 → Option (Unit × m_M), x_aI 12 (m_w2 M A B) (b + 1) (nI j) g = g 0 := fun A B j hz hj g => by
    rw [x_aI_ok (K1 _ _) (by rw [L1]; exact hj) (by omega), w2_I, hz]
  obtain ⟨B2, hB2⟩ : ∃ B2 : Nat → Nat → Int64, B2 = fun a j => if a = b + 11 then (if j < 320 then 0 else m_L M (b + 11) j) else m_L M a j := ⟨_, rfl⟩
  have ew : F_X3_settleWorlds b (m_w2 M A1 (m_L M)) = some ((), m_w2 M A2 B2) := by
    unfold F_X3_settleWorlds
    rw [x_pI_ok (Kb _ _), w2_sI]
    refine m_let_e ?_
    intro k36 h36
    have e7 : F_X3_settleWorlds_7 k36 m_FU b (0 : Int32) (m_w2 M (m_up A1 b 3 1) (m_L M)) = k36 b (m_w2 M (m_up A1 b 3 1) (m_L M)) := by
      rw [hf, F_X3_settleWorlds_7, x_gN_ok (Kb _ _) (R6 _ _), show (0 : Int32) = nI 0 from rfl, zz _ _ 0 (by rw [up_fr (by omega)]; exact z1 0) (by omega), if_pos (by decide)]
    have eL : m_wL (m_w2 M A2 (m_L M)) (b + 11) (fun j => if j < 320 then (0 : Int64) else m_L (m_w2 M A2 (m_L M)) (b + 11) j) = m_w2 M A2 B2 := by rw [hB2]; rfl
    rw [e7, h36]
    dsimp only
    rw [x_gI_ok (Kb _ _), w2_I, up_at, if_pos ⟨rfl, rfl⟩, x_nz_eq, if_neg (by decide), x_pI_ok (Kb _ _), w2_sI, show ((1 : Int32) + 63) / 64 = 1 by decide, ← hA2, x_gN_ok (Kb _ _) (R16 _ _), x_bd_ok (S_fillL (N := 320) (by omega) 0 (K11 _ _) (L11 _ _)), eL, hf, F_X3_settleWorlds_60, x_gI_ok (Kb _ _), w2_I, show A2 b 3 = 1 by rw [hA2, up_at, if_neg (by omega), up_at, if_pos ⟨rfl, rfl⟩], if_neg (by decide), x_gN_ok (Kb _ _) (R6 _ _), show (0 : Int32) = nI 0 from rfl, zz _ _ 0 (y1 0) (by omega), m_let_eq]
    refine m_let_e ?_
    intro k150 h150
    rw [hf, F_X3_settleWorlds_79, if_pos (by decide), h150]
    dsimp only
    rw [m_let_eq, F_X3_settleWorlds_60, x_gI_ok (Kb _ _), w2_I, show A2 b 3 = 1 by rw [hA2, up_at, if_neg (by omega), up_at, if_pos ⟨rfl, rfl⟩], if_pos (by decide)]
  have es : F_X3_settle b (m_w2 M A1 (m_L M)) = some ((), m_w2 M A2 B2) := by
    unfold F_X3_settle
    rw [x_cV_ok (Kb _ _) ew]
    refine m_let_e ?_
    intro k56 h56
    rw [hf, F_X3_settle_6, x_gN_ok (Kb _ _) (R6 _ _), show x_aI 12 (m_w2 M A2 B2) (b + 1) (1 : Int32) = x_aI 12 (m_w2 M A2 B2) (b + 1) (nI 1) from rfl, zz _ _ 1 (y1 1) (by omega), if_pos (by decide), h56]
    dsimp only
    rw [hf, F_X3_settle_58, x_gN_ok (Kb _ _) (R6 _ _), show x_aI 12 (m_w2 M A2 B2) (b + 1) (2 : Int32) = x_aI 12 (m_w2 M A2 B2) (b + 1) (nI 2) from rfl, zz _ _ 2 (y1 2) (by omega), if_pos (by decide)]
  rw [x_cV_ok (show m_K M b = 3 from Kb (m_I M) (m_L M)) ee, x_cV_ok (Kb _ _) es]
  have fA : ∀ a, a ≠ b → A2 a = m_I M a := fun a ha => by rw [fA2 a ha, fA1 a ha]
  refine c _ (h.ints (M' := m_w2 M A2 B2) rfl rfl (fun a x y z w j => ?_) (fun j x y => ?_) (fun he => ?_))
  · show A2 a j = 0
    rw [fA a (by omega)]
    exact h.2.2.2.2.1.1 a x y z w j
  · show A2 128 j = 0
    rw [fA 128 (by omega)]
    exact h.2.2.2.2.1.2 j x y
  · show 2 < k ∧ A2 2 0 = nI 2 ∧ A2 2 1 = nI 1 ∧ A2 2 2 = nI 0 ∧ A2 2 3 = nI 1 ∧ A2 2 4 = nI 1
    rcases hb with ⟨rfl, rfl⟩ | ⟨rfl, rfl⟩
    · rw [hA2, hA1]
      exact ⟨by omega, rfl, rfl, rfl, rfl, rfl⟩
    · have he : e = true := by
        rw [decide_eq_false (by omega), Bool.false_or] at he
        exact he
      obtain ⟨_, g1, g2, g3, g4, g5⟩ := h.2.2.2.2.2 he
      rw [fA 2 (by omega)]
      exact ⟨by omega, g1, g2, g3, g4, g5⟩
theorem i_plain {K : Nat → Int32 → m_M → Option (Unit × m_M)} (R10 : ∀ A B, m_R (m_w2 M A B) 128 10 = some 130) (K128 : ∀ A B, m_K (m_w2 M A B) 128 = 10) (K130 : ∀ A B, m_K (m_w2 M A B) 130 = 12) (L130 : ∀ A B, m_len (m_w2 M A B) 130 = 16) {B : Nat → Nat → Int64} : ∀ (d k f : Nat) (A : IA), k + d = 8 → d < f → (∀ j, j < k → A 130 j = 0) → ∃ A', F_X12_plain_2 K f 128 (nI 0) (nI k) (m_w2 M A B) = K 128 (nI 0) (m_w2 M A' B) ∧ (∀ a, a ≠ 130 → A' a = A a) ∧ ∀ j, j < 8 → A' 130 j = 0 := by
  intro d
  induction d with
  | zero =>
    intro k f A hk hf hA
    obtain ⟨f, rfl⟩ : ∃ f', f = f' + 1 := ⟨f - 1, by omega⟩
    obtain rfl : k = 8 := by omega
    exact ⟨A, by rw [F_X12_plain_2, if_pos (by decide)], fun _ _ => rfl, hA⟩
  | succ d ih =>
    intro k f A hk hf hA
    obtain ⟨f, rfl⟩ : ∃ f', f = f' + 1 := ⟨f - 1, by omega⟩
    obtain ⟨A', u1, u2, u3⟩ := ih (k + 1) f (m_up A 130 k 0) (by omega) (by omega) (fun j hj => by
      rw [up_at]
      by_cases z : j = k
      · rw [if_pos ⟨rfl, z⟩]
      · rw [if_neg (fun w => z w.2)]; exact hA j (by omega))
    refine ⟨A', ?_, fun a ha => by rw [u2 a ha, up_fr ha], u3⟩
    rw [F_X12_plain_2, if_neg (show ¬ (8 : Int32) ≤ nI k from nI_ge (b := 8) (by omega) (by omega)), x_gN_ok (K128 _ _) (R10 _ _), show (8 : Int32) = nI 8 from rfl, nI_mul, nI_add, show 8 * 0 + k = k by omega, x_sI_ok (K130 _ _) (by rw [L130]; omega) (by omega), w2_sI, m_let_eq, nI_1]
    exact u1
theorem iq_X12 {Q : Option (Unit × m_M) → Prop} (h : IP 177 187 true M) (c : ∀ M', IPx M' → Q (some ((), M'))) : Q (x_cV 10 M 128 (F_X12_plain 128 (0 : Int32) M) fun _ M97 => x_cV 10 M97 128 (F_X12_measures 128 M97) fun _ M98 => some ((), M98)) := by
  have K128 : ∀ A B, m_K (m_w2 M A B) 128 = 10 := fun A B => h.K (a := 128) (by omega) (by decide +kernel)
  have K130 : ∀ A B, m_K (m_w2 M A B) 130 = 12 := fun A B => h.K (a := 130) (by omega) (by decide +kernel)
  have L130 : ∀ A B, m_len (m_w2 M A B) 130 = 16 := fun A B => h.L (a := 130) (by omega) (by decide +kernel)
  have R10 : ∀ A B, m_R (m_w2 M A B) 128 10 = some 130 := fun A B => h.2.2.1 (128, 10, 130) (by decide +kernel)
  obtain ⟨f, hf⟩ : ∃ f, m_FU = f + 2 := ⟨m_FU - 2, by have := m_FU_lt (show 2 < 100000 by omega); omega⟩
  have ep : ∃ A1, F_X12_plain 128 (0 : Int32) M = some ((), m_w2 M (m_up (m_up A1 130 0 2) 130 6 1) (m_L M)) ∧ (∀ a, a ≠ 130 → A1 a = m_I M a) ∧ ∀ j, j < 8 → A1 130 j = 0 := by
    unfold F_X12_plain
    refine m_let_P (fun o => ∃ A1, o = some ((), m_w2 M (m_up (m_up A1 130 0 2) 130 6 1) (m_L M)) ∧ (∀ a, a ≠ 130 → A1 a = m_I M a) ∧ ∀ j, j < 8 → A1 130 j = 0) ?_
    intro K hK
    obtain ⟨A1, u1, u2, u3⟩ := i_plain (K := K) R10 K128 K130 L130 (B := m_L M) 8 0 m_FU (m_I M) (by omega) (m_FU_lt (by omega)) (fun j hj => absurd hj (Nat.not_lt_zero _))
    refine ⟨A1, ?_, u2, u3⟩
    have u1' : F_X12_plain_2 K m_FU 128 (0 : Int32) (0 : Int32) M = _ := u1
    rw [u1', hK]
    dsimp only
    rw [x_gN_ok (K128 _ _) (R10 _ _), show (8 : Int32) * nI 0 + (0 : Int32) = nI 0 by decide, x_sI_ok (K130 _ _) (by rw [L130]; omega) (by omega), w2_sI, x_gN_ok (K128 _ _) (R10 _ _), show (8 : Int32) * nI 0 + (6 : Int32) = nI 6 by decide, x_sI_ok (K130 _ _) (by rw [L130]; omega) (by omega), w2_sI]
  obtain ⟨A1, ep, u2, u3⟩ := ep
  obtain ⟨A2, hA2⟩ : ∃ A2, A2 = m_up (m_up A1 130 0 2) 130 6 1 := ⟨_, rfl⟩
  rw [← hA2] at ep
  have e1 : A2 130 1 = 0 := by rw [hA2, up_at, if_neg (by omega), up_at, if_neg (by omega)]; exact u3 1 (by omega)
  have em : F_X12_measures 128 (m_w2 M A2 (m_L M)) = some ((), m_w2 M (m_up (m_up A2 128 42 1) 128 43 1) (m_L M)) := by
    unfold F_X12_measures
    rw [x_pI_ok (K128 _ _), w2_sI]
    refine m_let_e ?_
    intro k38 h38
    rw [hf, F_X12_measures_7, x_gN_ok (K128 _ _) (R10 _ _), show x_aI 12 (m_w2 M (m_up A2 128 42 1) (m_L M)) 130 (1 : Int32) = x_aI 12 (m_w2 M (m_up A2 128 42 1) (m_L M)) 130 (nI 1) from rfl, x_aI_ok (K130 _ _) (by rw [L130]; omega) (by omega), w2_I, up_fr (by omega), e1, if_pos (by decide), h38]
    dsimp only
    rw [x_gI_ok (K128 _ _), w2_I, up_at, if_pos ⟨rfl, rfl⟩, x_nz_eq, if_neg (by decide), x_pI_ok (K128 _ _), w2_sI, show ((1 : Int32) + 63) / 64 = 1 by decide]
  rw [x_cV_ok (show m_K M 128 = 10 from K128 (m_I M) (m_L M)) ep, x_cV_ok (K128 _ _) em]
  have fA : ∀ a, a ≠ 128 → a ≠ 130 → m_up (m_up A2 128 42 1) 128 43 1 a = m_I M a := fun a x y => by rw [up_fr x, up_fr x, hA2, up_fr y, up_fr y, u2 a y]
  refine c _ ⟨h.ints (M' := m_w2 M (m_up (m_up A2 128 42 1) 128 43 1) (m_L M)) rfl rfl (fun a x y z w j => ?_) (fun j x y => ?_) (fun he => ?_), fun j hj => ?_, ?_, ?_⟩
  · show m_up (m_up A2 128 42 1) 128 43 1 a j = 0
    rw [fA a z w]
    exact h.2.2.2.2.1.1 a x y z w j
  · show m_up (m_up A2 128 42 1) 128 43 1 128 j = 0
    rw [up_at, if_neg (fun z => y z.2), up_at, if_neg (fun z => x z.2), hA2, up_fr (by omega), up_fr (by omega), u2 128 (by omega)]
    exact h.2.2.2.2.1.2 j x y
  · obtain ⟨g0, g1, g2, g3, g4, g5⟩ := h.2.2.2.2.2 rfl
    show 2 < 177 ∧ m_up (m_up A2 128 42 1) 128 43 1 2 0 = nI 2 ∧ m_up (m_up A2 128 42 1) 128 43 1 2 1 = nI 1 ∧ m_up (m_up A2 128 42 1) 128 43 1 2 2 = nI 0 ∧ m_up (m_up A2 128 42 1) 128 43 1 2 3 = nI 1 ∧ m_up (m_up A2 128 42 1) 128 43 1 2 4 = nI 1
    rw [fA 2 (by omega) (by omega)]
    exact ⟨by omega, g1, g2, g3, g4, g5⟩
  · show m_up (m_up A2 128 42 1) 128 43 1 130 j = nI (lH ld0 j)
    rw [up_fr (by omega), up_fr (by omega), hA2, up_at]
    by_cases z : j = 6
    · rw [if_pos ⟨rfl, z⟩, z]; rfl
    · rw [if_neg (fun w => z w.2), up_at]
      by_cases y : j = 0
      · rw [if_pos ⟨rfl, y⟩, y]; rfl
      · rw [if_neg (fun w => y w.2), u3 j hj]
        show (0 : Int32) = nI (if j = 0 then 2 else if j = 6 then 1 else 0)
        rw [if_neg y, if_neg z]
        rfl
  · show m_up (m_up A2 128 42 1) 128 43 1 128 42 = nI 1
    rw [up_at, if_neg (by omega), up_at, if_pos ⟨rfl, rfl⟩]
    rfl
  · show m_up (m_up A2 128 42 1) 128 43 1 128 43 = nI 1
    rw [up_at, if_pos ⟨rfl, rfl⟩]
    rfl
end INITS
