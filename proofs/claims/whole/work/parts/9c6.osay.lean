/-! sayable, cover -/
theorem nI_nz {a : Nat} (h : ¬ a = 0) (h2 : a < 2147483648) : ¬ nI a = (0 : Int32) := fun z => h ((nI_eq h2 (by omega)).mp z)
theorem nI_sh1 {a : Nat} (h : a < 31) : (1 : Int32) <<< (nI a &&& 31) = nI (2 ^ a) := by
  rw [show (1 : Int32) = nI 1 from rfl, nI_shl (by omega), Nat.one_mul]
theorem SC_x {M : m_M} {A : IA} (h : ∀ a, ¬ scI a → A a = m_I M a) : SC M (m_wA M A) := ⟨rfl, rfl, fun a ha _ => h a ha, fun k _ _ => by rw [wA_I, h 128 (by unfold scI; omega)], fun _ _ => rfl⟩
theorem SC_x2 {M : m_M} {A : IA} {B : Nat → Nat → Int64} (h : ∀ a, ¬ scI a → A a = m_I M a) (g : ∀ a, ¬ scL a → B a = m_L M a) : SC M (m_w2 M A B) := ⟨rfl, rfl, fun a ha _ => h a ha, fun k _ _ => by rw [w2_I, h 128 (by unfold scI; omega)], g⟩
def cvS (l : Ld) (set j : Nat) : Bool := decide (sayN l (lH l 3) j = 0 ∨ sayN l (lH l 3) j &&& set ≠ 0)
def cvA (l : Ld) (set : Nat) : Bool := anN 20 (cvS l set)
theorem sayN_lt {l : Ld} {n j : Nat} : sayN l n j < 2 ^ n := by
  unfold sayN
  split
  · exact knN_lt n
  · exact Nat.pow_pos (by omega)
theorem cvA_all (l : Ld) : cvA l (2 ^ lH l 3 - 1) = true := by
  refine anN_all.mpr (fun j _ => ?_)
  unfold cvS
  rw [Nat.and_two_pow_sub_one_eq_mod, Nat.mod_eq_of_lt sayN_lt]
  exact decide_eq_true (by omega)
theorem bct6 : ∀ k, k < 64 → bct k ≤ 6 := by decide +kernel
def f7 : Option Nat → Nat
  | none => 7
  | some b => bct b
def g0 : Option Nat → Nat
  | none => 0
  | some b => b
def cvN (l : Ld) : Nat := g0 (clF (cvA l) (2 ^ lH l 3))
theorem cvN_some (l : Ld) : clF (cvA l) (2 ^ lH l 3) = some (cvN l) := by
  obtain ⟨b, hb⟩ := clF_some (cvA_all l)
  have hp : 0 < 2 ^ lH l 3 := Nat.pow_pos (by omega)
  rw [show 2 ^ lH l 3 - 1 + 1 = 2 ^ lH l 3 by omega] at hb
  unfold cvN
  rw [hb]
  rfl
theorem cl7 {bad : Nat → Bool} {k : Nat} (hk : k < 64) : clF bad (k + 1) = if bct k < f7 (clF bad k) ∧ bad k = true then some k else clF bad k := by
  rw [clF_c]
  have := bct6 k hk
  cases clF bad k with
  | none =>
    by_cases q : bad k = true
    · rw [if_pos ⟨by show bct k < 13; omega, q⟩, if_pos ⟨by show bct k < 7; omega, q⟩]
    · rw [if_neg (fun z => q z.2), if_neg (fun z => q z.2)]
  | some b => rfl
section OSAY
variable {M M' : m_M} {s : St} {l : Ld}
theorem C_say (h : INV s M) : ∃ A', F_X2_findSayable 67 (m_wA M (m_I M)) = some ((), m_wA M A') ∧ (∀ j, j < 20 → A' 68 j = nI (sayN s.2.1 (lH s.2.1 3) j)) ∧ SC M (m_wA M A') := by
  obtain ⟨A', e, e1, e2⟩ := S_findSayable h.1 h.lo h.lc
  exact ⟨A', e, e2, SC_x (fun a ha => e1 a (fun z => ha (by unfold scI; omega)))⟩
theorem M_say (h : INV s M) : ∃ A' B', F_X12_seeksSayable 128 M = some ((), m_w2 M A' B') ∧ (∀ j, j < 20 → A' 176 j = nI (sayN s.2.1 (lH s.2.1 3) j)) ∧ SC M (m_w2 M A' B') := by
  obtain ⟨A', B', e, e1, e2, e3⟩ := M_seeks h.1 h.lo h.lm (B := m_L M)
  exact ⟨A', B', e, e3, SC_x2 (fun a ha => e1 a (fun z => ha (by unfold scr at z; unfold scI; omega)) (fun z => ha (by unfold scI; omega))) (fun b hb => e2 b (fun z => hb (by unfold scL; omega)) (fun z => hb (by unfold scL; omega)))⟩
theorem O_sayable (x y : Int32) : RO s (F_X11_sayable 0 x y) (F_X12_sayable 128 x y) := by
  have bad : (x < 0 ∨ y < 0 ∨ ∃ t p, t < 2147483648 ∧ p < 2147483648 ∧ x = nI t ∧ y = nI p ∧ ¬ (t < lH s.2.1 1 ∧ p < lH s.2.1 0)) → RO s (F_X11_sayable 0 x y) (F_X12_sayable 128 x y) := by
    intro hq
    refine ⟨NO, fun M h => ⟨⟨M, ?_, SC.rfl' M⟩, ⟨m_sI M 128 0 0, ?_, SC_thr M 0⟩⟩⟩
    · unfold F_X11_sayable
      rw [x_gN_ok h.C0 h.R2]
      rcases i_cases x with ⟨t, ht, rfl⟩ | hx
      · rw [x_cV_ok h.C2 (S_isThingC h.1 h.lc h.lo ht)]
        by_cases q : t < lH s.2.1 1
        · rw [decide_eq_true q, if_neg (by decide), x_gN_ok h.C0 h.R2]
          have e : F_X3_isPlace 2 y M = some (nI 0, M) := by
            rcases i_cases y with ⟨p, hp, rfl⟩ | hy
            · rw [S_isPlaceC h.1 h.lc h.lo hp]
              rcases hq with hq | hq | ⟨t', p', _, hp', e1, e2, e3⟩
              · exact absurd hq (nI_pos ht)
              · exact absurd hq (nI_pos hp)
              · have a1 := (nI_eq ht (by omega)).mp e1
                have a2 := (nI_eq hp hp').mp e2
                rw [decide_eq_false (fun z => e3 ⟨by omega, by omega⟩)]; rfl
            · exact S_isPlaceC_neg hy
          rw [x_cV_ok h.C2 e, if_pos (by decide)]; rfl
        · rw [decide_eq_false q, if_pos (by decide)]; rfl
      · rw [x_cV_ok h.C2 (S_isThingC_neg hx), if_pos (by decide)]; rfl
    · have h1 := h.thr 0
      have e : F_X12_isThingAt 128 x y (m_sI M 128 0 0) = some (nI 0, m_sI M 128 0 0) := by
        rcases i_cases x with ⟨t, ht, rfl⟩ | hx
        · rcases i_cases y with ⟨p, hp, rfl⟩ | hy
          · rw [S_isThingAt h1.1 h1.lm h1.lo ht hp]
            rcases hq with hq | hq | ⟨t', p', ht', hp', e1, e2, e3⟩
            · exact absurd hq (nI_pos ht)
            · exact absurd hq (nI_pos hp)
            · have a1 := (nI_eq ht ht').mp e1
              have a2 := (nI_eq hp hp').mp e2
              by_cases q : t < lH s.2.1 1
              · rw [decide_eq_true q, decide_eq_false (fun z => e3 ⟨by omega, by omega⟩)]; rfl
              · rw [decide_eq_false q]; rfl
          · have R10 : m_R (m_sI M 128 0 0) 128 10 = some 130 := by simp only [gR h1.1]
            unfold F_X12_isThingAt
            rw [m_let_eq, if_neg (nI_pos ht), x_gN_ok h1.K0 R10, aI_lit (x := (1 : Int32)) (n := 1) (by simp only [gK h1.1]) (by rw [show m_len (m_sI M 128 0 0) 130 = 16 from by simp only [gl h1.1]]; omega) rfl (by omega), if_pos hy]
            split <;> rfl
        · unfold F_X12_isThingAt
          rw [m_let_eq, if_pos hx]; rfl
      unfold F_X12_sayable
      rw [x_pI_ok h.K0, x_cV_ok h1.K0 e, if_pos (by decide)]; rfl
  rcases i_cases x with ⟨t, ht, rfl⟩ | hx
  · rcases i_cases y with ⟨p, hp, rfl⟩ | hy
    · by_cases q : t < lH s.2.1 1 ∧ p < lH s.2.1 0
      · refine ⟨nI (sayN s.2.1 (lH s.2.1 3) (4 * t + p)), fun M h => ⟨?_, ?_⟩⟩
        · have b0 := h.lo.1.2
          have b1 := h.lo.2.1
          obtain ⟨A', e, e1, sc⟩ := C_say h
          have e' : F_X2_findSayable 67 M = some ((), m_wA M A') := e
          have h2 := sc.INV h
          have R7 : m_R M 0 7 = some 67 := by simp only [gR h.1]
          have K67 : m_K M 67 = 2 := by simp only [gK h.1]
          have R7' : m_R (m_wA M A') 0 7 = some 67 := by simp only [gR h2.1]
          obtain ⟨R4, K68, L68⟩ := fin_cells2 h2.1
          have K67' : m_K (m_wA M A') 67 = 2 := by simp only [gK h2.1]
          refine ⟨_, ?_, sc⟩
          unfold F_X11_sayable
          rw [x_gN_ok h.C0 h.R2, x_cV_ok h.C2 (S_isThingC h.1 h.lc h.lo ht), decide_eq_true q.1, if_neg (by decide), x_gN_ok h.C0 h.R2, x_cV_ok h.C2 (S_isPlaceC h.1 h.lc h.lo hp), decide_eq_true q.2, if_neg (by decide), x_gN_ok h.C0 R7, x_cV_ok K67 e', x_gN_ok h2.C0 R7', x_gN_ok K67' R4, show (4 : Int32) = nI 4 from rfl, nI_mul, nI_add, x_aI_ok K68 (by rw [L68]; omega) (by omega), wA_I, e1 _ (by omega), Nat.mul_comm t 4]
        · have h1 := h.thr 0
          have b0 := h.lo.1.2
          have b1 := h.lo.2.1
          obtain ⟨A', B', e, e1, sc⟩ := M_say h1
          have h2 := sc.INV h1
          have R72 : m_R (m_w2 (m_sI M 128 0 0) A' B') 128 72 = some 176 := by simp only [gR h2.1]
          have K176 : m_K (m_w2 (m_sI M 128 0 0) A' B') 176 = 12 := by simp only [gK h2.1]
          have L176 : m_len (m_w2 (m_sI M 128 0 0) A' B') 176 = 20 := by simp only [gl h2.1]
          refine ⟨_, ?_, (SC_thr M 0).trans sc⟩
          unfold F_X12_sayable
          rw [x_pI_ok h.K0, x_cV_ok h1.K0 (S_isThingAt h1.1 h1.lm h1.lo ht hp), decide_eq_true q.1, decide_eq_true q.2, if_neg (by decide), x_cV_ok h1.K0 e, x_gN_ok h2.K0 R72, show (4 : Int32) = nI 4 from rfl, nI_mul, nI_add, x_aI_ok K176 (by rw [L176]; omega) (by omega), w2_I, e1 _ (by omega)]
      · exact bad (.inr (.inr ⟨t, p, ht, hp, rfl, rfl, q⟩))
    · exact bad (.inr (.inl hy))
  · exact bad (.inl hx)
theorem S_saysAll (h : G M) {n set : Nat} (hn : n ≤ 6) (hs : set < 64) (hl : lH l 3 = n) (hA : ∀ j, j < 20 → m_I M 68 j = nI (sayN l (lH l 3) j)) : F_X2_saysAll 67 (nI set) M = some (bI (cvA l set), M) := by
  obtain ⟨R4, K68, L68⟩ := fin_cells2 h
  have K67 : m_K M 67 = 2 := by simp only [gK h]
  have hp : 2 ^ lH l 3 ≤ 2 ^ 6 := Nat.pow_le_pow_right (by omega) (by omega)
  unfold F_X2_saysAll
  have key : ∀ (e k f : Nat), k + e = 20 → e < f → anN k (cvS l set) = true → F_X2_saysAll_2 f 67 (nI set) (nI k) M = some (bI (cvA l set), M) := by
    intro e
    induction e with
    | zero =>
      intro k f hk hf hh
      obtain ⟨f, rfl⟩ : ∃ f', f = f' + 1 := ⟨f - 1, by omega⟩
      obtain rfl : k = 20 := by omega
      unfold cvA
      rw [F_X2_saysAll_2, x_gN_ok K67 R4, x_len_ok K68, L68, if_pos (nI_le (by omega) (by omega)), hh]
      rfl
    | succ e ih =>
      intro k f hk hf hh
      obtain ⟨f, rfl⟩ : ∃ f', f = f' + 1 := ⟨f - 1, by omega⟩
      have hlt := sayN_lt (l := l) (n := lH l 3) (j := k)
      have hand : sayN l (lH l 3) k &&& set < 64 := Nat.lt_of_le_of_lt Nat.and_le_right hs
      rw [F_X2_saysAll_2, x_gN_ok K67 R4, x_len_ok K68, L68, if_neg (nI_ge (by omega) (by omega))]
      refine m_let_e ?_
      intro K hK
      rw [x_gN_ok K67 R4, x_aI_ok K68 (by rw [L68]; omega) (by omega), hA k (by omega)]
      by_cases q : sayN l (lH l 3) k = 0
      · rw [q, if_pos (by decide), hK]
        dsimp only
        rw [m_let_eq, nI_1]
        exact ih (k + 1) f (by omega) (by omega) (by show (anN k _ && cvS l set k) = true; rw [hh]; unfold cvS; rw [decide_eq_true (.inl q)]; rfl)
      · rw [if_neg (nI_nz q (by omega)), x_gN_ok K67 R4, x_aI_ok K68 (by rw [L68]; omega) (by omega), hA k (by omega), nI_and]
        by_cases q2 : sayN l (lH l 3) k &&& set = 0
        · rw [q2, if_pos (by decide)]
          unfold cvA
          rw [anN_not (i := k) (by omega) (by unfold cvS; exact decide_eq_false (by omega))]
          rfl
        · rw [if_neg (nI_nz q2 (by omega)), hK]
          dsimp only
          rw [m_let_eq, nI_1]
          exact ih (k + 1) f (by omega) (by omega) (by show (anN k _ && cvS l set k) = true; rw [hh]; unfold cvS; rw [decide_eq_true (.inr q2)]; rfl)
  exact key 20 0 m_FU (by omega) (m_FU_lt (by omega)) rfl
theorem f7_le {bad : Nat → Bool} {k : Nat} (hk : k ≤ 64) : f7 (clF bad k) ≤ 7 := by
  cases q : clF bad k with
  | none => exact Nat.le_refl 7
  | some b =>
    have h1 := clF_lt q
    have := bct6 b (by omega)
    show bct b ≤ 7
    omega
theorem C_cv26 (h : INV s M) (hA : ∀ j, j < 20 → m_I M 68 j = nI (sayN s.2.1 (lH s.2.1 3) j)) {w : Int32} {K : Int32 → Int32 → m_M → Option (Int32 × m_M)} : ∀ (d k f : Nat), k + d = 2 ^ lH s.2.1 3 → d < f →
    F_X11_cover_26 K f 0 w (nI (g0 (clF (cvA s.2.1) k))) (nI (f7 (clF (cvA s.2.1) k))) (nI k) M = K w (nI (cvN s.2.1)) M := by
  have h6 := h.lo.2.2.2.1
  have hp : 2 ^ lH s.2.1 3 ≤ 2 ^ 6 := Nat.pow_le_pow_right (by omega) (by omega)
  have R7 : m_R M 0 7 = some 67 := by simp only [gR h.1]
  have K67 : m_K M 67 = 2 := by simp only [gK h.1]
  have K2 : m_K M 2 = 3 := by simp only [gK h.1]
  have R6 : m_R M 2 6 = some 3 := by simp only [gR h.1]
  have K3 : m_K M 3 = 12 := by simp only [gK h.1]
  have L3 : m_len M 3 = 4 := by simp only [gl h.1]
  have e3 : m_I M 3 2 = nI (lH s.2.1 3) := h.lc.2.1.2.2.1
  intro d
  induction d with
  | zero =>
    intro k f hk hf
    obtain ⟨f, rfl⟩ : ∃ f', f = f' + 1 := ⟨f - 1, by omega⟩
    obtain rfl : k = 2 ^ lH s.2.1 3 := by omega
    rw [F_X11_cover_26, x_gN_ok h.C0 h.R2, x_gN_ok K2 R6, aI_lit (x := (2 : Int32)) (n := 2) K3 (by rw [L3]; omega) rfl (by omega), e3, nI_sh1 (by omega), if_pos (nI_le (Nat.le_refl _) (by omega))]
    rfl
  | succ d ih =>
    intro k f hk hf
    obtain ⟨f, rfl⟩ : ∃ f', f = f' + 1 := ⟨f - 1, by omega⟩
    have hk64 : k < 64 := by omega
    have hf7 := f7_le (bad := cvA s.2.1) (k := k) (by omega)
    have hb := bct6 k hk64
    have step := ih (k + 1) f (by omega) (by omega)
    rw [cl7 hk64] at step
    rw [F_X11_cover_26, x_gN_ok h.C0 h.R2, x_gN_ok K2 R6, aI_lit (x := (2 : Int32)) (n := 2) K3 (by rw [L3]; omega) rfl (by omega), e3, nI_sh1 (by omega), if_neg (nI_ge (by omega) (by omega))]
    refine m_let_e ?_
    intro K1 hK1
    rw [x_bd_ok (S_bitCount (by omega))]
    by_cases q : bct k < f7 (clF (cvA s.2.1) k)
    · rw [if_neg (nI_ge (by omega) (by omega)), x_gN_ok h.C0 R7, x_cV_ok K67 (S_saysAll h.1 h6 hk64 rfl hA)]
      cases q2 : cvA s.2.1 k
      · rw [if_pos (by decide), hK1]
        dsimp only
        rw [m_let_eq, nI_1]
        rw [if_neg (by rw [q2]; simp)] at step
        exact step
      · rw [if_neg (by decide), hK1]
        dsimp only
        rw [m_let_eq, nI_1]
        rw [if_pos ⟨q, q2⟩] at step
        exact step
    · rw [if_pos (nI_le (by omega) (by omega)), hK1]
      dsimp only
      rw [m_let_eq, nI_1]
      rw [if_neg (fun z => q z.1)] at step
      exact step
theorem M_cv42 (h : INV s M) (hA : ∀ j, j < 20 → m_I M 176 j = nI (sayN s.2.1 (lH s.2.1 3) j)) {w b : Int32} {set : Nat} (hs : set < 64) {K : Nat → Int32 → Int32 → Int32 → Int32 → m_M → Option (Int32 × m_M)} : ∀ (d k f : Nat), k + d = 20 → d < f →
    F_X12_cover_42 K f 128 w b (nI set) (bI (anN k (cvS s.2.1 set))) (nI k) M = K 128 w b (nI set) (bI (cvA s.2.1 set)) M := by
  have h6 := h.lo.2.2.2.1
  have hp : 2 ^ lH s.2.1 3 ≤ 2 ^ 6 := Nat.pow_le_pow_right (by omega) (by omega)
  have R72 : m_R M 128 72 = some 176 := by simp only [gR h.1]
  have K176 : m_K M 176 = 12 := by simp only [gK h.1]
  have L176 : m_len M 176 = 20 := by simp only [gl h.1]
  intro d
  induction d with
  | zero =>
    intro k f hk hf
    obtain ⟨f, rfl⟩ : ∃ f', f = f' + 1 := ⟨f - 1, by omega⟩
    obtain rfl : k = 20 := by omega
    rw [F_X12_cover_42, if_pos (by decide)]
    rfl
  | succ d ih =>
    intro k f hk hf
    obtain ⟨f, rfl⟩ : ∃ f', f = f' + 1 := ⟨f - 1, by omega⟩
    have step := ih (k + 1) f (by omega) (by omega)
    have hlt := sayN_lt (l := s.2.1) (n := lH s.2.1 3) (j := k)
    have hand : sayN s.2.1 (lH s.2.1 3) k &&& set < 64 := Nat.lt_of_le_of_lt Nat.and_le_right hs
    rw [show anN (k + 1) (cvS s.2.1 set) = (anN k (cvS s.2.1 set) && cvS s.2.1 set k) from rfl] at step
    rw [F_X12_cover_42, if_neg (show ¬ (20 : Int32) ≤ nI k from nI_ge (b := 20) (by omega) (by omega))]
    refine m_let_e ?_
    intro K1 hK1
    refine m_let_e ?_
    intro K2 hK2
    cases q : anN k (cvS s.2.1 set)
    · rw [if_pos (by decide), hK2]
      dsimp only
      rw [hK1]
      dsimp only
      rw [m_let_eq, nI_1]
      rw [q] at step
      exact step
    · rw [if_neg (by decide)]
      refine m_let_e ?_
      intro K3 hK3
      rw [q, Bool.true_and] at step
      have yes : cvS s.2.1 set k = true → K3 128 w b (nI set) (nI k) M = K 128 w b (nI set) (bI (cvA s.2.1 set)) M := fun y => by
        rw [hK3]
        dsimp only
        rw [hK1]
        dsimp only
        rw [m_let_eq, nI_1]
        rw [y] at step
        exact step
      rw [x_gN_ok h.K0 R72, x_aI_ok K176 (by rw [L176]; omega) (by omega), hA k (by omega)]
      by_cases q1 : sayN s.2.1 (lH s.2.1 3) k = 0
      · rw [q1, if_pos (by decide)]
        exact yes (by unfold cvS; exact decide_eq_true (.inl q1))
      · rw [if_neg (nI_nz q1 (by omega)), x_gN_ok h.K0 R72, x_aI_ok K176 (by rw [L176]; omega) (by omega), hA k (by omega), nI_and]
        by_cases q2 : sayN s.2.1 (lH s.2.1 3) k &&& set = 0
        · rw [q2, if_pos (by decide), hK2]
          dsimp only
          rw [hK1]
          dsimp only
          rw [m_let_eq, nI_1]
          rw [show cvS s.2.1 set k = false from by unfold cvS; exact decide_eq_false (by omega)] at step
          exact step
        · rw [if_neg (nI_nz q2 (by omega))]
          exact yes (by unfold cvS; exact decide_eq_true (.inr q2))
theorem M_cv24 (h : INV s M) (hA : ∀ j, j < 20 → m_I M 176 j = nI (sayN s.2.1 (lH s.2.1 3) j)) {w : Int32} {K : Int32 → Int32 → m_M → Option (Int32 × m_M)} : ∀ (d k f : Nat), k + d = 2 ^ lH s.2.1 3 → d < f →
    F_X12_cover_24 K f 128 w (iO (clF (cvA s.2.1) k)) (nI k) M = K w (nI (cvN s.2.1)) M := by
  have h6 := h.lo.2.2.2.1
  have hp : 2 ^ lH s.2.1 3 ≤ 2 ^ 6 := Nat.pow_le_pow_right (by omega) (by omega)
  have R10 : m_R M 128 10 = some 130 := by simp only [gR h.1]
  have K130 : m_K M 130 = 12 := by simp only [gK h.1]
  have L130 : m_len M 130 = 16 := by simp only [gl h.1]
  have e3 : m_I M 130 3 = nI (lH s.2.1 3) := h.lm.1 3 (by omega)
  intro d
  induction d with
  | zero =>
    intro k f hk hf
    obtain ⟨f, rfl⟩ : ∃ f', f = f' + 1 := ⟨f - 1, by omega⟩
    obtain rfl : k = 2 ^ lH s.2.1 3 := by omega
    rw [F_X12_cover_24, x_gN_ok h.K0 R10, aI_lit (x := (3 : Int32)) (n := 3) K130 (by rw [L130]; omega) rfl (by omega), e3, nI_sh1 (by omega), if_pos (nI_le (Nat.le_refl _) (by omega)), cvN_some]
    rfl
  | succ d ih =>
    intro k f hk hf
    obtain ⟨f, rfl⟩ : ∃ f', f = f' + 1 := ⟨f - 1, by omega⟩
    have hk64 : k < 64 := by omega
    have step := ih (k + 1) f (by omega) (by omega)
    rw [clF_c] at step
    rw [F_X12_cover_24, x_gN_ok h.K0 R10, aI_lit (x := (3 : Int32)) (n := 3) K130 (by rw [L130]; omega) rfl (by omega), e3, nI_sh1 (by omega), if_neg (nI_ge (by omega) (by omega))]
    refine m_let_e ?_
    intro K1 hK1
    have i1 : F_X12_cover_42 K1 m_FU 128 w (iO (clF (cvA s.2.1) k)) (nI k) (1 : Int32) (0 : Int32) M = _ := M_cv42 h hA hk64 20 0 m_FU (by omega) (m_FU_lt (by omega))
    rw [i1, hK1]
    dsimp only
    refine m_let_e ?_
    intro K2 hK2
    refine m_let_e ?_
    intro K3 hK3
    have no : (¬ (bct k < fwO (clF (cvA s.2.1) k) ∧ cvA s.2.1 k = true)) → K3 128 w (iO (clF (cvA s.2.1) k)) (nI k) M = K w (nI (cvN s.2.1)) M := fun y => by
      rw [hK3]
      dsimp only
      rw [hK2]
      dsimp only
      rw [m_let_eq, nI_1]
      rw [if_neg y] at step
      exact step
    cases q : cvA s.2.1 k
    · rw [if_pos (by decide)]
      exact no (fun z => by rw [q] at z; cases z.2)
    rw [if_neg (by decide)]
    refine m_let_e ?_
    intro K4 hK4
    have yes : (bct k < fwO (clF (cvA s.2.1) k)) → K4 128 w (nI k) M = K w (nI (cvN s.2.1)) M := fun y => by
      rw [hK4]
      dsimp only
      rw [hK2]
      dsimp only
      rw [m_let_eq, nI_1]
      rw [if_pos ⟨y, q⟩] at step
      exact step
    cases z : clF (cvA s.2.1) k with
    | none =>
      rw [if_pos (show iO none < (0 : Int32) from by decide)]
      exact yes (by rw [z]; have := bct6 k hk64; show bct k < 13; omega)
    | some b =>
      have hb := clF_lt z
      have b6 := bct6 b (by omega)
      have k6 := bct6 k hk64
      rw [z] at yes no
      rw [if_neg (show ¬ iO (some b) < (0 : Int32) from nI_pos (by omega)), x_bd_ok (S_bits (by omega)), x_bd_ok (show F_X12_bits (iO (some b)) M = some (nI (bct b), M) from S_bits (by omega))]
      by_cases y : bct k < bct b
      · rw [if_neg (nI_ge (by omega) (by omega))]
        exact yes y
      · rw [if_pos (nI_le (by omega) (by omega))]
        exact no (fun z => y z.1)
theorem O_cover (x : Int32) : RO s (F_X11_cover 0 x) (F_X12_cover 128 x) := by
  by_cases hx : x < 0
  · refine ⟨NO, fun M h => ⟨⟨M, ?_, SC.rfl' M⟩, ⟨m_sI M 128 0 0, ?_, SC_thr M 0⟩⟩⟩
    · unfold F_X11_cover; rw [if_pos hx]; rfl
    · unfold F_X12_cover
      rw [x_pI_ok h.K0, x_bd_ok (show F_X12_within x (0 : Int32) (1 : Int32) (m_sI M 128 0 0) = some (nI 0, m_sI M 128 0 0) from S_within_neg (a := 0) hx (by omega)), if_pos (by decide)]; rfl
  obtain ⟨a, ha2, rfl⟩ := nI_of hx
  have hw : ∀ M : m_M, F_X12_within (nI a) (0 : Int32) (1 : Int32) M = some (bI (decide (a ≤ 1)), M) := fun M => by
    have := S_within (M := M) (k := a) (a := 0) (b := 1) ha2 (by omega) (by omega)
    rw [decide_eq_true (p := 0 ≤ a) (by omega), Bool.true_and] at this
    exact this
  by_cases h6 : a ≤ 1
  · refine ⟨if a = 0 then nI (bct (cvN s.2.1)) else nI (cvN s.2.1), fun M h => ⟨?_, ?_⟩⟩
    · have hv := h.lo.2.2.2.1
      have hp : 2 ^ lH s.2.1 3 ≤ 2 ^ 6 := Nat.pow_le_pow_right (by omega) (by omega)
      have hb := clF_lt (cvN_some s.2.1)
      obtain ⟨A', e, e1, sc⟩ := C_say h
      have e' : F_X2_findSayable 67 M = some ((), m_wA M A') := e
      have h2 := sc.INV h
      have R7 : m_R M 0 7 = some 67 := by simp only [gR h.1]
      have K67 : m_K M 67 = 2 := by simp only [gK h.1]
      refine ⟨_, ?_, sc⟩
      unfold F_X11_cover
      rw [if_neg hx, if_pos (show nI a ≤ (1 : Int32) from nI_le (b := 1) (by omega) (by omega)), x_gN_ok h.C0 R7, x_cV_ok K67 e']
      refine m_let_e ?_
      intro K1 hK1
      have c : F_X11_cover_26 K1 m_FU 0 (nI a) (0 : Int32) (7 : Int32) (0 : Int32) (m_wA M A') = _ := C_cv26 h2 e1 (2 ^ lH s.2.1 3) 0 m_FU (by omega) (m_FU_lt (by omega))
      rw [c, hK1]
      dsimp only
      by_cases z : a = 0
      · rw [z, if_pos (by decide), if_pos rfl, x_bd_ok (S_bitCount (by omega))]
      · rw [if_neg (nI_nz z (by omega)), if_neg z]
    · have h1 := h.thr 0
      have hv := h.lo.2.2.2.1
      have hp : 2 ^ lH s.2.1 3 ≤ 2 ^ 6 := Nat.pow_le_pow_right (by omega) (by omega)
      have hb := clF_lt (cvN_some s.2.1)
      obtain ⟨A', B', e, e1, sc⟩ := M_say h1
      have h2 := sc.INV h1
      refine ⟨_, ?_, (SC_thr M 0).trans sc⟩
      unfold F_X12_cover
      rw [x_pI_ok h.K0, x_bd_ok (hw _), decide_eq_true h6, if_neg (by decide), x_cV_ok h1.K0 e]
      refine m_let_e ?_
      intro K1 hK1
      have c : F_X12_cover_24 K1 m_FU 128 (nI a) (-1 : Int32) (0 : Int32) (m_w2 (m_sI M 128 0 0) A' B') = _ := M_cv24 h2 e1 (2 ^ lH s.2.1 3) 0 m_FU (by omega) (m_FU_lt (by omega))
      rw [c, hK1]
      dsimp only
      by_cases z : a = 0
      · rw [z, if_pos (by decide), if_pos rfl, x_bd_ok (S_bits (by omega))]
      · rw [if_neg (nI_nz z (by omega)), if_neg z]
  · refine ⟨NO, fun M h => ⟨⟨M, ?_, SC.rfl' M⟩, ⟨m_sI M 128 0 0, ?_, SC_thr M 0⟩⟩⟩
    · unfold F_X11_cover
      rw [if_neg hx, if_neg (show ¬ nI a ≤ (1 : Int32) from nI_ge (b := a) (a := 1) (by omega) ha2)]; rfl
    · unfold F_X12_cover
      rw [x_pI_ok h.K0, x_bd_ok (hw _), decide_eq_false h6, if_pos (by decide)]; rfl
end OSAY
