/-! bits of small sets; sure -/
theorem S_bits {M : m_M} {n : Nat} (hn : n < 4096) : F_X12_bits (nI n) M = some (nI (bct n), M) := by
  unfold F_X12_bits bct
  refine up_0 (fun f k c => F_X12_bits_4 f (nI n) c (nI k) M = some (nI (cnt n.testBit 12), M)) 12 (fun k c => c = nI (cnt n.testBit k)) (by omega) rfl ?_ ?_
  · intro f k c hk hc ih
    have e := ih (nI (cnt n.testBit (k + 1))) rfl
    have hb : n / 2 ^ k < 2147483648 := Nat.lt_of_le_of_lt (Nat.div_le_self _ _) (by omega)
    have hq : (if n.testBit k = true then 1 else 0) = n / 2 ^ k % 2 := by
      rw [tb_div]
      rcases Nat.mod_two_eq_zero_or_one (n / 2 ^ k) with h | h <;> simp [h]
    rw [F_X12_bits_4, if_neg (show ¬ (12 : Int32) ≤ nI k from nI_ge (b := 12) hk (by omega)), m_let_eq, m_let_eq, nI_1, nI_shr (by omega) (by omega), show (1 : Int32) = nI 1 from rfl, nI_m1, hc, nI_add, ← hq]
    exact e
  · intro f c hc
    rw [F_X12_bits_4, if_pos (by decide), hc]
theorem cnt_and_eq {P Q : Nat → Bool} : ∀ {n : Nat}, cnt (fun w => P w && Q w) n = cnt Q n ↔ ∀ w, w < n → (P w && Q w) = Q w := by
  intro n
  have hle : ∀ n, cnt (fun w => P w && Q w) n ≤ cnt Q n := by
    intro n
    induction n with
    | zero => exact Nat.le_refl _
    | succ n ih =>
      show cnt _ n + (if (P n && Q n) then 1 else 0) ≤ cnt Q n + (if Q n then 1 else 0)
      cases P n <;> cases Q n <;> simp <;> omega
  induction n with
  | zero => exact ⟨fun _ w hw => absurd hw (Nat.not_lt_zero _), fun _ => rfl⟩
  | succ n ih =>
    have h1 := hle n
    constructor
    · intro h w hw
      have h' : cnt (fun w => P w && Q w) n + (if (P n && Q n) then 1 else 0) = cnt Q n + (if Q n then 1 else 0) := h
      have h2 : cnt (fun w => P w && Q w) n = cnt Q n ∧ (P n && Q n) = Q n := by
        revert h'
        cases P n <;> cases Q n <;> simp <;> omega
      by_cases e : w = n
      · rw [e]; exact h2.2
      · exact ih.mp h2.1 w (by omega)
    · intro h
      show cnt _ n + (if (P n && Q n) then 1 else 0) = cnt Q n + (if Q n then 1 else 0)
      rw [h n (by omega), ih.mpr (fun w hw => h w (by omega))]
section OPS6
variable {M : m_M} {s : St}
theorem S_spot {l : Ld} (h : G M) (hl : LCi l (m_I M)) (ho : lOk l) (hs : LCs l (m_L M 13)) {t p st la : Nat} (ht : t < lH l 1) (hp : p < lH l 0) (w : Ws M st la) (hla : la ≠ 13) : ∃ f, F_X3_spot 2 (nI t) (nI p) st M = some ((), m_wL M la f) ∧ Rw (wN l) (fun x => decide (whr l x t = p)) f := by
  have b1 := ho.2.1
  have b3 := ho.1
  have hG : G (w16 M la (fun _ => 0)) := h
  have K2 : m_K (w16 M la (fun _ => 0)) 2 = 3 := by simp only [gK hG]
  have R16 : m_R (w16 M la (fun _ => 0)) 2 16 = some 13 := by simp only [gR hG]
  have K13 : m_K (w16 M la (fun _ => 0)) 13 = 13 := by simp only [gK hG]
  have L13 : m_len (w16 M la (fun _ => 0)) 13 = 320 := by simp only [gl hG]
  have w2 : Ws (w16 M la (fun _ => 0)) st la := w
  refine ⟨va_cpy (m_L (w16 M la (fun _ => 0)) 13) (m_L (w16 M la (fun _ => 0)) la) ((t * 4 + p) * 16 + 0) 0 16, ?_, ?_⟩
  · unfold F_X3_spot
    rw [x_cV_ok w.1 (S_clear w), x_cV_ok K2 (S_isThingC hG (show LCi l (m_I (w16 M la (fun _ => 0))) from hl) ho (by omega)), decide_eq_true ht, if_neg (by decide), x_cV_ok K2 (S_isPlaceC hG (show LCi l (m_I (w16 M la (fun _ => 0))) from hl) ho (by omega)), decide_eq_true hp, if_neg (by decide), x_gN_ok K2 R16, show (0 : Int32) = nI 0 from rfl, x_bd_ok (S_spotIndex t p 0), x_gN_ok w2.1 w2.2.1, show (16 : Int32) = nI 16 from rfl, x_cpL_ok K13 w2.2.2.1 (by rw [L13]; omega) (by rw [w2.2.2.2]; omega) (by omega) (by omega) (by omega)]
    unfold w16
    rw [m_wL_wL]
  · refine (hs t p ht hp).of (fun k hk => ?_)
    show (if 0 ≤ k ∧ k < 0 + 16 then m_L (w16 M la (fun _ => 0)) 13 ((t * 4 + p) * 16 + 0 + (k - 0)) else _) = _
    rw [if_pos (by omega)]
    unfold w16
    rw [mL_wL, if_neg (by omega)]
    rfl
def atP (s : St) (t p w : Nat) : Bool := decide (whr s.2.1 w t = p)
def sureV (s : St) (t p : Nat) : Int32 := if cnt (lefN s) (wN s.2.1) = 0 then NO else if cnt (fun w => atP s t p w && lefN s w) (wN s.2.1) = 0 then nI 0 else if cnt (fun w => atP s t p w && lefN s w) (wN s.2.1) = cnt (lefN s) (wN s.2.1) then nI 1 else nI 2
theorem M_sure_l (h : INV s M) (hP : Rw (wN s.2.1) (lefN s) (m_L M 170)) {t p : Nat} (ht : t < lH s.2.1 1) (hp : p < lH s.2.1 0) {K : Int32 → Int32 → m_M → Option (Int32 × m_M)} : ∃ A', F_X12_sure_28 K m_FU 128 (nI t) (nI p) (0 : Int32) (0 : Int32) (0 : Int32) M = K (nI (cnt (lefN s) (wN s.2.1))) (nI (cnt (fun w => atP s t p w && lefN s w) (wN s.2.1))) (m_wA M A') ∧ ∀ a, a ≠ 154 → A' a = m_I M a := by
  have hn := wN_le h.lo
  have b1 := h.lo.2.1
  have b3 := h.lo.1
  have K0 : ∀ A, m_K (m_wA M A) 128 = 10 := fun A => by rw [wA_K]; exact h.K0
  have K170 : ∀ A, m_K (m_wA M A) 170 = 13 := fun A => by simp only [wA_K, gK h.1]
  have L170 : ∀ A, m_len (m_wA M A) 170 = 16 := fun A => by simp only [wA_n, gl h.1]
  have R62 : ∀ A, m_R (m_wA M A) 128 62 = some 170 := fun A => by simp only [wA_R, gR h.1]
  have R44 : ∀ A, m_R (m_wA M A) 128 44 = some 154 := fun A => by simp only [wA_R, gR h.1]
  have K154 : ∀ A, m_K (m_wA M A) 154 = 12 := fun A => by simp only [wA_K, gK h.1]
  have L154 : ∀ A, m_len (m_wA M A) 154 = 5 := fun A => by simp only [wA_n, gl h.1]
  refine up_0 (S := Int32 × Int32 × IA) (fun f k c => ∃ A', F_X12_sure_28 K f 128 (nI t) (nI p) c.1 c.2.1 (nI k) (m_wA M c.2.2) = K (nI (cnt (lefN s) (wN s.2.1))) (nI (cnt (fun w => atP s t p w && lefN s w) (wN s.2.1))) (m_wA M A') ∧ ∀ a, a ≠ 154 → A' a = m_I M a) (wN s.2.1) (fun k c => c.1 = nI (cnt (lefN s) k) ∧ c.2.1 = nI (cnt (fun w => atP s t p w && lefN s w) k) ∧ ∀ a, a ≠ 154 → c.2.2 a = m_I M a) (s := ((0 : Int32), (0 : Int32), m_I M)) (by omega) ⟨rfl, rfl, fun _ _ => rfl⟩ ?_ ?_
  · rintro f k ⟨c1, c2, A⟩ hk ⟨hc1, hc2, hA⟩ ih
    dsimp only at hc1 hc2 hA ⊢
    have hlA : LMi s.2.1 A := h.lm.sc (fun a ha => hA a (by omega))
    have I42 : A 128 42 = nI (wN s.2.1) := hlA.2.2.2.2.2.1
    have eb := lb_shr (m_L M 170 (k / 64)) (j := k % 64) (by omega)
    rw [hP.at hk hn] at eb
    rw [F_X12_sure_28, x_gI_ok (K0 _), wA_I, I42, if_neg (nI_ge hk (by omega))]
    refine m_let_P (fun o => ∃ A', o = K (nI (cnt (lefN s) (wN s.2.1))) (nI (cnt (fun w => atP s t p w && lefN s w) (wN s.2.1))) (m_wA M A') ∧ ∀ a, a ≠ 154 → A' a = m_I M a) ?_
    intro k92 h92
    have hct : cnt (lefN s) (k + 1) = cnt (lefN s) k + (if lefN s k then 1 else 0) := rfl
    have hct2 : cnt (fun w => atP s t p w && lefN s w) (k + 1) = cnt (fun w => atP s t p w && lefN s w) k + (if (atP s t p k && lefN s k) then 1 else 0) := rfl
    rw [x_gN_ok (K0 _) (R62 _), x_nz_eq, if_neg (by decide), show nI k / (64 : Int32) = nI (k / 64) from i32_div (b := 64) (by omega) (by omega), x_aL_ok (K170 _) (by rw [L170]; omega) (by omega), wA_L, x_nz_eq, if_neg (by decide), show nI k - nI (k / 64) * (64 : Int32) = nI (k % 64) from by rw [show (64 : Int32) = nI 64 from rfl, nI_mul, i32_rem2], eb]
    cases hlk : lefN s k
    · rw [if_pos (by decide), h92]
      dsimp only
      rw [m_let_eq, nI_1]
      rw [hlk] at hct hct2
      rw [Bool.and_false] at hct2
      exact ih (c1, c2, A) ⟨by dsimp only; rw [hct]; exact hc1, by dsimp only; rw [hct2]; exact hc2, hA⟩
    · rw [if_neg (by decide)]
      rw [hlk] at hct hct2
      rw [Bool.and_true] at hct2
      obtain ⟨A1, s1, s2, s3⟩ := S_shows (M := M) (A := A) h.1 hlA h.lo (w := k) (by omega)
      refine m_let_P (fun o => ∃ A', o = K (nI (cnt (lefN s) (wN s.2.1))) (nI (cnt (fun w => atP s t p w && lefN s w) (wN s.2.1))) (m_wA M A') ∧ ∀ a, a ≠ 154 → A' a = m_I M a) ?_
      intro k89 h89
      have hwk := s3 t ht
      have hwl := whr_lt h.lo k t
      rw [x_cV_ok (K0 _) s1, m_let_eq, x_gN_ok (K0 _) (R44 _), x_aI_ok (K154 _) (by rw [L154]; omega) (by omega), wA_I, hwk]
      have fin : ∀ b : Bool, b = atP s t p k → ∃ A', k89 128 (nI t) (nI p) (c1 + 1) (nI k) c2 (bI b) (m_wA M A1) = K (nI (cnt (lefN s) (wN s.2.1))) (nI (cnt (fun w => atP s t p w && lefN s w) (wN s.2.1))) (m_wA M A') ∧ ∀ a, a ≠ 154 → A' a = m_I M a := by
        intro b hb
        rw [h89]
        dsimp only
        rw [m_let_eq, h92]
        dsimp only
        rw [m_let_eq, nI_1]
        refine ih (c1 + 1, c2 + bI b, A1) ⟨by dsimp only; rw [hct, hc1, nI_1]; rfl, ?_, fun a ha => by dsimp only; rw [s2 a ha, hA a ha]⟩
        dsimp only
        rw [hct2, ← hb, hc2]
        cases b
        · exact nI_add _ 0
        · exact nI_add _ 1
      by_cases q : whr s.2.1 k t = p
      · rw [if_pos (by rw [q])]
        exact fin true (by unfold atP; rw [decide_eq_true q])
      · rw [if_neg (fun e => q ((nI_eq (by omega) (by omega)).mp e))]
        exact fin false (by unfold atP; rw [decide_eq_false q])
  · rintro f ⟨c1, c2, A⟩ ⟨hc1, hc2, hA⟩
    dsimp only at hc1 hc2 hA ⊢
    have hlA : LMi s.2.1 A := h.lm.sc (fun a ha => hA a (by omega))
    have I42 : A 128 42 = nI (wN s.2.1) := hlA.2.2.2.2.2.1
    refine ⟨A, ?_, hA⟩
    rw [F_X12_sure_28, x_gI_ok (K0 _), wA_I, I42, if_pos (nI_le (Nat.le_refl _) (by omega)), hc1, hc2]
theorem sure_eq (n t : Nat) (hn : n < 2147483648) (ht : t < 2147483648) {M : m_M} : (if nI n = (0 : Int32) then some ((-1 : Int32), M) else if nI t = nI n then some ((1 : Int32), M) else if nI t = (0 : Int32) then some ((0 : Int32), M) else some ((2 : Int32), M)) = some (if n = 0 then NO else if t = 0 then nI 0 else if t = n then nI 1 else nI 2, M) := by
  by_cases h0 : n = 0
  · rw [if_pos (show nI n = (0 : Int32) from by rw [h0]; rfl), if_pos h0]; rfl
  · rw [if_neg (show ¬ nI n = (0 : Int32) from nI_ne0 (by omega) hn), if_neg h0]
    by_cases h1 : t = 0
    · rw [if_neg (fun e => h0 (by have := (nI_eq ht hn).mp e; omega)), if_pos (show nI t = (0 : Int32) from by rw [h1]; rfl), if_pos h1]; rfl
    · by_cases h2 : t = n
      · rw [if_pos (by rw [h2]), if_neg h1, if_pos h2]; rfl
      · rw [if_neg (fun e => h2 ((nI_eq ht hn).mp e)), if_neg (show ¬ nI t = (0 : Int32) from nI_ne0 (by omega) ht), if_neg h1, if_neg h2]; rfl
theorem O_sure (x y : Int32) : RO s (F_X11_sure 0 x y) (F_X12_sure 128 x y) := by
  have bad : (x < 0 ∨ y < 0 ∨ ∃ t p, t < 2147483648 ∧ p < 2147483648 ∧ x = nI t ∧ y = nI p ∧ ¬ (t < lH s.2.1 1 ∧ p < lH s.2.1 0)) → RO s (F_X11_sure 0 x y) (F_X12_sure 128 x y) := by
    intro hq
    refine ⟨NO, fun M h => ⟨⟨M, ?_, SC.rfl' M⟩, ⟨m_sI M 128 0 0, ?_, SC_thr M 0⟩⟩⟩
    · unfold F_X11_sure
      rw [x_gN_ok h.C0 h.R2]
      rcases i_cases x with ⟨t, ht, rfl⟩ | hx
      · rw [x_cV_ok h.C2 (S_isThingC h.1 h.lc h.lo ht)]
        by_cases q : t < lH s.2.1 1
        · rw [decide_eq_true q, if_neg (by decide), x_gN_ok h.C0 h.R2]
          have e : F_X3_isPlace 2 y M = some (nI 0, M) := by
            rcases i_cases y with ⟨p, hp, rfl⟩ | hy
            · rw [S_isPlaceC h.1 h.lc h.lo hp]
              rcases hq with hq | hq | ⟨t', p', _, hp', e1, e2, e3⟩
              · exact absurd hq (nI_pos ht)
              · exact absurd hq (nI_pos hp)
              · have a1 := (nI_eq ht (by omega)).mp e1
                have a2 := (nI_eq hp hp').mp e2
                rw [decide_eq_false (fun z => e3 ⟨by omega, by omega⟩)]; rfl
            · exact S_isPlaceC_neg hy
          rw [x_cV_ok h.C2 e, if_pos (by decide)]; rfl
        · rw [decide_eq_false q, if_pos (by decide)]; rfl
      · rw [x_cV_ok h.C2 (S_isThingC_neg hx), if_pos (by decide)]; rfl
    · have h1 := h.thr 0
      have e : F_X12_isThingAt 128 x y (m_sI M 128 0 0) = some (nI 0, m_sI M 128 0 0) := by
        rcases i_cases x with ⟨t, ht, rfl⟩ | hx
        · rcases i_cases y with ⟨p, hp, rfl⟩ | hy
          · rw [S_isThingAt h1.1 h1.lm h1.lo ht hp]
            rcases hq with hq | hq | ⟨t', p', ht', hp', e1, e2, e3⟩
            · exact absurd hq (nI_pos ht)
            · exact absurd hq (nI_pos hp)
            · have a1 := (nI_eq ht ht').mp e1
              have a2 := (nI_eq hp hp').mp e2
              by_cases q : t < lH s.2.1 1
              · rw [decide_eq_true q, decide_eq_false (fun z => e3 ⟨by omega, by omega⟩)]; rfl
              · rw [decide_eq_false q]; rfl
          · have R10 : m_R (m_sI M 128 0 0) 128 10 = some 130 := by simp only [gR h1.1]
            unfold F_X12_isThingAt
            rw [m_let_eq, if_neg (nI_pos ht), x_gN_ok h1.K0 R10, aI_lit (x := (1 : Int32)) (n := 1) (by simp only [gK h1.1]) (by rw [show m_len (m_sI M 128 0 0) 130 = 16 from by simp only [gl h1.1]]; omega) rfl (by omega), if_pos hy]
            split <;> rfl
        · unfold F_X12_isThingAt
          rw [m_let_eq, if_pos hx]; rfl
      unfold F_X12_sure
      rw [x_pI_ok h.K0, x_cV_ok h1.K0 e, if_pos (by decide)]; rfl
  rcases i_cases x with ⟨t, ht, rfl⟩ | hx
  · rcases i_cases y with ⟨p, hp, rfl⟩ | hy
    · by_cases q : t < lH s.2.1 1 ∧ p < lH s.2.1 0
      · refine ⟨sureV s t p, fun M h => ⟨?_, ?_⟩⟩
        · have hn := wN_le h.lo
          obtain ⟨g, e, e1⟩ := C_left h
          have h2 := SC_left (g := g) |>.INV h
          have hL : Rw (wN s.2.1) (lefN s) (m_L (m_wL M 91 g) 91) := e1.of (fun k _ => by rw [mL_wL, if_pos rfl])
          have E1 := S_isEmpty h2.W90 hn hL
          by_cases z0 : cnt (lefN s) (wN s.2.1) = 0
          · refine ⟨_, ?_, SC_left (g := g)⟩
            rw [if_pos z0] at E1
            unfold F_X11_sure
            rw [x_gN_ok h.C0 h.R2, x_cV_ok h.C2 (S_isThingC h.1 h.lc h.lo ht), decide_eq_true q.1, if_neg (by decide), x_gN_ok h.C0 h.R2, x_cV_ok h.C2 (S_isPlaceC h.1 h.lc h.lo hp), decide_eq_true q.2, if_neg (by decide), x_cV_ok h.C0 e, x_gN_ok h2.C0 h2.R12, x_cV_ok h2.W90.1 E1, if_neg (by decide)]
            unfold sureV
            rw [if_pos z0]; rfl
          · rw [if_neg z0] at E1
            obtain ⟨f1, e2, e3⟩ := S_spot h2.1 h2.lc h2.lo h2.ls q.1 q.2 h2.W92 (by omega)
            have sc2 : SC (m_wL M 91 g) (m_wL (m_wL M 91 g) 93 f1) := SC_wL _ _ (by unfold scL; omega)
            have h3 := sc2.INV h2
            have sc3 : SC (m_wL (m_wL M 91 g) 93 f1) (w16 (m_wL (m_wL M 91 g) 93 f1) 93 (fun k => m_L (m_wL (m_wL M 91 g) 93 f1) 93 k &&& m_L (m_wL (m_wL M 91 g) 93 f1) 91 k)) := SC_wL _ _ (by unfold scL; omega)
            have h4 := sc3.INV h3
            have hS : Rw (wN s.2.1) (atP s t p) (m_L (m_wL (m_wL M 91 g) 93 f1) 93) := Rw.of (f := f1) e3 (fun k _ => by rw [mL_wL, if_pos rfl])
            have hL2 : Rw (wN s.2.1) (lefN s) (m_L (m_wL (m_wL M 91 g) 93 f1) 91) := hL.of (fun k _ => by rw [mL_wL, if_neg (by omega)])
            have hA : Rw (wN s.2.1) (fun w => atP s t p w && lefN s w) (m_L (w16 (m_wL (m_wL M 91 g) 93 f1) 93 (fun k => m_L (m_wL (m_wL M 91 g) 93 f1) 93 k &&& m_L (m_wL (m_wL M 91 g) 93 f1) 91 k)) 93) := (hS.and hL2).of (fun k hk => by unfold w16; rw [mL_wL, if_pos rfl, if_pos hk])
            have hL3 : Rw (wN s.2.1) (lefN s) (m_L (w16 (m_wL (m_wL M 91 g) 93 f1) 93 (fun k => m_L (m_wL (m_wL M 91 g) 93 f1) 93 k &&& m_L (m_wL (m_wL M 91 g) 93 f1) 91 k)) 91) := hL2.of (fun k _ => by unfold w16; rw [mL_wL, if_neg (by omega)])
            refine ⟨_, ?_, ((SC_left (g := g)).trans sc2).trans sc3⟩
            unfold F_X11_sure
            rw [x_gN_ok h.C0 h.R2, x_cV_ok h.C2 (S_isThingC h.1 h.lc h.lo ht), decide_eq_true q.1, if_neg (by decide), x_gN_ok h.C0 h.R2, x_cV_ok h.C2 (S_isPlaceC h.1 h.lc h.lo hp), decide_eq_true q.2, if_neg (by decide), x_cV_ok h.C0 e, x_gN_ok h2.C0 h2.R12, x_cV_ok h2.W90.1 E1, if_pos (by decide), x_gN_ok h2.C0 h2.R2, x_gN_ok h2.C0 h2.R13, x_cV_ok h2.C2 e2, x_gN_ok h3.C0 h3.R13, x_gN_ok h3.C0 h3.R12, x_cV_ok h3.W92.1 (S_keep h3.W92 h3.W90 (by omega)), x_gN_ok h4.C0 h4.R13, x_cV_ok h4.W92.1 (S_isEmpty h4.W92 hn hA)]
            unfold sureV
            rw [if_neg z0]
            by_cases z1 : cnt (fun w => atP s t p w && lefN s w) (wN s.2.1) = 0
            · rw [if_pos z1, if_pos z1, if_neg (by decide)]; rfl
            · rw [if_neg z1, if_neg z1, if_pos (by decide), x_gN_ok h4.C0 h4.R13, x_gN_ok h4.C0 h4.R12, x_cV_ok h4.W92.1 (S_isLike h4.W92 h4.W90 hn hA hL3)]
              by_cases z2 : cnt (fun w => atP s t p w && lefN s w) (wN s.2.1) = cnt (lefN s) (wN s.2.1)
              · rw [if_pos (cnt_and_eq.mp z2), if_pos z2, if_neg (by decide)]; rfl
              · rw [if_neg (fun z => z2 (cnt_and_eq.mpr z)), if_neg z2, if_pos (by decide)]; rfl
        · have h1 := h.thr 0
          have hn := wN_le h.lo
          obtain ⟨B, e, e1, e2⟩ := M_left h1
          have h2 := (SC_mleft e1).INV h1
          unfold F_X12_sure
          rw [x_pI_ok h.K0, x_cV_ok h1.K0 (S_isThingAt h1.1 h1.lm h1.lo ht hp), decide_eq_true q.1, decide_eq_true q.2, if_neg (by decide), x_cV_ok h1.K0 e]
          have hcl := cnt_le (lefN s) (wN s.2.1)
          have hcl2 := cnt_le (fun w => atP s t p w && lefN s w) (wN s.2.1)
          refine m_let_P (fun o => ∃ M', o = some (sureV s t p, M') ∧ SC M M') ?_
          intro K hK
          obtain ⟨A', e3, e4⟩ := M_sure_l h2 e2 q.1 q.2 (K := K)
          refine ⟨m_wA (m_w2 (m_sI M 128 0 0) (m_I (m_sI M 128 0 0)) B) A', ?_, ((SC_thr M 0).trans (SC_mleft e1)).trans ?_⟩
          · rw [e3, hK]
            exact sure_eq _ _ (by omega) (by omega)
          · rw [w2_A]
            exact SC_w2 _ (fun a ha => e4 a (fun z => ha (by unfold scr; omega))) (fun _ _ => rfl)
      · exact bad (.inr (.inr ⟨t, p, ht, hp, rfl, rfl, q⟩))
    · exact bad (.inr (.inl hy))
  · exact bad (.inl hx)
end OPS6
