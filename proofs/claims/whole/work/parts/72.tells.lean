/-! the foreigner: tells -/
theorem cnt_sub {P Q : Nat → Bool} (h : ∀ w, P w = true → Q w = true) : ∀ n, cnt P n ≤ cnt Q n := by
  intro n
  induction n with
  | zero => exact Nat.le_refl _
  | succ n ih =>
    show cnt P n + (if P n then 1 else 0) ≤ cnt Q n + (if Q n then 1 else 0)
    cases hp : P n
    · simp only [Bool.false_eq_true, if_false]; split <;> omega
    · rw [h n hp]; simp only [if_true]; omega
theorem cnt_mono {P : Nat → Bool} {n m : Nat} (h : n ≤ m) : cnt P n ≤ cnt P m := by
  obtain ⟨k, rfl⟩ : ∃ k, m = n + k := ⟨m - n, by omega⟩
  rw [cnt_add]; omega
section TELLS
variable {M : m_M} {s : St}
def evP (s : St) (w c v : Nat) : Bool := (kno s).testBit v && cby s.2.1 (some v) c w
def evN (s : St) (w c : Nat) : Nat := cnt (evP s w c) (lH s.2.1 3)
def evM (s : St) (w c : Nat) : Nat := min (evN s w c) (bct (kno s) - evN s w c)
theorem evN_le (h : INV s M) (w c : Nat) : evN s w c ≤ bct (kno s) := by
  have hv6 := h.lo.2.2.2.1
  refine Nat.le_trans (cnt_sub (Q := (kno s).testBit) (fun v hv => ?_) _) (cnt_mono (by omega))
  unfold evP at hv
  rw [Bool.and_eq_true] at hv
  exact hv.1
def tlF (s : St) (w : Nat) : Nat → Option Nat × Nat
  | 0 => (none, 0)
  | c + 1 => if ccOk s.2.1 c = true ∧ (tlF s w c).2 < evM s w c then (some c, evM s w c) else tlF s w c
theorem S_min {a b : Nat} (ha : a < 2147483648) (hb : b < 2147483648) : F_J9_min_7cf53 (nI a) (nI b) M = some (nI (min a b), M) := by
  unfold F_J9_min_7cf53
  by_cases q : b < a
  · rw [if_pos (nI_lt q ha), Nat.min_eq_right (by omega)]
  · rw [if_neg (nI_nlt (by omega) hb), Nat.min_eq_left (by omega)]
theorem evM_le (h : INV s M) (w c : Nat) : evM s w c ≤ 12 := by
  have h1 := evN_le h w c
  have h2 := bct_le (kno s)
  unfold evM
  omega
theorem C_even (h : INV s M) {c w : Nat} (hc : ccOk s.2.1 c = true) (hw : w < wN s.2.1) : F_X11_evennessOf 0 (nI c) (nI w) (nI (kno s)) M = some (nI (evM s w c), M) := by
  have hn := wN_le h.lo
  have hv6 := h.lo.2.2.2.1
  have hk := kno_lt h
  obtain ⟨q400, n1, n2⟩ := ccOk_iff.mp hc
  have R6 : m_R M 2 6 = some 3 := by simp only [gR h.1]
  have X3 : ∀ g : Int32 → Option (Int32 × m_M), x_aI 12 M 3 (2 : Int32) g = g (nI (lH s.2.1 3)) := fun g => by
    rw [aI_lit (x := (2 : Int32)) (n := 2) (by simp only [gK h.1]) (by rw [show m_len M 3 = 4 from by simp only [gl h.1]]; omega) rfl (by omega), h.lc.2.1.2.2.1]
  have hle := evN_le h w c
  have hb := bct_le (kno s)
  unfold F_X11_evennessOf
  refine m_let_e ?_
  intro K hK
  refine up_0 (fun f k x => F_X11_evennessOf_6 K f 0 (nI c) (nI w) (nI (kno s)) x (nI k) M = some (nI (evM s w c), M)) (lH s.2.1 3) (fun k x => x = nI (cnt (evP s w c) k)) (by omega) rfl ?_ ?_
  · intro f k x hkk hx ih
    have hct : cnt (evP s w c) (k + 1) = cnt (evP s w c) k + (if evP s w c k then 1 else 0) := rfl
    have hbb : kno s / 2 ^ k < 2147483648 := Nat.lt_of_le_of_lt (Nat.div_le_self _ _) (by omega)
    have e4 : F_X3_clauseHolds 2 (nI c) (nI k) (nI w) M = some (bI (cby s.2.1 (some k) c w), M) := S_clauseHoldsC (v := some k) h.1 h.lc h.lo (fun j hj => by rw [← Option.some.inj hj]; exact hkk) q400 n1 n2 (by omega)
    rw [F_X11_evennessOf_6, x_gN_ok h.C0 h.R2, x_gN_ok h.C2 R6, X3, if_neg (nI_ge hkk (by omega)), m_let_eq, nI_shr (by omega) (by omega), show (1 : Int32) = nI 1 from rfl, nI_m1]
    by_cases q : (kno s).testBit k = true
    · have hq : kno s / 2 ^ k % 2 = 1 := by rw [tb_div] at q; simpa using q
      rw [hq, if_neg (by decide), x_gN_ok h.C0 h.R2, x_cV_ok h.C2 e4]
      have hev : evP s w c k = cby s.2.1 (some k) c w := by unfold evP; rw [q, Bool.true_and]
      rw [hev] at hct
      cases hcb : cby s.2.1 (some k) c w
      · rw [if_pos (show bI false = (0 : Int32) from rfl)]
        dsimp only
        rw [m_let_eq, nI_add]
        exact ih x (by rw [hct, hcb, hx]; rfl)
      · rw [if_neg (show ¬ bI true = (0 : Int32) from by decide), m_let_eq]
        dsimp only
        rw [m_let_eq, nI_add]
        exact ih (x + nI 1) (by rw [hct, hcb, hx, nI_add]; rfl)
    · have hq : kno s / 2 ^ k % 2 = 0 := by
        rw [tb_div] at q
        have : ¬ kno s / 2 ^ k % 2 = 1 := by simpa using q
        omega
      have hev : evP s w c k = false := by unfold evP; rw [show (kno s).testBit k = false by simpa using q, Bool.false_and]
      rw [hev] at hct
      rw [hq, if_pos (by decide)]
      dsimp only
      rw [m_let_eq, nI_add]
      exact ih x (by rw [hct, hx]; rfl)
  · intro f x hx
    have hx' : x = nI (evN s w c) := hx
    rw [F_X11_evennessOf_6, x_gN_ok h.C0 h.R2, x_gN_ok h.C2 R6, X3, if_pos (nI_le (Nat.le_refl _) (by omega)), hK]
    dsimp only
    rw [x_bd_ok (S_bitCount (by omega)), hx', nI_sub' hle, x_bd_ok (S_min (by omega) (by omega))]
    rfl
theorem C_tells_l (h : INV s M) {w : Nat} (hw : w < wN s.2.1) : F_X11_tells_26 m_FU 0 (nI w) (nI (kno s)) (-1 : Int32) (0 : Int32) (0 : Int32) M = some (iO (tlF s w 400).1, M) := by
  refine up_0 (S := Int32 × Int32) (fun f k c => F_X11_tells_26 f 0 (nI w) (nI (kno s)) c.1 c.2 (nI k) M = some (iO (tlF s w 400).1, M)) 400 (fun k c => c.1 = iO (tlF s w k).1 ∧ c.2 = nI (tlF s w k).2 ∧ (tlF s w k).2 ≤ 12) (s := ((-1 : Int32), (0 : Int32))) (by omega) ⟨rfl, rfl, by show 0 ≤ 12; omega⟩ ?_ ?_
  · rintro f k ⟨c1, c2⟩ hk ⟨hc1, hc2, hc3⟩ ih
    dsimp only at hc1 hc2 ⊢
    have hev := evM_le h w k
    rw [F_X11_tells_26, if_neg (show ¬ (400 : Int32) ≤ nI k from nI_ge (b := 400) hk (by omega)), m_let_eq, x_gN_ok h.C0 h.R2, x_cV_ok h.C2 (S_isClauseC h.1 h.lc h.lo (c := k) (by omega))]
    cases hcc : ccOk s.2.1 k
    · have hst : tlF s w (k + 1) = tlF s w k := by rw [tlF, if_neg (fun z => by rw [hcc] at z; simp at z)]
      rw [if_pos (show bI false = (0 : Int32) from rfl)]
      dsimp only
      rw [m_let_eq, nI_1]
      exact ih (c1, c2) (by rw [hst]; exact ⟨hc1, hc2, hc3⟩)
    · rw [if_neg (show ¬ bI true = (0 : Int32) from by decide), x_cV_ok h.C0 (C_even h hcc hw), hc2]
      by_cases q : (tlF s w k).2 < evM s w k
      · have hst : tlF s w (k + 1) = (some k, evM s w k) := by rw [tlF, if_pos ⟨hcc, q⟩]
        rw [if_neg (nI_ge q (by omega))]
        dsimp only
        rw [m_let_eq, nI_1]
        exact ih (nI k, nI (evM s w k)) (by rw [hst]; exact ⟨rfl, rfl, hev⟩)
      · have hst : tlF s w (k + 1) = tlF s w k := by rw [tlF, if_neg (fun z => q z.2)]
        rw [if_pos (nI_le (by omega) (by omega))]
        dsimp only
        rw [m_let_eq, nI_1]
        exact ih (c1, nI (tlF s w k).2) (by rw [hst]; exact ⟨hc1, rfl, hc3⟩)
  · rintro f ⟨c1, c2⟩ ⟨hc1, hc2, hc3⟩
    dsimp only at hc1 hc2 ⊢
    rw [F_X11_tells_26, if_pos (by decide), hc1]
theorem M_tells_in (h : INV s M) {w c : Nat} (hc : ccOk s.2.1 c = true) {y z u : Int32} {K : Nat → Int32 → Int32 → Int32 → Int32 → Int32 → m_M → Option (Int32 × m_M)} : ∀ (d k f : Nat) (A : IA), k + d = lH s.2.1 3 → d < f → (∀ a, ¬ scr a → A a = m_I M a) → Wh s.2.1 w A →
    ∃ A', F_X12_tells_59 K f 128 (nI (kno s)) y z (nI c) (nI (cnt (evP s w c) k)) (nI k) (m_wA M A) = K 128 (nI (kno s)) y z (nI c) (nI (evN s w c)) (m_wA M A') ∧ (∀ a, ¬ scr a → A' a = m_I M a) ∧ Wh s.2.1 w A' := by
  have hv6 := h.lo.2.2.2.1
  have hk6 := kno_lt h
  have K0 : ∀ A, m_K (m_wA M A) 128 = 10 := fun A => by rw [wA_K]; exact h.K0
  have R10 : ∀ A, m_R (m_wA M A) 128 10 = some 130 := fun A => by simp only [wA_R, gR h.1]
  have X130 : ∀ A, (∀ a, ¬ scr a → A a = m_I M a) → ∀ g : Int32 → Option (Int32 × m_M), x_aI 12 (m_wA M A) 130 (3 : Int32) g = g (nI (lH s.2.1 3)) := fun A hA g => by
    rw [aI_lit (x := (3 : Int32)) (n := 3) (by simp only [wA_K, gK h.1]) (by rw [show m_len (m_wA M A) 130 = 16 from by simp only [wA_n, gl h.1]]; omega) rfl (by omega), wA_I, hA 130 (by unfold scr; omega), h.lm.1 3 (by omega)]
  intro d
  induction d with
  | zero =>
    intro k f A hd hf hA hW
    obtain ⟨f, rfl⟩ : ∃ f', f = f' + 1 := ⟨f - 1, by omega⟩
    refine ⟨A, ?_, hA, hW⟩
    rw [F_X12_tells_59, x_gN_ok (K0 _) (R10 _), X130 A hA, if_pos (nI_le (by omega) (by omega)), show k = lH s.2.1 3 by omega]
    rfl
  | succ d ih =>
    intro k f A hd hf hA hW
    obtain ⟨f, rfl⟩ : ∃ f', f = f' + 1 := ⟨f - 1, by omega⟩
    have hkk : k < lH s.2.1 3 := by omega
    have hl : LMi s.2.1 A := h.lm.fr hA
    have hct : cnt (evP s w c) (k + 1) = cnt (evP s w c) k + (if evP s w c k then 1 else 0) := rfl
    rw [F_X12_tells_59, x_gN_ok (K0 _) (R10 _), X130 A hA, if_neg (nI_ge hkk (by omega))]
    refine m_let_P (fun o => ∃ A', o = K 128 (nI (kno s)) y z (nI c) (nI (evN s w c)) (m_wA M A') ∧ (∀ a, ¬ scr a → A' a = m_I M a) ∧ Wh s.2.1 w A') ?_
    intro k98 h98
    have h98' : ∀ (b : Bool) (A2 : IA), b = evP s w c k → (∀ a, ¬ scr a → A2 a = m_I M a) → Wh s.2.1 w A2 → ∃ A', k98 128 (nI (kno s)) y z (nI c) (nI k) (nI (cnt (evP s w c) k)) (bI b) (m_wA M A2) = K 128 (nI (kno s)) y z (nI c) (nI (evN s w c)) (m_wA M A') ∧ (∀ a, ¬ scr a → A' a = m_I M a) ∧ Wh s.2.1 w A' := by
      intro b A2 hb hA2 hW2
      rw [h98]
      dsimp only
      rw [m_let_eq, m_let_eq, nI_1]
      have e : nI (cnt (evP s w c) k) + bI b = nI (cnt (evP s w c) (k + 1)) := by
        rw [hct, ← hb]
        cases b
        · exact nI_add _ 0
        · exact nI_add _ 1
      rw [e]
      exact ih (k + 1) f A2 (by omega) (by omega) hA2 hW2
    rw [m_let_eq]
    by_cases q : (kno s).testBit k = true
    · obtain ⟨A2, t1, t2⟩ := S_clauseHoldsM (M := M) (A := A) (v := some k) h.1 hl h.lo (fun j hj => by rw [← Option.some.inj hj]; exact hkk) hc hW
      have hA2 : ∀ a, ¬ scr a → A2 a = m_I M a := fun a ha => by rw [t2 a (by unfold scr at ha; omega)]; exact hA a ha
      have hW2 : Wh s.2.1 w A2 := fun t ht => by rw [t2 154 (by omega)]; exact hW t ht
      have t1' : F_X12_clauseHolds 128 (nI c) (nI k) (m_wA M A) = some (bI (cby s.2.1 (some k) c w), m_wA M A2) := t1
      have hev : evP s w c k = cby s.2.1 (some k) c w := by unfold evP; rw [q, Bool.true_and]
      rw [if_pos ((nI_bit (by omega) (by omega)).mpr q), x_cV_ok (K0 _) t1']
      cases hcb : cby s.2.1 (some k) c w
      · rw [if_pos (show bI false = (0 : Int32) from rfl)]
        exact h98' false A2 (by rw [hev, hcb]) hA2 hW2
      · rw [if_neg (show ¬ bI true = (0 : Int32) from by decide)]
        exact h98' true A2 (by rw [hev, hcb]) hA2 hW2
    · have hev : evP s w c k = false := by unfold evP; rw [show (kno s).testBit k = false by simpa using q, Bool.false_and]
      rw [if_neg (fun z => q ((nI_bit (by omega) (by omega)).mp z))]
      exact h98' false A (by rw [hev]) hA hW
theorem M_tells_l (h : INV s M) {w : Nat} {A0 : IA} (hA0 : ∀ a, ¬ scr a → A0 a = m_I M a) (hW0 : Wh s.2.1 w A0) : ∃ A, F_X12_tells_33 m_FU 128 (nI (kno s)) (-1 : Int32) (0 : Int32) (0 : Int32) (m_wA M A0) = some (iO (tlF s w 400).1, m_wA M A) ∧ ∀ a, ¬ scr a → A a = m_I M a := by
  have K0 : ∀ A, m_K (m_wA M A) 128 = 10 := fun A => by rw [wA_K]; exact h.K0
  have hk6 := kno_lt h
  have hv6 := h.lo.2.2.2.1
  have key := up_l (S := Int32 × Int32 × IA) (fun f k c => ∃ A, F_X12_tells_33 f 128 (nI (kno s)) c.1 c.2.1 (nI k) (m_wA M c.2.2) = some (iO (tlF s w 400).1, m_wA M A) ∧ ∀ a, ¬ scr a → A a = m_I M a) 400 (fun k c => c.1 = iO (tlF s w k).1 ∧ c.2.1 = nI (tlF s w k).2 ∧ (tlF s w k).2 ≤ 12 ∧ (∀ a, ¬ scr a → c.2.2 a = m_I M a) ∧ Wh s.2.1 w c.2.2) ?_ ?_ 400 0 m_FU ((-1 : Int32), (0 : Int32), A0) (by omega) (m_FU_lt (by omega)) ⟨rfl, rfl, by show 0 ≤ 12; omega, hA0, hW0⟩
  · exact key
  · rintro f k ⟨c1, c2, A⟩ hk ⟨hc1, hc2, hc3, hA, hW⟩ ih
    dsimp only at hc1 hc2 hA hW ⊢
    have hev := evM_le h w k
    have hl : LMi s.2.1 A := h.lm.fr hA
    rw [F_X12_tells_33, if_neg (show ¬ (400 : Int32) ≤ nI k from nI_ge (b := 400) hk (by omega))]
    refine m_let_P (fun o => ∃ A, o = some (iO (tlF s w 400).1, m_wA M A) ∧ ∀ a, ¬ scr a → A a = m_I M a) ?_
    intro k138 h138
    rw [x_cV_ok (K0 _) (S_isClauseM (M := m_wA M A) (show G (m_wA M A) from h.1) (show LMi s.2.1 (m_I (m_wA M A)) from hl) h.lo (c := k) (by omega))]
    cases hcc : ccOk s.2.1 k
    · have hst : tlF s w (k + 1) = tlF s w k := by rw [tlF, if_neg (fun z => by rw [hcc] at z; simp at z)]
      rw [if_pos (show bI false = (0 : Int32) from rfl), h138]
      dsimp only
      rw [m_let_eq, nI_1]
      exact ih (c1, c2, A) (by rw [hst]; exact ⟨hc1, hc2, hc3, hA, hW⟩)
    · rw [if_neg (show ¬ bI true = (0 : Int32) from by decide)]
      refine m_let_P (fun o => ∃ A, o = some (iO (tlF s w 400).1, m_wA M A) ∧ ∀ a, ¬ scr a → A a = m_I M a) ?_
      intro k107 h107
      obtain ⟨A2, e, e1, e2⟩ := M_tells_in h hcc (y := c1) (z := c2) (u := 0) (K := k107) (lH s.2.1 3) 0 m_FU A (by omega) (m_FU_lt (by omega)) hA hW
      have e' : F_X12_tells_59 k107 m_FU 128 (nI (kno s)) c1 c2 (nI k) (0 : Int32) (0 : Int32) (m_wA M A) = k107 128 (nI (kno s)) c1 c2 (nI k) (nI (evN s w k)) (m_wA M A2) := e
      have hle := evN_le h w k
      have hb := bct_le (kno s)
      have emin : nI (min (evN s w k) (bct (kno s) - evN s w k)) = nI (evM s w k) := rfl
      rw [e', h107]
      dsimp only
      rw [x_bd_ok (S_bits (by omega)), nI_sub' hle, x_bd_ok (S_min (by omega) (by omega)), emin, hc2]
      by_cases q : (tlF s w k).2 < evM s w k
      · have hst : tlF s w (k + 1) = (some k, evM s w k) := by rw [tlF, if_pos ⟨hcc, q⟩]
        rw [if_pos (nI_lt q (by omega)), h138]
        dsimp only
        rw [m_let_eq, nI_1]
        exact ih (nI k, nI (evM s w k), A2) (by rw [hst]; exact ⟨rfl, rfl, hev, e1, e2⟩)
      · have hst : tlF s w (k + 1) = tlF s w k := by rw [tlF, if_neg (fun z => q z.2)]
        rw [if_neg (nI_nlt (by omega) (by omega)), h138]
        dsimp only
        rw [m_let_eq, nI_1]
        exact ih (c1, nI (tlF s w k).2, A2) (by rw [hst]; exact ⟨hc1, rfl, hc3, e1, e2⟩)
  · rintro f ⟨c1, c2, A⟩ ⟨hc1, hc2, hc3, hA, hW⟩
    dsimp only at hc1 hc2 hA hW ⊢
    refine ⟨A, ?_, hA⟩
    rw [F_X12_tells_33, if_pos (by decide), hc1]
theorem O_tells (x : Int32) : RO s (F_X11_tells 0 x) (F_X12_tells 128 x) := by
  have bad : (x < 0 ∨ ∃ k, wN s.2.1 ≤ k ∧ k < 2147483648 ∧ x = nI k) → RO s (F_X11_tells 0 x) (F_X12_tells 128 x) := by
    intro hq
    refine ⟨NO, fun M h => ⟨⟨M, ?_, SC.rfl' M⟩, ⟨m_sI M 128 0 0, ?_, SC_thr M 0⟩⟩⟩
    · have e : F_X3_isWorld 2 x M = some (nI 0, M) := by
        rcases hq with hx | ⟨k, h1, hk, rfl⟩
        · exact S_isWorldC_neg hx
        · rw [S_isWorldC h.1 h.lc (wN_le h.lo) hk, decide_eq_false (by omega)]; rfl
      unfold F_X11_tells
      rw [x_gN_ok h.C0 h.R2, x_cV_ok h.C2 e, if_pos (by decide)]; rfl
    · have h1 := h.thr 0
      have e : F_X12_isWorld 128 x (m_sI M 128 0 0) = some (nI 0, m_sI M 128 0 0) := by
        rcases hq with hx | ⟨k, h1', hk, rfl⟩
        · exact S_isWorldM_neg hx
        · rw [S_isWorldM h1.1 h1.lm (wN_le h1.lo) hk, decide_eq_false (by omega)]; rfl
      unfold F_X12_tells
      rw [x_pI_ok h.K0, x_cV_ok h1.K0 e, if_pos (by decide)]; rfl
  rcases i_cases x with ⟨k, hk, rfl⟩ | hx
  · by_cases q : k < wN s.2.1
    · refine ⟨iO (tlF s k 400).1, fun M h => ⟨⟨M, ?_, SC.rfl' M⟩, ?_⟩⟩
      · unfold F_X11_tells
        rw [x_gN_ok h.C0 h.R2, x_cV_ok h.C2 (S_isWorldC h.1 h.lc (wN_le h.lo) hk), decide_eq_true q, if_neg (by decide), x_cV_ok h.C0 (C_knows h), C_tells_l h q]
      · have h1 := h.thr 0
        obtain ⟨A, e, e1⟩ := M_knows h1
        obtain ⟨A2, s1, s2, s3⟩ := S_shows (M := m_sI M 128 0 0) (A := A) h1.1 (h1.lm.fr e1) h1.lo (w := k) hk
        have hA2 : ∀ a, ¬ scr a → A2 a = m_I (m_sI M 128 0 0) a := fun a ha => by rw [s2 a (by unfold scr at ha; omega)]; exact e1 a ha
        obtain ⟨A3, f1, f2⟩ := M_tells_l h1 hA2 s3
        have K1 : ∀ A, m_K (m_wA (m_sI M 128 0 0) A) 128 = 10 := fun A => by rw [wA_K]; exact h1.K0
        refine ⟨_, ?_, (SC_thr M 0).trans (SC_wA f2)⟩
        unfold F_X12_tells
        rw [x_pI_ok h.K0, x_cV_ok h1.K0 (S_isWorldM h1.1 h1.lm (wN_le h1.lo) hk), decide_eq_true q, if_neg (by decide), x_cV_ok h1.K0 e, x_cV_ok (K1 _) s1, f1]
    · exact bad (.inr ⟨k, by omega, hk, rfl⟩)
  · exact bad (.inl hx)
end TELLS
