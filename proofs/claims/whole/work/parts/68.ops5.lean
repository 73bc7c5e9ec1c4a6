/-! reading calls: ordered, sure -/
theorem fst_ex {P : Nat → Bool} : ∀ {n : Nat}, cnt P n ≠ 0 → ∃ x, x < n ∧ P x = true ∧ ∀ y, y < x → P y = false := by
  intro n
  induction n with
  | zero => intro h; exact absurd rfl h
  | succ n ih =>
    intro h
    by_cases q : cnt P n = 0
    · have hp : P n = true := by
        cases hq : P n
        · exfalso; apply h
          show cnt P n + (if P n then 1 else 0) = 0
          rw [q, hq]; rfl
        · rfl
      exact ⟨n, by omega, hp, fun y hy => cnt_0.mp q y hy⟩
    · obtain ⟨x, h1, h2, h3⟩ := ih q
      exact ⟨x, by omega, h2, h3⟩
def fsO (P : Nat → Bool) (n : Nat) : Int32 := if cnt P n = 0 then NO else nI (fsW P n 0)
theorem fsO_step {P : Nat → Bool} {n : Nat} : fsO P (n + 1) = if P n then (if cnt P n = 0 then nI n else fsO P n) else fsO P n := by
  have hs : cnt P (n + 1) = cnt P n + (if P n then 1 else 0) := rfl
  unfold fsO
  by_cases q : cnt P n = 0
  · rw [if_pos q, if_pos q]
    cases hp : P n
    · rw [if_pos (by rw [hs, hp, q]; rfl)]; rfl
    · rw [if_neg (by rw [hs, hp]; simp), if_pos rfl, fsW_is (n + 1) 0 n (by omega) (by omega) hp (fun y _ hy => cnt_0.mp q y hy)]
  · obtain ⟨x, h1, h2, h3⟩ := fst_ex q
    have e1 := fsW_is (P := P) n 0 x (by omega) (by omega) h2 (fun y _ hy => h3 y hy)
    have e2 := fsW_is (P := P) (n + 1) 0 x (by omega) (by omega) h2 (fun y _ hy => h3 y hy)
    rw [if_neg q, if_neg q, if_neg (by rw [hs]; omega), e1, e2]
    cases P n <;> rfl
section OPS5
variable {M : m_M} {s : St}
/-- what an order lets slip -/
def loP (s : St) (i w : Nat) : Bool := bdS s.2.1 (s.2.2.1.2.1.2.2 i) w && !thS s.2.1 (s.2.2.1.2.1.2.2 i) w
theorem C_loop (h : INV s M) {i r : Nat} (hr : SyC s.2.1 (s.2.2.1.2.1.2.2 i) r M) (hd : (s.2.2.1.2.1.2.2 i).1 < 1000000) : ∃ M', F_X11_findLoopholes 0 r M = some ((), M') ∧ SC M M' ∧ Rw (wN s.2.1) (loP s i) (m_L M' 93) := by
  obtain ⟨r178, Kr, fr, st, la, ⟨r0, hf⟩, ⟨i1, _⟩, r3, hws, s178, l178, hrow⟩ := hr
  obtain ⟨B, e, e1, e5, e2⟩ := C_find h hf (vOf_in h.lo (s.2.2.1.2.1.2.2 i).1) h.W94 (by omega)
  have h2 := e1.INV h
  have hws2 : Ws (m_wB M B) st la := hws
  have sc3 : SC (m_wB M B) (w16 (m_wB M B) 93 (m_L (m_wB M B) la)) := SC_wL _ _ (by unfold scL; omega)
  have h3 := sc3.INV h2
  have sc4 : SC (w16 (m_wB M B) 93 (m_L (m_wB M B) la)) (w16 (w16 (m_wB M B) 93 (m_L (m_wB M B) la)) 93 (fun k => m_L (w16 (m_wB M B) 93 (m_L (m_wB M B) la)) 93 k &&& ~~~(m_L (w16 (m_wB M B) 93 (m_L (m_wB M B) la)) 95 k))) := SC_wL _ _ (by unfold scL; omega)
  refine ⟨_, ?_, (e1.trans sc3).trans sc4, ?_⟩
  · have r3' : m_R (m_wB M B) r 3 = some st := r3
    have Kr' : m_K (m_wB M B) r = 6 := Kr
    unfold F_X11_findLoopholes
    rw [x_gN_ok h.C0 h.R6, x_gN_ok Kr r0, x_gN_ok h.C0 h.R2, x_gI_ok Kr, i1, x_cV_ok h.C2 (S_verbOfC h.1 h.lc h.lo (by omega)), x_gN_ok h.C0 h.R14, x_cV_ok h.B33 e, x_gN_ok h2.C0 h2.R13, x_gN_ok Kr' r3', x_cV_ok h2.W92.1 (S_take h2.W92 hws2), x_gN_ok h3.C0 h3.R13, x_gN_ok h3.C0 h3.R14, x_cV_ok h3.W92.1 (S_drop h3.W92 h3.W94 (by omega))]
  · have hb : Rw (wN s.2.1) (bdS s.2.1 (s.2.2.1.2.1.2.2 i)) (m_L (w16 (m_wB M B) 93 (m_L (m_wB M B) la)) 93) := by
      refine hrow.of (fun k hk => ?_)
      unfold w16
      rw [mL_wL, if_pos rfl, if_pos hk, wB_L, e5 la (by omega) (by omega)]
    have ht : Rw (wN s.2.1) (thS s.2.1 (s.2.2.1.2.1.2.2 i)) (m_L (w16 (m_wB M B) 93 (m_L (m_wB M B) la)) 95) := by
      refine Rw.of (f := B 95) e2 (fun k hk => ?_)
      unfold w16
      rw [mL_wL, if_neg (by omega), wB_L]
    refine (hb.drop ht).of (fun k hk => ?_)
    show m_L (w16 (w16 (m_wB M B) 93 (m_L (m_wB M B) la)) 93 _) 93 k = _
    unfold w16
    rw [mL_wL, if_pos rfl, if_pos hk]
theorem M_loop (h : INV s M) {i : Nat} (hi : i < s.2.2.1.2.1.2.1) {a2 : Int32} {K : Int32 → Int32 → Int32 → m_M → Option (Int32 × m_M)} : F_X12_ordered_72 K m_FU 128 a2 (nI (16 * i)) (0 : Int32) (-1 : Int32) (0 : Int32) M = K a2 (nI (cnt (loP s i) (wN s.2.1))) (fsO (loP s i) (wN s.2.1)) M := by
  have hn := wN_le h.lo
  have hb4 := h.bm.1.1.2
  obtain ⟨_, hr1, hr2⟩ := h.bm.1.2.2.2 i hi
  have hr1' : Rw (wN s.2.1) (bdS s.2.1 (s.2.2.1.2.1.2.2 i)) (fun k => m_L M 158 (16 * i + k)) := hr1.of (fun k _ => by rw [show 64 * 0 + 16 * i + k = 16 * i + k by omega])
  have hr2' : Rw (wN s.2.1) (thS s.2.1 (s.2.2.1.2.1.2.2 i)) (fun k => m_L M 159 (16 * i + k)) := hr2.of (fun k _ => by rw [show 64 * 0 + 16 * i + k = 16 * i + k by omega])
  have I42 : m_I M 128 42 = nI (wN s.2.1) := h.lm.2.2.2.2.2.1
  have R48 : m_R M 128 48 = some 158 := by simp only [gR h.1]
  have R49 : m_R M 128 49 = some 159 := by simp only [gR h.1]
  have K158 : m_K M 158 = 13 := by simp only [gK h.1]
  have K159 : m_K M 159 = 13 := by simp only [gK h.1]
  have L158 : m_len M 158 = 1088 := by simp only [gl h.1]
  have L159 : m_len M 159 = 1088 := by simp only [gl h.1]
  refine up_0 (fun f k (c : Int32 × Int32) => F_X12_ordered_72 K f 128 a2 (nI (16 * i)) c.1 c.2 (nI k) M = K a2 (nI (cnt (loP s i) (wN s.2.1))) (fsO (loP s i) (wN s.2.1)) M) (wN s.2.1) (fun k c => c.1 = nI (cnt (loP s i) k) ∧ c.2 = fsO (loP s i) k) (s := ((0 : Int32), (-1 : Int32))) (by omega) ⟨rfl, rfl⟩ ?_ ?_
  · rintro f k ⟨c1, c2⟩ hk ⟨hc1, hc2⟩ ih
    dsimp only at hc1 hc2 ⊢
    have hcl := cnt_le (loP s i) k
    rw [F_X12_ordered_72, x_gI_ok h.K0, I42, if_neg (nI_ge hk (by omega))]
    refine m_let_e ?_
    intro k136 h136
    have e64 : nI k - nI k / (64 : Int32) * (64 : Int32) = nI (k % 64) := i32_rem (b := 64) (by omega) (by omega)
    have eb1 := lb_shr (m_L M 158 (16 * i + k / 64)) (j := k % 64) (by omega)
    have eb2 := lb_shr (m_L M 159 (16 * i + k / 64)) (j := k % 64) (by omega)
    have at1 := hr1'.at hk hn
    have at2 := hr2'.at hk hn
    rw [at1] at eb1
    rw [at2] at eb2
    have hkk : ∀ b : Bool, b = loP s i k → k136 128 a2 (nI (16 * i)) c1 c2 (nI k) (bI b) M = K a2 (nI (cnt (loP s i) (wN s.2.1))) (fsO (loP s i) (wN s.2.1)) M := by
      intro b hb
      rw [h136]
      dsimp only
      rw [m_let_eq]
      have hst := fsO_step (P := loP s i) (n := k)
      have hct : cnt (loP s i) (k + 1) = cnt (loP s i) k + (if loP s i k then 1 else 0) := rfl
      cases b
      · rw [if_pos (show bI false = (0 : Int32) from rfl)]
        rw [← hb] at hst hct
        dsimp only
        rw [m_let_eq, nI_1]
        exact ih (c1, c2) ⟨by dsimp only; rw [hc1, hct]; rfl, by dsimp only; rw [hc2, hst]; rfl⟩
      · rw [if_neg (show ¬ bI true = (0 : Int32) from by decide), m_let_eq]
        rw [← hb] at hst hct
        rw [if_pos rfl] at hst hct
        by_cases q : cnt (loP s i) k = 0
        · rw [if_pos (show c1 = (0 : Int32) from by rw [hc1, q]; rfl)]
          dsimp only
          rw [m_let_eq, m_let_eq, nI_1]
          exact ih (c1 + 1, nI k) ⟨by dsimp only; rw [hc1, hct, nI_1], by dsimp only; rw [hst, if_pos q]⟩
        · rw [if_neg (show ¬ c1 = (0 : Int32) from by rw [hc1]; exact nI_ne0 (by omega) (by omega))]
          dsimp only
          rw [m_let_eq, m_let_eq, nI_1]
          exact ih (c1 + 1, c2) ⟨by dsimp only; rw [hc1, hct, nI_1], by dsimp only; rw [hst, if_neg q, hc2]⟩
    rw [m_let_eq, x_gN_ok h.K0 R48, x_nz_eq, if_neg (by decide), show nI k / (64 : Int32) = nI (k / 64) from i32_div (b := 64) (by omega) (by omega), nI_add, x_aL_ok K158 (by rw [L158]; omega) (by omega), x_nz_eq, if_neg (by decide), show nI k - nI (k / 64) * (64 : Int32) = nI (k % 64) from by rw [show (64 : Int32) = nI 64 from rfl, nI_mul, i32_rem2], eb1]
    have hlo : loP s i k = (bdS s.2.1 (s.2.2.1.2.1.2.2 i) k && !thS s.2.1 (s.2.2.1.2.1.2.2 i) k) := rfl
    cases hb1 : bdS s.2.1 (s.2.2.1.2.1.2.2 i) k
    · rw [if_neg (by decide)]
      exact hkk false (by rw [hlo, hb1]; rfl)
    · rw [if_pos (by decide), x_gN_ok h.K0 R49, x_nz_eq, if_neg (by decide), x_aL_ok K159 (by rw [L159]; omega) (by omega), x_nz_eq, if_neg (by decide), eb2]
      cases hb2 : thS s.2.1 (s.2.2.1.2.1.2.2 i) k
      · rw [if_pos (by decide)]
        exact hkk true (by rw [hlo, hb1, hb2]; rfl)
      · rw [if_neg (by decide)]
        exact hkk false (by rw [hlo, hb1, hb2]; rfl)
  · rintro f ⟨c1, c2⟩ ⟨hc1, hc2⟩
    dsimp only at hc1 hc2 ⊢
    rw [F_X12_ordered_72, x_gI_ok h.K0, I42, if_pos (nI_le (Nat.le_refl _) (by omega)), hc1, hc2]
theorem O_ordered (x y : Int32) : RO s (F_X11_ordered 0 x y) (F_X12_ordered 128 x y) := by
  have R51 : ∀ {M : m_M}, INV s M → m_R M 128 51 = some 161 := fun h => by simp only [gR h.1]
  have X161 : ∀ {M : m_M} (h : INV s M) (g : Int32 → Option (Int32 × m_M)), x_aI 12 M 161 (1 : Int32) g = g (nI s.2.2.1.2.1.2.1) := fun {M} h g => by
    rw [aI_lit (x := (1 : Int32)) (n := 1) (by simp only [gK h.1]) (by rw [show m_len M 161 = 34 from by simp only [gl h.1]]; omega) rfl (by omega), show m_I M 161 1 = _ from h.bm.1.2.1.2]
  by_cases hx : x < 0
  · refine ⟨NO, fun M h => ⟨⟨M, ?_, SC.rfl' M⟩, ⟨m_sI M 128 0 0, ?_, SC_thr M 0⟩⟩⟩
    · unfold F_X11_ordered F_X1_orderAt
      rw [x_gN_ok h.C0 h.R9, m_let_eq, if_pos hx, x_cV_ok h.B80 rfl]; rfl
    · unfold F_X12_ordered
      rw [x_pI_ok h.K0, if_pos hx]; rfl
  obtain ⟨i, hi, rfl⟩ := nI_of hx
  by_cases q : i < s.2.2.1.2.1.2.1
  · have bad : (y < 0 ∨ ∃ k, 3 < k ∧ k < 2147483648 ∧ y = nI k) → RO s (F_X11_ordered 0 (nI i) y) (F_X12_ordered 128 (nI i) y) := by
      intro hq
      have hne : ∀ n, n < 4 → ¬ y = nI n := by
        intro n hn e
        rcases hq with hx | ⟨k, h1, hk, rfl⟩
        · rw [e] at hx; exact nI_pos (by omega) hx
        · have := (nI_eq hk (by omega)).mp e; omega
      refine ⟨NO, fun M h => ⟨⟨M, ?_, SC.rfl' M⟩, ⟨m_sI M 128 0 0, ?_, SC_thr M 0⟩⟩⟩
      · obtain ⟨r, e, _⟩ := S_orderAt h.1 h.bc.2.1 q
        unfold F_X11_ordered
        rw [x_gN_ok h.C0 h.R9, x_cV_ok h.B80 e, x_nul_some, if_neg (show ¬ y = (0 : Int32) from hne 0 (by omega)), if_neg (show ¬ y = (1 : Int32) from hne 1 (by omega)), if_neg (show ¬ y = (2 : Int32) from hne 2 (by omega)), if_neg (show ¬ y = (3 : Int32) from hne 3 (by omega))]; rfl
      · have h1' := h.thr 0
        have hb := h1'.bm.1.1.2
        have hw : F_X12_within y (0 : Int32) (3 : Int32) (m_sI M 128 0 0) = some (nI 0, m_sI M 128 0 0) := by
          rcases hq with hx | ⟨k, h1, hk, rfl⟩
          · exact S_within_neg (a := 0) hx (by omega)
          · have := S_within (M := m_sI M 128 0 0) (k := k) (a := 0) (b := 3) hk (by omega) (by omega)
            rw [decide_eq_false (p := k ≤ 3) (by omega), Bool.and_false] at this
            exact this
        unfold F_X12_ordered
        rw [x_pI_ok h.K0, if_neg hx, x_gN_ok h1'.K0 (R51 h1'), X161 h1', if_neg (nI_ge q (by omega)), x_bd_ok hw, if_pos (by decide)]; rfl
    rcases i_cases y with ⟨k, hk, rfl⟩ | hy
    · by_cases q3 : 3 < k
      · exact bad (.inr ⟨k, q3, hk, rfl⟩)
      · have hw : ∀ M : m_M, F_X12_within (nI k) (0 : Int32) (3 : Int32) M = some (nI 1, M) := fun M => by
          have := S_within (M := M) (k := k) (a := 0) (b := 3) hk (by omega) (by omega)
          rw [decide_eq_true (p := k ≤ 3) (by omega), decide_eq_true (p := 0 ≤ k) (by omega)] at this
          exact this
        have hc : k = 0 ∨ k = 1 ∨ k = 2 ∨ k = 3 := by omega
        rcases hc with rfl | rfl | rfl | rfl
        · refine ⟨nI (s.2.2.1.2.1.2.2 i).2.1, fun M h => ⟨⟨M, ?_, SC.rfl' M⟩, ⟨m_sI M 128 0 0, ?_, SC_thr M 0⟩⟩⟩
          · obtain ⟨r, e, ⟨_, Kr, fr, st, la, _, ⟨_, hd⟩, _⟩, _⟩ := S_orderAt h.1 h.bc.2.1 q
            unfold F_X11_ordered
            rw [x_gN_ok h.C0 h.R9, x_cV_ok h.B80 e, x_nul_some, if_pos (by decide), x_gI_ok Kr, hd]
          · have h1 := h.thr 0
            have hb := h1.bm.1.1.2
            obtain ⟨hd, _⟩ := h1.bm.1.2.2.2 i q
            have hd' : m_I (m_sI M 128 0 0) 160 i = nI (s.2.2.1.2.1.2.2 i).2.1 := by rw [show 4 * 0 + i = i by omega] at hd; exact hd
            unfold F_X12_ordered
            rw [x_pI_ok h.K0, if_neg hx, x_gN_ok h1.K0 (R51 h1), X161 h1, if_neg (nI_ge q (by omega)), x_bd_ok (hw _), if_neg (by decide), m_let_eq, if_neg (by decide), if_pos (by decide), x_gN_ok h1.K0 (r := 160) (by simp only [gR h1.1]), x_aI_ok (by simp only [gK h1.1]) (by rw [show m_len (m_sI M 128 0 0) 160 = 68 from by simp only [gl h1.1]]; omega) (by omega), hd']
        · refine ⟨nI (cnt (bdS s.2.1 (s.2.2.1.2.1.2.2 i)) (wN s.2.1)), fun M h => ⟨⟨M, ?_, SC.rfl' M⟩, ⟨m_sI M 128 0 0, ?_, SC_thr M 0⟩⟩⟩
          · obtain ⟨r, e, ⟨_, Kr, fr, st, la, _, _, hr3, hws, _, _, hrow⟩, _⟩ := S_orderAt h.1 h.bc.2.1 q
            unfold F_X11_ordered
            rw [x_gN_ok h.C0 h.R9, x_cV_ok h.B80 e, x_nul_some, if_neg (by decide), if_pos (by decide), x_gN_ok Kr hr3, x_cV_ok hws.1 (C_cnt h hws hrow)]
          · have h1 := h.thr 0
            have hb := h1.bm.1.1.2
            obtain ⟨_, hrow, _⟩ := h1.bm.1.2.2.2 i q
            have hrow' : Rw (wN s.2.1) (bdS s.2.1 (s.2.2.1.2.1.2.2 i)) (fun k => m_L (m_sI M 128 0 0) 158 (16 * i + k)) := hrow.of (fun k _ => by rw [show 64 * 0 + 16 * i + k = 16 * i + k by omega])
            unfold F_X12_ordered
            rw [x_pI_ok h.K0, if_neg hx, x_gN_ok h1.K0 (R51 h1), X161 h1, if_neg (nI_ge q (by omega)), x_bd_ok (hw _), if_neg (by decide), m_let_eq, if_neg (by decide), if_neg (by decide), x_gN_ok h1.K0 (r := 158) (by simp only [gR h1.1]), show (16 : Int32) = nI 16 from rfl, nI_mul, x_cV_ok h1.K0 (S_countOf h1.1 h1.lm h1.lo (row := 158) (at0 := 16 * i) (len := 1088) (by simp only [gK h1.1]) (by simp only [gl h1.1]) (by omega) (by omega) hrow')]
        · refine ⟨nI (cnt (loP s i) (wN s.2.1)), fun M h => ⟨?_, ⟨m_sI M 128 0 0, ?_, SC_thr M 0⟩⟩⟩
          · obtain ⟨r, e, hs, _⟩ := S_orderAt h.1 h.bc.2.1 q
            obtain ⟨M', e1, sc, hrow⟩ := C_loop h hs (h.bd.2.1.2 i q).1
            have h2 := sc.INV h
            refine ⟨M', ?_, sc⟩
            unfold F_X11_ordered
            rw [x_gN_ok h.C0 h.R9, x_cV_ok h.B80 e, x_nul_some, if_neg (by decide), if_neg (by decide), if_pos (by decide), x_cV_ok h.C0 e1, x_gN_ok h2.C0 h2.R13, x_cV_ok h2.W92.1 (C_cnt h2 h2.W92 hrow)]
          · have h1 := h.thr 0
            have hb := h1.bm.1.1.2
            unfold F_X12_ordered
            rw [x_pI_ok h.K0, if_neg hx, x_gN_ok h1.K0 (R51 h1), X161 h1, if_neg (nI_ge q (by omega)), x_bd_ok (hw _), if_neg (by decide), m_let_eq, if_pos (by decide), m_let_eq, show (16 : Int32) * nI i = nI (16 * i) from nI_mul 16 i, M_loop h1 q, if_pos (by decide)]
        · refine ⟨fsO (loP s i) (wN s.2.1), fun M h => ⟨?_, ⟨m_sI M 128 0 0, ?_, SC_thr M 0⟩⟩⟩
          · obtain ⟨r, e, hs, _⟩ := S_orderAt h.1 h.bc.2.1 q
            obtain ⟨M', e1, sc, hrow⟩ := C_loop h hs (h.bd.2.1.2 i q).1
            have h2 := sc.INV h
            refine ⟨M', ?_, sc⟩
            unfold F_X11_ordered
            rw [x_gN_ok h.C0 h.R9, x_cV_ok h.B80 e, x_nul_some, if_neg (by decide), if_neg (by decide), if_neg (by decide), if_pos (by decide), x_cV_ok h.C0 e1, x_gN_ok h2.C0 h2.R13, x_cV_ok h2.W92.1 (S_least h2.W92 (wN_le h.lo) hrow)]
            rfl
          · have h1 := h.thr 0
            have hb := h1.bm.1.1.2
            unfold F_X12_ordered
            rw [x_pI_ok h.K0, if_neg hx, x_gN_ok h1.K0 (R51 h1), X161 h1, if_neg (nI_ge q (by omega)), x_bd_ok (hw _), if_neg (by decide), m_let_eq, if_pos (by decide), m_let_eq, show (16 : Int32) * nI i = nI (16 * i) from nI_mul 16 i, M_loop h1 q, if_neg (by decide)]
    · exact bad (.inl hy)
  · refine ⟨NO, fun M h => ⟨⟨M, ?_, SC.rfl' M⟩, ⟨m_sI M 128 0 0, ?_, SC_thr M 0⟩⟩⟩
    · have hb := h.bc.2.1.1.2
      unfold F_X11_ordered F_X1_orderAt
      rw [x_gN_ok h.C0 h.R9, m_let_eq, if_neg hx, x_gI_ok h.B80, h.bc.2.1.2.1.2, if_pos (nI_le (by omega) hi), x_cV_ok h.B80 rfl]; rfl
    · have h1 := h.thr 0
      unfold F_X12_ordered
      rw [x_pI_ok h.K0, if_neg hx, x_gN_ok h1.K0 (R51 h1), X161 h1, if_pos (nI_le (by omega) hi)]; rfl
end OPS5
