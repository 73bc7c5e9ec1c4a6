/-! rings; a new cell -/
section NEWC
variable {M : m_M} {s : St} {kd len : Nat}
theorem new_I {a : Nat} (ha : a < m_N M) : m_I (m_new M kd len) a = m_I M a := by
  funext j
  show (if a = m_N M then 0 else m_I M a j) = _
  rw [if_neg (by omega)]
theorem new_L {a : Nat} (ha : a < m_N M) : m_L (m_new M kd len) a = m_L M a := by
  funext j
  show (if a = m_N M then 0 else m_L M a j) = _
  rw [if_neg (by omega)]
theorem new_R {a : Nat} (ha : a < m_N M) : m_R (m_new M kd len) a = m_R M a := by
  funext j
  show (if a = m_N M then none else m_R M a j) = _
  rw [if_neg (by omega)]
theorem new_T {a : Nat} (ha : a < m_N M) : m_T (m_new M kd len) a = m_T M a := by
  show (if a = m_N M then (kd, len) else m_T M a) = _
  rw [if_neg (by omega)]
theorem new_K {a : Nat} (ha : a < m_N M) : m_K (m_new M kd len) a = m_K M a ∧ m_len (m_new M kd len) a = m_len M a := by
  unfold m_K m_len
  rw [new_T ha, if_pos (show a < m_N (m_new M kd len) from Nat.lt_succ_of_lt ha), if_pos ha]
  exact ⟨rfl, rfl⟩
theorem hiK_new : hiK M (m_new M kd len) := ⟨Nat.le_succ _, fun a _ hb => ⟨new_T hb, new_I hb, new_L hb, new_R hb⟩⟩
theorem frC_new (hG : G M) : frC M (m_new M kd len) := ⟨hG.new kd len, fun a _ h2 => ⟨new_I (by have := hG.1; omega), new_L (by have := hG.1; omega)⟩⟩
theorem BkC.new {l : Ld} {b : Bk} {base : Nat} (hG : G M) (hb : BkC l b base M) (h1 : base < 174) : BkC l b base (m_new M kd len) := by
  have hN := hG.1
  obtain ⟨a1, a2, ⟨fr, a3, a4, a5⟩, a6, a7⟩ := hb
  refine ⟨by rw [new_I (by omega)]; exact a1, a2.hi hiK_new (new_I (by omega)) (new_R (by omega)) (new_R (by omega)), ⟨fr, by rw [new_R (by omega)]; exact a3, fun q => ?_, fun f hf => (a5 f hf).hi hiK_new⟩, by rw [new_I (by omega)]; exact a6, by rw [new_I (by omega)]; exact a7⟩
  obtain ⟨k1, k2, k3⟩ := a4 q
  have hfr := m_K_lt k1 (by omega)
  rw [(new_K hfr).1, (new_K hfr).2]
  exact ⟨k1, k2, k3⟩
theorem CI.new (hG : G M) (hc : CI s M) : CI s (m_new M kd len) := by
  have hN := hG.1
  obtain ⟨⟨c0, c1, c2⟩, ⟨c3, c4⟩, c5, ⟨c6, c7, c8⟩, c9⟩ := hc
  refine ⟨⟨c0.cong (fun a _ ha => new_I (by omega)), by rw [new_L (by omega)]; exact c1, by unfold NmC; rw [new_L (by omega)]; exact c2⟩, ⟨by rw [new_I (by omega)]; exact c3, by rw [new_I (by omega)]; exact c4⟩, c5.new hG (by omega), ⟨c6, by rw [new_I (by omega)]; exact c7, ?_⟩, fun i hi => ⟨by rw [new_I (by omega)]; exact (c9 i hi).1, fun b hb => ((c9 i hi).2 b hb).new hG (by omega)⟩⟩
  rw [new_I (by omega), new_I (by omega), new_R (by omega)]
  exact fun j hj => (c8 j hj).hi hiK_new
theorem RefK.new (hG : G M) (h : RefK M) : RefK (m_new M kd len) := by
  have hN := hG.1
  intro a ha hk i x hx
  rw [(new_K (by omega)).1] at hk
  rw [new_R (by omega)] at hx
  obtain ⟨h1, h2⟩ := h a ha hk i x hx
  refine ⟨h1, ?_⟩
  rw [(new_K (m_K_lt h2 (by omega))).1]
  exact h2
theorem INV.new (h : INV s M) : INV s (m_new M kd len) := by
  obtain ⟨hG, hp, hc, hm⟩ := h.split
  exact INV.join (hG.new kd len) hp (hc.new hG) ((frC_new hG).MI hm)
/-- what the law asks of rings -/
def RINGS (s : St) (x : Int32) : Prop := ∀ M, INV s M → RefK M → m_N M < 999000 → ∃ t v M1 M2, F_L_rings 0 x 177 M = some (t, M1) ∧ m_K M1 128 = 10 ∧ F_X12_rings 128 x M1 = some (v, M2) ∧ F_X12_thrown 128 M2 = some (t, M2) ∧ (t = 0 ∨ t = 1) ∧ (t = 0 → m_L M2 177 0 = v.toInt64) ∧ INV s M2 ∧ m_N M2 ≤ m_N M + 8 ∧ RefK M2
theorem M_areRung_neg (h : INV s M) {x : Int32} (hx : x < 0) : ∃ A', F_X12_areRung 128 x M = some (nI 0, m_wA M A') ∧ rfr M A' := by
  unfold F_X12_areRung
  refine m_let_P (fun o => ∃ A', o = some (nI 0, m_wA M A') ∧ rfr M A') ?_
  intro k11 h11
  rw [if_pos hx, h11]
  dsimp only
  refine m_let_P (fun o => ∃ A', o = some (nI 0, m_wA M A') ∧ rfr M A') ?_
  intro k90 h90
  refine up_0 (S := Int32 × IA) (fun f k c => ∃ A', F_X12_areRung_15 k90 f 128 c.1 (0 : Int32) (nI k) (m_wA M c.2) = some (nI 0, m_wA M A') ∧ rfr M A') 3 (fun k c => rfr M c.2) (s := (x, m_I M)) (by omega) (fun _ _ _ => rfl) ?_ ?_
  · rintro f k ⟨c, A⟩ hk hA ih
    dsimp only at hA ⊢
    obtain ⟨K0, R70, R71, R10, K174, L174, _⟩ := mbell_cells (A := A) h.1
    rw [F_X12_areRung_15, if_neg (show ¬ (3 : Int32) ≤ nI k from nI_ge (b := 3) hk (by omega)), m_let_eq, m_let_eq, x_gN_ok K0 R70, x_nz_eq, if_neg (by decide), x_sI_ok K174 (by rw [L174]; omega) (by omega), wA_s, if_pos rfl]
    dsimp only
    rw [x_nz_eq, if_neg (by decide), m_let_eq, m_let_eq, nI_1]
    exact ih (c / 8, m_up A 174 k (c - c / 8 * 8)) (fun a h1 h2 => by dsimp only; rw [up_fr h1]; exact hA a h1 h2)
  · rintro f ⟨c, A⟩ hA
    dsimp only at hA ⊢
    refine ⟨A, ?_, hA⟩
    rw [F_X12_areRung_15, if_pos (by decide), h90]
    dsimp only
    rw [m_let_eq, if_pos rfl]
    rfl
theorem SC_128 (v : Int32) : SC M (m_sI M 128 0 v) := SC_thr M v
theorem thrown_is (h : INV s M) {v : Int32} (hv : m_I M 128 0 = v) : F_X12_thrown 128 M = some (v, M) := by
  unfold F_X12_thrown
  rw [x_gI_ok h.K0, hv]
theorem O_rings (x : Int32) : RINGS s x := by
  intro M h hk hN
  have hdayb := h.bd.1
  have K77 : m_K M 77 = 0 := by simp only [gK h.1]
  have R8 : m_R M 0 8 = some 77 := by simp only [gR h.1]
  have bad : F_X0_areChoices 77 x M = some (nI 0, M) → (∀ M', INV s M' → ∃ A', F_X12_areRung 128 x M' = some (nI 0, m_wA M' A') ∧ rfr M' A') → ∃ t v M1 M2, F_L_rings 0 x 177 M = some (t, M1) ∧ m_K M1 128 = 10 ∧ F_X12_rings 128 x M1 = some (v, M2) ∧ F_X12_thrown 128 M2 = some (t, M2) ∧ (t = 0 ∨ t = 1) ∧ (t = 0 → m_L M2 177 0 = v.toInt64) ∧ INV s M2 ∧ m_N M2 ≤ m_N M + 8 ∧ RefK M2 := by
    intro e1 e2
    have hn : INV s (m_new M 18 6) := h.new
    obtain ⟨A', e3, e4⟩ := e2 _ hn
    have h3 := (SC_rfr e4).INV hn
    have h4 := (SC_128 (M := m_wA (m_new M 18 6) A') 1).INV h3
    refine ⟨1, 0, m_new M 18 6, m_sI (m_wA (m_new M 18 6) A') 128 0 1, ?_, hn.K0, ?_, thrown_is h4 (by rw [mI_sI, if_pos ⟨rfl, rfl⟩]), .inr rfl, fun q => absurd q (by decide), h4, by show m_N M + 1 ≤ m_N M + 8; omega, (hk.new h.1).same rfl rfl⟩
    · unfold F_L_rings F_X11_rings
      rw [if_pos h.C0, x_gN_ok h.C0 R8, x_cV_ok K77 e1, if_pos (by decide), if_pos (by omega)]
      rfl
    · unfold F_X12_rings
      rw [m_let_eq, x_cV_ok hn.K0 e3, if_pos (by decide)]
      dsimp only
      have e5 : m_I (m_sI (m_wA (m_new M 18 6) A') 128 0 1) 128 0 = 1 := by rw [mI_sI, if_pos ⟨rfl, rfl⟩]
      rw [x_pI_ok h3.K0, x_gI_ok h4.K0, e5, if_pos rfl]
  rcases i_cases x with ⟨d, hd, rfl⟩ | hx
  · cases hok : okD s d
    · refine bad (by rw [C_areChoices h hd, hok]; rfl) (fun M' h' => ?_)
      obtain ⟨A', e, e1, _⟩ := M_areRung h' hd (A := m_I M') (fun _ _ _ => rfl)
      rw [hok] at e
      exact ⟨A', e, e1⟩
    · obtain ⟨g, e⟩ := C_verbRung h hd (x := tmV s)
      have R177 : m_K (m_wI M 79 g) 177 = 13 := by simp only [mK_wI, gK h.1]
      have L177 : m_len (m_wI M 79 g) 177 = 1 := by simp only [mn_wI, gl h.1]
      have scA : SC M (m_wI M 79 g) := SC_wI (by unfold scI; omega)
      have scB : SC (m_wI M 79 g) (m_sL (m_wI M 79 g) 177 0 (beI (lH s.2.1 4) (chO d) (tmV s)).toInt64) := by
        refine ⟨rfl, rfl, fun _ _ _ => rfl, fun _ _ _ => rfl, fun a ha => ?_⟩
        funext j
        rw [mL_sL, if_neg (fun q => ha (by rw [q.1]; unfold scL; omega))]
      have h1 := (scA.trans scB).INV h
      obtain ⟨A', f0, f1, f2⟩ := M_areRung h1 hd (A := m_I (m_sL (m_wI M 79 g) 177 0 (beI (lH s.2.1 4) (chO d) (tmV s)).toInt64)) (fun _ _ _ => rfl)
      rw [hok, wA_0] at f0
      have h2 := (SC_rfr f1).INV h1
      have h3 := (SC_128 (M := m_wA (m_sL (m_wI M 79 g) 177 0 (beI (lH s.2.1 4) (chO d) (tmV s)).toInt64) A') 0).INV h2
      obtain ⟨B', g0, g1, g2⟩ := M_bell h3 (A := m_I (m_sI (m_wA (m_sL (m_wI M 79 g) 177 0 (beI (lH s.2.1 4) (chO d) (tmV s)).toInt64) A') 128 0 0)) (fun _ _ _ => rfl) (r := chO d) (fun k hk => by have := okD_ch hok k hk; have := h.lo.2.2.2.1; omega) (fun k hk => by rw [sI_ne (by omega)]; exact f2 k hk)
      rw [wA_0] at g0
      have h4 := (SC_rfr g1).INV h3
      refine ⟨0, beI (lH s.2.1 4) (chO d) (tmV s), m_sL (m_wI M 79 g) 177 0 (beI (lH s.2.1 4) (chO d) (tmV s)).toInt64, _, ?_, h1.K0, ?_, thrown_is h4 ?_, .inl rfl, fun _ => ?_, h4, by show m_N M ≤ m_N M + 8; omega, hk.same rfl rfl⟩
      · unfold F_L_rings F_X11_rings
        rw [if_pos h.C0, x_gN_ok h.C0 R8, x_cV_ok K77 (C_areChoices h hd), hok, if_neg (by decide), x_gN_ok h.C0 R8, x_gN_ok h.C0 h.R2, x_gN_ok h.C0 h.R9, x_gI_ok h.B80, h.bc.1, nI_1, x_cV_ok h.C2 (S_verbOfC h.1 h.lc h.lo (by omega)), x_cV_ok K77 (show F_X0_verbRung 77 (nI d) (iO (vOf s.2.1 (s.2.2.1.1 + 1))) M = _ from e)]
        rw [show ∀ (v : Int32) (N : m_M) (K : Option Int32 → m_M → Option (Int32 × m_M)), x_bd (some (some v, N)) K = K (some v) N from fun _ _ _ => rfl]
        dsimp only
        rw [show (0 : Int32) = nI 0 from rfl, x_sL_ok R177 (by rw [L177]; omega) (by omega)]
      · unfold F_X12_rings
        rw [m_let_eq, x_cV_ok h1.K0 f0, if_neg (by decide)]
        dsimp only
        have e5 : m_I (m_sI (m_wA (m_sL (m_wI M 79 g) 177 0 (beI (lH s.2.1 4) (chO d) (tmV s)).toInt64) A') 128 0 0) 128 0 = 0 := by rw [mI_sI, if_pos ⟨rfl, rfl⟩]
        rw [x_pI_ok h2.K0, x_gI_ok h3.K0, e5, if_neg (by decide), x_cV_ok h3.K0 g0]
      · rw [wA_I, g1 128 (by omega) (by omega), mI_sI, if_pos ⟨rfl, rfl⟩]
      · show m_L (m_sL (m_wI M 79 g) 177 0 _) 177 0 = _
        rw [mL_sL, if_pos ⟨rfl, rfl⟩]
  · exact bad (by unfold F_X0_areChoices; rw [if_pos hx]; rfl) (fun M' h' => M_areRung_neg h' hx)
end NEWC
