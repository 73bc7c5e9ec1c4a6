/-! rests, the model's side -/
section MRESTS
variable {M : m_M} {s : St}
theorem S_max0 {a : Nat} (ha : a < 2147483648) : F_J9_max_7cf53 (0 : Int32) (nI a) M = some (nI a, M) := by
  unfold F_J9_max_7cf53
  by_cases q : 0 < a
  · rw [if_pos (show (0 : Int32) < nI a from nI_lt (a := 0) q ha)]
  · rw [if_neg (show ¬ (0 : Int32) < nI a from nI_nlt (b := a) (a := 0) (by omega) (by omega)), show a = 0 by omega]; rfl
theorem S_max0n : F_J9_max_7cf53 (0 : Int32) NO M = some (nI 0, M) := by
  unfold F_J9_max_7cf53
  rw [if_neg (by decide)]; rfl
theorem M_hasBy (h : INV s M) {A : IA} (hA : rfr M A) {r : Nat → Nat} {k : Nat} (hk : k < lH s.2.1 4) (hr : ∀ j, j < lH s.2.1 4 → r j ≤ 6) (hr3 : ∀ j, j < 3 → A 174 j = nI (r j)) : ∃ A', F_X12_hasBy 128 (nI k) (m_wA M A) = some (gaI s r k, m_wA M A') ∧ rfr M A' ∧ A' 174 = A 174 := by
  have hb4 := h.lo.2.2.2.2.1
  have hb6 := h.lo.2.2.2.2.2.2.1
  obtain ⟨A', e, e1, e2⟩ := M_bell h hA hr hr3
  rw [beO_I] at e
  obtain ⟨K0, R70, R71, R10, K174, L174, K175, L175, K130, L130⟩ := mbell_cells (A := A') h.1
  have K0A : m_K (m_wA M A) 128 = 10 := by rw [wA_K]; exact h.K0
  have hlm := h.lm.rf e1
  refine ⟨A', ?_, e1, e2⟩
  unfold F_X12_hasBy
  refine m_let_e ?_
  intro k28 h28
  have hrk := hr k hk
  have h28' : ∀ x : Nat, x = wrt s k (beO s r) → k28 128 (nI k) (nI x) (m_wA M A') = some (gaI s r k, m_wA M A') := by
    intro x hx
    rw [h28]
    dsimp only
    rw [x_gN_ok K0 R70, x_aI_ok K174 (by rw [L174]; omega) (by omega), wA_I, e2, hr3 k (by omega)]
    unfold gaI pay
    by_cases q : r k = 0
    · rw [q, if_pos (by decide), if_pos rfl, hx]; rfl
    · rw [if_neg (nI_nle (by omega) (by omega)), x_gN_ok K0 R10, aI_lit (x := (6 : Int32)) (n := 6) K130 (by rw [L130]; omega) rfl (by omega), wA_I, hlm.1 6 (by omega), if_neg q, hx]
  rw [x_cV_ok K0A e]
  cases hq : beO s r with
  | none =>
    rw [if_neg (show ¬ (0 : Int32) ≤ iO none from by decide)]
    exact h28' 0 (by rw [hq]; rfl)
  | some v =>
    have hv6 := beO_lt h hq
    have R17 : m_R (m_wA M A') 128 17 = some 137 := by simp only [wA_R, gR h.1]
    have K137 : m_K (m_wA M A') 137 = 12 := by simp only [wA_K, gK h.1]
    have L137 : m_len (m_wA M A') 137 = 36 := by simp only [wA_n, gl h.1]
    have hw := hlm.2.2.2.1 (6 * k + v) (by omega)
    have hw99 : lV s.2.1 (6 * k + v) ≤ 99 := h.lo.2.2.2.2.2.2.2.2.1 _
    rw [show iO (some v) = nI v from rfl, if_pos (nI_pos' (by omega)), x_gN_ok K0 R17, show (6 : Int32) = nI 6 from rfl, nI_mul, nI_add, x_aI_ok K137 (by rw [L137]; omega) (by omega), wA_I]
    rcases hw with hw | ⟨hw, hw0⟩
    · rw [hw, x_bd_ok (S_max0 (by omega))]
      exact h28' _ (by rw [hq]; rfl)
    · rw [hw, x_bd_ok S_max0n]
      exact h28' 0 (by rw [hq]; exact hw0.symm)
def upT (A : IA) (k c : Nat) : IA := m_up A 174 k (nI c)
theorem upT_r {A : IA} {r : Nat → Nat} {k c : Nat} (hr3 : ∀ j, j < 3 → A 174 j = nI (r j)) : ∀ j, j < 3 → upT A k c 174 j = nI (up1 r k c j) := by
  intro j hj
  unfold upT up1
  rw [up_at]
  by_cases q : j = k
  · rw [if_pos ⟨rfl, q⟩, if_pos q]
  · rw [if_neg (fun z => q z.2), if_neg q]; exact hr3 j hj
theorem upT_f {A : IA} {k c : Nat} (hA : rfr M A) : rfr M (upT A k c) := fun a h1 h2 => by unfold upT; rw [up_fr h1]; exact hA a h1 h2
theorem up1_up1 (r : Nat → Nat) (k c c' : Nat) : up1 (up1 r k c) k c' = up1 r k c' := by
  funext j
  unfold up1
  by_cases q : j = k
  · rw [if_pos q, if_pos q]
  · rw [if_neg q, if_neg q, if_neg q]
theorem up1_id (r : Nat → Nat) (k : Nat) : up1 r k (r k) = r := by
  funext j
  unfold up1
  by_cases q : j = k
  · rw [if_pos q, q]
  · rw [if_neg q]
theorem M_isRest_in (h : INV s M) {r : Nat → Nat} {k : Nat} (hk : k < lH s.2.1 4) (hr : ∀ j, j < lH s.2.1 4 → r j ≤ lH s.2.1 3) {w : Int32} {K : Nat → Int32 → Int32 → Int32 → m_M → Option (Int32 × m_M)} : ∀ (e c f : Nat) (b : Bool) (A : IA) (y : Nat), c + e = lH s.2.1 3 + 1 → e < f → b = anN c (fun c => !decide (gaI s r k < gaI s (up1 r k c) k)) → rfr M A → (∀ j, j < 3 → A 174 j = nI (up1 r k y j)) →
    ∃ A' y', F_X12_isRest_31 K f 128 (nI k) w (gaI s r k) (bI (!b)) (nI c) (m_wA M A) = K 128 (nI k) w (bI (!rsK s r k)) (m_wA M A') ∧ rfr M A' ∧ ∀ j, j < 3 → A' 174 j = nI (up1 r k y' j) := by
  have hb4 := h.lo.2.2.2.2.1
  have hv6 := h.lo.2.2.2.1
  intro e
  induction e with
  | zero =>
    intro c f b A y hc hf hb hA hj
    obtain ⟨f, rfl⟩ : ∃ f', f = f' + 1 := ⟨f - 1, by omega⟩
    obtain ⟨K0, R70, R71, R10, K174, L174, K175, L175, K130, L130⟩ := mbell_cells (A := A) h.1
    refine ⟨A, y, ?_, hA, hj⟩
    have hcc : c = lH s.2.1 3 + 1 := by omega
    rw [F_X12_isRest_31, x_gN_ok K0 R10, aI_lit (x := (3 : Int32)) (n := 3) K130 (by rw [L130]; omega) rfl (by omega), wA_I, (h.lm.rf hA).1 3 (by omega), if_pos (nI_lt (by omega) (by omega)), hb, hcc]
    rfl
  | succ e ih =>
    intro c f b A y hc hf hb hA hj
    obtain ⟨f, rfl⟩ : ∃ f', f = f' + 1 := ⟨f - 1, by omega⟩
    obtain ⟨K0, R70, R71, R10, K174, L174, K175, L175, K130, L130⟩ := mbell_cells (A := A) h.1
    have hbs : ∀ b', b' = (b && !decide (gaI s r k < gaI s (up1 r k c) k)) → b' = anN (c + 1) (fun c => !decide (gaI s r k < gaI s (up1 r k c) k)) := fun b' hb' => by rw [hb', hb]; rfl
    have hj1 : ∀ j, j < 3 → upT A k c 174 j = nI (up1 r k c j) := by
      have := upT_r (A := A) (r := up1 r k y) (k := k) (c := c) hj
      rw [up1_up1] at this
      exact this
    have K0u : ∀ A, m_K (m_wA M A) 128 = 10 := fun A => by rw [wA_K]; exact h.K0
    rw [F_X12_isRest_31, x_gN_ok K0 R10, aI_lit (x := (3 : Int32)) (n := 3) K130 (by rw [L130]; omega) rfl (by omega), wA_I, (h.lm.rf hA).1 3 (by omega), if_neg (nI_nlt (by omega) (by omega)), m_let_eq, m_let_eq, x_gN_ok K0 R70, x_sI_ok K174 (by rw [L174]; omega) (by omega), wA_s]
    cases b
    · rw [if_neg (show ¬ bI (!false) = (0 : Int32) from by decide)]
      dsimp only
      rw [m_let_eq, nI_1]
      exact ih (c + 1) f false (upT A k c) c (by omega) (by omega) (hbs false (by simp)) (upT_f hA) hj1
    · rw [if_pos (show bI (!true) = (0 : Int32) from rfl)]
      obtain ⟨A2, f0, f1, f2⟩ := M_hasBy h (upT_f (k := k) (c := c) hA) (r := up1 r k c) hk (fun j hj' => by
        unfold up1
        split
        · omega
        · have := hr j hj'; omega) hj1
      have f0' : F_X12_hasBy 128 (nI k) (m_wA M (m_up A 174 k (nI c))) = some (gaI s (up1 r k c) k, m_wA M A2) := f0
      have hj2 : ∀ j, j < 3 → A2 174 j = nI (up1 r k c j) := fun j hj' => by rw [f2]; exact hj1 j hj'
      rw [x_cV_ok (K0u _) f0']
      by_cases q : gaI s (up1 r k c) k ≤ gaI s r k
      · rw [if_pos q]
        dsimp only
        rw [m_let_eq, nI_1]
        exact ih (c + 1) f true A2 c (by omega) (by omega) (hbs true (by rw [decide_eq_false (Int32.not_lt.mpr q)]; rfl)) f1 hj2
      · rw [if_neg q]
        dsimp only
        rw [m_let_eq, nI_1]
        exact ih (c + 1) f false A2 c (by omega) (by omega) (hbs false (by rw [decide_eq_true (Int32.not_le.mp q)]; rfl)) f1 hj2
theorem M_isRest (h : INV s M) {r : Nat → Nat} (hr : ∀ j, j < lH s.2.1 4 → r j ≤ lH s.2.1 3) {A : IA} (hA : rfr M A) (hj : ∀ j, j < 3 → A 174 j = nI (r j)) : ∃ A', F_X12_isRest 128 (m_wA M A) = some (bI (anN (lH s.2.1 4) (rsK s r)), m_wA M A') ∧ rfr M A' := by
  have hb4 := h.lo.2.2.2.2.1
  have hv6 := h.lo.2.2.2.1
  unfold F_X12_isRest
  refine up_0 (S := IA) (fun f k x => ∃ A', F_X12_isRest_2 f 128 (nI k) (m_wA M x) = some (bI (anN (lH s.2.1 4) (rsK s r)), m_wA M A') ∧ rfr M A') (lH s.2.1 4) (fun k x => rfr M x ∧ (∀ j, j < 3 → x 174 j = nI (r j)) ∧ ∀ i, i < k → rsK s r i = true) (by omega) ⟨hA, hj, fun i hi => absurd hi (Nat.not_lt_zero _)⟩ ?_ ?_
  · rintro f k x hk ⟨hx, hxj, hs⟩ ih
    obtain ⟨K0, R70, R71, R10, K174, L174, K175, L175, K130, L130⟩ := mbell_cells (A := x) h.1
    obtain ⟨A1, e, e1, e2⟩ := M_hasBy h hx hk (fun j hj' => by have := hr j hj'; omega) hxj
    rw [F_X12_isRest_2, x_gN_ok K0 R10, aI_lit (x := (4 : Int32)) (n := 4) K130 (by rw [L130]; omega) rfl (by omega), wA_I, (h.lm.rf hx).1 4 (by omega), if_neg (nI_ge hk (by omega)), x_gN_ok K0 R70, x_aI_ok K174 (by rw [L174]; omega) (by omega), wA_I, hxj k (by omega), x_cV_ok K0 e]
    refine m_let_P (fun o => ∃ A', o = some (bI (anN (lH s.2.1 4) (rsK s r)), m_wA M A') ∧ rfr M A') ?_
    intro K hK
    obtain ⟨A2, y', g0, g1, g2⟩ := M_isRest_in h hk hr (w := nI (r k)) (K := K) (lH s.2.1 3 + 1) 0 m_FU true A1 (r k) (by omega) (m_FU_lt (by omega)) rfl e1 (fun j hj' => by rw [up1_id, e2]; exact hxj j hj')
    have g0' : F_X12_isRest_31 K m_FU 128 (nI k) (nI (r k)) (gaI s r k) (0 : Int32) (0 : Int32) (m_wA M A1) = K 128 (nI k) (nI (r k)) (bI (!rsK s r k)) (m_wA M A2) := g0
    obtain ⟨K0', R70', _, _, K174', L174', _⟩ := mbell_cells (A := A2) h.1
    rw [g0', hK]
    dsimp only
    rw [x_gN_ok K0' R70', x_sI_ok K174' (by rw [L174']; omega) (by omega), wA_s]
    cases hz : rsK s r k
    · refine ⟨upT A2 k (r k), ?_, upT_f g1⟩
      rw [if_neg (show ¬ bI (!false) = (0 : Int32) from by decide)]
      have : anN (lH s.2.1 4) (rsK s r) = false := by
        cases hq : anN (lH s.2.1 4) (rsK s r)
        · rfl
        · have := anN_all.mp hq k hk
          rw [hz] at this
          simp at this
      rw [this]; rfl
    · rw [if_pos (show bI (!true) = (0 : Int32) from rfl), m_let_eq, nI_1]
      refine ih (upT A2 k (r k)) ⟨upT_f g1, ?_, fun i hi => if q : i = k then by rw [q]; exact hz else hs i (by omega)⟩
      have := upT_r (A := A2) (r := up1 r k y') (k := k) (c := r k) g2
      rw [up1_up1, up1_id] at this
      exact this
  · rintro f x ⟨hx, hxj, hs⟩
    obtain ⟨K0, R70, R71, R10, K174, L174, K175, L175, K130, L130⟩ := mbell_cells (A := x) h.1
    refine ⟨x, ?_, hx⟩
    rw [F_X12_isRest_2, x_gN_ok K0 R10, aI_lit (x := (4 : Int32)) (n := 4) K130 (by rw [L130]; omega) rfl (by omega), wA_I, (h.lm.rf hx).1 4 (by omega), if_pos (nI_le (Nat.le_refl _) (by omega)), anN_all.mpr hs]
    rfl
theorem okD_ch {d : Nat} (h : okD s d = true) : ∀ j, j < lH s.2.1 4 → chO d j ≤ lH s.2.1 3 := by
  intro j hj
  unfold okD at h
  rw [Bool.and_eq_true] at h
  exact of_decide_eq_true (anN_all.mp h.2 j hj)
theorem SC_rfr {A : IA} (hA : rfr M A) : SC M (m_wA M A) := by
  refine ⟨rfl, rfl, fun a ha _ => ?_, fun k _ _ => ?_, fun _ _ => rfl⟩
  · exact hA a (fun q => ha (by unfold scI; omega)) (fun q => ha (by unfold scI; omega))
  · show A 128 k = _
    rw [hA 128 (by omega) (by omega)]
/-- what is still to be told from the digits k on, and the end's answer -/
def rsW (s : St) (m k : Nat) : Option Nat → Int32
  | none => nI (cnt (rsS s) 512)
  | some z => iO (nthR s z m k)
def rsE (c : Nat) : Option Nat → Int32
  | none => nI c
  | some _ => NO
theorem M_rests_l (h : INV s M) {y : Option Nat} (hy : ∀ k, y = some k → k < 2147483648) {K : Int32 → Int32 → m_M → Option (Int32 × m_M)} (hK : ∀ c x, K (iO y) (nI c) x = some (rsE c y, x)) : ∃ A, F_X12_rests_25 K m_FU 128 (iO y) (0 : Int32) (0 : Int32) M = some (rsV s y, m_wA M A) ∧ rfr M A := by
  have key := up_l (S := Int32 × IA) (fun f k c => ∃ A, F_X12_rests_25 K f 128 (iO y) c.1 (nI k) (m_wA M c.2) = some (rsW s (512 - k) k y, m_wA M A) ∧ rfr M A) 512 (fun k c => c.1 = nI (cnt (rsS s) k) ∧ rfr M c.2) ?_ ?_ 512 0 m_FU ((0 : Int32), m_I M) (by omega) (m_FU_lt (by omega)) ⟨rfl, fun _ _ _ => rfl⟩
  · obtain ⟨A, e, e1⟩ := key
    refine ⟨A, ?_, e1⟩
    have e' : F_X12_rests_25 K m_FU 128 (iO y) (0 : Int32) (0 : Int32) M = _ := e
    rw [e']
    cases y <;> rfl
  · rintro f k ⟨c, x⟩ hk ⟨hc, hx⟩ ih
    dsimp only at hc hx ⊢
    have hcl := cnt_le (rsS s) k
    have hct : cnt (rsS s) (k + 1) = cnt (rsS s) k + (if rsS s k then 1 else 0) := rfl
    have K0 : ∀ A, m_K (m_wA M A) 128 = 10 := fun A => by rw [wA_K]; exact h.K0
    have hn : ∀ z, nthR s z (512 - k) k = if rsS s k = true ∧ cnt (rsS s) k = z then some k else nthR s z (512 - (k + 1)) (k + 1) := fun z => by
      rw [show 512 - k = (512 - (k + 1)) + 1 by omega]; rfl
    obtain ⟨A1, e, e1, e2⟩ := M_areRung h (d := k) (by omega) hx
    have skip : ∀ A2 : IA, rfr M A2 → rsS s k = false → ∃ A, F_X12_rests_25 K f 128 (iO y) c (nI (k + 1)) (m_wA M A2) = some (rsW s (512 - k) k y, m_wA M A) ∧ rfr M A := by
      intro A2 h2 hr
      obtain ⟨A, g0, g1⟩ := ih (c, A2) ⟨by dsimp only; rw [hct, hr]; exact hc, h2⟩
      refine ⟨A, ?_, g1⟩
      cases y with
      | none => exact g0
      | some z =>
        show _ = some (iO (nthR s z (512 - k) k), _)
        rw [hn z, if_neg (fun q => by rw [hr] at q; simp at q)]
        exact g0
    rw [F_X12_rests_25, if_neg (show ¬ (512 : Int32) ≤ nI k from nI_ge (b := 512) hk (by omega)), m_let_eq, x_cV_ok (K0 _) e]
    cases hok : okD s k
    · rw [if_pos (show bI false = (0 : Int32) from rfl)]
      dsimp only
      rw [m_let_eq, nI_1]
      exact skip A1 e1 (by unfold rsS; rw [hok]; rfl)
    · rw [if_neg (show ¬ bI true = (0 : Int32) from by decide)]
      obtain ⟨A2, g0, g1⟩ := M_isRest h (okD_ch hok) e1 e2
      have hr : rsS s k = anN (lH s.2.1 4) (rsK s (chO k)) := by unfold rsS; rw [hok]; rfl
      rw [x_cV_ok (K0 _) g0]
      cases hz : anN (lH s.2.1 4) (rsK s (chO k))
      · rw [if_pos (show bI false = (0 : Int32) from rfl)]
        dsimp only
        rw [m_let_eq, nI_1]
        exact skip A2 g1 (by rw [hr, hz])
      · rw [hz] at hr
        rw [if_neg (show ¬ bI true = (0 : Int32) from by decide)]
        have hcs : c + 1 = nI (cnt (rsS s) (k + 1)) := by rw [hct, hr, hc, nI_1]; rfl
        cases y with
        | none =>
          rw [if_neg (show ¬ c = iO none from by rw [hc]; intro z; have := nat_no (n := cnt (rsS s) k) (by omega); rw [eq_true (show nI (cnt (rsS s) k) = NO from z)] at this; simp at this), m_let_eq]
          dsimp only
          rw [m_let_eq, nI_1]
          exact ih (c + 1, A2) ⟨hcs, g1⟩
        | some z =>
          by_cases q : cnt (rsS s) k = z
          · refine ⟨A2, ?_, g1⟩
            rw [if_pos (show c = iO (some z) from by rw [hc, q]; rfl)]
            show _ = some (iO (nthR s z (512 - k) k), _)
            rw [hn z, if_pos ⟨hr, q⟩]; rfl
          · rw [if_neg (show ¬ c = iO (some z) from by rw [hc]; intro w; exact q ((nI_eq (by omega) (hy z rfl)).mp w)), m_let_eq]
            dsimp only
            rw [m_let_eq, nI_1]
            obtain ⟨A, g2, g3⟩ := ih (c + 1, A2) ⟨hcs, g1⟩
            refine ⟨A, ?_, g3⟩
            show _ = some (iO (nthR s z (512 - k) k), _)
            rw [hn z, if_neg (fun w => q w.2)]
            exact g2
  · rintro f ⟨c, x⟩ ⟨hc, hx⟩
    dsimp only at hc hx ⊢
    refine ⟨x, ?_, hx⟩
    rw [F_X12_rests_25, if_pos (by decide), hc, hK]
    cases y with
    | none => rfl
    | some z => rfl
theorem O_rests (y : Int32) : RO s (F_X11_rests 0 y) (F_X12_rests 128 y) := by
  have R10 : ∀ {M : m_M}, INV s M → m_R M 128 10 = some 130 := fun h => by simp only [gR h.1]
  have X130 : ∀ {M : m_M} (h : INV s M) (g : Int32 → Option (Int32 × m_M)), x_aI 12 M 130 (4 : Int32) g = g (nI (lH s.2.1 4)) := fun {M} h g => by
    rw [aI_lit (x := (4 : Int32)) (n := 4) (by simp only [gK h.1]) (by rw [show m_len M 130 = 16 from by simp only [gl h.1]]; omega) rfl (by omega), h.lm.1 4 (by omega)]
  have R6 : ∀ {M : m_M}, INV s M → m_R M 2 6 = some 3 := fun h => by simp only [gR h.1]
  have X3 : ∀ {M : m_M} (h : INV s M) (g : Int32 → Option (Int32 × m_M)), x_aI 12 M 3 (3 : Int32) g = g (nI (lH s.2.1 4)) := fun {M} h g => by
    rw [aI_lit (x := (3 : Int32)) (n := 3) (by simp only [gK h.1]) (by rw [show m_len M 3 = 4 from by simp only [gl h.1]]; omega) rfl (by omega), h.lc.2.1.2.2.2]
  by_cases hlt : y < (-1 : Int32)
  · refine ⟨NO, fun M h => ⟨⟨M, ?_, SC.rfl' M⟩, ⟨m_sI M 128 0 0, ?_, SC_thr M 0⟩⟩⟩
    · unfold F_X11_rests; rw [if_pos hlt]; rfl
    · unfold F_X12_rests; rw [x_pI_ok h.K0, if_pos hlt]; rfl
  by_cases hS0 : lH s.2.1 4 = 0
  · refine ⟨NO, fun M h => ⟨⟨M, ?_, SC.rfl' M⟩, ⟨m_sI M 128 0 0, ?_, SC_thr M 0⟩⟩⟩
    · unfold F_X11_rests
      rw [if_neg hlt, x_gN_ok h.C0 h.R2, x_gN_ok h.C2 (R6 h), X3 h, hS0, if_pos (by decide)]; rfl
    · have h1 := h.thr 0
      unfold F_X12_rests
      rw [x_pI_ok h.K0, if_neg hlt, x_gN_ok h1.K0 (R10 h1), X130 h1, hS0, if_pos (by decide)]; rfl
  obtain ⟨z, hz, hzk⟩ : ∃ z : Option Nat, y = iO z ∧ ∀ k, z = some k → k < 2147483648 := by
    rcases i_cases y with ⟨k, hk, rfl⟩ | hy
    · exact ⟨some k, rfl, fun k' e => by rw [← Option.some.inj e]; exact hk⟩
    · refine ⟨none, ?_, fun k e => by simp at e⟩
      apply Int32.le_antisymm
      · rw [Int32.le_iff_toInt_le]
        have := Int32.lt_iff_toInt_lt.mp hy
        have e0 : (0 : Int32).toInt = 0 := rfl
        have e1 : (iO none).toInt = -1 := by decide
        omega
      · exact Int32.not_lt.mp hlt
  subst hz
  refine ⟨rsV s z, fun M h => ⟨?_, ?_⟩⟩
  · obtain ⟨M', e, sc⟩ := C_findRest h z hzk
    have hb4 := h.lo.2.2.2.2.1
    have hday := h.bd.1
    refine ⟨M', ?_, sc⟩
    have R8 : m_R M 0 8 = some 77 := by simp only [gR h.1]
    have K77 : m_K M 77 = 0 := by simp only [gK h.1]
    unfold F_X11_rests
    rw [if_neg hlt, x_gN_ok h.C0 h.R2, x_gN_ok h.C2 (R6 h), X3 h, if_neg (show ¬ nI (lH s.2.1 4) = (0 : Int32) from nI_ne0 (by omega) (by omega)), x_gN_ok h.C0 R8, x_gN_ok h.C0 h.R2, x_gN_ok h.C0 h.R9, x_gI_ok h.B80, h.bc.1, nI_1, x_cV_ok h.C2 (S_verbOfC h.1 h.lc h.lo (by omega)), x_cV_ok K77 (show F_X0_findRest 77 (iO z) (iO (vOf s.2.1 (s.2.2.1.1 + 1))) M = some (rsV s z, M') from e)]
  · have h1 := h.thr 0
    have hb4 := h.lo.2.2.2.2.1
    unfold F_X12_rests
    rw [x_pI_ok h.K0, if_neg hlt, x_gN_ok h1.K0 (R10 h1), X130 h1, if_neg (show ¬ nI (lH s.2.1 4) = (0 : Int32) from nI_ne0 (by omega) (by omega))]
    refine m_let_P (fun o => ∃ M', o = some (rsV s z, M') ∧ SC M M') ?_
    intro K hK
    obtain ⟨A, e, e1⟩ := M_rests_l h1 (y := z) hzk (K := K) (fun c x => by
      rw [hK]
      cases z with
      | none => rw [show iO none = (-1 : Int32) from rfl]; rfl
      | some k =>
        dsimp only [iO]
        rw [if_neg (fun w => by have := nat_no (n := k) (hzk k rfl); rw [eq_true (show nI k = NO from w)] at this; simp at this)]
        rfl)
    exact ⟨_, e, (SC_thr M 0).trans (SC_rfr e1)⟩
end MRESTS
