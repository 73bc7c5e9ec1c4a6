/-! the model's bell -/
section MBELL
variable {M : m_M} {s : St}
theorem mbell_cells {A : IA} (h : G M) : m_K (m_wA M A) 128 = 10 ∧ m_R (m_wA M A) 128 70 = some 174 ∧ m_R (m_wA M A) 128 71 = some 175 ∧ m_R (m_wA M A) 128 10 = some 130 ∧ m_K (m_wA M A) 174 = 12 ∧ m_len (m_wA M A) 174 = 3 ∧ m_K (m_wA M A) 175 = 12 ∧ m_len (m_wA M A) 175 = 6 ∧ m_K (m_wA M A) 130 = 12 ∧ m_len (m_wA M A) 130 = 16 := by
  refine ⟨?_, ?_, ?_, ?_, ?_, ?_, ?_, ?_, ?_, ?_⟩ <;> simp only [wA_K, wA_R, wA_n, gK h, gR h, gl h]
/-- A is M's ints but for what is rung and the votes -/
def rfr (M : m_M) (A : IA) : Prop := ∀ a, a ≠ 174 → a ≠ 175 → A a = m_I M a
theorem S_bell2 (h : G M) {K : Nat → m_M → Option (Int32 × m_M)} : ∀ (d v f : Nat) (A : IA), v + d = 6 → d < f → (∀ j, j < v → A 175 j = nI 0) → ∃ A', F_X12_bell_2 K f 128 (nI v) (m_wA M A) = K 128 (m_wA M A') ∧ (∀ a, a ≠ 175 → A' a = A a) ∧ ∀ j, j < 6 → A' 175 j = nI 0 := by
  intro d
  induction d with
  | zero =>
    intro v f A hd hf hA
    obtain ⟨f, rfl⟩ : ∃ f', f = f' + 1 := ⟨f - 1, by omega⟩
    refine ⟨A, ?_, fun _ _ => rfl, fun j hj => hA j (by omega)⟩
    rw [F_X12_bell_2, if_pos (show (6 : Int32) ≤ nI v from nI_le (a := 6) (by omega) (by omega))]
  | succ d ih =>
    intro v f A hd hf hA
    obtain ⟨f, rfl⟩ : ∃ f', f = f' + 1 := ⟨f - 1, by omega⟩
    obtain ⟨K0, _, R71, _, _, _, K175, L175, _, _⟩ := mbell_cells (A := A) h
    obtain ⟨A', e, e1, e2⟩ := ih (v + 1) f (m_up A 175 v (nI 0)) (by omega) (by omega) (fun j hj => by
      rw [up_at]
      by_cases q : j = v
      · rw [if_pos ⟨rfl, q⟩]
      · rw [if_neg (fun z => q z.2)]; exact hA j (by omega))
    refine ⟨A', ?_, fun a ha => by rw [e1 a ha, up_fr ha], e2⟩
    rw [F_X12_bell_2, if_neg (show ¬ (6 : Int32) ≤ nI v from nI_ge (b := 6) (by omega) (by omega)), x_gN_ok K0 R71, x_sI_ok K175 (by rw [L175]; omega) (by omega), wA_s, m_let_eq, nI_1]
    exact e
theorem S_bell23 (h : G M) {n : Nat} {r : Nat → Nat} (hn : n ≤ 3) (hr : ∀ k, k < n → r k ≤ 6) {K : Nat → m_M → Option (Int32 × m_M)} : ∀ (d k f : Nat) (A : IA), k + d = n → d < f → A 130 4 = nI n → (∀ k, k < 3 → A 174 k = nI (r k)) → (∀ v, v < 6 → A 175 v = nI (vtO k r v)) → ∃ A', F_X12_bell_23 K f 128 (nI k) (m_wA M A) = K 128 (m_wA M A') ∧ (∀ a, a ≠ 175 → A' a = A a) ∧ ∀ v, v < 6 → A' 175 v = nI (vtO n r v) := by
  intro d
  induction d with
  | zero =>
    intro k f A hd hf hS hA hv
    obtain ⟨f, rfl⟩ : ∃ f', f = f' + 1 := ⟨f - 1, by omega⟩
    obtain ⟨K0, R70, R71, R10, K174, L174, K175, L175, K130, L130⟩ := mbell_cells (A := A) h
    refine ⟨A, ?_, fun _ _ => rfl, by rw [← show k = n by omega]; exact hv⟩
    rw [F_X12_bell_23, x_gN_ok K0 R10, aI_lit (x := (4 : Int32)) (n := 4) K130 (by rw [L130]; omega) rfl (by omega), wA_I, hS, if_pos (nI_le (by omega) (by omega))]
  | succ d ih =>
    intro k f A hd hf hS hA hv
    obtain ⟨f, rfl⟩ : ∃ f', f = f' + 1 := ⟨f - 1, by omega⟩
    obtain ⟨K0, R70, R71, R10, K174, L174, K175, L175, K130, L130⟩ := mbell_cells (A := A) h
    have hrk := hr k (by omega)
    have hct : ∀ v, vtO (k + 1) r v = vtO k r v + (if decide (r k = v + 1) then 1 else 0) := fun v => rfl
    rw [F_X12_bell_23, x_gN_ok K0 R10, aI_lit (x := (4 : Int32)) (n := 4) K130 (by rw [L130]; omega) rfl (by omega), wA_I, hS, if_neg (nI_ge (by omega) (by omega)), m_let_eq, x_gN_ok K0 R70, x_aI_ok K174 (by rw [L174]; omega) (by omega), wA_I, hA k (by omega)]
    by_cases q : r k = 0
    · rw [q, if_pos (by decide)]
      dsimp only
      rw [m_let_eq, nI_1]
      exact ih (k + 1) f A (by omega) (by omega) hS hA (fun v hv6 => by rw [hct, q, hv v hv6]; simp)
    · rw [if_neg (nI_nle (by omega) (by omega)), x_gN_ok K0 R71, x_gN_ok K0 R70, x_aI_ok K174 (by rw [L174]; omega) (by omega), wA_I, hA k (by omega), show nI (r k) - (1 : Int32) = nI (r k - 1) from nI_sub' (b := 1) (by omega), x_aI_ok K175 (by rw [L175]; omega) (by omega), wA_I, hv (r k - 1) (by omega), x_sI_ok K175 (by rw [L175]; omega) (by omega), wA_s]
      dsimp only
      rw [m_let_eq, nI_1, nI_1]
      obtain ⟨A', e, e1, e2⟩ := ih (k + 1) f (m_up A 175 (r k - 1) (nI (vtO k r (r k - 1) + 1))) (by omega) (by omega) (by rw [up_at, if_neg (by omega)]; exact hS) (fun j hj => by rw [up_at, if_neg (by omega)]; exact hA j hj) (fun v hv6 => by
        rw [hct, up_at]
        by_cases qv : v = r k - 1
        · rw [if_pos ⟨rfl, qv⟩, decide_eq_true (p := r k = v + 1) (by omega), ← qv]; rfl
        · rw [if_neg (fun z => qv z.2), decide_eq_false (p := r k = v + 1) (by omega), hv v hv6]; simp)
      exact ⟨A', e, fun a ha => by rw [e1 a ha, up_fr ha], e2⟩
def bD : Option Nat → Nat
  | none => 0
  | some b => b
theorem bD_at {vt : Nat → Nat} {v : Nat} (h0 : 0 < v) : vt (bD (bF vt v).1) = (bF vt v).2 ∧ bD (bF vt v).1 < v := by
  cases hq : (bF vt v).1 with
  | none =>
    obtain ⟨a1, a2⟩ := bF_none hq
    rw [a1]
    exact ⟨a2 0 h0, h0⟩
  | some b =>
    obtain ⟨a1, a2, a3⟩ := bF_some hq
    exact ⟨a2, a1⟩
theorem S_bell69 (h : G M) {vt : Nat → Nat} (hvt : ∀ v, vt v ≤ 3) {A : IA} (hA : ∀ v, v < 6 → A 175 v = nI (vt v)) {K : Nat → Int32 → m_M → Option (Int32 × m_M)} : ∀ (d v f : Nat), v + d = 6 → d < f → 0 < v → F_X12_bell_69 K f 128 (nI (bD (bF vt v).1)) (nI v) (m_wA M A) = K 128 (nI (bD (bF vt 6).1)) (m_wA M A) := by
  obtain ⟨K0, R70, R71, R10, K174, L174, K175, L175, K130, L130⟩ := mbell_cells (A := A) h
  intro d
  induction d with
  | zero =>
    intro v f hd hf h0
    obtain ⟨f, rfl⟩ : ∃ f', f = f' + 1 := ⟨f - 1, by omega⟩
    rw [F_X12_bell_69, if_pos (show (6 : Int32) ≤ nI v from nI_le (a := 6) (by omega) (by omega)), show v = 6 by omega]
  | succ d ih =>
    intro v f hd hf h0
    obtain ⟨f, rfl⟩ : ∃ f', f = f' + 1 := ⟨f - 1, by omega⟩
    obtain ⟨b1, b2⟩ := bD_at (vt := vt) h0
    have hb := bF_le hvt v
    have hb2 := hvt v
    have hst : bF vt (v + 1) = if (bF vt v).2 < vt v then (some v, vt v) else bF vt v := rfl
    have ih' := ih (v + 1) f (by omega) (by omega) (by omega)
    rw [F_X12_bell_69, if_neg (show ¬ (6 : Int32) ≤ nI v from nI_ge (b := 6) (by omega) (by omega)), m_let_eq, x_gN_ok K0 R71, x_aI_ok K175 (by rw [L175]; omega) (by omega), wA_I, hA v (by omega), x_gN_ok K0 R71, x_aI_ok K175 (by rw [L175]; omega) (by omega), wA_I, hA _ (by omega), b1]
    by_cases q : (bF vt v).2 < vt v
    · rw [if_pos q] at hst
      rw [if_neg (nI_ge q (by omega))]
      dsimp only
      rw [m_let_eq, nI_1]
      rw [hst] at ih'
      exact ih'
    · rw [if_neg q] at hst
      rw [if_pos (nI_le (by omega) (by omega))]
      dsimp only
      rw [m_let_eq, nI_1]
      rw [hst] at ih'
      exact ih'
/-- tomorrow's verb -/
def tmV (s : St) : Int32 := iO (vOf s.2.1 (s.2.2.1.1 + 1))
theorem LMi.rf {l : Ld} {A : IA} (hl : LMi l (m_I M)) (h : rfr M A) : LMi l A := hl.sc (fun a ha => h a (by omega) (by omega))
theorem M_bell (h : INV s M) {A : IA} (hA : rfr M A) {r : Nat → Nat} (hr : ∀ k, k < lH s.2.1 4 → r k ≤ 6) (hr3 : ∀ k, k < 3 → A 174 k = nI (r k)) : ∃ A', F_X12_bell 128 (m_wA M A) = some (beI (lH s.2.1 4) r (tmV s), m_wA M A') ∧ rfr M A' ∧ A' 174 = A 174 := by
  have hb4 := h.lo.2.2.2.2.1
  have hS : A 130 4 = nI (lH s.2.1 4) := (h.lm.rf hA).1 4 (by omega)
  unfold F_X12_bell
  refine m_let_P (fun o => ∃ A', o = some (beI (lH s.2.1 4) r (tmV s), m_wA M A') ∧ rfr M A' ∧ A' 174 = A 174) ?_
  intro k21 h21
  obtain ⟨A1, e, e1, e2⟩ := S_bell2 h.1 (K := k21) 6 0 m_FU A (by omega) (m_FU_lt (by omega)) (fun j hj => absurd hj (Nat.not_lt_zero _))
  have e' : F_X12_bell_2 k21 m_FU 128 (0 : Int32) (m_wA M A) = k21 128 (m_wA M A1) := e
  rw [e', h21]
  refine m_let_P (fun o => ∃ A', o = some (beI (lH s.2.1 4) r (tmV s), m_wA M A') ∧ rfr M A' ∧ A' 174 = A 174) ?_
  intro k65 h65
  obtain ⟨A2, f0, f1, f2⟩ := S_bell23 h.1 hb4 hr (K := k65) (lH s.2.1 4) 0 m_FU A1 (by omega) (m_FU_lt (by omega)) (by rw [e1 130 (by omega)]; exact hS) (fun k hk => by rw [e1 174 (by omega)]; exact hr3 k hk) (fun v hv => e2 v hv)
  have f0' : F_X12_bell_23 k65 m_FU 128 (0 : Int32) (m_wA M A1) = k65 128 (m_wA M A2) := f0
  rw [f0', h65]
  refine m_let_P (fun o => ∃ A', o = some (beI (lH s.2.1 4) r (tmV s), m_wA M A') ∧ rfr M A' ∧ A' 174 = A 174) ?_
  intro k102 h102
  have hvt : ∀ v, vtO (lH s.2.1 4) r v ≤ 3 := fun v => Nat.le_trans (vtO_le _ _ _) hb4
  have hf2 : rfr M A2 := fun a h1 h2 => by rw [f1 a h2, e1 a h2, hA a h1 h2]
  have h174 : A2 174 = A 174 := by rw [f1 174 (by omega), e1 174 (by omega)]
  have g0 := S_bell69 h.1 hvt f2 (K := k102) 5 1 m_FU (by omega) (m_FU_lt (by omega)) (by omega)
  have hstart : bD (bF (vtO (lH s.2.1 4) r) 1).1 = 0 := by have := (bD_at (vt := vtO (lH s.2.1 4) r) (v := 1) (by omega)).2; omega
  rw [hstart] at g0
  have g0' : F_X12_bell_69 k102 m_FU 128 (0 : Int32) (1 : Int32) (m_wA M A2) = k102 128 (nI (bD (bF (vtO (lH s.2.1 4) r) 6).1)) (m_wA M A2) := g0
  rw [g0', h102]
  obtain ⟨K0, R70, R71, R10, K174, L174, K175, L175, K130, L130⟩ := mbell_cells (A := A2) h.1
  obtain ⟨b1, b2⟩ := bD_at (vt := vtO (lH s.2.1 4) r) (v := 6) (by omega)
  have hb3 := bF_le hvt 6
  refine ⟨A2, ?_, hf2, h174⟩
  dsimp only
  rw [x_gN_ok K0 R71, x_aI_ok K175 (by rw [L175]; omega) (by omega), wA_I, f2 _ b2, b1]
  unfold beI
  have hday := h.bd.1
  cases hq : (bF (vtO (lH s.2.1 4) r) 6).1 with
  | none =>
    have hI53 : A2 128 53 = nI s.2.2.1.1 := by rw [hf2 128 (by omega) (by omega)]; exact h.md
    rw [(bF_none hq).1, if_pos (by decide), x_gI_ok K0, wA_I, hI53, nI_1, x_cV_ok K0 (S_verbOfM (M := m_wA M A2) (show G (m_wA M A2) from h.1) (show LMi s.2.1 (m_I (m_wA M A2)) from h.lm.rf hf2) h.lo (by omega))]
    rfl
  | some b =>
    have := bF_some hq
    rw [if_neg (nI_nle (by omega) (by omega))]
    rfl
/-- how the model sees whether digits may be, up to a speaker -/
def isF (s : St) (d k : Nat) : Bool := anN k (fun i => decide (chO d i ≤ lH s.2.1 3) && (decide (i < lH s.2.1 4) || decide (chO d i = 0)))
theorem isF_ok (h : INV s M) (d : Nat) : (isF s d 3 && decide (d / 512 = 0)) = okD s d := by
  have hb4 := h.lo.2.2.2.2.1
  have e0 : chO d 0 = d % 8 := by unfold chO; omega
  have e1 : chO d 1 = d / 8 % 8 := rfl
  have e2 : chO d 2 = d / 64 % 8 := rfl
  unfold isF okD
  simp only [anN, e0, e1, e2, Bool.true_and]
  have hc : lH s.2.1 4 = 0 ∨ lH s.2.1 4 = 1 ∨ lH s.2.1 4 = 2 ∨ lH s.2.1 4 = 3 := by omega
  rcases hc with hc | hc | hc | hc
  · rw [hc]
    simp only [anN]
    rw [Bool.eq_iff_iff]
    simp
    omega
  · rw [hc]
    simp only [anN, e0, e1, e2, Bool.true_and]
    rw [Bool.eq_iff_iff]
    simp
    omega
  · rw [hc]
    simp only [anN, e0, e1, e2, Bool.true_and]
    rw [Bool.eq_iff_iff]
    simp
    omega
  · rw [hc]
    simp only [anN, e0, e1, e2, Bool.true_and]
    rw [Bool.eq_iff_iff]
    simp
    omega
/-- d without its k lowest digits -/
def shO (d k : Nat) : Nat := d / 2 ^ (3 * k)
theorem M_areRung_l (h : INV s M) {d : Nat} (hd : d < 2147483648) {K : Int32 → Int32 → m_M → Option (Int32 × m_M)} : ∀ (e k f : Nat) (b : Bool) (A : IA), k + e = 3 → e < f → b = isF s d k → rfr M A → (∀ j, j < k → A 174 j = nI (chO d j)) →
    ∃ A', F_X12_areRung_15 K f 128 (nI (shO d k)) (bI b) (nI k) (m_wA M A) = K (nI (d / 512)) (bI (isF s d 3)) (m_wA M A') ∧ rfr M A' ∧ ∀ j, j < 3 → A' 174 j = nI (chO d j) := by
  have hb4 := h.lo.2.2.2.2.1
  have hv6 := h.lo.2.2.2.1
  intro e
  induction e with
  | zero =>
    intro k f b A he hf hb hA hj
    obtain ⟨f, rfl⟩ : ∃ f', f = f' + 1 := ⟨f - 1, by omega⟩
    have hk3 : k = 3 := by omega
    subst hk3
    refine ⟨A, ?_, hA, hj⟩
    rw [F_X12_areRung_15, if_pos (by decide), hb]
    rfl
  | succ e ih =>
    intro k f b A he hf hb hA hj
    obtain ⟨f, rfl⟩ : ∃ f', f = f' + 1 := ⟨f - 1, by omega⟩
    have hsh : shO d k < 2147483648 := Nat.lt_of_le_of_lt (Nat.div_le_self _ _) hd
    have hc : shO d k % 8 = chO d k := rfl
    have hc8 : chO d k < 8 := Nat.mod_lt _ (by omega)
    have hsn : shO d k / 8 = shO d (k + 1) := by
      unfold shO
      rw [Nat.div_div_eq_div_mul, show (8 : Nat) = 2 ^ 3 from rfl, ← Nat.pow_add, show 3 * k + 3 = 3 * (k + 1) by omega]
    obtain ⟨K0, R70, R71, R10, K174, L174, K175, L175, K130, L130⟩ := mbell_cells (A := A) h.1
    have hA1 : rfr M (m_up A 174 k (nI (chO d k))) := fun a h1 h2 => by rw [up_fr h1]; exact hA a h1 h2
    have hj1 : ∀ j, j < k + 1 → m_up A 174 k (nI (chO d k)) 174 j = nI (chO d j) := fun j hjk => by
      rw [up_at]
      by_cases q : j = k
      · rw [if_pos ⟨rfl, q⟩, q]
      · rw [if_neg (fun z => q z.2)]; exact hj j (by omega)
    have hif : ∀ b' : Bool, b' = (b && (decide (chO d k ≤ lH s.2.1 3) && (decide (k < lH s.2.1 4) || decide (chO d k = 0)))) → b' = isF s d (k + 1) := fun b' hb' => by rw [hb', hb]; rfl
    rw [F_X12_areRung_15, if_neg (show ¬ (3 : Int32) ≤ nI k from nI_ge (b := 3) (by omega) (by omega))]
    refine m_let_P (fun o => ∃ A', o = K (nI (d / 512)) (bI (isF s d 3)) (m_wA M A') ∧ rfr M A' ∧ ∀ j, j < 3 → A' 174 j = nI (chO d j)) ?_
    intro k78 h78
    have h78' : ∀ b' : Bool, b' = (b && (decide (chO d k ≤ lH s.2.1 3) && (decide (k < lH s.2.1 4) || decide (chO d k = 0)))) → ∃ A', k78 128 (nI (shO d k)) (nI k) (bI b') (m_wA M (m_up A 174 k (nI (chO d k)))) = K (nI (d / 512)) (bI (isF s d 3)) (m_wA M A') ∧ rfr M A' ∧ ∀ j, j < 3 → A' 174 j = nI (chO d j) := by
      intro b' hb'
      rw [h78]
      dsimp only
      rw [x_nz_eq, if_neg (by decide), show nI (shO d k) / (8 : Int32) = nI (shO d k / 8) from i32_div (b := 8) hsh (by omega), hsn, m_let_eq, m_let_eq, nI_1]
      exact ih (k + 1) f b' _ (by omega) (by omega) (hif b' hb') hA1 hj1
    rw [m_let_eq, x_gN_ok K0 R70, x_nz_eq, if_neg (by decide), show nI (shO d k) - nI (shO d k) / (8 : Int32) * (8 : Int32) = nI (shO d k % 8) from i32_rem (b := 8) hsh (by omega), hc, x_sI_ok K174 (by rw [L174]; omega) (by omega), wA_s]
    obtain ⟨K0', R70', R71', R10', K174', L174', _, _, K130', L130'⟩ := mbell_cells (A := m_up A 174 k (nI (chO d k))) h.1
    have I174 : m_up A 174 k (nI (chO d k)) 174 k = nI (chO d k) := hj1 k (by omega)
    have hlm := h.lm.rf hA1
    cases b
    · rw [if_pos (show bI false = (0 : Int32) from rfl)]
      exact h78' false (by simp)
    · rw [if_neg (show ¬ bI true = (0 : Int32) from by decide), x_gN_ok K0' R70', x_aI_ok K174' (by rw [L174']; omega) (by omega), wA_I, I174, x_gN_ok K0' R10', aI_lit (x := (3 : Int32)) (n := 3) K130' (by rw [L130']; omega) rfl (by omega), wA_I, hlm.1 3 (by omega)]
      by_cases q1 : chO d k ≤ lH s.2.1 3
      · rw [if_neg (nI_nlt q1 (by omega)), m_let_eq, x_gN_ok K0' R10', aI_lit (x := (4 : Int32)) (n := 4) K130' (by rw [L130']; omega) rfl (by omega), wA_I, hlm.1 4 (by omega)]
        by_cases q2 : k < lH s.2.1 4
        · rw [if_pos (nI_lt q2 (by omega))]
          exact h78' true (by rw [decide_eq_true q1, decide_eq_true q2]; rfl)
        · rw [if_neg (nI_nlt (by omega) (by omega)), x_gN_ok K0' R70', x_aI_ok K174' (by rw [L174']; omega) (by omega), wA_I, I174]
          by_cases q3 : chO d k = 0
          · rw [if_pos (show nI (chO d k) = (0 : Int32) from by rw [q3]; rfl)]
            exact h78' true (by rw [decide_eq_true q1, decide_eq_true q3, Bool.or_true]; rfl)
          · rw [if_neg (show ¬ nI (chO d k) = (0 : Int32) from nI_ne0 (by omega) (by omega))]
            exact h78' false (by rw [decide_eq_false q2, decide_eq_false q3]; simp)
      · rw [if_pos (nI_lt (by omega) (by omega))]
        exact h78' false (by rw [decide_eq_false q1]; simp)
theorem M_areRung (h : INV s M) {d : Nat} (hd : d < 2147483648) {A : IA} (hA : rfr M A) : ∃ A', F_X12_areRung 128 (nI d) (m_wA M A) = some (bI (okD s d), m_wA M A') ∧ rfr M A' ∧ ∀ j, j < 3 → A' 174 j = nI (chO d j) := by
  have h512 : d / 512 < 2147483648 := by omega
  unfold F_X12_areRung
  refine m_let_P (fun o => ∃ A', o = some (bI (okD s d), m_wA M A') ∧ rfr M A' ∧ ∀ j, j < 3 → A' 174 j = nI (chO d j)) ?_
  intro k11 h11
  rw [if_neg (nI_pos hd), h11]
  dsimp only
  refine m_let_P (fun o => ∃ A', o = some (bI (okD s d), m_wA M A') ∧ rfr M A' ∧ ∀ j, j < 3 → A' 174 j = nI (chO d j)) ?_
  intro k90 h90
  obtain ⟨A', e, e1, e2⟩ := M_areRung_l h hd (K := k90) 3 0 m_FU true A (by omega) (m_FU_lt (by omega)) rfl hA (fun j hj => absurd hj (Nat.not_lt_zero _))
  have hs0 : shO d 0 = d := by unfold shO; omega
  rw [hs0] at e
  have e' : F_X12_areRung_15 k90 m_FU 128 (nI d) (1 : Int32) (0 : Int32) (m_wA M A) = k90 (nI (d / 512)) (bI (isF s d 3)) (m_wA M A') := e
  refine ⟨A', ?_, e1, e2⟩
  rw [e', h90]
  dsimp only
  rw [m_let_eq, ← isF_ok h d]
  cases isF s d 3
  · rw [if_pos (show bI false = (0 : Int32) from rfl)]; rfl
  · rw [if_neg (show ¬ bI true = (0 : Int32) from by decide)]
    by_cases q : d / 512 = 0
    · rw [q, if_pos (by decide)]; rfl
    · rw [if_neg (show ¬ nI (d / 512) = (0 : Int32) from nI_ne0 (by omega) h512), decide_eq_false q]; rfl
end MBELL
