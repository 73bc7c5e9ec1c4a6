/-! the bell -/
def chO (d k : Nat) : Nat := d / 2 ^ (3 * k) % 8
def vtO (n : Nat) (r : Nat → Nat) (v : Nat) : Nat := cnt (fun k => decide (r k = v + 1)) n
/-- the verb with most votes among the first ones, the least of them -/
def bF (vt : Nat → Nat) : Nat → Option Nat × Nat
  | 0 => (none, 0)
  | v + 1 => if (bF vt v).2 < vt v then (some v, vt v) else bF vt v
theorem bF_le {vt : Nat → Nat} {n : Nat} (h : ∀ v, vt v ≤ n) : ∀ k, (bF vt k).2 ≤ n := by
  intro k
  induction k with
  | zero => exact Nat.zero_le _
  | succ k ih =>
    show (if (bF vt k).2 < vt k then (some k, vt k) else bF vt k).2 ≤ n
    split
    · exact h k
    · exact ih
theorem bF_some {vt : Nat → Nat} : ∀ {k b : Nat}, (bF vt k).1 = some b → b < k ∧ vt b = (bF vt k).2 ∧ 0 < (bF vt k).2 := by
  intro k
  induction k with
  | zero => intro b h; simp [bF] at h
  | succ k ih =>
    intro b h
    simp only [bF] at h ⊢
    split at h
    · rename_i q
      rw [if_pos q]
      have := Option.some.inj h
      subst this
      exact ⟨by omega, rfl, by show 0 < vt k; omega⟩
    · rename_i q
      rw [if_neg q]
      obtain ⟨a1, a2, a3⟩ := ih h
      exact ⟨by omega, a2, a3⟩
theorem bF_none {vt : Nat → Nat} : ∀ {k : Nat}, (bF vt k).1 = none → (bF vt k).2 = 0 ∧ ∀ v, v < k → vt v = 0 := by
  intro k
  induction k with
  | zero => intro _; exact ⟨rfl, fun v hv => absurd hv (Nat.not_lt_zero _)⟩
  | succ k ih =>
    intro h
    simp only [bF] at h ⊢
    split at h
    · simp at h
    · rename_i q
      rw [if_neg q]
      obtain ⟨a1, a2⟩ := ih h
      refine ⟨a1, fun v hv => ?_⟩
      by_cases e : v = k
      · subst e; omega
      · exact a2 v (by omega)
theorem S_choiceOf {M : m_M} {d k : Nat} (hd : d < 2147483648) (hk : k < 10) : F_X0_choiceOf (nI d) (nI k) M = some (nI (chO d k), M) := by
  unfold F_X0_choiceOf chO
  rw [show (3 : Int32) = nI 3 from rfl, nI_mul, nI_shr hd (by omega), show (7 : Int32) = nI 7 from rfl, nI_m7]
section BELL
variable {M : m_M} {s : St}
theorem bell_cells (h : G M) : m_K M 77 = 0 ∧ m_R M 77 0 = some 2 ∧ m_R M 77 1 = some 78 ∧ m_R M 77 2 = some 79 ∧ m_K M 2 = 3 ∧ m_R M 2 6 = some 3 ∧ m_K M 3 = 12 ∧ m_len M 3 = 4 ∧ m_K M 78 = 12 ∧ m_len M 78 = 512 ∧ m_K M 79 = 12 ∧ m_len M 79 = 6 := by
  refine ⟨?_, ?_, ?_, ?_, ?_, ?_, ?_, ?_, ?_, ?_, ?_, ?_⟩ <;> simp only [gK h, gR h, gl h]
theorem SC_wI {a : Nat} {f : Nat → Int32} (ha : scI a) : SC M (m_wI M a f) := by
  refine ⟨rfl, rfl, fun b hb _ => ?_, fun k _ _ => ?_, fun _ _ => rfl⟩
  · funext j; rw [mI_wI, if_neg (fun q => hb (by rw [q]; exact ha))]
  · rw [mI_wI, if_neg (fun q => by rw [← q] at ha; unfold scI at ha; omega)]
/-- the answer of the bell, tomorrow's verb given -/
def beI (n : Nat) (r : Nat → Nat) (x : Int32) : Int32 := match (bF (vtO n r) 6).1 with
  | some b => nI b
  | none => x
theorem vtO_le (n : Nat) (r : Nat → Nat) (v : Nat) : vtO n r v ≤ n := cnt_le _ _
theorem C_vr72 (h : G M) {vt : Nat → Nat} (hvt : ∀ v, vt v ≤ 3) (hv : ∀ v, v < 6 → m_I M 79 v = nI (vt v)) {x y : Int32} {K : Int32 → Int32 → Int32 → m_M → Option (Int32 × m_M)} : ∀ (d v f : Nat) (z : Int32), v + d = 6 → d < f → z = (match (bF vt v).1 with
    | some b => nI b
    | none => y) → F_X0_verbRung_72 K f 77 x z (nI (bF vt v).2) (nI v) M = K x (match (bF vt 6).1 with
    | some b => nI b
    | none => y) (nI (bF vt 6).2) M := by
  obtain ⟨K77, _, _, R2, _, _, _, _, _, _, K79, L79⟩ := bell_cells h
  intro d
  induction d with
  | zero =>
    intro v f z hd hf hz
    obtain ⟨f, rfl⟩ : ∃ f', f = f' + 1 := ⟨f - 1, by omega⟩
    rw [F_X0_verbRung_72, if_pos (show (6 : Int32) ≤ nI v from nI_le (a := 6) (by omega) (by omega)), hz, show v = 6 by omega]
  | succ d ih =>
    intro v f z hd hf hz
    obtain ⟨f, rfl⟩ : ∃ f', f = f' + 1 := ⟨f - 1, by omega⟩
    have hb := bF_le hvt v
    have hb2 := hvt v
    have ih' := ih (v + 1) f
    have hst : bF vt (v + 1) = if (bF vt v).2 < vt v then (some v, vt v) else bF vt v := rfl
    rw [F_X0_verbRung_72, if_neg (show ¬ (6 : Int32) ≤ nI v from nI_ge (b := 6) (by omega) (by omega)), m_let_eq, x_gN_ok K77 R2, x_aI_ok K79 (by rw [L79]; omega) (by omega), hv v (by omega)]
    by_cases q : (bF vt v).2 < vt v
    · rw [if_pos q] at hst
      rw [if_neg (nI_ge q (by omega)), x_gN_ok K77 R2, x_aI_ok K79 (by rw [L79]; omega) (by omega), hv v (by omega)]
      dsimp only
      rw [m_let_eq, nI_1]
      have := ih' (nI v) (by omega) (by omega) (by rw [hst])
      rw [hst] at this
      exact this
    · rw [if_neg q] at hst
      rw [if_pos (nI_le (by omega) (by omega))]
      dsimp only
      rw [m_let_eq, nI_1]
      have := ih' z (by omega) (by omega) (by rw [hst]; exact hz)
      rw [hst] at this
      exact this
theorem C_vr16 (h : G M) {n d : Nat} (hn3 : n ≤ 3) (hd : d < 2147483648) (hS : m_I M 3 3 = nI n) {x y z : Int32} {K : Nat → Int32 → Int32 → Int32 → m_M → Option (Int32 × m_M)} : ∀ (e k f : Nat) (g : Nat → Int32), k + e = n → e < f → (∀ v, v < 6 → g v = nI (vtO k (chO d) v)) →
    ∃ g', F_X0_verbRung_16 K f 77 (nI d) x y z (nI k) (m_wI M 79 g) = K 77 x y z (m_wI M 79 g') ∧ ∀ v, v < 6 → g' v = nI (vtO n (chO d) v) := by
  intro e
  induction e with
  | zero =>
    intro k f g he hf hg
    obtain ⟨f, rfl⟩ : ∃ f', f = f' + 1 := ⟨f - 1, by omega⟩
    obtain ⟨K77, R0, _, R2, K2, R6, K3, L3, _, _, K79, L79⟩ := bell_cells (M := m_wI M 79 g) h
    refine ⟨g, ?_, by rw [← show k = n by omega]; exact hg⟩
    rw [F_X0_verbRung_16, x_gN_ok K77 R0, x_gN_ok K2 R6, aI_lit (x := (3 : Int32)) (n := 3) K3 (by rw [L3]; omega) rfl (by omega), (show m_I (m_wI M 79 g) 3 3 = nI n by rw [mI_wI, if_neg (by omega)]; exact hS), if_pos (nI_le (by omega) (by omega))]
  | succ e ih =>
    intro k f g he hf hg
    obtain ⟨f, rfl⟩ : ∃ f', f = f' + 1 := ⟨f - 1, by omega⟩
    obtain ⟨K77, R0, _, R2, K2, R6, K3, L3, _, _, K79, L79⟩ := bell_cells (M := m_wI M 79 g) h
    have hc8 : chO d k < 8 := Nat.mod_lt _ (by omega)
    have hct : ∀ v, vtO (k + 1) (chO d) v = vtO k (chO d) v + (if decide (chO d k = v + 1) then 1 else 0) := fun v => rfl
    rw [F_X0_verbRung_16, x_gN_ok K77 R0, x_gN_ok K2 R6, aI_lit (x := (3 : Int32)) (n := 3) K3 (by rw [L3]; omega) rfl (by omega), (show m_I (m_wI M 79 g) 3 3 = nI n by rw [mI_wI, if_neg (by omega)]; exact hS), if_neg (nI_ge (by omega) (by omega)), m_let_eq, x_bd_ok (S_choiceOf hd (by omega)), m_let_eq]
    by_cases q0 : chO d k = 0
    · rw [q0, if_pos (show nI 0 - (1 : Int32) < 0 from by decide)]
      dsimp only
      rw [m_let_eq, nI_1]
      exact ih (k + 1) f g (by omega) (by omega) (fun v hv => by rw [hct, q0, hg v hv]; simp)
    · rw [show nI (chO d k) - (1 : Int32) = nI (chO d k - 1) from nI_sub' (b := 1) (by omega), if_neg (nI_pos (by omega))]
      by_cases q6 : 6 ≤ chO d k - 1
      · rw [if_pos (show (6 : Int32) ≤ nI (chO d k - 1) from nI_le (a := 6) q6 (by omega))]
        dsimp only
        rw [m_let_eq, nI_1]
        exact ih (k + 1) f g (by omega) (by omega) (fun v hv => by rw [hct, hg v hv, decide_eq_false (by omega)]; simp)
      · rw [if_neg (show ¬ (6 : Int32) ≤ nI (chO d k - 1) from nI_ge (b := 6) (by omega) (by omega)), x_gN_ok K77 R2, x_aI_ok K79 (by rw [L79]; omega) (by omega), x_sI_ok K79 (by rw [L79]; omega) (by omega), (show m_I (m_wI M 79 g) 79 (chO d k - 1) = g (chO d k - 1) by rw [mI_wI, if_pos rfl]), m_sI_w, m_wI_wI]
        dsimp only
        rw [m_let_eq, nI_1]
        refine ih (k + 1) f _ (by omega) (by omega) (fun v hv => ?_)
        rw [hct]
        by_cases qv : v = chO d k - 1
        · rw [if_pos qv, decide_eq_true (p := chO d k = v + 1) (by omega), ← qv, hg v hv, nI_1]; rfl
        · rw [if_neg qv, decide_eq_false (p := chO d k = v + 1) (by omega), mI_wI, if_pos rfl, hg v hv]; simp
/-- the class's bell -/
theorem C_verbRung (h : INV s M) {d : Nat} (hd : d < 2147483648) {x : Int32} : ∃ g, F_X0_verbRung 77 (nI d) x M = some (beI (lH s.2.1 4) (chO d) x, m_wI M 79 g) := by
  have hb4 := h.lo.2.2.2.2.1
  obtain ⟨K77, R0, _, R2, K2, R6, K3, L3, _, _, K79, L79⟩ := bell_cells h.1
  have hS : m_I M 3 3 = nI (lH s.2.1 4) := h.lc.2.1.2.2.2
  unfold F_X0_verbRung
  rw [x_gN_ok K77 R2, x_bd_ok (S_fillI (N := 6) (by omega) 0 K79 L79)]
  refine m_let_P (fun o => ∃ g, o = some (beI (lH s.2.1 4) (chO d) x, m_wI M 79 g)) ?_
  intro K hK
  obtain ⟨g, e, e1⟩ := C_vr16 h.1 hb4 hd hS (x := x) (y := NO) (z := 0) (K := K) (lH s.2.1 4) 0 m_FU (fun j => if j < 6 then 0 else m_I M 79 j) (by omega) (m_FU_lt (by omega)) (fun v hv => by rw [if_pos hv]; rfl)
  refine ⟨g, ?_⟩
  have e' : F_X0_verbRung_16 K m_FU 77 (nI d) x (-1 : Int32) (0 : Int32) (0 : Int32) (m_wI M 79 fun j => if j < 6 then 0 else m_I M 79 j) = K 77 x NO 0 (m_wI M 79 g) := e
  rw [e', hK]
  dsimp only
  refine m_let_e ?_
  intro K2' hK2
  have hG : G (m_wI M 79 g) := h.1
  have e2 := C_vr72 hG (vt := vtO (lH s.2.1 4) (chO d)) (fun v => Nat.le_trans (vtO_le _ _ _) hb4) (fun v hv => by rw [mI_wI, if_pos rfl, e1 v hv]) (x := x) (y := NO) (K := K2') 6 0 m_FU NO (by omega) (m_FU_lt (by omega)) rfl
  have e2' : F_X0_verbRung_72 K2' m_FU 77 x NO (0 : Int32) (0 : Int32) (m_wI M 79 g) = _ := e2
  rw [e2', hK2]
  dsimp only
  unfold beI
  cases hq : (bF (vtO (lH s.2.1 4) (chO d)) 6).1 with
  | none =>
    rw [(bF_none hq).1, if_pos (by decide)]
  | some b =>
    have := bF_some hq
    have hb3 := bF_le (n := 3) (fun v => Nat.le_trans (vtO_le (lH s.2.1 4) (chO d) v) hb4) 6
    rw [if_neg (nI_nle (by omega) (by omega))]
/-- digits that may be -/
def okD (s : St) (d : Nat) : Bool := decide (d < 2 ^ (3 * lH s.2.1 4)) && anN (lH s.2.1 4) (fun k => decide (chO d k ≤ lH s.2.1 3))
theorem pow3 (h : INV s M) : 2 ^ (3 * lH s.2.1 4) ≤ 512 := by
  have := h.lo.2.2.2.2.1
  have h2 : 2 ^ (3 * lH s.2.1 4) ≤ 2 ^ 9 := Nat.pow_le_pow_right (by omega) (by omega)
  exact h2
theorem C_choiceMany (h : INV s M) : F_X0_choiceMany 77 M = some (nI (2 ^ (3 * lH s.2.1 4)), M) := by
  have hb4 := h.lo.2.2.2.2.1
  obtain ⟨K77, R0, _, R2, K2, R6, K3, L3, _, _, K79, L79⟩ := bell_cells h.1
  have hS : m_I M 3 3 = nI (lH s.2.1 4) := h.lc.2.1.2.2.2
  unfold F_X0_choiceMany
  rw [x_gN_ok K77 R0, x_gN_ok K2 R6, aI_lit (x := (3 : Int32)) (n := 3) K3 (by rw [L3]; omega) rfl (by omega), hS, show (3 : Int32) * nI (lH s.2.1 4) = nI (3 * lH s.2.1 4) from nI_mul 3 _, shl1 (by omega)]
theorem C_areChoices (h : INV s M) {d : Nat} (hd : d < 2147483648) : F_X0_areChoices 77 (nI d) M = some (bI (okD s d), M) := by
  have hb4 := h.lo.2.2.2.2.1
  have hv6 := h.lo.2.2.2.1
  have h512 := pow3 h
  obtain ⟨K77, R0, _, R2, K2, R6, K3, L3, _, _, K79, L79⟩ := bell_cells h.1
  have hS : m_I M 3 3 = nI (lH s.2.1 4) := h.lc.2.1.2.2.2
  have hV : m_I M 3 2 = nI (lH s.2.1 3) := h.lc.2.1.2.2.1
  unfold F_X0_areChoices
  rw [if_neg (nI_pos hd), x_cV_ok K77 (C_choiceMany h)]
  by_cases q : d < 2 ^ (3 * lH s.2.1 4)
  · rw [if_pos (nI_lt q (by omega))]
    refine up_0 (fun f k (_ : Unit) => F_X0_areChoices_16 f 77 (nI d) (nI k) M = some (bI (okD s d), M)) (lH s.2.1 4) (fun k (_ : Unit) => ∀ i, i < k → chO d i ≤ lH s.2.1 3) (by omega) (s := ()) (fun i hi => absurd hi (by omega)) ?_ ?_
    · intro f k _ hk hs ih
      have hc8 : chO d k < 8 := Nat.mod_lt _ (by omega)
      rw [F_X0_areChoices_16, x_gN_ok K77 R0, x_gN_ok K2 R6, aI_lit (x := (3 : Int32)) (n := 3) K3 (by rw [L3]; omega) rfl (by omega), hS, if_neg (nI_ge hk (by omega)), x_bd_ok (S_choiceOf hd (by omega)), x_gN_ok K77 R0, x_gN_ok K2 R6, aI_lit (x := (2 : Int32)) (n := 2) K3 (by rw [L3]; omega) rfl (by omega), hV]
      by_cases qc : chO d k ≤ lH s.2.1 3
      · rw [if_pos (nI_le qc (by omega)), m_let_eq, nI_1]
        exact ih () (fun i hi => if e : i = k then by rw [e]; exact qc else hs i (by omega))
      · rw [if_neg (nI_ge (by omega) (by omega))]
        have : okD s d = false := by
          unfold okD
          cases hz : anN (lH s.2.1 4) (fun k => decide (chO d k ≤ lH s.2.1 3))
          · rw [Bool.and_false]
          · exact absurd (of_decide_eq_true (anN_all.mp hz k hk)) qc
        rw [this]; rfl
    · intro f _ hs
      rw [F_X0_areChoices_16, x_gN_ok K77 R0, x_gN_ok K2 R6, aI_lit (x := (3 : Int32)) (n := 3) K3 (by rw [L3]; omega) rfl (by omega), hS, if_pos (nI_le (Nat.le_refl _) (by omega))]
      have : okD s d = true := by
        unfold okD
        rw [decide_eq_true q, anN_all.mpr (fun i hi => decide_eq_true (hs i hi))]; rfl
      rw [this]; rfl
  · rw [if_neg (nI_nlt (by omega) hd)]
    have : okD s d = false := by unfold okD; rw [decide_eq_false q]; rfl
    rw [this]; rfl
end BELL
