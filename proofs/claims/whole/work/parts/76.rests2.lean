/-! rests -/
section RESTS2
variable {M : m_M} {s : St}
theorem SC_sI {a k : Nat} {v : Int32} (ha : scI a) : SC M (m_sI M a k v) := by
  rw [m_sI_w]
  exact SC_wI ha
theorem rsS_far (h : INV s M) {d : Nat} (hd : 2 ^ (3 * lH s.2.1 4) ≤ d) : rsS s d = false := by
  unfold rsS okD
  rw [decide_eq_false (by omega)]; rfl
theorem cnt_far (h : INV s M) : cnt (rsS s) 512 = cnt (rsS s) (2 ^ (3 * lH s.2.1 4)) := by
  have h512 := pow3 h
  obtain ⟨k, hk⟩ : ∃ k, 512 = 2 ^ (3 * lH s.2.1 4) + k := ⟨512 - 2 ^ (3 * lH s.2.1 4), by omega⟩
  rw [hk, cnt_add, cnt_none k (fun w _ => rsS_far h (by omega))]
  rfl
theorem nthR_far (h : INV s M) {k : Nat} : ∀ (m d : Nat), 2 ^ (3 * lH s.2.1 4) ≤ d → nthR s k m d = none := by
  intro m
  induction m with
  | zero => intro d _; rfl
  | succ m ih =>
    intro d hd
    rw [nthR, if_neg (fun z => by rw [rsS_far h hd] at z; simp at z), ih (d + 1) (by omega)]
/-- what rests says for a number of digits, or none -/
def rsV (s : St) : Option Nat → Int32
  | none => nI (cnt (rsS s) 512)
  | some k => iO (nthR s k 512 0)
theorem C_outs (h : INV s M) {y : Int32} {K : Nat → Int32 → Int32 → m_M → Option (Int32 × m_M)} : ∃ M', F_X0_findRest_14 K m_FU 77 y (tmV s) (nI (2 ^ (3 * lH s.2.1 4))) (0 : Int32) M = K 77 y (nI (2 ^ (3 * lH s.2.1 4))) M' ∧ SC M M' ∧ outs s M' := by
  have h512 := pow3 h
  refine up_0 (S := m_M) (fun f k x => ∃ M', F_X0_findRest_14 K f 77 y (tmV s) (nI (2 ^ (3 * lH s.2.1 4))) (nI k) x = K 77 y (nI (2 ^ (3 * lH s.2.1 4))) M' ∧ SC M M' ∧ outs s M') (2 ^ (3 * lH s.2.1 4)) (fun k x => SC M x ∧ ∀ d, d < k → m_I x 78 d = iO (beO s (chO d))) (by omega) ⟨SC.rfl' M, fun d hd => absurd hd (Nat.not_lt_zero _)⟩ ?_ ?_
  · rintro f k x hk ⟨sc, hx⟩ ih
    have hi := sc.INV h
    obtain ⟨K77, R0, R1, R2, K2, R6, K3, L3, K78, L78, K79, L79⟩ := bell_cells hi.1
    obtain ⟨g, e⟩ := C_verbRung hi (d := k) (by omega) (x := tmV s)
    rw [beO_I] at e
    obtain ⟨_, _, _, _, _, _, _, _, K78', L78', _, _⟩ := bell_cells (M := m_wI x 79 g) hi.1
    rw [F_X0_findRest_14, if_neg (nI_ge hk (by omega)), x_gN_ok K77 R1, x_cV_ok K77 e, x_sI_ok K78' (by rw [L78']; omega) (by omega), m_let_eq, nI_1]
    refine ih _ ⟨(sc.trans (SC_wI (by unfold scI; omega))).trans (SC_sI (by unfold scI; omega)), fun d hd => ?_⟩
    rw [mI_sI]
    by_cases q : d = k
    · rw [if_pos ⟨rfl, q⟩, q]
    · rw [if_neg (fun z => q z.2), mI_wI, if_neg (by omega)]
      exact hx d (by omega)
  · rintro f x ⟨sc, hx⟩
    refine ⟨x, ?_, sc, hx⟩
    rw [F_X0_findRest_14, if_pos (nI_le (Nat.le_refl _) (by omega))]
theorem C_fr_none (h : INV s M) (ho : outs s M) {K : Int32 → Int32 → m_M → Option (Int32 × m_M)} : F_X0_findRest_46 K m_FU 77 NO (nI (2 ^ (3 * lH s.2.1 4))) (0 : Int32) (0 : Int32) M = K NO (nI (cnt (rsS s) 512)) M := by
  have h512 := pow3 h
  obtain ⟨K77, _⟩ := bell_cells h.1
  rw [cnt_far h]
  refine up_0 (S := Int32) (fun f k c => F_X0_findRest_46 K f 77 NO (nI (2 ^ (3 * lH s.2.1 4))) c (nI k) M = K NO (nI (cnt (rsS s) (2 ^ (3 * lH s.2.1 4)))) M) (2 ^ (3 * lH s.2.1 4)) (fun k c => c = nI (cnt (rsS s) k)) (by omega) rfl ?_ ?_
  · intro f k c hk hc ih
    have hcl := cnt_le (rsS s) k
    have hct : cnt (rsS s) (k + 1) = cnt (rsS s) k + (if rsS s k then 1 else 0) := rfl
    rw [F_X0_findRest_46, if_neg (nI_ge hk (by omega)), m_let_eq, x_cV_ok K77 (C_areChoices h (by omega))]
    cases hok : okD s k
    · have hr : rsS s k = false := by unfold rsS; rw [hok]; rfl
      rw [if_pos (show bI false = (0 : Int32) from rfl)]
      dsimp only
      rw [m_let_eq, nI_1]
      exact ih c (by rw [hct, hr]; exact hc)
    · rw [if_neg (show ¬ bI true = (0 : Int32) from by decide), x_cV_ok K77 (C_isAtRest h ho hok)]
      have hr : rsS s k = anN (lH s.2.1 4) (rsK s (chO k)) := by unfold rsS; rw [hok]; rfl
      cases hz : anN (lH s.2.1 4) (rsK s (chO k))
      · rw [hz] at hr
        rw [if_pos (show bI false = (0 : Int32) from rfl)]
        dsimp only
        rw [m_let_eq, nI_1]
        exact ih c (by rw [hct, hr]; exact hc)
      · rw [hz] at hr
        rw [if_neg (show ¬ bI true = (0 : Int32) from by decide), if_neg (show ¬ c = NO from by rw [hc]; intro z; have := nat_no (n := cnt (rsS s) k) (by omega); rw [eq_true z] at this; simp at this), m_let_eq]
        dsimp only
        rw [m_let_eq, nI_1]
        exact ih _ (by rw [hct, hr, hc, nI_1]; rfl)
  · intro f c hc
    rw [F_X0_findRest_46, if_pos (nI_le (Nat.le_refl _) (by omega)), hc]
theorem C_fr_some (h : INV s M) (ho : outs s M) {y : Nat} (hy : y < 2147483648) {K : Int32 → Int32 → m_M → Option (Int32 × m_M)} (hK : ∀ c, K (nI y) c M = some (NO, M)) : F_X0_findRest_46 K m_FU 77 (nI y) (nI (2 ^ (3 * lH s.2.1 4))) (0 : Int32) (0 : Int32) M = some (iO (nthR s y 512 0), M) := by
  have h512 := pow3 h
  obtain ⟨K77, _⟩ := bell_cells h.1
  refine up_0 (S := Int32) (fun f k c => F_X0_findRest_46 K f 77 (nI y) (nI (2 ^ (3 * lH s.2.1 4))) c (nI k) M = some (iO (nthR s y (512 - k) k), M)) (2 ^ (3 * lH s.2.1 4)) (fun k c => c = nI (cnt (rsS s) k)) (by omega) rfl ?_ ?_
  · intro f k c hk hc ih
    have hcl := cnt_le (rsS s) k
    have hct : cnt (rsS s) (k + 1) = cnt (rsS s) k + (if rsS s k then 1 else 0) := rfl
    have hn : nthR s y (512 - k) k = if rsS s k = true ∧ cnt (rsS s) k = y then some k else nthR s y (512 - (k + 1)) (k + 1) := by
      rw [show 512 - k = (512 - (k + 1)) + 1 by omega]; rfl
    rw [F_X0_findRest_46, if_neg (nI_ge hk (by omega)), m_let_eq, x_cV_ok K77 (C_areChoices h (by omega))]
    cases hok : okD s k
    · have hr : rsS s k = false := by unfold rsS; rw [hok]; rfl
      rw [if_pos (show bI false = (0 : Int32) from rfl), hn, if_neg (fun z => by rw [hr] at z; simp at z)]
      dsimp only
      rw [m_let_eq, nI_1]
      exact ih c (by rw [hct, hr]; exact hc)
    · rw [if_neg (show ¬ bI true = (0 : Int32) from by decide), x_cV_ok K77 (C_isAtRest h ho hok)]
      have hr : rsS s k = anN (lH s.2.1 4) (rsK s (chO k)) := by unfold rsS; rw [hok]; rfl
      cases hz : anN (lH s.2.1 4) (rsK s (chO k))
      · rw [hz] at hr
        rw [if_pos (show bI false = (0 : Int32) from rfl), hn, if_neg (fun z => by rw [hr] at z; simp at z)]
        dsimp only
        rw [m_let_eq, nI_1]
        exact ih c (by rw [hct, hr]; exact hc)
      · rw [hz] at hr
        rw [if_neg (show ¬ bI true = (0 : Int32) from by decide), hn]
        by_cases q : cnt (rsS s) k = y
        · rw [if_pos (show c = nI y from by rw [hc, q]), if_pos ⟨hr, q⟩]; rfl
        · rw [if_neg (show ¬ c = nI y from by rw [hc]; intro z; exact q ((nI_eq (by omega) hy).mp z)), if_neg (fun z => q z.2), m_let_eq]
          dsimp only
          rw [m_let_eq, nI_1]
          exact ih _ (by rw [hct, hr, hc, nI_1]; rfl)
  · intro f c hc
    rw [F_X0_findRest_46, if_pos (nI_le (Nat.le_refl _) (by omega)), hK, nthR_far h _ _ (Nat.le_refl _)]
    rfl
/-- the class's findRest -/
theorem C_findRest (h : INV s M) (y : Option Nat) (hy : ∀ k, y = some k → k < 2147483648) : ∃ M', F_X0_findRest 77 (iO y) (tmV s) M = some (rsV s y, M') ∧ SC M M' := by
  have h512 := pow3 h
  obtain ⟨K77, _⟩ := bell_cells h.1
  unfold F_X0_findRest
  rw [x_cV_ok K77 (C_choiceMany h), x_bd_ok (show F_J9_min_7cf53 (nI (2 ^ (3 * lH s.2.1 4))) (512 : Int32) M = some (nI (2 ^ (3 * lH s.2.1 4)), M) from by
    have := S_min (M := M) (a := 2 ^ (3 * lH s.2.1 4)) (b := 512) (by omega) (by omega)
    rw [Nat.min_eq_left h512] at this
    exact this)]
  refine m_let_P (fun o => ∃ M', o = some (rsV s y, M') ∧ SC M M') ?_
  intro K hK
  obtain ⟨M', e, sc, ho⟩ := C_outs h (y := iO y) (K := K)
  have h2 := sc.INV h
  refine ⟨M', ?_, sc⟩
  rw [e, hK]
  dsimp only
  refine m_let_e ?_
  intro k88 h88
  cases y with
  | none =>
    have e2 := C_fr_none h2 ho (K := k88)
    rw [show iO none = NO from rfl, e2, h88]
    dsimp only
    rw [if_pos (show NO = (-1 : Int32) from rfl)]
    rfl
  | some k =>
    have hk := hy k rfl
    have hkn : ¬ nI k = (-1 : Int32) := fun z => by have := nat_no (n := k) hk; rw [eq_true (show nI k = NO from z)] at this; simp at this
    rw [show iO (some k) = nI k from rfl, C_fr_some h2 ho hk (fun c => by rw [h88]; dsimp only; rw [if_neg hkn]; rfl)]
    rfl
end RESTS2
