/-! at rest -/
section RESTS
variable {M : m_M} {s : St}
def beO (s : St) (r : Nat → Nat) : Option Nat := match (bF (vtO (lH s.2.1 4) r) 6).1 with
  | some b => some b
  | none => vOf s.2.1 (s.2.2.1.1 + 1)
theorem beO_I (s : St) (r : Nat → Nat) : beI (lH s.2.1 4) r (tmV s) = iO (beO s r) := by
  unfold beI beO tmV
  cases (bF (vtO (lH s.2.1 4) r) 6).1 <;> rfl
theorem beO_lt (h : INV s M) {r : Nat → Nat} {b : Nat} (hb : beO s r = some b) : b < 6 := by
  unfold beO at hb
  cases hq : (bF (vtO (lH s.2.1 4) r) 6).1 with
  | none =>
    rw [hq] at hb
    have := vOf_in h.lo _ b hb
    have := h.lo.2.2.2.1
    omega
  | some x =>
    rw [hq] at hb
    have := (bF_some hq).1
    have := Option.some.inj hb
    omega
theorem vtO_cong {n : Nat} {r r' : Nat → Nat} (h : ∀ k, k < n → r k = r' k) : vtO n r = vtO n r' := by
  funext v
  exact cnt_cong (fun k hk => by rw [h k hk])
theorem beO_cong {r r' : Nat → Nat} (h : ∀ k, k < lH s.2.1 4 → r k = r' k) : beO s r = beO s r' := by
  unfold beO
  rw [vtO_cong h]
def wrt (s : St) (k : Nat) : Option Nat → Nat
  | none => 0
  | some v => lV s.2.1 (6 * k + v)
def pay (s : St) (c : Nat) : Nat := if c = 0 then 0 else lH s.2.1 6
def gaI (s : St) (r : Nat → Nat) (k : Nat) : Int32 := nI (wrt s k (beO s r)) - nI (pay s (r k))
def up1 (r : Nat → Nat) (k c : Nat) : Nat → Nat := fun j => if j = k then c else r j
theorem gaI_cong {r r' : Nat → Nat} {k : Nat} (h : ∀ j, j < lH s.2.1 4 → r j = r' j) (hk : k < lH s.2.1 4) : gaI s r k = gaI s r' k := by
  unfold gaI
  rw [beO_cong h, h k hk]
/-- nobody would have more by another choice -/
def rsK (s : St) (r : Nat → Nat) (k : Nat) : Bool := anN (lH s.2.1 3 + 1) (fun c => !decide (gaI s r k < gaI s (up1 r k c) k))
def rsS (s : St) (d : Nat) : Bool := okD s d && anN (lH s.2.1 4) (rsK s (chO d))
/-- digits with one choice changed -/
def dgO (d k c : Nat) : Nat := d - chO d k * 2 ^ (3 * k) + c * 2 ^ (3 * k)
theorem dg_o : ∀ d, d < 512 → ∀ k, k < 3 → nI d &&& (((7 : Int32) <<< (((3 : Int32) * nI k) &&& 31)) ^^^ (-1 : Int32)) = nI (d - chO d k * 2 ^ (3 * k)) := by decide +kernel
theorem dg_or {d k c : Nat} (hk : k < 3) (hc : c < 8) : (d - chO d k * 2 ^ (3 * k)) ||| (c * 2 ^ (3 * k)) = dgO d k c := by
  have e : d - chO d k * 2 ^ (3 * k) = 2 ^ (3 * k + 3) * (d / 2 ^ (3 * k + 3)) + d % 2 ^ (3 * k) := by
    unfold chO
    obtain rfl | rfl | rfl : k = 0 ∨ k = 1 ∨ k = 2 := by omega
    all_goals simp only [Nat.mul_zero, Nat.zero_add, Nat.mul_one, Nat.reduceMul, Nat.reduceAdd, Nat.reducePow]; omega
  have hlo : d % 2 ^ (3 * k) < 2 ^ (3 * k) := Nat.mod_lt _ (Nat.pow_pos (by omega))
  have hlo3 : d % 2 ^ (3 * k) < 2 ^ (3 * k + 3) := Nat.lt_of_lt_of_le hlo (Nat.pow_le_pow_right (by omega) (by omega))
  have hmid : 2 ^ (3 * k) * c + d % 2 ^ (3 * k) < 2 ^ (3 * k + 3) := by
    rw [Nat.pow_add]
    have : 2 ^ (3 * k) * c ≤ 2 ^ (3 * k) * 7 := Nat.mul_le_mul_left _ (by omega)
    omega
  unfold dgO
  rw [e, Nat.two_pow_add_eq_or_of_lt hlo3, Nat.or_assoc, Nat.mul_comm c, Nat.or_comm (d % 2 ^ (3 * k)), ← Nat.two_pow_add_eq_or_of_lt hlo c, ← Nat.two_pow_add_eq_or_of_lt hmid]
  rw [Nat.two_pow_add_eq_or_of_lt hlo3 (d / 2 ^ (3 * k + 3))] at e
  rw [← Nat.two_pow_add_eq_or_of_lt hlo3]
  omega
theorem dg_ch {d k c : Nat} (hd : d < 512) (hk : k < 3) (hc : c < 8) : dgO d k c < 512 ∧ ∀ j, j < 3 → chO (dgO d k c) j = up1 (chO d) k c j := by
  have e0 : ∀ x, chO x 0 = x % 8 := fun x => by unfold chO; omega
  have e1 : ∀ x, chO x 1 = x / 8 % 8 := fun x => rfl
  have e2 : ∀ x, chO x 2 = x / 64 % 8 := fun x => rfl
  have hk3 : k = 0 ∨ k = 1 ∨ k = 2 := by omega
  unfold dgO up1
  refine ⟨?_, fun j hj => ?_⟩
  · rcases hk3 with rfl | rfl | rfl
    · rw [e0]; simp only [Nat.mul_zero, Nat.pow_zero, Nat.mul_one]; omega
    · rw [e1]; simp only [Nat.mul_one, Nat.reducePow]; omega
    · rw [e2]; simp only [Nat.reduceMul, Nat.reducePow]; omega
  · have hj3 : j = 0 ∨ j = 1 ∨ j = 2 := by omega
    rcases hk3 with rfl | rfl | rfl <;> rcases hj3 with rfl | rfl | rfl <;> simp only [e0, e1, e2, Nat.mul_zero, Nat.pow_zero, Nat.mul_one, Nat.reduceMul, Nat.reducePow, if_true, Nat.reduceEqDiff, if_false] <;> omega
theorem S_worthOf (h : INV s M) {k : Nat} {vo : Option Nat} (hk : k < lH s.2.1 4) (hv : ∀ v, vo = some v → v < 6) : F_X3_worthOf 2 (nI k) (iO vo) M = some (nI (wrt s k vo), M) := by
  have hb4 := h.lo.2.2.2.2.1
  have R9 : m_R M 2 9 = some 6 := by simp only [gR h.1]
  have K6 : m_K M 6 = 12 := by simp only [gK h.1]
  have L6 : m_len M 6 = 18 := by simp only [gl h.1]
  unfold F_X3_worthOf
  rw [m_let_eq, m_let_eq, if_neg (nI_pos (by omega)), if_neg (show ¬ (3 : Int32) ≤ nI k from nI_ge (b := 3) (by omega) (by omega))]
  cases vo with
  | none => rw [if_pos (show iO none < 0 from by decide)]; rfl
  | some v =>
    have hv6 := hv v rfl
    rw [show iO (some v) = nI v from rfl, if_neg (nI_pos (by omega)), if_neg (show ¬ (6 : Int32) ≤ nI v from nI_ge (b := 6) hv6 (by omega))]
    dsimp only
    rw [if_neg (by decide), x_gN_ok h.C2 R9, show (6 : Int32) = nI 6 from rfl, nI_mul, nI_add, x_aI_ok K6 (by rw [L6]; omega) (by omega), show k * 6 + v = 6 * k + v by omega, h.lc.2.2.2.2.1 (6 * k + v) (by omega)]
    rfl
/-- the outcomes of all digits are laid out -/
def outs (s : St) (M : m_M) : Prop := ∀ d, d < 2 ^ (3 * lH s.2.1 4) → m_I M 78 d = iO (beO s (chO d))
theorem C_gainOf (h : INV s M) (ho : outs s M) {k d : Nat} (hk : k < lH s.2.1 4) (hd : d < 2 ^ (3 * lH s.2.1 4)) : F_X0_gainOf 77 (nI k) (nI d) M = some (gaI s (chO d) k, M) := by
  have hb4 := h.lo.2.2.2.2.1
  have h512 := pow3 h
  obtain ⟨K77, R0, R1, R2, K2, R6, K3, L3, K78, L78, K79, L79⟩ := bell_cells h.1
  have hc8 : chO d k < 8 := Nat.mod_lt _ (by omega)
  have I1 : m_I M 2 1 = nI (lH s.2.1 6) := h.lc.1.2.1
  unfold F_X0_gainOf
  refine m_let_e ?_
  intro k21 h21
  rw [m_let_eq, if_neg (nI_pos (by omega)), if_neg (show ¬ (512 : Int32) ≤ nI d from nI_ge (b := 512) (by omega) (by omega)), x_gN_ok K77 R1, x_aI_ok K78 (by rw [L78]; omega) (by omega), ho d hd, h21]
  dsimp only
  refine m_let_e ?_
  intro k41 h41
  have h41' : ∀ y : Nat, y = pay s (chO d k) → k41 77 (nI k) (iO (beO s (chO d))) (nI y) M = some (gaI s (chO d) k, M) := by
    intro y hy
    rw [h41]
    dsimp only
    rw [x_gN_ok K77 R0, x_cV_ok K2 (S_worthOf h hk (fun v hv => beO_lt h hv)), hy]
    rfl
  rw [x_bd_ok (S_choiceOf (by omega) (by omega))]
  by_cases q : chO d k = 0
  · rw [q, if_pos (by decide)]
    exact h41' 0 (by unfold pay; rw [if_pos q])
  · rw [if_neg (nI_nle (by omega) (by omega)), x_gN_ok K77 R0, x_gI_ok K2, I1]
    exact h41' _ (by unfold pay; rw [if_neg q])
theorem outs_wI {g : Nat → Int32} (ho : outs s M) : outs s (m_wI M 79 g) := fun d hd => by rw [mI_wI, if_neg (by omega)]; exact ho d hd
theorem C_isAtRest (h : INV s M) (ho : outs s M) {d : Nat} (hd : okD s d = true) : F_X0_isAtRest 77 (nI d) M = some (bI (anN (lH s.2.1 4) (rsK s (chO d))), M) := by
  have hb4 := h.lo.2.2.2.2.1
  have hv6 := h.lo.2.2.2.1
  have h512 := pow3 h
  obtain ⟨K77, R0, R1, R2, K2, R6, K3, L3, K78, L78, K79, L79⟩ := bell_cells h.1
  have hS : m_I M 3 3 = nI (lH s.2.1 4) := h.lc.2.1.2.2.2
  have hV : m_I M 3 2 = nI (lH s.2.1 3) := h.lc.2.1.2.2.1
  have hd0 : d < 2 ^ (3 * lH s.2.1 4) := by
    unfold okD at hd
    rw [Bool.and_eq_true] at hd
    exact of_decide_eq_true hd.1
  unfold F_X0_isAtRest
  refine up_0 (fun f k (_ : Unit) => F_X0_isAtRest_2 f 77 (nI d) (nI k) M = some (bI (anN (lH s.2.1 4) (rsK s (chO d))), M)) (lH s.2.1 4) (fun k (_ : Unit) => ∀ i, i < k → rsK s (chO d) i = true) (by omega) (s := ()) (fun i hi => absurd hi (by omega)) ?_ ?_
  · intro f k _ hk hs ih
    rw [F_X0_isAtRest_2, x_gN_ok K77 R0, x_gN_ok K2 R6, aI_lit (x := (3 : Int32)) (n := 3) K3 (by rw [L3]; omega) rfl (by omega), hS, if_neg (nI_ge hk (by omega)), x_cV_ok K77 (C_gainOf h ho hk hd0), m_let_eq, dg_o d (by omega) k (by omega)]
    refine m_let_e ?_
    intro K hK
    refine up_0 (fun f' c (_ : Unit) => F_X0_isAtRest_37 K f' 77 (nI d) (nI k) (gaI s (chO d) k) (nI (d - chO d k * 2 ^ (3 * k))) (nI c) M = some (bI (anN (lH s.2.1 4) (rsK s (chO d))), M)) (lH s.2.1 3 + 1) (fun c (_ : Unit) => ∀ i, i < c → ¬ gaI s (chO d) k < gaI s (up1 (chO d) k i) k) (by omega) (s := ()) (fun i hi => absurd hi (by omega)) ?_ ?_
    · intro f' c _ hc hs' ih'
      obtain ⟨q1, q2⟩ := dg_ch (d := d) (k := k) (c := c) (by omega) (by omega) (by omega)
      have hlt : dgO d k c < 2 ^ (3 * lH s.2.1 4) := by
        have e0 : ∀ x, chO x 0 = x % 8 := fun x => by unfold chO; omega
        have e1 : ∀ x, chO x 1 = x / 8 % 8 := fun x => rfl
        have e2 : ∀ x, chO x 2 = x / 64 % 8 := fun x => rfl
        have hk3 : k = 0 ∨ k = 1 ∨ k = 2 := by omega
        have hS3 : lH s.2.1 4 = 1 ∨ lH s.2.1 4 = 2 ∨ lH s.2.1 4 = 3 := by omega
        unfold dgO
        rcases hS3 with hq | hq | hq <;> rw [hq] at hd0 hk ⊢ <;> rcases hk3 with rfl | rfl | rfl <;> simp only [e0, e1, e2, Nat.mul_zero, Nat.pow_zero, Nat.mul_one, Nat.reduceMul, Nat.reducePow] at hd0 ⊢ <;> omega
      rw [F_X0_isAtRest_37, x_gN_ok K77 R0, x_gN_ok K2 R6, aI_lit (x := (2 : Int32)) (n := 2) K3 (by rw [L3]; omega) rfl (by omega), hV, if_neg (nI_nlt (by omega) (by omega)), show (3 : Int32) * nI k = nI (3 * k) from nI_mul 3 k, nI_shl (by omega), nI_or, dg_or (by omega) (by omega), x_cV_ok K77 (C_gainOf h ho hk hlt), gaI_cong (r := chO (dgO d k c)) (r' := up1 (chO d) k c) (fun j hj => q2 j (by omega)) hk]
      by_cases q : gaI s (up1 (chO d) k c) k ≤ gaI s (chO d) k
      · rw [if_pos q, m_let_eq, nI_1]
        exact ih' () (fun i hi => if e : i = c then by rw [e]; exact Int32.not_lt.mpr q else hs' i (by omega))
      · rw [if_neg q]
        have : anN (lH s.2.1 4) (rsK s (chO d)) = false := by
          cases hz : anN (lH s.2.1 4) (rsK s (chO d))
          · rfl
          · exfalso
            have h2 := anN_all.mp (anN_all.mp hz k hk) c hc
            rw [decide_eq_true (Int32.not_le.mp q)] at h2
            simp at h2
        rw [this]; rfl
    · intro f' _ hs'
      rw [F_X0_isAtRest_37, x_gN_ok K77 R0, x_gN_ok K2 R6, aI_lit (x := (2 : Int32)) (n := 2) K3 (by rw [L3]; omega) rfl (by omega), hV, if_pos (nI_lt (by omega) (by omega)), hK]
      dsimp only
      rw [m_let_eq, nI_1]
      refine ih () (fun i hi => ?_)
      by_cases e : i = k
      · rw [e]
        exact anN_all.mpr (fun c hc => by rw [decide_eq_false (hs' c hc)]; rfl)
      · exact hs i (by omega)
  · intro f _ hs
    rw [F_X0_isAtRest_2, x_gN_ok K77 R0, x_gN_ok K2 R6, aI_lit (x := (3 : Int32)) (n := 3) K3 (by rw [L3]; omega) rfl (by omega), hS, if_pos (nI_le (Nat.le_refl _) (by omega)), anN_all.mpr hs]
    rfl
/-- the rest of number k, from the digits d on, m of them at most -/
def nthR (s : St) (k : Nat) : Nat → Nat → Option Nat
  | 0, _ => none
  | m + 1, d => if rsS s d = true ∧ cnt (rsS s) d = k then some d else nthR s k m (d + 1)
end RESTS
