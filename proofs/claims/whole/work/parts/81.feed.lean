/-! writing calls: feed -/
def byN (x : Int64) (j : Nat) : Nat := x.toUInt64.toNat / 2 ^ (56 - 8 * j) % 256
theorem byN_lt (x : Int64) (j : Nat) : byN x j < 256 := Nat.mod_lt _ (by omega)
theorem lb_tb (x : Int64) (i : Nat) : x.toUInt64.toNat.testBit i = lb x i := rfl
theorem lb_255 : ∀ i, i < 64 → lb (255 : Int64) i = decide (i < 8) := by decide +kernel
theorem lb_ge (x : Int64) {i : Nat} (h : 64 ≤ i) : lb x i = false := BitVec.getLsbD_of_ge _ _ h
theorem i64_32 {y : Int64} {n : Nat} (hn : n < 256) (h : y.toUInt64.toNat = n) : y.toInt32 = nI n := by
  apply Int32.toBitVec_inj.mp
  apply BitVec.eq_of_toNat_eq
  have e1 : y.toInt32.toBitVec.toNat = y.toUInt64.toNat % 2 ^ 32 := by
    show (BitVec.signExtend 32 y.toBitVec).toNat = _
    rw [BitVec.signExtend_eq_setWidth_of_le _ (by omega), BitVec.toNat_setWidth]
    rfl
  rw [e1, h, nI_bv, BitVec.toNat_ofNat]
theorem lb_sar (x : Int64) {s i : Nat} (hs : s < 64) (hi : s + i < 64) : lb (x >>> ((nI s).toInt64 &&& 63)) i = lb x (s + i) := by
  rw [shl_k s hs]
  show (x >>> lN s).toBitVec.getLsbD i = _
  rw [Int64.toBitVec_shiftRight]
  have e3 : (lN s).toBitVec.smod 64 = BitVec.ofNat 64 s := by
    clear hi
    revert s; decide +kernel
  rw [e3]
  show (BitVec.sshiftRight x.toBitVec (BitVec.ofNat 64 s).toNat).getLsbD i = _
  rw [BitVec.getLsbD_sshiftRight, BitVec.toNat_ofNat, Nat.mod_eq_of_lt (show s < 2 ^ 64 by omega)]
  simp [lb, hi, show i < 64 by omega]
theorem byC (x : Int64) {j : Nat} (hj : j < 8) : ((x >>> ((nI (56 - 8 * j)).toInt64 &&& 63)) &&& (255 : Int64)).toInt32 = nI (byN x j) := by
  refine i64_32 (byN_lt x j) ?_
  apply Nat.eq_of_testBit_eq
  intro i
  rw [lb_tb, lb_and]
  unfold byN
  rw [show (256 : Nat) = 2 ^ 8 from rfl, Nat.testBit_mod_two_pow, Nat.testBit_div_two_pow, lb_tb]
  by_cases h8 : i < 8
  · rw [lb_sar x (by omega) (by omega), lb_255 i (by omega), decide_eq_true h8, Nat.add_comm i]
    simp
  · rw [decide_eq_false h8]
    by_cases h64 : i < 64
    · rw [lb_255 i h64, decide_eq_false h8]; simp
    · rw [lb_ge _ (by omega), lb_ge _ (by omega)]; simp
theorem byM (x : Int64) {j : Nat} (hj : j < 8) : (((x.toUInt64 >>> ((nI (56 - 8 * j)).toInt64.toUInt64 &&& Int64.toUInt64 63)).toInt64) &&& (255 : Int64)).toInt32 = nI (byN x j) := by
  refine i64_32 (byN_lt x j) ?_
  have hk : ∀ j, j < 8 → ((nI (56 - 8 * j)).toInt64.toUInt64 &&& Int64.toUInt64 63).toNat = 56 - 8 * j := by decide +kernel
  rw [u64_and, u64_shr _ _ (56 - 8 * j) (by omega) (hk j hj), show (255 : Int64).toUInt64.toNat = 2 ^ 8 - 1 from by decide, Nat.and_two_pow_sub_one_eq_mod]
  rfl
def fit (n : Nat) : Bool := decide (n = 10) || (decide (32 ≤ n) && decide (n ≤ 126))
abbrev Tp : Type := Nat × (Nat → Nat)
def apT (t : Tp) (n : Nat) : Tp := if t.1 < 1000 ∧ fit n = true then (t.1 + 1, fun i => if i = t.1 then n else t.2 i) else t
/-- m bytes of a long from the j-th on -/
def fdT (x : Int64) : Nat → Nat → Tp → Tp
  | 0, _, t => t
  | m + 1, j, t => fdT x m (j + 1) (apT t (byN x j))
def tpOk (t : Tp) : Prop := t.1 ≤ 1000 ∧ ∀ i, i < t.1 → (t.2 i = 10 ∨ (32 ≤ t.2 i ∧ t.2 i ≤ 126))
theorem apT_ok {t : Tp} {n : Nat} (h : tpOk t) : tpOk (apT t n) := by
  unfold apT
  split
  · rename_i q
    refine ⟨by show t.1 + 1 ≤ 1000; omega, fun i hi => ?_⟩
    have hf := q.2
    unfold fit at hf
    rw [Bool.or_eq_true, Bool.and_eq_true] at hf
    have hf' : n = 10 ∨ (32 ≤ n ∧ n ≤ 126) := by
      rcases hf with hf | hf
      · exact .inl (of_decide_eq_true hf)
      · exact .inr ⟨of_decide_eq_true hf.1, of_decide_eq_true hf.2⟩
    show (if i = t.1 then n else t.2 i) = 10 ∨ (32 ≤ (if i = t.1 then n else t.2 i) ∧ (if i = t.1 then n else t.2 i) ≤ 126)
    by_cases e : i = t.1
    · rw [if_pos e]; exact hf'
    · rw [if_neg e]
      have hi' : i < t.1 + 1 := hi
      exact h.2 i (by omega)
  · exact h
theorem fdT_ok (x : Int64) : ∀ (m j : Nat) (t : Tp), tpOk t → tpOk (fdT x m j t) := by
  intro m
  induction m with
  | zero => intro j t h; exact h
  | succ m ih => intro j t h; exact ih (j + 1) _ (apT_ok h)
/-- the tape in the class's cells, and in the model's -/
def tpC (t : Tp) (M : m_M) : Prop := m_I M 0 1 = nI t.1 ∧ ∀ i, i < t.1 → m_I M 1 i = nI (t.2 i)
def tpM (t : Tp) (M : m_M) : Prop := m_I M 128 1 = nI t.1 ∧ ∀ i, i < t.1 → m_I M 129 i = nI (t.2 i)
def frT (M M' : m_M) : Prop := ∃ A, M' = m_wA M A ∧ (∀ a, a ≠ 0 → a ≠ 1 → A a = m_I M a) ∧ ∀ k, k ≠ 1 → A 0 k = m_I M 0 k
def frU (M M' : m_M) : Prop := ∃ A, M' = m_wA M A ∧ (∀ a, a ≠ 128 → a ≠ 129 → A a = m_I M a) ∧ ∀ k, k ≠ 0 → k ≠ 1 → A 128 k = m_I M 128 k
theorem chr_n : ∀ n, n < 256 → vp_nar .char (((nI n).toUInt32 % 65536).toInt32) = nI n := by decide +kernel
section FEED
variable {M : m_M} {s : St} {D : Nat}
theorem frT.rfl' : frT M M := ⟨m_I M, rfl, fun _ _ _ => rfl, fun _ _ => rfl⟩
theorem C_fb (h : G M) (x : Int64) : ∀ (m f : Nat) (A : IA) (t : Tp), m ≤ 8 → m < f → tpOk t → tpC t (m_wA M A) → (∀ a, a ≠ 0 → a ≠ 1 → A a = m_I M a) → (∀ k, k ≠ 1 → A 0 k = m_I M 0 k) →
    ∃ A', F_X11_feedBytes_3 f 0 x (if m = 0 then (-8 : Int32) else nI (8 * m - 8)) (m_wA M A) = some ((), m_wA M A') ∧ tpC (fdT x m (8 - m) t) (m_wA M A') ∧ (∀ a, a ≠ 0 → a ≠ 1 → A' a = m_I M a) ∧ ∀ k, k ≠ 1 → A' 0 k = m_I M 0 k := by
  intro m
  induction m with
  | zero =>
    intro f A t hm hf ht hc hA hA0
    obtain ⟨f, rfl⟩ : ∃ f', f = f' + 1 := ⟨f - 1, by omega⟩
    refine ⟨A, ?_, hc, hA, hA0⟩
    rw [if_pos rfl, F_X11_feedBytes_3, if_pos (by decide)]
  | succ m ih =>
    intro f A t hm hf ht hc hA hA0
    obtain ⟨f, rfl⟩ : ∃ f', f = f' + 1 := ⟨f - 1, by omega⟩
    have K0 : ∀ A, m_K (m_wA M A) 0 = 9 := fun A => by simp only [wA_K, gK h]
    have R0 : ∀ A, m_R (m_wA M A) 0 0 = some 1 := fun A => by simp only [wA_R, gR h]
    have K1 : ∀ A, m_K (m_wA M A) 1 = 11 := fun A => by simp only [wA_K, gK h]
    have L1 : ∀ A, m_len (m_wA M A) 1 = 1000 := fun A => by simp only [wA_n, gl h]
    have hsh : 8 * (m + 1) - 8 = 56 - 8 * (8 - (m + 1)) := by omega
    have hby := byN_lt x (8 - (m + 1))
    have hnext : nI (8 * (m + 1) - 8) + (-8 : Int32) = if m = 0 then (-8 : Int32) else nI (8 * m - 8) := by
      by_cases q : m = 0
      · rw [if_pos q, q]; decide
      · rw [if_neg q]
        have : ∀ m, m < 8 → ¬ m = 0 → nI (8 * (m + 1) - 8) + (-8 : Int32) = nI (8 * m - 8) := by decide +kernel
        exact this m (by omega) q
    rw [if_neg (by omega), F_X11_feedBytes_3, if_neg (nI_pos (by omega)), hsh, byC x (by omega)]
    have hstep : fdT x (m + 1) (8 - (m + 1)) t = fdT x m (8 - m) (apT t (byN x (8 - (m + 1)))) := by
      show fdT x m (8 - (m + 1) + 1) _ = _
      rw [show 8 - (m + 1) + 1 = 8 - m by omega]
    rw [hstep]
    refine m_let_P (fun o => ∃ A', o = some ((), m_wA M A') ∧ tpC (fdT x m (8 - m) (apT t (byN x (8 - (m + 1))))) (m_wA M A') ∧ (∀ a, a ≠ 0 → a ≠ 1 → A' a = m_I M a) ∧ ∀ k, k ≠ 1 → A' 0 k = m_I M 0 k) ?_
    intro k43 h43
    have go : ∀ (A2 : IA) (t2 : Tp), t2 = apT t (byN x (8 - (m + 1))) → tpC t2 (m_wA M A2) → (∀ a, a ≠ 0 → a ≠ 1 → A2 a = m_I M a) → (∀ k, k ≠ 1 → A2 0 k = m_I M 0 k) → ∃ A', F_X11_feedBytes_3 f 0 x (nI (56 - 8 * (8 - (m + 1))) + (-8 : Int32)) (m_wA M A2) = some ((), m_wA M A') ∧ tpC (fdT x m (8 - m) (apT t (byN x (8 - (m + 1))))) (m_wA M A') ∧ (∀ a, a ≠ 0 → a ≠ 1 → A' a = m_I M a) ∧ ∀ k, k ≠ 1 → A' 0 k = m_I M 0 k := by
      intro A2 t2 ht2 hc2 hA2 hA20
      rw [← hsh, hnext, ← ht2]
      exact ih f A2 t2 (by omega) (by omega) (by rw [ht2]; exact apT_ok ht) hc2 hA2 hA20
    have k1 : ∀ b : Bool, b = fit (byN x (8 - (m + 1))) → ∃ A', k43 0 x (nI (56 - 8 * (8 - (m + 1)))) (nI (byN x (8 - (m + 1)))) (bI b) (m_wA M A) = some ((), m_wA M A') ∧ tpC (fdT x m (8 - m) (apT t (byN x (8 - (m + 1))))) (m_wA M A') ∧ (∀ a, a ≠ 0 → a ≠ 1 → A' a = m_I M a) ∧ ∀ k, k ≠ 1 → A' 0 k = m_I M 0 k := by
      intro b hb
      rw [h43]
      dsimp only
      rw [m_let_eq]
      cases b
      · rw [if_pos (show bI false = (0 : Int32) from rfl)]
        dsimp only
        rw [m_let_eq]
        exact go A t (by unfold apT; rw [if_neg (fun z => by rw [← hb] at z; simp at z)]) hc hA hA0
      · rw [if_neg (show ¬ bI true = (0 : Int32) from by decide), x_gI_ok (K0 _), hc.1]
        have ht1 := ht.1
        by_cases q : t.1 < 1000
        · have hc1 : A 0 1 = nI t.1 := hc.1
          rw [if_neg (show ¬ (1000 : Int32) ≤ nI t.1 from nI_ge (b := 1000) q (by omega)), x_gN_ok (K0 _) (R0 _), x_gI_ok (K0 _), hc.1, chr_n _ hby, x_sI_ok (K1 _) (by rw [L1]; omega) (by omega), wA_s, x_gI_ok (K0 _), wA_I, up_at, if_neg (by omega), hc1, nI_1, x_pI_ok (K0 _), wA_s]
          dsimp only
          rw [m_let_eq]
          refine go _ (t.1 + 1, fun i => if i = t.1 then byN x (8 - (m + 1)) else t.2 i) (by unfold apT; rw [if_pos ⟨q, hb.symm⟩]) ⟨?_, fun i hi => ?_⟩ (fun a h0 h1 => by rw [up_fr h0, up_fr h1]; exact hA a h0 h1) (fun k hk => by rw [up_at, if_neg (fun z => hk z.2), up_at, if_neg (by omega)]; exact hA0 k hk)
          · rw [wA_I, up_at, if_pos ⟨rfl, rfl⟩]
          · have hi' : i < t.1 + 1 := hi
            rw [wA_I, up_at, if_neg (by omega), up_at]
            dsimp only
            by_cases e : i = t.1
            · rw [if_pos ⟨rfl, e⟩, if_pos e]
            · rw [if_neg (fun z => e z.2), if_neg e]
              exact hc.2 i (by omega)
        · rw [if_pos (show (1000 : Int32) ≤ nI t.1 from nI_le (a := 1000) (by omega) (by omega))]
          dsimp only
          rw [m_let_eq]
          exact go A t (by unfold apT; rw [if_neg (fun z => q z.1)]) hc hA hA0
    rw [m_let_eq, m_let_eq]
    by_cases q10 : byN x (8 - (m + 1)) = 10
    · rw [if_pos (show nI (byN x (8 - (m + 1))) = (10 : Int32) from by rw [q10]; rfl)]
      exact k1 true (by unfold fit; rw [decide_eq_true q10]; rfl)
    · rw [if_neg (show ¬ nI (byN x (8 - (m + 1))) = (10 : Int32) from fun z => q10 ((nI_eq (b := 10) (by omega) (by omega)).mp z)), m_let_eq]
      by_cases q32 : byN x (8 - (m + 1)) < 32
      · rw [if_pos (show nI (byN x (8 - (m + 1))) < (32 : Int32) from nI_lt (b := 32) q32 (by omega))]
        exact k1 false (by unfold fit; rw [decide_eq_false q10, decide_eq_false (p := 32 ≤ byN x (8 - (m + 1))) (by omega)]; rfl)
      · rw [if_neg (show ¬ nI (byN x (8 - (m + 1))) < (32 : Int32) from nI_nlt (b := 32) (by omega) (by omega))]
        by_cases q126 : 126 < byN x (8 - (m + 1))
        · rw [if_pos (show (126 : Int32) < nI (byN x (8 - (m + 1))) from nI_lt (a := 126) q126 (by omega))]
          exact k1 false (by unfold fit; rw [decide_eq_false q10, decide_eq_false (p := byN x (8 - (m + 1)) ≤ 126) (by omega), Bool.and_false]; rfl)
        · rw [if_neg (show ¬ (126 : Int32) < nI (byN x (8 - (m + 1))) from nI_nlt (a := 126) (by omega) (by omega))]
          exact k1 true (by unfold fit; rw [decide_eq_true (p := 32 ≤ byN x (8 - (m + 1))) (by omega), decide_eq_true (p := byN x (8 - (m + 1)) ≤ 126) (by omega)]; simp)
theorem C_feedBytes (h : G M) (x : Int64) {A : IA} {t : Tp} (ht : tpOk t) (hc : tpC t (m_wA M A)) (hA : ∀ a, a ≠ 0 → a ≠ 1 → A a = m_I M a) (hA0 : ∀ k, k ≠ 1 → A 0 k = m_I M 0 k) :
    ∃ A', F_X11_feedBytes 0 x (m_wA M A) = some ((), m_wA M A') ∧ tpC (fdT x 8 0 t) (m_wA M A') ∧ (∀ a, a ≠ 0 → a ≠ 1 → A' a = m_I M a) ∧ ∀ k, k ≠ 1 → A' 0 k = m_I M 0 k := by
  unfold F_X11_feedBytes
  exact C_fb h x 8 m_FU A t (by omega) (m_FU_lt (by omega)) ht hc hA hA0
def fd3 (a b c : Int64) (t : Tp) : Tp := fdT c 8 0 (fdT b 8 0 (fdT a 8 0 t))
theorem C_feed (h : G M) (a b c : Int64) {t : Tp} (ht : tpOk t) (hc : tpC t M) : ∃ A', F_X11_feed 0 a b c M = some (nI (fd3 a b c t).1, m_wA M A') ∧ tpC (fd3 a b c t) (m_wA M A') ∧ (∀ a, a ≠ 0 → a ≠ 1 → A' a = m_I M a) ∧ ∀ k, k ≠ 1 → A' 0 k = m_I M 0 k := by
  have K0 : ∀ A, m_K (m_wA M A) 0 = 9 := fun A => by simp only [wA_K, gK h]
  have K : m_K M 0 = 9 := by simp only [gK h]
  have ht1 := fdT_ok a 8 0 t ht
  have ht2 := fdT_ok b 8 0 _ ht1
  obtain ⟨A1, e1, c1, f1, g1⟩ := C_feedBytes h a (A := m_I M) ht (by rw [wA_0]; exact hc) (fun _ _ _ => rfl) (fun _ _ => rfl)
  rw [wA_0] at e1
  obtain ⟨A2, e2, c2, f2, g2⟩ := C_feedBytes h b (A := A1) ht1 c1 f1 g1
  obtain ⟨A3, e3, c3, f3, g3⟩ := C_feedBytes h c (A := A2) ht2 c2 f2 g2
  refine ⟨A3, ?_, c3, f3, g3⟩
  unfold F_X11_feed
  rw [x_cV_ok K e1, x_cV_ok (K0 _) e2, x_cV_ok (K0 _) e3, x_gI_ok (K0 _), c3.1]
  rfl
end FEED
