/-! the model goes a token on -/
def tkM (k : Nat) : Nat := if k = 0 then 0 else if k = 1 then 4 else if k = 2 then 1 else if k = 3 then 2 else 3
def TM (n : Nat) (t : Tok) (M : m_M) : Prop := (m_I M 128 3 = nI n ∧ m_I M 128 4 = nI t.2.1 ∧ m_I M 128 5 = nI t.1 ∧ m_I M 128 6 = nI (tkM t.2.2.1)) ∧ (t.2.2.1 = 2 → m_L M 128 7 = t.2.2.2.1) ∧ (t.2.2.1 = 3 → m_I M 128 8 = nI t.2.2.2.2)
def tmF (M M' : m_M) : Prop := M'.1 = M.1 ∧ m_R M' = m_R M ∧ (∀ a, a ≠ 128 → m_I M' a = m_I M a ∧ m_L M' a = m_L M a) ∧ (∀ k, (k < 3 ∨ 9 < k) → m_I M' 128 k = m_I M 128 k) ∧ ∀ k, k ≠ 7 → m_L M' 128 k = m_L M 128 k
section MTOK
variable {M M' : m_M} {T : Nat → Nat} {n : Nat}
theorem tmF.rfl' : tmF M M := ⟨rfl, rfl, fun _ _ => ⟨rfl, rfl⟩, fun _ _ => rfl, fun _ _ => rfl⟩
theorem tmF.trans {M1 M2 M3 : m_M} (h1 : tmF M1 M2) (h2 : tmF M2 M3) : tmF M1 M3 := by
  obtain ⟨a1, a2, a3, a4, a5⟩ := h1
  obtain ⟨b1, b2, b3, b4, b5⟩ := h2
  exact ⟨b1.trans a1, b2.trans a2, fun a ha => ⟨(b3 a ha).1.trans (a3 a ha).1, (b3 a ha).2.trans (a3 a ha).2⟩, fun k hk => (b4 k hk).trans (a4 k hk), fun k hk => (b5 k hk).trans (a5 k hk)⟩
theorem tmF.g (h : tmF M M') (hG : G M) : G M' := by
  obtain ⟨a1, a2, _⟩ := h
  unfold G m_N m_T
  rw [a1, a2]
  exact hG
theorem S_signAt (h : G M) (hn : n ≤ 1000) {k : Nat} (hk : k ≤ 1000) (h3 : m_I M 128 3 = nI n) (hx : TX T n (m_I M 129)) : F_X12_signAt 128 (nI k) M = some (if k < n then nI (T k) else nI 0, M) := by
  unfold F_X12_signAt
  rw [x_gI_ok (by simp only [gK h]), h3]
  by_cases c : k < n
  · rw [if_neg (nI_ge c (by omega)), x_gN_ok (r := 129) (by simp only [gK h]) (by simp only [gR h]), x_aI_ok (by simp only [gK h]) (by simp only [gl h]; omega) (by omega), if_pos c, (hx.lt c).1]
  · rw [if_pos (nI_le (by omega) (by omega)), if_neg c]; rfl
theorem S_mskip0 (h : G M) (hn : n ≤ 1000) {B : Nat → Nat → Int64} {k52 : Nat → m_M → Option (Unit × m_M)} : ∀ (d q f : Nat) (A : IA), q + d = n → d < f → A 128 3 = nI n → A 128 4 = nI q → TX T n (A 129) →
    F_X12_nextToken_0 k52 f 128 (m_w2 M A B) = k52 128 (m_w2 M (m_up A 128 4 (nI (rnW isBl T d q))) B) := by
  have K0 : ∀ A B, m_K (m_w2 M A B) 128 = 10 := fun A B => by simp only [w2_K, gK h]
  have R2 : ∀ A B, m_R (m_w2 M A B) 128 2 = some 129 := fun A B => by simp only [w2_R, gR h]
  have K129 : ∀ A B, m_K (m_w2 M A B) 129 = 12 := fun A B => by simp only [w2_K, gK h]
  have L129 : ∀ A B, m_len (m_w2 M A B) 129 = 1000 := fun A B => by simp only [w2_n, gl h]
  intro d
  induction d with
  | zero =>
    intro q f A hq hf h3 h4 hx
    obtain ⟨f, rfl⟩ : ∃ f', f = f' + 1 := ⟨f - 1, by omega⟩
    rw [F_X12_nextToken_0, x_gI_ok (K0 _ _), x_gI_ok (K0 _ _), w2_I, h3, h4, if_pos (nI_le (by omega) (by omega)), rnW_0, up_self h4]
  | succ d ih =>
    intro q f A hq hf h3 h4 hx
    obtain ⟨f, rfl⟩ : ∃ f', f = f' + 1 := ⟨f - 1, by omega⟩
    obtain ⟨t1, t2⟩ := hx.lt (j := q) (by omega)
    have e := ih (q + 1) f (m_up A 128 4 (nI (q + 1))) (by omega) (by omega) (by rw [up_at, if_neg (by omega)]; exact h3) (by rw [up_at, if_pos ⟨rfl, rfl⟩]) (by rw [up_fr (by omega)]; exact hx)
    rw [F_X12_nextToken_0, x_gI_ok (K0 _ _), x_gI_ok (K0 _ _), w2_I, h3, h4, if_neg (nI_ge (by omega) (by omega)), m_let_eq, x_gN_ok (K0 _ _) (R2 _ _), x_gI_ok (K0 _ _), w2_I, h4, x_aI_ok (K129 _ _) (by rw [L129]; omega) (by omega), w2_I, t1]
    by_cases c1 : T q = 32
    · rw [if_pos (by rw [c1]; rfl)]
      dsimp only
      rw [x_gI_ok (K0 _ _), w2_I, h4, x_pI_ok (K0 _ _), nI_1, w2_sI, e, up_up, rnW, if_pos (by unfold isBl; rw [decide_eq_true c1, Bool.or_true])]
    · rw [if_neg (show ¬ nI (T q) = (32 : Int32) from fun z => c1 ((nI_eq (b := 32) (by omega) (by omega)).mp z)), x_gN_ok (K0 _ _) (R2 _ _), x_gI_ok (K0 _ _), w2_I, h4, x_aI_ok (K129 _ _) (by rw [L129]; omega) (by omega), w2_I, t1]
      by_cases c2 : T q = 10
      · rw [if_pos (by rw [c2]; rfl)]
        dsimp only
        rw [x_gI_ok (K0 _ _), w2_I, h4, x_pI_ok (K0 _ _), nI_1, w2_sI, e, up_up, rnW, if_pos (by unfold isBl; rw [decide_eq_true c2]; rfl)]
      · rw [if_neg (show ¬ nI (T q) = (10 : Int32) from fun z => c2 ((nI_eq (b := 10) (by omega) (by omega)).mp z)), rnW, if_neg (by unfold isBl; rw [decide_eq_false c1, decide_eq_false c2]; decide), up_self h4]
theorem S_mword (h : G M) (hn : n ≤ 1000) {s : Nat} {k188 : Nat → m_M → Option (Unit × m_M)} : ∀ (d q f : Nat) (A : IA) (B : Nat → Nat → Int64), q + d = n → s ≤ q → d < f → A 128 3 = nI n → A 128 4 = nI q → A 128 5 = nI s → B 128 7 = lN (pkN T s (min (q - s) 8)) → TX T n (A 129) →
    F_X12_nextToken_109 k188 f 128 (m_w2 M A B) = k188 128 (m_w2 M (m_up A 128 4 (nI (rnW isLt T d q))) (upB B 128 7 (lN (pkN T s (min (rnW isLt T d q - s) 8))))) := by
  have K0 : ∀ A B, m_K (m_w2 M A B) 128 = 10 := fun A B => by simp only [w2_K, gK h]
  have us : ∀ {B : Nat → Nat → Int64} {v : Int64}, B 128 7 = v → upB B 128 7 v = B := fun {B v} h => by
    funext b j
    rw [upB_at]
    split
    · rename_i q; rw [q.1, q.2, h]
    · rfl
  intro d
  induction d with
  | zero =>
    intro q f A B hq hs hf h3 h4 h5 h7 hx
    obtain ⟨f, rfl⟩ : ∃ f', f = f' + 1 := ⟨f - 1, by omega⟩
    have sg : F_X12_signAt 128 (nI q) (m_w2 M A B) = some (nI 0, m_w2 M A B) := (S_signAt (M := m_w2 M A B) h hn (k := q) (by omega) h3 hx).trans (by rw [if_neg (by omega)])
    rw [F_X12_nextToken_109, x_gI_ok (K0 _ _), w2_I, h4, x_cV_ok (K0 _ _) sg, if_pos (by decide), rnW_0, up_self h4, us h7]
  | succ d ih =>
    intro q f A B hq hs hf h3 h4 h5 h7 hx
    obtain ⟨f, rfl⟩ : ∃ f', f = f' + 1 := ⟨f - 1, by omega⟩
    obtain ⟨t1, t2⟩ := hx.lt (j := q) (by omega)
    have sg : F_X12_signAt 128 (nI q) (m_w2 M A B) = some (nI (T q), m_w2 M A B) := (S_signAt (M := m_w2 M A B) h hn (k := q) (by omega) h3 hx).trans (by rw [if_pos (by omega)])
    rw [F_X12_nextToken_109, x_gI_ok (K0 _ _), w2_I, h4, x_cV_ok (K0 _ _) sg]
    by_cases c1 : T q < 97
    · rw [if_pos (show nI (T q) < (97 : Int32) from nI_lt (b := 97) c1 (by omega)), rnW, if_neg (by unfold isLt; rw [decide_eq_false (show ¬ 97 ≤ T q by omega), Bool.false_and]; decide), up_self h4, us h7]
    · rw [if_neg (show ¬ nI (T q) < (97 : Int32) from nI_nlt (b := 97) (by omega) (by omega)), x_gI_ok (K0 _ _), w2_I, h4, x_cV_ok (K0 _ _) sg]
      by_cases c2 : 122 < T q
      · rw [if_pos (show (122 : Int32) < nI (T q) from nI_lt (a := 122) c2 (by omega)), rnW, if_neg (by unfold isLt; rw [decide_eq_false (show ¬ T q ≤ 122 by omega), Bool.and_false]; decide), up_self h4, us h7]
      · have c : isLt (T q) = true := by unfold isLt; rw [decide_eq_true (show 97 ≤ T q by omega), decide_eq_true (show T q ≤ 122 by omega)]; rfl
        rw [if_neg (show ¬ (122 : Int32) < nI (T q) from nI_nlt (a := 122) (by omega) (by omega)), m_let_eq, x_gI_ok (K0 _ _), w2_I, h4, x_gI_ok (K0 _ _), w2_I, h5, nI_sub' hs]
        by_cases c3 : 8 ≤ q - s
        · have e := ih (q + 1) f (m_up A 128 4 (nI (q + 1))) B (by omega) (by omega) (by omega) (by rw [up_at, if_neg (by omega)]; exact h3) (by rw [up_at, if_pos ⟨rfl, rfl⟩]) (by rw [up_at, if_neg (by omega)]; exact h5) (by rw [h7, show min (q + 1 - s) 8 = min (q - s) 8 by omega]) (by rw [up_fr (by omega)]; exact hx)
          rw [if_pos (show (8 : Int32) ≤ nI (q - s) from nI_le (a := 8) c3 (by omega))]
          dsimp only
          rw [x_gI_ok (K0 _ _), w2_I, h4, x_pI_ok (K0 _ _), nI_1, w2_sI, e, up_up, rnW, if_pos c]
        · have e := ih (q + 1) f (m_up A 128 4 (nI (q + 1))) (upB B 128 7 (lN (pkN T s (min (q + 1 - s) 8)))) (by omega) (by omega) (by omega) (by rw [up_at, if_neg (by omega)]; exact h3) (by rw [up_at, if_pos ⟨rfl, rfl⟩]) (by rw [up_at, if_neg (by omega)]; exact h5) (by rw [upB_at, if_pos ⟨rfl, rfl⟩]) (by rw [up_fr (by omega)]; exact hx)
          have hw : lN (pkN T s (min (q - s) 8)) * (27 : Int64) + (nI (T q)).toInt64 - (96 : Int64) = lN (pkN T s (min (q + 1 - s) 8)) := by
            rw [nI_l (by omega), show (27 : Int64) = lN 27 from rfl, lN_mul, lN_add, show (96 : Int64) = lN 96 from rfl, lN_sub (by omega), show min (q + 1 - s) 8 = min (q - s) 8 + 1 by omega, pkN, show min (q - s) 8 = q - s by omega, show s + (q - s) = q by omega, show pkN T s (q - s) * 27 + T q - 96 = pkN T s (q - s) * 27 + (T q - 96) by omega]
          rw [if_neg (show ¬ (8 : Int32) ≤ nI (q - s) from nI_ge (b := 8) (by omega) (by omega)), x_gL_ok (K0 _ _), w2_L, h7, x_gI_ok (K0 _ _), w2_I, h4, x_cV_ok (K0 _ _) sg, x_pL_ok (K0 _ _), hw, w2_sL]
          dsimp only
          rw [x_gI_ok (K0 _ _), w2_I, h4, x_pI_ok (K0 _ _), nI_1, w2_sI, e, up_up, upB_up, rnW, if_pos c]
theorem S_mnum (h : G M) (hn : n ≤ 1000) {B : Nat → Nat → Int64} {s : Nat} {k299 : Nat → m_M → Option (Unit × m_M)} : ∀ (d q f : Nat) (A : IA), q + d = n → s ≤ q → d < f → A 128 3 = nI n → A 128 4 = nI q → A 128 5 = nI s → A 128 8 = nI (nmN T s (min (q - s) 4)) → TX T n (A 129) →
    ∃ A', F_X12_nextToken_224 k299 f 128 (m_w2 M A B) = k299 128 (m_w2 M A' B) ∧ (∀ a, a ≠ 128 → A' a = A a) ∧ (∀ k, k ≠ 4 → k ≠ 8 → A' 128 k = A 128 k) ∧ A' 128 4 = nI (rnW isDg T d q) ∧ A' 128 8 = nI (nmN T s (min (rnW isDg T d q - s) 4)) := by
  have K0 : ∀ A B, m_K (m_w2 M A B) 128 = 10 := fun A B => by simp only [w2_K, gK h]
  intro d
  induction d with
  | zero =>
    intro q f A hq hs hf h3 h4 h5 h8 hx
    obtain ⟨f, rfl⟩ : ∃ f', f = f' + 1 := ⟨f - 1, by omega⟩
    have sg : F_X12_signAt 128 (nI q) (m_w2 M A B) = some (nI 0, m_w2 M A B) := (S_signAt (M := m_w2 M A B) h hn (k := q) (by omega) h3 hx).trans (by rw [if_neg (by omega)])
    refine ⟨A, ?_, fun _ _ => rfl, fun _ _ _ => rfl, h4, h8⟩
    rw [F_X12_nextToken_224, x_gI_ok (K0 _ _), w2_I, h4, x_cV_ok (K0 _ _) sg, if_pos (by decide)]
  | succ d ih =>
    intro q f A hq hs hf h3 h4 h5 h8 hx
    obtain ⟨f, rfl⟩ : ∃ f', f = f' + 1 := ⟨f - 1, by omega⟩
    obtain ⟨t1, t2⟩ := hx.lt (j := q) (by omega)
    have sg : F_X12_signAt 128 (nI q) (m_w2 M A B) = some (nI (T q), m_w2 M A B) := (S_signAt (M := m_w2 M A B) h hn (k := q) (by omega) h3 hx).trans (by rw [if_pos (by omega)])
    rw [F_X12_nextToken_224, x_gI_ok (K0 _ _), w2_I, h4, x_cV_ok (K0 _ _) sg]
    by_cases c1 : T q < 48
    · refine ⟨A, ?_, fun _ _ => rfl, fun _ _ _ => rfl, ?_, ?_⟩
      · rw [if_pos (show nI (T q) < (48 : Int32) from nI_lt (b := 48) c1 (by omega))]
      · rw [rnW, if_neg (by unfold isDg; rw [decide_eq_false (show ¬ 48 ≤ T q by omega), Bool.false_and]; decide)]; exact h4
      · rw [rnW, if_neg (by unfold isDg; rw [decide_eq_false (show ¬ 48 ≤ T q by omega), Bool.false_and]; decide)]; exact h8
    · rw [if_neg (show ¬ nI (T q) < (48 : Int32) from nI_nlt (b := 48) (by omega) (by omega)), x_gI_ok (K0 _ _), w2_I, h4, x_cV_ok (K0 _ _) sg]
      by_cases c2 : 57 < T q
      · refine ⟨A, ?_, fun _ _ => rfl, fun _ _ _ => rfl, ?_, ?_⟩
        · rw [if_pos (show (57 : Int32) < nI (T q) from nI_lt (a := 57) c2 (by omega))]
        · rw [rnW, if_neg (by unfold isDg; rw [decide_eq_false (show ¬ T q ≤ 57 by omega), Bool.and_false]; decide)]; exact h4
        · rw [rnW, if_neg (by unfold isDg; rw [decide_eq_false (show ¬ T q ≤ 57 by omega), Bool.and_false]; decide)]; exact h8
      · have c : isDg (T q) = true := by unfold isDg; rw [decide_eq_true (show 48 ≤ T q by omega), decide_eq_true (show T q ≤ 57 by omega)]; rfl
        rw [if_neg (show ¬ (57 : Int32) < nI (T q) from nI_nlt (a := 57) (by omega) (by omega)), m_let_eq, x_gI_ok (K0 _ _), w2_I, h4, x_gI_ok (K0 _ _), w2_I, h5, nI_sub' hs, rnW, if_pos c]
        by_cases c3 : 4 ≤ q - s
        · obtain ⟨A', e, e1, e2, e3, e4⟩ := ih (q + 1) f (m_up A 128 4 (nI (q + 1))) (by omega) (by omega) (by omega) (by rw [up_at, if_neg (by omega)]; exact h3) (by rw [up_at, if_pos ⟨rfl, rfl⟩]) (by rw [up_at, if_neg (by omega)]; exact h5) (by rw [up_at, if_neg (by omega), h8, show min (q + 1 - s) 4 = min (q - s) 4 by omega]) (by rw [up_fr (by omega)]; exact hx)
          refine ⟨A', ?_, fun a ha => by rw [e1 a ha, up_fr ha], fun k h4 h8 => by rw [e2 k h4 h8, up_at, if_neg (fun z => h4 z.2)], e3, e4⟩
          rw [if_pos (show (4 : Int32) ≤ nI (q - s) from nI_le (a := 4) c3 (by omega))]
          dsimp only
          rw [x_gI_ok (K0 _ _), w2_I, h4, x_pI_ok (K0 _ _), nI_1, w2_sI, e]
        · have hw : nI (nmN T s (min (q - s) 4)) * (10 : Int32) + nI (T q) - (48 : Int32) = nI (nmN T s (min (q + 1 - s) 4)) := by
            rw [show (10 : Int32) = nI 10 from rfl, nI_mul, nI_add, show (48 : Int32) = nI 48 from rfl, nI_sub' (by omega), show min (q + 1 - s) 4 = min (q - s) 4 + 1 by omega, nmN, show min (q - s) 4 = q - s by omega, show s + (q - s) = q by omega, show nmN T s (q - s) * 10 + T q - 48 = nmN T s (q - s) * 10 + (T q - 48) by omega]
          obtain ⟨A', e, e1, e2, e3, e4⟩ := ih (q + 1) f (m_up (m_up A 128 8 (nI (nmN T s (min (q + 1 - s) 4)))) 128 4 (nI (q + 1))) (by omega) (by omega) (by omega) (by rw [up_at, if_neg (by omega), up_at, if_neg (by omega)]; exact h3) (by rw [up_at, if_pos ⟨rfl, rfl⟩]) (by rw [up_at, if_neg (by omega), up_at, if_neg (by omega)]; exact h5) (by rw [up_at, if_neg (by omega), up_at, if_pos ⟨rfl, rfl⟩]) (by rw [up_fr (by omega), up_fr (by omega)]; exact hx)
          refine ⟨A', ?_, fun a ha => by rw [e1 a ha, up_fr ha, up_fr ha], fun k h4 h8 => by rw [e2 k h4 h8, up_at, if_neg (fun z => h4 z.2), up_at, if_neg (fun z => h8 z.2)], e3, e4⟩
          have p4 : m_up A 128 8 (nI (nmN T s (min (q + 1 - s) 4))) 128 4 = nI q := by rw [up_at, if_neg (by omega)]; exact h4
          rw [if_neg (show ¬ (4 : Int32) ≤ nI (q - s) from nI_ge (b := 4) (by omega) (by omega)), x_gI_ok (K0 _ _), w2_I, h8, x_gI_ok (K0 _ _), w2_I, h4, x_cV_ok (K0 _ _) sg, x_pI_ok (K0 _ _), hw, w2_sI]
          dsimp only
          rw [x_gI_ok (K0 _ _), w2_I, p4, x_pI_ok (K0 _ _), nI_1, w2_sI, e]
theorem S_next (h : G M) (hn : n ≤ 1000) (hx : TX T n (m_I M 129)) {q : Nat} (hq : q ≤ n) (h3 : m_I M 128 3 = nI n) (h4 : m_I M 128 4 = nI q) : ∃ M', F_X12_nextToken 128 M = some ((), M') ∧ TM n (tokAt T n q) M' ∧ tmF M M' ∧ m_I M' 128 9 = m_I M 128 9 := by
  have K0 : ∀ A B, m_K (m_w2 M A B) 128 = 10 := fun A B => by simp only [w2_K, gK h]
  have R2 : ∀ A B, m_R (m_w2 M A B) 128 2 = some 129 := fun A B => by simp only [w2_R, gR h]
  have K129 : ∀ A B, m_K (m_w2 M A B) 129 = 12 := fun A B => by simp only [w2_K, gK h]
  have L129 : ∀ A B, m_len (m_w2 M A B) 129 = 1000 := fun A B => by simp only [w2_n, gl h]
  have e0 := fun k52 => S_mskip0 h hn (B := m_L M) (k52 := k52) (n - q) q m_FU (m_I M) (by omega) (m_FU_lt (by omega)) h3 h4 hx
  have hs := rnW_le (P := isBl) (T := T) (n - q) q
  unfold tokAt
  generalize rnW isBl T (n - q) q = s at e0 hs ⊢
  have p4 : m_up (m_I M) 128 4 (nI s) 128 4 = nI s := by rw [up_at, if_pos ⟨rfl, rfl⟩]
  have a3 : m_up (m_up (m_up (m_I M) 128 4 (nI s)) 128 5 (nI s)) 128 8 (nI 0) 128 3 = nI n := by rw [up_at, if_neg (by omega), up_at, if_neg (by omega), up_at, if_neg (by omega)]; exact h3
  have a4 : m_up (m_up (m_up (m_I M) 128 4 (nI s)) 128 5 (nI s)) 128 8 (nI 0) 128 4 = nI s := by rw [up_at, if_neg (by omega), up_at, if_neg (by omega), up_at, if_pos ⟨rfl, rfl⟩]
  have a5 : m_up (m_up (m_up (m_I M) 128 4 (nI s)) 128 5 (nI s)) 128 8 (nI 0) 128 5 = nI s := by rw [up_at, if_neg (by omega), up_at, if_pos ⟨rfl, rfl⟩]
  have a8 : m_up (m_up (m_up (m_I M) 128 4 (nI s)) 128 5 (nI s)) 128 8 (nI 0) 128 8 = nI 0 := by rw [up_at, if_pos ⟨rfl, rfl⟩]
  have ao : ∀ k, k ≠ 4 → k ≠ 5 → k ≠ 8 → m_up (m_up (m_up (m_I M) 128 4 (nI s)) 128 5 (nI s)) 128 8 (nI 0) 128 k = m_I M 128 k := fun k h4 h5 h8 => by rw [up_at, if_neg (fun z => h8 z.2), up_at, if_neg (fun z => h5 z.2), up_at, if_neg (fun z => h4 z.2)]
  have af : ∀ a, a ≠ 128 → m_up (m_up (m_up (m_I M) 128 4 (nI s)) 128 5 (nI s)) 128 8 (nI 0) a = m_I M a := fun a ha => by rw [up_fr ha, up_fr ha, up_fr ha]
  have ax : TX T n (m_up (m_up (m_up (m_I M) 128 4 (nI s)) 128 5 (nI s)) 128 8 (nI 0) 129) := by rw [af 129 (by omega)]; exact hx
  generalize hA : m_up (m_up (m_up (m_I M) 128 4 (nI s)) 128 5 (nI s)) 128 8 (nI 0) = A at a3 a4 a5 a8 ao af ax
  have b7 : upB (m_L M) 128 7 0 128 7 = 0 := by rw [upB_at, if_pos ⟨rfl, rfl⟩]
  have bo : ∀ k, k ≠ 7 → upB (m_L M) 128 7 0 128 k = m_L M 128 k := fun k hk => by rw [upB_at, if_neg (fun z => hk z.2)]
  have bf : ∀ a, a ≠ 128 → upB (m_L M) 128 7 0 a = m_L M a := fun a ha => upB_fr ha
  generalize hB : upB (m_L M) 128 7 0 = B at b7 bo bf
  unfold F_X12_nextToken
  rw [m_let_eq]
  have key := e0 (fun (v1 : Nat) (M1 : m_M) =>
    x_gI 10 M1 v1 4 fun v2 =>
    x_pI 10 M1 v1 5 v2 fun M2 =>
    x_pL 10 M2 v1 7 (0 : Int64) fun M3 =>
    x_pI 10 M3 v1 8 (0 : Int32) fun M4 =>
    x_gI 10 M4 v1 4 fun v3 =>
    x_gI 10 M4 v1 3 fun v4 =>
    if v3 = v4 then (
      x_pI 10 M4 v1 6 (0 : Int32) fun M19 =>
      some ((), M19)
    ) else
    m_let (fun (v5 : Nat) (v6 : Int32) (M5 : m_M) =>
      m_let (fun (v7 : Nat) (v8 : Int32) (M6 : m_M) =>
        m_let (fun (v9 : Nat) (M7 : m_M) =>
          x_pI 10 M7 v9 6 (3 : Int32) fun M8 =>
          some ((), M8)
        ) fun (k363 : Nat → m_M → Option (Unit × m_M)) =>
        m_let (fun (v10 : Int32) (v11 : Nat) (M9 : m_M) =>
          if v10 = (45 : Int32) then (
            k363 v11 M9
          ) else
          m_let (fun (v12 : Nat) (M10 : m_M) =>
            x_pI 10 M10 v12 6 (4 : Int32) fun M11 =>
            some ((), M11)
          ) fun (k367 : Nat → m_M → Option (Unit × m_M)) =>
          if v10 < (59 : Int32) then (
            k367 v11 M9
          ) else
          if (61 : Int32) < v10 then (
            k367 v11 M9
          ) else
          k363 v11 M9
        ) fun (k345 : Int32 → Nat → m_M → Option (Unit × m_M)) =>
        x_gI 10 M6 v7 4 fun v13 =>
        x_pI 10 M6 v7 4 (v13 + (1 : Int32)) fun M12 =>
        if v8 < (40 : Int32) then (
          k345 v8 v7 M12
        ) else
        if v8 ≤ (43 : Int32) then (
          k363 v7 M12
        ) else
        k345 v8 v7 M12
      ) fun (k322 : Nat → Int32 → m_M → Option (Unit × m_M)) =>
      if v6 < (48 : Int32) then (
        k322 v5 v6 M5
      ) else
      if (57 : Int32) < v6 then (
        k322 v5 v6 M5
      ) else
      m_let (fun (v14 : Nat) (M13 : m_M) =>
        x_gI 10 M13 v14 4 fun v15 =>
        x_gI 10 M13 v14 5 fun v16 =>
        if (v15 - v16) ≤ (4 : Int32) then (
          x_pI 10 M13 v14 6 (2 : Int32) fun M14 =>
          some ((), M14)
        ) else
        x_pI 10 M13 v14 6 (4 : Int32) fun M15 =>
        some ((), M15)
      ) fun (k299 : Nat → m_M → Option (Unit × m_M)) =>
      F_X12_nextToken_224 k299 m_FU v5 M5
    ) fun (k212 : Nat → Int32 → m_M → Option (Unit × m_M)) =>
    x_gN 10 M4 v1 2 fun v17 =>
    x_gI 10 M4 v1 4 fun v18 =>
    x_aI 12 M4 v17 v18 fun v19 =>
    if v19 < (97 : Int32) then (
      k212 v1 v19 M4
    ) else
    if (122 : Int32) < v19 then (
      k212 v1 v19 M4
    ) else
    m_let (fun (v20 : Nat) (M16 : m_M) =>
      x_gI 10 M16 v20 4 fun v21 =>
      x_gI 10 M16 v20 5 fun v22 =>
      if (v21 - v22) ≤ (8 : Int32) then (
        x_pI 10 M16 v20 6 (1 : Int32) fun M17 =>
        some ((), M17)
      ) else
      x_pI 10 M16 v20 6 (4 : Int32) fun M18 =>
      some ((), M18)
    ) fun (k188 : Nat → m_M → Option (Unit × m_M)) =>
    F_X12_nextToken_109 k188 m_FU v1 M4)
  rw [show m_w2 M (m_I M) (m_L M) = M from w2_0] at key
  rw [key, x_gI_ok (K0 _ _), w2_I, p4, x_pI_ok (K0 _ _), w2_sI, x_pL_ok (K0 _ _), w2_sL, x_pI_ok (K0 _ _), w2_sI, show (0 : Int32) = nI 0 from rfl, hA, hB, x_gI_ok (K0 _ _), x_gI_ok (K0 _ _), w2_I, a4, a3]
  unfold tokF
  by_cases c : s < n
  · obtain ⟨t1, t2⟩ := ax.lt c
    rw [if_neg (fun z => by have := (nI_eq (by omega) (by omega)).mp z; omega), if_pos c]
    have kend : ∀ v : Nat, (v = 1 ∨ v = 4) → ∃ M', (x_pI 10 (m_w2 M (m_up A 128 4 (nI (s + 1))) B) 128 6 (nI (tkM v)) fun M8 => some ((), M8)) = some ((), M') ∧ TM n (s, s + 1, v, 0, 0) M' ∧ tmF M M' ∧ m_I M' 128 9 = m_I M 128 9 := by
      intro v hv
      rw [x_pI_ok (K0 _ _), w2_sI]
      refine ⟨_, rfl, ⟨⟨?_, ?_, ?_, ?_⟩, fun q => ?_, fun q => ?_⟩, ⟨rfl, rfl, fun a ha => ⟨?_, bf a ha⟩, fun k hk => ?_, fun k hk => bo k hk⟩, ?_⟩
      · rw [w2_I, up_at, if_neg (by omega), up_at, if_neg (by omega)]; exact a3
      · rw [w2_I, up_at, if_neg (by omega), up_at, if_pos ⟨rfl, rfl⟩]
      · rw [w2_I, up_at, if_neg (by omega), up_at, if_neg (by omega)]; exact a5
      · rw [w2_I, up_at, if_pos ⟨rfl, rfl⟩]
      · have q' : v = 2 := q
        omega
      · have q' : v = 3 := q
        omega
      · rw [w2_I, up_fr ha, up_fr ha, af a ha]
      · rw [w2_I, up_at, if_neg (by omega), up_at, if_neg (by omega), ao k (by omega) (by omega) (by omega)]
      · rw [w2_I, up_at, if_neg (by omega), up_at, if_neg (by omega), ao 9 (by omega) (by omega) (by omega)]
    by_cases w : isLt (T s) = true
    · have w' := w
      unfold isLt at w'
      rw [Bool.and_eq_true, decide_eq_true_eq, decide_eq_true_eq] at w'
      have bb := rnW_le (P := isLt) (T := T) (n - s) s
      have p5 : ∀ X, m_up A 128 4 X 128 5 = nI s := fun X => by rw [up_at, if_neg (by omega)]; exact a5
      have p44 : ∀ X, m_up A 128 4 X 128 4 = X := fun X => by rw [up_at, if_pos ⟨rfl, rfl⟩]
      have e5 := fun k188 => S_mword h hn (s := s) (k188 := k188) (n - s) s m_FU A B (by omega) (by omega) (m_FU_lt (by omega)) a3 a4 a5 (by rw [b7, Nat.sub_self, Nat.zero_min]; rfl) ax
      rw [if_pos w]
      have fin : ∀ v : Nat, v = (if rnW isLt T (n - s) s - s ≤ 8 then 2 else 1) → ∃ M', (x_pI 10 (m_w2 M (m_up A 128 4 (nI (rnW isLt T (n - s) s))) (upB B 128 7 (lN (pkN T s (min (rnW isLt T (n - s) s - s) 8))))) 128 6 (nI (tkM v)) fun M17 => some ((), M17)) = some ((), M') ∧ TM n (s, rnW isLt T (n - s) s, if rnW isLt T (n - s) s - s ≤ 8 then 2 else 1, lN (pkN T s (rnW isLt T (n - s) s - s)), 0) M' ∧ tmF M M' ∧ m_I M' 128 9 = m_I M 128 9 := by
        intro v hv
        rw [x_pI_ok (K0 _ _), w2_sI, ← hv]
        refine ⟨_, rfl, ⟨⟨?_, ?_, ?_, ?_⟩, fun q => ?_, fun q => ?_⟩, ⟨rfl, rfl, fun a ha => ⟨?_, ?_⟩, fun k hk => ?_, fun k hk => ?_⟩, ?_⟩
        · rw [w2_I, up_at, if_neg (by omega), up_at, if_neg (by omega)]; exact a3
        · rw [w2_I, up_at, if_neg (by omega), up_at, if_pos ⟨rfl, rfl⟩]
        · rw [w2_I, up_at, if_neg (by omega), up_at, if_neg (by omega)]; exact a5
        · rw [w2_I, up_at, if_pos ⟨rfl, rfl⟩]
        · have q' : v = 2 := q
          rw [w2_L, upB_at, if_pos ⟨rfl, rfl⟩]
          rw [hv] at q'
          split at q'
          · rename_i z
            rw [show min (rnW isLt T (n - s) s - s) 8 = rnW isLt T (n - s) s - s by omega]
          · omega
        · have q' : v = 3 := q
          rw [hv] at q'
          split at q' <;> omega
        · rw [w2_I, up_fr ha, up_fr ha, af a ha]
        · rw [w2_L, upB_fr ha, bf a ha]
        · rw [w2_I, up_at, if_neg (by omega), up_at, if_neg (by omega), ao k (by omega) (by omega) (by omega)]
        · rw [w2_L, upB_at, if_neg (fun z => hk z.2), bo k hk]
        · rw [w2_I, up_at, if_neg (by omega), up_at, if_neg (by omega), ao 9 (by omega) (by omega) (by omega)]
      rw [m_let_eq, x_gN_ok (K0 _ _) (R2 _ _), x_gI_ok (K0 _ _), w2_I, a4, x_aI_ok (K129 _ _) (by rw [L129]; omega) (by omega), w2_I, t1, if_neg (show ¬ nI (T s) < (97 : Int32) from nI_nlt (b := 97) (by omega) (by omega)), if_neg (show ¬ (122 : Int32) < nI (T s) from nI_nlt (a := 122) (by omega) (by omega)), m_let_eq, e5, x_gI_ok (K0 _ _), x_gI_ok (K0 _ _), w2_I, p44, p5, nI_sub' bb.1]
      by_cases z : rnW isLt T (n - s) s - s ≤ 8
      · rw [if_pos (show nI (rnW isLt T (n - s) s - s) ≤ (8 : Int32) from nI_le (b := 8) z (by omega))]
        exact fin 2 (by rw [if_pos z])
      · rw [if_neg (show ¬ nI (rnW isLt T (n - s) s - s) ≤ (8 : Int32) from nI_ge (a := 8) (by omega) (by omega))]
        exact fin 1 (by rw [if_neg z])
    · rw [if_neg w, m_let_eq, x_gN_ok (K0 _ _) (R2 _ _), x_gI_ok (K0 _ _), w2_I, a4, x_aI_ok (K129 _ _) (by rw [L129]; omega) (by omega), w2_I, t1]
      -- what is no letter goes on
      have nl : T s < 97 ∨ 122 < T s := by
        unfold isLt at w
        rw [Bool.and_eq_true, decide_eq_true_eq, decide_eq_true_eq] at w
        omega
      have go : ∀ (X Y : Option (Unit × m_M)), (if nI (T s) < (97 : Int32) then X else if (122 : Int32) < nI (T s) then X else Y) = X := by
        intro X Y
        rcases nl with z | z
        · rw [if_pos (show nI (T s) < (97 : Int32) from nI_lt (b := 97) z (by omega))]
        · rw [if_neg (show ¬ nI (T s) < (97 : Int32) from nI_nlt (b := 97) (by omega) (by omega)), if_pos (show (122 : Int32) < nI (T s) from nI_lt (a := 122) z (by omega))]
      rw [go]
      dsimp only
      rw [m_let_eq]
      by_cases dg : isDg (T s) = true
      · have dg' := dg
        unfold isDg at dg'
        rw [Bool.and_eq_true, decide_eq_true_eq, decide_eq_true_eq] at dg'
        have bb := rnW_le (P := isDg) (T := T) (n - s) s
        rw [if_pos dg, if_neg (show ¬ nI (T s) < (48 : Int32) from nI_nlt (b := 48) (by omega) (by omega)), if_neg (show ¬ (57 : Int32) < nI (T s) from nI_nlt (a := 57) (by omega) (by omega)), m_let_eq]
        obtain ⟨A', e, e1, e2, e3, e4⟩ := S_mnum h hn (B := B) (s := s) (k299 := fun (v14 : Nat) (M13 : m_M) =>
          x_gI 10 M13 v14 4 fun v15 =>
          x_gI 10 M13 v14 5 fun v16 =>
          if (v15 - v16) ≤ (4 : Int32) then (
            x_pI 10 M13 v14 6 (2 : Int32) fun M14 =>
            some ((), M14)
          ) else
          x_pI 10 M13 v14 6 (4 : Int32) fun M15 =>
          some ((), M15)) (n - s) s m_FU A (by omega) (by omega) (m_FU_lt (by omega)) a3 a4 a5 (by rw [a8, Nat.sub_self, Nat.zero_min]; rfl) ax
        have e25 : A' 128 5 = nI s := by rw [e2 5 (by omega) (by omega)]; exact a5
        rw [e, x_gI_ok (K0 _ _), x_gI_ok (K0 _ _), w2_I, e3, e25, nI_sub' bb.1]
        have fin : ∀ v : Nat, v = (if rnW isDg T (n - s) s - s ≤ 4 then 3 else 1) → ∃ M', (x_pI 10 (m_w2 M A' B) 128 6 (nI (tkM v)) fun M14 => some ((), M14)) = some ((), M') ∧ TM n (s, rnW isDg T (n - s) s, if rnW isDg T (n - s) s - s ≤ 4 then 3 else 1, 0, nmN T s (rnW isDg T (n - s) s - s)) M' ∧ tmF M M' ∧ m_I M' 128 9 = m_I M 128 9 := by
          intro v hv
          rw [x_pI_ok (K0 _ _), w2_sI, ← hv]
          refine ⟨_, rfl, ⟨⟨?_, ?_, ?_, ?_⟩, fun q => ?_, fun q => ?_⟩, ⟨rfl, rfl, fun a ha => ⟨?_, bf a ha⟩, fun k hk => ?_, fun k hk => bo k hk⟩, ?_⟩
          · rw [w2_I, up_at, if_neg (by omega), e2 3 (by omega) (by omega)]; exact a3
          · rw [w2_I, up_at, if_neg (by omega)]; exact e3
          · rw [w2_I, up_at, if_neg (by omega)]; exact e25
          · rw [w2_I, up_at, if_pos ⟨rfl, rfl⟩]
          · have q' : v = 2 := q
            rw [hv] at q'
            split at q' <;> omega
          · have q' : v = 3 := q
            rw [hv] at q'
            rw [w2_I, up_at, if_neg (by omega), e4]
            split at q'
            · rename_i z
              rw [show min (rnW isDg T (n - s) s - s) 4 = rnW isDg T (n - s) s - s by omega]
            · omega
          · rw [w2_I, up_fr ha, e1 a ha, af a ha]
          · rw [w2_I, up_at, if_neg (by omega), e2 k (by omega) (by omega), ao k (by omega) (by omega) (by omega)]
          · rw [w2_I, up_at, if_neg (by omega), e2 9 (by omega) (by omega), ao 9 (by omega) (by omega) (by omega)]
        by_cases z : rnW isDg T (n - s) s - s ≤ 4
        · rw [if_pos (show nI (rnW isDg T (n - s) s - s) ≤ (4 : Int32) from nI_le (b := 4) z (by omega))]
          exact fin 3 (by rw [if_pos z])
        · rw [if_neg (show ¬ nI (rnW isDg T (n - s) s - s) ≤ (4 : Int32) from nI_ge (a := 4) (by omega) (by omega))]
          exact fin 1 (by rw [if_neg z])
      · have nd : T s < 48 ∨ 57 < T s := by
          unfold isDg at dg
          rw [Bool.and_eq_true, decide_eq_true_eq, decide_eq_true_eq] at dg
          omega
        have go2 : ∀ (X Y : Option (Unit × m_M)), (if nI (T s) < (48 : Int32) then X else if (57 : Int32) < nI (T s) then X else Y) = X := by
          intro X Y
          rcases nd with z | z
          · rw [if_pos (show nI (T s) < (48 : Int32) from nI_lt (b := 48) z (by omega))]
          · rw [if_neg (show ¬ nI (T s) < (48 : Int32) from nI_nlt (b := 48) (by omega) (by omega)), if_pos (show (57 : Int32) < nI (T s) from nI_lt (a := 57) z (by omega))]
        rw [if_neg dg, go2]
        dsimp only
        rw [m_let_eq, m_let_eq, x_gI_ok (K0 _ _), w2_I, a4, x_pI_ok (K0 _ _), nI_1, w2_sI]
        by_cases g1 : T s < 40
        · rw [if_pos (show nI (T s) < (40 : Int32) from nI_lt (b := 40) g1 (by omega))]
          dsimp only
          rw [if_neg (show ¬ nI (T s) = (45 : Int32) from fun z => by have := (nI_eq (b := 45) (by omega) (by omega)).mp z; omega), m_let_eq, if_pos (show nI (T s) < (59 : Int32) from nI_lt (b := 59) (by omega) (by omega)), if_neg (by unfold isSg; rw [decide_eq_false (show ¬ 40 ≤ T s by omega), decide_eq_false (show ¬ T s = 45 by omega), decide_eq_false (show ¬ 59 ≤ T s by omega), Bool.false_and, Bool.false_and]; decide)]
          exact kend 1 (by omega)
        · rw [if_neg (show ¬ nI (T s) < (40 : Int32) from nI_nlt (b := 40) (by omega) (by omega))]
          by_cases g2 : T s ≤ 43
          · rw [if_pos (show nI (T s) ≤ (43 : Int32) from nI_le (b := 43) g2 (by omega)), if_pos (by unfold isSg; rw [decide_eq_true (show 40 ≤ T s by omega), decide_eq_true g2]; rfl)]
            exact kend 4 (by omega)
          · rw [if_neg (show ¬ nI (T s) ≤ (43 : Int32) from nI_ge (a := 43) (by omega) (by omega))]
            dsimp only
            by_cases g3 : T s = 45
            · rw [if_pos (show nI (T s) = (45 : Int32) by rw [g3]; rfl), if_pos (by unfold isSg; rw [decide_eq_true g3, Bool.or_true]; rfl)]
              exact kend 4 (by omega)
            · rw [if_neg (show ¬ nI (T s) = (45 : Int32) from fun z => by have := (nI_eq (b := 45) (by omega) (by omega)).mp z; omega), m_let_eq]
              by_cases g4 : T s < 59
              · rw [if_pos (show nI (T s) < (59 : Int32) from nI_lt (b := 59) (by omega) (by omega)), if_neg (by unfold isSg; rw [decide_eq_false (show ¬ T s ≤ 43 by omega), decide_eq_false g3, decide_eq_false (show ¬ 59 ≤ T s by omega), Bool.and_false, Bool.false_and]; decide)]
                exact kend 1 (by omega)
              · rw [if_neg (show ¬ nI (T s) < (59 : Int32) from nI_nlt (b := 59) (by omega) (by omega))]
                by_cases g5 : 61 < T s
                · rw [if_pos (show (61 : Int32) < nI (T s) from nI_lt (a := 61) g5 (by omega)), if_neg (by unfold isSg; rw [decide_eq_false (show ¬ T s ≤ 43 by omega), decide_eq_false g3, decide_eq_false (show ¬ T s ≤ 61 by omega), Bool.and_false, Bool.and_false]; decide)]
                  exact kend 1 (by omega)
                · rw [if_neg (show ¬ (61 : Int32) < nI (T s) from nI_nlt (a := 61) (by omega) (by omega)), if_pos (by unfold isSg; rw [decide_eq_true (show 59 ≤ T s by omega), decide_eq_true (show T s ≤ 61 by omega), Bool.and_self, Bool.or_true])]
                  exact kend 4 (by omega)
  · rw [if_pos (by rw [show s = n by omega]), if_neg c, x_pI_ok (K0 _ _), w2_sI]
    refine ⟨_, rfl, ⟨⟨?_, ?_, ?_, ?_⟩, fun q => ?_, fun q => ?_⟩, ⟨rfl, rfl, fun a ha => ⟨?_, bf a ha⟩, fun k hk => ?_, fun k hk => bo k hk⟩, ?_⟩
    · rw [w2_I, up_at, if_neg (by omega)]; exact a3
    · rw [w2_I, up_at, if_neg (by omega)]; exact a4
    · rw [w2_I, up_at, if_neg (by omega)]; exact a5
    · rw [w2_I, up_at, if_pos ⟨rfl, rfl⟩]; rfl
    · have q' : (0 : Nat) = 2 := q
      omega
    · have q' : (0 : Nat) = 3 := q
      omega
    · rw [w2_I, up_fr ha, af a ha]
    · rw [w2_I, up_at, if_neg (by omega), ao k (by omega) (by omega) (by omega)]
    · rw [w2_I, up_at, if_neg (by omega), ao 9 (by omega) (by omega) (by omega)]
end MTOK
