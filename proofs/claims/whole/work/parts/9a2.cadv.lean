/-! the class goes a token on: the whole -/
/-- the cells of a reader: its tape -/
def RdC (kd r : Nat) (M : m_M) : Prop := m_K M r = kd ∧ m_R M r 0 = some 1 ∧ m_K M 1 = 11 ∧ m_len M 1 = 1000 ∧ 1 < r
def wdR (w : Int64) : Option Nat := ((List.range 20).find? (fun j => decide (k_wl.getD j 0 = w))).map (fun j => 1000000 + j)
def TC (T : Nat → Nat) (n r : Nat) (t : Tok) (M : m_M) : Prop := (m_I M r 1 = nI n ∧ m_I M r 2 = nI t.1 ∧ m_I M r 3 = nI t.2.1 ∧ m_I M r 4 = nI t.2.2.1) ∧ (t.2.2.1 = 2 → m_L M r 7 = t.2.2.2.1 ∧ m_R M r 8 = wdR t.2.2.2.1) ∧ (t.2.2.1 = 3 → m_I M r 5 = nI t.2.2.2.2) ∧ (t.2.2.1 = 4 → m_I M r 6 = nI (T t.1)) ∧ (t.2.2.1 ≠ 2 → m_R M r 8 = none)
/-- only a reader's own fields change -/
def tkF (r : Nat) (M M' : m_M) : Prop := M'.1 = M.1 ∧ (∀ a, a ≠ r → m_I M' a = m_I M a ∧ m_L M' a = m_L M a ∧ m_R M' a = m_R M a) ∧ (∀ k, (k < 1 ∨ 9 < k) → m_I M' r k = m_I M r k) ∧ (∀ k, k ≠ 7 → m_L M' r k = m_L M r k) ∧ ∀ k, k ≠ 8 → m_R M' r k = m_R M r k
section CADV
variable {M M' : m_M} {T : Nat → Nat} {n kd r : Nat}
theorem tkF.rfl' : tkF r M M := ⟨rfl, fun _ _ => ⟨rfl, rfl, rfl⟩, fun _ _ => rfl, fun _ _ => rfl, fun _ _ => rfl⟩
theorem tkF.trans {M1 M2 M3 : m_M} (h1 : tkF r M1 M2) (h2 : tkF r M2 M3) : tkF r M1 M3 := by
  obtain ⟨a1, a2, a3, a4, a5⟩ := h1
  obtain ⟨b1, b2, b3, b4, b5⟩ := h2
  exact ⟨b1.trans a1, fun a ha => ⟨(b2 a ha).1.trans (a2 a ha).1, (b2 a ha).2.1.trans (a2 a ha).2.1, (b2 a ha).2.2.trans (a2 a ha).2.2⟩, fun k hk => (b3 k hk).trans (a3 k hk), fun k hk => (b4 k hk).trans (a4 k hk), fun k hk => (b5 k hk).trans (a5 k hk)⟩
theorem tkF.K (h : tkF r M M') (a : Nat) : m_K M' a = m_K M a ∧ m_len M' a = m_len M a := by
  have e := h.1
  unfold m_K m_len m_N m_T
  rw [e]
  exact ⟨rfl, rfl⟩
theorem tkF.Rd (h : tkF r M M') (hr : RdC kd r M) : RdC kd r M' := by
  obtain ⟨h1, h2, h3, h4, h5⟩ := hr
  exact ⟨(h.K r).1.trans h1, (h.2.2.2.2 0 (by omega)).trans h2, (h.K 1).1.trans h3, (h.K 1).2.trans h4, h5⟩
theorem tkF.X (h : tkF r M M') (hr : 1 < r) (hx : TX T n (m_I M 1)) : TX T n (m_I M' 1) := by rw [(h.2.1 1 (by omega)).1]; exact hx
theorem S_skip0 (hr : RdC kd r M) (hn : n ≤ 1000) {B : Nat → Nat → Int64} {R : Nat → Nat → Option Nat} (hR : R r 0 = some 1) : ∀ (d q f : Nat) (A : IA), q + d = n → d < f → A r 1 = nI n → A r 3 = nI q → TX T n (A 1) →
    F_X8_skipBlanks_0 kd f r (m_x4 M A B R) = some ((), m_x4 M (m_up A r 3 (nI (rnW isBl T d q))) B R) := by
  obtain ⟨K, _, K1, L1, r1⟩ := hr
  have Kx : ∀ A B R, m_K (m_x4 M A B R) r = kd := fun A B R => K
  have K1x : ∀ A B R, m_K (m_x4 M A B R) 1 = 11 := fun A B R => K1
  have L1x : ∀ A B R, m_len (m_x4 M A B R) 1 = 1000 := fun A B R => L1
  intro d
  induction d with
  | zero =>
    intro q f A hq hf h1 h3 hx
    obtain ⟨f, rfl⟩ : ∃ f', f = f' + 1 := ⟨f - 1, by omega⟩
    rw [F_X8_skipBlanks_0, x_gI_ok (Kx _ _ _), x_gI_ok (Kx _ _ _), x4_I, h1, h3, if_pos (nI_le (by omega) (by omega)), rnW_0, up_self h3]
  | succ d ih =>
    intro q f A hq hf h1 h3 hx
    obtain ⟨f, rfl⟩ : ∃ f', f = f' + 1 := ⟨f - 1, by omega⟩
    obtain ⟨t1, t2⟩ := hx.lt (j := q) (by omega)
    have e := ih (q + 1) f (m_up A r 3 (nI (q + 1))) (by omega) (by omega) (by rw [up_at, if_neg (by omega)]; exact h1) (by rw [up_at, if_pos ⟨rfl, rfl⟩]) (by rw [up_fr (by omega)]; exact hx)
    rw [F_X8_skipBlanks_0, x_gI_ok (Kx _ _ _), x_gI_ok (Kx _ _ _), x4_I, h1, h3, if_neg (nI_ge (by omega) (by omega)), m_let_eq, x_gN_ok (Kx _ _ _) (show m_R (m_x4 M A B R) r 0 = some 1 from hR), x_gI_ok (Kx _ _ _), x4_I, h3, x_aI_ok (K1x _ _ _) (by rw [L1x]; omega) (by omega), x4_I, t1]
    by_cases c1 : T q = 10
    · rw [if_pos (by rw [c1]; rfl)]
      dsimp only
      rw [x_gI_ok (Kx _ _ _), x4_I, h3, x_pI_ok (Kx _ _ _), nI_1, x4_sI, e, up_up, rnW, if_pos (by unfold isBl; rw [decide_eq_true c1]; rfl)]
    · rw [if_neg (show ¬ nI (T q) = (10 : Int32) from fun z => c1 ((nI_eq (b := 10) (by omega) (by omega)).mp z)), x_gN_ok (Kx _ _ _) (show m_R (m_x4 M A B R) r 0 = some 1 from hR), x_gI_ok (Kx _ _ _), x4_I, h3, x_aI_ok (K1x _ _ _) (by rw [L1x]; omega) (by omega), x4_I, t1]
      by_cases c2 : T q = 32
      · rw [if_pos (by rw [c2]; rfl)]
        dsimp only
        rw [x_gI_ok (Kx _ _ _), x4_I, h3, x_pI_ok (Kx _ _ _), nI_1, x4_sI, e, up_up, rnW, if_pos (by unfold isBl; rw [decide_eq_true c2, Bool.or_true])]
      · rw [if_neg (show ¬ nI (T q) = (32 : Int32) from fun z => c2 ((nI_eq (b := 32) (by omega) (by omega)).mp z)), rnW, if_neg (by unfold isBl; rw [decide_eq_false c1, decide_eq_false c2]; decide), up_self h3]
theorem S_word5 (hr : RdC kd r M) (hn : n ≤ 1000) {R : Nat → Nat → Option Nat} (hR : R r 0 = some 1) {s : Nat} {k64 : Nat → m_M → Option (Unit × m_M)} : ∀ (d q f : Nat) (A : IA) (B : Nat → Nat → Int64), q + d = n → s ≤ q → d < f → A r 1 = nI n → A r 3 = nI q → B r 7 = lN (pkN T s (q - s)) → TX T n (A 1) →
    F_X8_scanWord_5 kd k64 f r (m_x4 M A B R) = k64 r (m_x4 M (m_up A r 3 (nI (rnW isLt T d q))) (upB B r 7 (lN (pkN T s (rnW isLt T d q - s)))) R) := by
  obtain ⟨K, _, K1, L1, r1⟩ := hr
  have Kx : ∀ A B R, m_K (m_x4 M A B R) r = kd := fun A B R => K
  have K1x : ∀ A B R, m_K (m_x4 M A B R) 1 = 11 := fun A B R => K1
  have L1x : ∀ A B R, m_len (m_x4 M A B R) 1 = 1000 := fun A B R => L1
  have us : ∀ {B : Nat → Nat → Int64} {v : Int64}, B r 7 = v → upB B r 7 v = B := fun {B v} h => by
    funext b j
    rw [upB_at]
    split
    · rename_i q; rw [q.1, q.2, h]
    · rfl
  intro d
  induction d with
  | zero =>
    intro q f A B hq hs hf h1 h3 h7 hx
    obtain ⟨f, rfl⟩ : ∃ f', f = f' + 1 := ⟨f - 1, by omega⟩
    rw [F_X8_scanWord_5, x_gI_ok (Kx _ _ _), x_gI_ok (Kx _ _ _), x4_I, h1, h3, if_pos (nI_le (by omega) (by omega)), rnW_0, up_self h3, us h7]
  | succ d ih =>
    intro q f A B hq hs hf h1 h3 h7 hx
    obtain ⟨f, rfl⟩ : ∃ f', f = f' + 1 := ⟨f - 1, by omega⟩
    obtain ⟨t1, t2⟩ := hx.lt (j := q) (by omega)
    rw [F_X8_scanWord_5, x_gI_ok (Kx _ _ _), x_gI_ok (Kx _ _ _), x4_I, h1, h3, if_neg (nI_ge (by omega) (by omega)), x_gN_ok (Kx _ _ _) (show m_R (m_x4 M A B R) r 0 = some 1 from hR), x_gI_ok (Kx _ _ _), x4_I, h3, x_aI_ok (K1x _ _ _) (by rw [L1x]; omega) (by omega), x4_I, t1, x_bd_ok (S_isLetter t2)]
    by_cases c : isLt (T q) = true
    · have c' := c
      unfold isLt at c'
      rw [Bool.and_eq_true, decide_eq_true_eq, decide_eq_true_eq] at c'
      have hw : lN (pkN T s (q - s)) * (27 : Int64) + ((nI (T q) - (97 : Int32)) + (1 : Int32)).toInt64 = lN (pkN T s (q + 1 - s)) := by
        rw [show nI (T q) - (97 : Int32) = nI (T q - 97) from nI_sub' (b := 97) (by omega), nI_1, nI_l (by omega), show (27 : Int64) = lN 27 from rfl, lN_mul, lN_add, show q + 1 - s = (q - s) + 1 by omega, pkN, show s + (q - s) = q by omega, show T q - 97 + 1 = T q - 96 by omega]
      have e := ih (q + 1) f (m_up A r 3 (nI (q + 1))) (upB B r 7 (lN (pkN T s (q + 1 - s)))) (by omega) (by omega) (by omega) (by rw [up_at, if_neg (by omega)]; exact h1) (by rw [up_at, if_pos ⟨rfl, rfl⟩]) (by rw [upB_at, if_pos ⟨rfl, rfl⟩]) (by rw [up_fr (by omega)]; exact hx)
      rw [c, if_neg (by decide), x_gL_ok (Kx _ _ _), x4_L, h7, x_gN_ok (Kx _ _ _) (show m_R (m_x4 M A B R) r 0 = some 1 from hR), x_gI_ok (Kx _ _ _), x4_I, h3, x_aI_ok (K1x _ _ _) (by rw [L1x]; omega) (by omega), x4_I, t1]
      unfold F_X9_packMore
      rw [x_bd_some, hw, x_pL_ok (Kx _ _ _), x4_sL, x_gI_ok (Kx _ _ _), x4_I, h3, x_pI_ok (Kx _ _ _), nI_1, x4_sI, e, up_up, upB_up, rnW, if_pos c]
    · rw [Bool.eq_false_iff.mpr c, if_pos (by decide), rnW, if_neg c, up_self h3, us h7]
theorem S_num5 (hr : RdC kd r M) (hn : n ≤ 1000) {B : Nat → Nat → Int64} {R : Nat → Nat → Option Nat} (hR : R r 0 = some 1) {s : Nat} {k68 : Nat → m_M → Option (Unit × m_M)} : ∀ (d q f : Nat) (A : IA), q + d = n → s ≤ q → d < f → A r 1 = nI n → A r 3 = nI q → A r 5 = nI (nmN T s (q - s)) → TX T n (A 1) →
    ∃ A', F_X8_scanNumber_5 kd k68 f r (m_x4 M A B R) = k68 r (m_x4 M A' B R) ∧ (∀ a, a ≠ r → A' a = A a) ∧ (∀ k, k ≠ 3 → k ≠ 5 → A' r k = A r k) ∧ A' r 3 = nI (rnW isDg T d q) ∧ A' r 5 = nI (nmN T s (rnW isDg T d q - s)) := by
  obtain ⟨K, _, K1, L1, r1⟩ := hr
  have Kx : ∀ A B R, m_K (m_x4 M A B R) r = kd := fun A B R => K
  have K1x : ∀ A B R, m_K (m_x4 M A B R) 1 = 11 := fun A B R => K1
  have L1x : ∀ A B R, m_len (m_x4 M A B R) 1 = 1000 := fun A B R => L1
  intro d
  induction d with
  | zero =>
    intro q f A hq hs hf h1 h3 h5 hx
    obtain ⟨f, rfl⟩ : ∃ f', f = f' + 1 := ⟨f - 1, by omega⟩
    refine ⟨A, ?_, fun _ _ => rfl, fun _ _ _ => rfl, h3, h5⟩
    rw [F_X8_scanNumber_5, x_gI_ok (Kx _ _ _), x_gI_ok (Kx _ _ _), x4_I, h1, h3, if_pos (nI_le (by omega) (by omega))]
  | succ d ih =>
    intro q f A hq hs hf h1 h3 h5 hx
    obtain ⟨f, rfl⟩ : ∃ f', f = f' + 1 := ⟨f - 1, by omega⟩
    obtain ⟨t1, t2⟩ := hx.lt (j := q) (by omega)
    rw [F_X8_scanNumber_5, x_gI_ok (Kx _ _ _), x_gI_ok (Kx _ _ _), x4_I, h1, h3, if_neg (nI_ge (by omega) (by omega)), x_gN_ok (Kx _ _ _) (show m_R (m_x4 M A B R) r 0 = some 1 from hR), x_gI_ok (Kx _ _ _), x4_I, h3, x_aI_ok (K1x _ _ _) (by rw [L1x]; omega) (by omega), x4_I, t1, x_bd_ok (S_isDigit t2)]
    by_cases c : isDg (T q) = true
    · have c' := c
      unfold isDg at c'
      rw [Bool.and_eq_true, decide_eq_true_eq, decide_eq_true_eq] at c'
      have hw : nI (nmN T s (q - s)) * (10 : Int32) + (nI (T q) - (48 : Int32)) = nI (nmN T s (q + 1 - s)) := by
        rw [show nI (T q) - (48 : Int32) = nI (T q - 48) from nI_sub' (b := 48) (by omega), show (10 : Int32) = nI 10 from rfl, nI_mul, nI_add, show q + 1 - s = (q - s) + 1 by omega, nmN, show s + (q - s) = q by omega]
      obtain ⟨A', e, e1, e2, e3, e4⟩ := ih (q + 1) f (m_up (m_up A r 5 (nI (nmN T s (q + 1 - s)))) r 3 (nI (q + 1))) (by omega) (by omega) (by omega) (by rw [up_at, if_neg (by omega), up_at, if_neg (by omega)]; exact h1) (by rw [up_at, if_pos ⟨rfl, rfl⟩]) (by rw [up_at, if_neg (by omega), up_at, if_pos ⟨rfl, rfl⟩]) (by rw [up_fr (by omega), up_fr (by omega)]; exact hx)
      refine ⟨A', ?_, fun a ha => by rw [e1 a ha, up_fr ha, up_fr ha], fun k h3 h5 => by rw [e2 k h3 h5, up_at, if_neg (fun z => h3 z.2), up_at, if_neg (fun z => h5 z.2)], ?_, ?_⟩
      · rw [c, if_neg (by decide), x_gI_ok (Kx _ _ _), x4_I, h5, x_gN_ok (Kx _ _ _) (show m_R (m_x4 M A B R) r 0 = some 1 from hR), x_gI_ok (Kx _ _ _), x4_I, h3, x_aI_ok (K1x _ _ _) (by rw [L1x]; omega) (by omega), x4_I, t1, hw, x_pI_ok (Kx _ _ _), x4_sI, x_gI_ok (Kx _ _ _), x4_I, up_at, if_neg (by omega), h3, x_pI_ok (Kx _ _ _), nI_1, x4_sI, e]
      · rw [rnW, if_pos c]; exact e3
      · rw [rnW, if_pos c]; exact e4
    · refine ⟨A, ?_, fun _ _ => rfl, fun _ _ _ => rfl, ?_, ?_⟩
      · rw [Bool.eq_false_iff.mpr c, if_pos (by decide)]
      · rw [rnW, if_neg c]; exact h3
      · rw [rnW, if_neg c]; exact h5
theorem x_k_ok {β : Type} {k : Nat} {f : Nat → Option β} (h : k < 20) : x_k (1000000 + k) f = f k := by
  unfold x_k
  rw [if_pos ⟨by omega, by omega⟩, show 1000000 + k - 1000000 = k by omega]
theorem S_wfind2 {w : Int64} : ∀ (d k f : Nat), k + d = 20 → d < f → (∀ j, j < k → k_wl.getD j 0 ≠ w) → F_X9_find_2 f w (nI k) M = some (wdR w, M) := by
  intro d
  induction d with
  | zero =>
    intro k f hk hf hn
    obtain ⟨f, rfl⟩ : ∃ f', f = f' + 1 := ⟨f - 1, by omega⟩
    rw [F_X9_find_2, if_pos (show (20 : Int32) ≤ nI k from nI_le (a := 20) (by omega) (by omega))]
    unfold wdR
    rw [List.find?_eq_none.mpr (fun x hx => by
      have hx' := List.mem_range.mp hx
      rw [decide_eq_true_eq]
      exact hn x (by omega))]
    rfl
  | succ d ih =>
    intro k f hk hf hn
    obtain ⟨f, rfl⟩ : ∃ f', f = f' + 1 := ⟨f - 1, by omega⟩
    rw [F_X9_find_2, if_neg (show ¬ (20 : Int32) ≤ nI k from nI_ge (b := 20) (by omega) (by omega)), x_ki_ok (by omega) (by omega), x_k_ok (by omega)]
    by_cases q : k_wl.getD k 0 = w
    · rw [if_pos ((lg_cmp_eq _ _).mpr q), x_ki_ok (by omega) (by omega)]
      unfold wdR
      rw [List.find?_range_eq_some.mpr ⟨by rw [decide_eq_true_eq]; exact q, List.mem_range.mpr (by omega), fun j hj => by
        have := hn j hj
        rw [Bool.not_eq_true', decide_eq_false_iff_not]; exact this⟩]
      rfl
    · rw [if_neg (fun z => q ((lg_cmp_eq _ _).mp z)), m_let_eq, nI_1]
      refine ih (k + 1) f (by omega) (by omega) (fun j hj => ?_)
      by_cases z : j = k
      · rw [z]; exact q
      · exact hn j (by omega)
theorem S_wfind {w : Int64} : F_X9_find w M = some (wdR w, M) := S_wfind2 20 0 m_FU (by omega) (m_FU_lt (by omega)) (fun j hj => absurd hj (Nat.not_lt_zero _))
theorem S_scanWord (hr : RdC kd r M) (hn : n ≤ 1000) {A : IA} {B : Nat → Nat → Int64} {R : Nat → Nat → Option Nat} (hR : R r 0 = some 1) {s : Nat} (hs : s < n) (h1 : A r 1 = nI n) (h2 : A r 2 = nI s) (h3 : A r 3 = nI s) (hx : TX T n (A 1)) (h8 : R r 8 = none) :
    ∃ R', F_X8_scanWord kd r (m_x4 M A B R) = some ((), m_x4 M (m_up (m_up A r 3 (nI (rnW isLt T (n - s) s))) r 4 (nI (if rnW isLt T (n - s) s - s ≤ 8 then 2 else 1))) (upB B r 7 (lN (pkN T s (rnW isLt T (n - s) s - s)))) R') ∧ (∀ a, a ≠ r → R' a = R a) ∧ (∀ k, k ≠ 8 → R' r k = R r k) ∧ R' r 8 = if rnW isLt T (n - s) s - s ≤ 8 then wdR (lN (pkN T s (rnW isLt T (n - s) s - s))) else none := by
  have hr' := hr
  obtain ⟨K, _, K1, L1, r1⟩ := hr'
  have Kx : ∀ A B R, m_K (m_x4 M A B R) r = kd := fun A B R => K
  have b1 := rnW_le (P := isLt) (T := T) (n - s) s
  have e5 := fun k64 => S_word5 hr hn hR (s := s) (k64 := k64) (n - s) s m_FU A (upB B r 7 0) (by omega) (by omega) (m_FU_lt (by omega)) h1 h3 (by rw [upB_at, if_pos ⟨rfl, rfl⟩, Nat.sub_self]; rfl) hx
  rw [upB_up] at e5
  have u3 : ∀ X, m_up A r 3 X r 3 = X := fun X => by rw [up_at, if_pos ⟨rfl, rfl⟩]
  have u2 : ∀ X, m_up A r 3 X r 2 = nI s := fun X => by rw [up_at, if_neg (by omega)]; exact h2
  have u4 : ∀ (A : IA) X, m_up A r 4 X r 4 = X := fun A X => by rw [up_at, if_pos ⟨rfl, rfl⟩]
  have u7 : ∀ X, upB B r 7 X r 7 = X := fun X => by rw [upB_at, if_pos ⟨rfl, rfl⟩]
  unfold F_X8_scanWord
  by_cases q : rnW isLt T (n - s) s - s ≤ 8
  · refine ⟨m_up R r 8 (wdR (lN (pkN T s (rnW isLt T (n - s) s - s)))), ?_, fun a ha => ?_, fun k hk => ?_, ?_⟩
    · rw [x_pL_ok (Kx _ _ _), x4_sL, m_let_eq, e5, m_let_eq, x_gI_ok (Kx _ _ _), x_gI_ok (Kx _ _ _), x4_I, u3, u2, nI_sub' b1.1, if_neg (show ¬ (8 : Int32) < nI (rnW isLt T (n - s) s - s) from nI_nlt (a := 8) q (by omega))]
      dsimp only
      rw [x_pI_ok (Kx _ _ _), x4_sI, x_gI_ok (Kx _ _ _), x4_I, u4, if_pos rfl, x_gL_ok (Kx _ _ _), x4_L, u7, x_bd_ok S_wfind, x_pR_ok (Kx _ _ _), x4_sR, if_pos q]
      rfl
    · funext j; rw [upR_at, if_neg (fun z => ha z.1)]
    · rw [upR_at, if_neg (fun z => hk z.2)]
    · rw [upR_at, if_pos ⟨rfl, rfl⟩, if_pos q]
  · refine ⟨R, ?_, fun _ _ => rfl, fun _ _ => rfl, ?_⟩
    · rw [x_pL_ok (Kx _ _ _), x4_sL, m_let_eq, e5, m_let_eq, x_gI_ok (Kx _ _ _), x_gI_ok (Kx _ _ _), x4_I, u3, u2, nI_sub' b1.1, if_pos (show (8 : Int32) < nI (rnW isLt T (n - s) s - s) from nI_lt (a := 8) (by omega) (by omega))]
      dsimp only
      rw [x_pI_ok (Kx _ _ _), x4_sI, x_gI_ok (Kx _ _ _), x4_I, u4, if_neg (by decide), if_neg q]
      rfl
    · rw [if_neg q]; exact h8
theorem S_scanNumber (hr : RdC kd r M) (hn : n ≤ 1000) {A : IA} {B : Nat → Nat → Int64} {R : Nat → Nat → Option Nat} (hR : R r 0 = some 1) {s : Nat} (hs : s < n) (h1 : A r 1 = nI n) (h2 : A r 2 = nI s) (h3 : A r 3 = nI s) (hx : TX T n (A 1)) :
    ∃ A', F_X8_scanNumber kd r (m_x4 M A B R) = some ((), m_x4 M A' B R) ∧ (∀ a, a ≠ r → A' a = A a) ∧ (∀ k, k ≠ 3 → k ≠ 4 → k ≠ 5 → A' r k = A r k) ∧ A' r 3 = nI (rnW isDg T (n - s) s) ∧ A' r 4 = nI (if rnW isDg T (n - s) s - s ≤ 4 then 3 else 1) ∧ A' r 5 = nI (nmN T s (rnW isDg T (n - s) s - s)) := by
  have hr' := hr
  obtain ⟨K, _, K1, L1, r1⟩ := hr'
  have Kx : ∀ A B R, m_K (m_x4 M A B R) r = kd := fun A B R => K
  have b1 := rnW_le (P := isDg) (T := T) (n - s) s
  have e5 := fun k68 => S_num5 hr hn (B := B) hR (s := s) (k68 := k68) (n - s) s m_FU (m_up A r 5 0) (by omega) (by omega) (m_FU_lt (by omega)) (by rw [up_at, if_neg (by omega)]; exact h1) (by rw [up_at, if_neg (by omega)]; exact h3) (by rw [up_at, if_pos ⟨rfl, rfl⟩, Nat.sub_self]; rfl) (by rw [up_fr (by omega)]; exact hx)
  unfold F_X8_scanNumber
  rw [x_pI_ok (Kx _ _ _), x4_sI, m_let_eq]
  obtain ⟨A1, e, e1, e2, e3, e4⟩ := e5 (fun (v1 : Nat) (M2 : m_M) =>
    x_gI kd M2 v1 3 fun v2 =>
    x_gI kd M2 v1 2 fun v3 =>
    if (4 : Int32) < (v2 - v3) then (
      x_pI kd M2 v1 4 (1 : Int32) fun M3 =>
      some ((), M3)
    ) else
    x_pI kd M2 v1 4 (3 : Int32) fun M4 =>
    some ((), M4))
  have e22 : A1 r 2 = nI s := by
    rw [e2 2 (by omega) (by omega), up_at, if_neg (by omega)]
    exact h2
  rw [e, x_gI_ok (Kx _ _ _), x_gI_ok (Kx _ _ _), x4_I, e3, e22, nI_sub' b1.1]
  by_cases q : rnW isDg T (n - s) s - s ≤ 4
  · rw [if_neg (show ¬ (4 : Int32) < nI (rnW isDg T (n - s) s - s) from nI_nlt (a := 4) q (by omega)), x_pI_ok (Kx _ _ _), x4_sI, if_pos q]
    exact ⟨_, rfl, fun a ha => by rw [up_fr ha, e1 a ha, up_fr ha], fun k h3 h4 h5 => by rw [up_at, if_neg (fun z => h4 z.2), e2 k h3 h5, up_at, if_neg (fun z => h5 z.2)], by rw [up_at, if_neg (by omega)]; exact e3, by rw [up_at, if_pos ⟨rfl, rfl⟩]; rfl, by rw [up_at, if_neg (by omega)]; exact e4⟩
  · rw [if_pos (show (4 : Int32) < nI (rnW isDg T (n - s) s - s) from nI_lt (a := 4) (by omega) (by omega)), x_pI_ok (Kx _ _ _), x4_sI, if_neg q]
    exact ⟨_, rfl, fun a ha => by rw [up_fr ha, e1 a ha, up_fr ha], fun k h3 h4 h5 => by rw [up_at, if_neg (fun z => h4 z.2), e2 k h3 h5, up_at, if_neg (fun z => h5 z.2)], by rw [up_at, if_neg (by omega)]; exact e3, by rw [up_at, if_pos ⟨rfl, rfl⟩]; rfl, by rw [up_at, if_neg (by omega)]; exact e4⟩
/-- the class goes on to the next token -/
theorem S_adv (hr : RdC kd r M) (hn : n ≤ 1000) (hx : TX T n (m_I M 1)) {q : Nat} (hq : q ≤ n) (h1 : m_I M r 1 = nI n) (h3 : m_I M r 3 = nI q) : ∃ M', F_X8_advance kd r M = some ((), M') ∧ TC T n r (tokAt T n q) M' ∧ tkF r M M' ∧ m_I M' r 9 = m_I M r 9 := by
  have hr' := hr
  obtain ⟨K, R0, K1, L1, r1⟩ := hr'
  have Kx : ∀ A B R, m_K (m_x4 M A B R) r = kd := fun A B R => K
  have K1x : ∀ A B R, m_K (m_x4 M A B R) 1 = 11 := fun A B R => K1
  have L1x : ∀ A B R, m_len (m_x4 M A B R) 1 = 1000 := fun A B R => L1
  have e0 : F_X8_skipBlanks kd r M = some ((), m_x4 M (m_up (m_I M) r 3 (nI (rnW isBl T (n - q) q))) (m_L M) (m_R M)) := S_skip0 hr hn (B := m_L M) R0 (n - q) q m_FU (m_I M) (by omega) (m_FU_lt (by omega)) h1 h3 hx
  have hs := rnW_le (P := isBl) (T := T) (n - q) q
  unfold tokAt
  generalize rnW isBl T (n - q) q = s at e0 hs ⊢
  have R8 : m_up (m_R M) r 8 none r 0 = some 1 := by rw [upR_at, if_neg (by omega)]; exact R0
  have R88 : m_up (m_R M) r 8 none r 8 = none := by rw [upR_at, if_pos ⟨rfl, rfl⟩]
  have Rn : ∀ {R' : Nat → Nat → Option Nat}, (∀ a, a ≠ r → R' a = m_up (m_R M) r 8 none a) → (∀ k, k ≠ 8 → R' r k = m_up (m_R M) r 8 none r k) → (∀ a, a ≠ r → R' a = m_R M a) ∧ ∀ k, k ≠ 8 → R' r k = m_R M r k := fun {R'} h1 h2 => ⟨fun a ha => by rw [h1 a ha]; funext j; rw [upR_at, if_neg (fun z => ha z.1)], fun k hk => by rw [h2 k hk, upR_at, if_neg (fun z => hk z.2)]⟩
  obtain ⟨Rn1, Rn2⟩ := Rn (R' := m_up (m_R M) r 8 none) (fun _ _ => rfl) (fun _ _ => rfl)
  have a1 : m_up (m_up (m_I M) r 3 (nI s)) r 2 (nI s) r 1 = nI n := by rw [up_at, if_neg (by omega), up_at, if_neg (by omega)]; exact h1
  have a2 : m_up (m_up (m_I M) r 3 (nI s)) r 2 (nI s) r 2 = nI s := by rw [up_at, if_pos ⟨rfl, rfl⟩]
  have a3 : m_up (m_up (m_I M) r 3 (nI s)) r 2 (nI s) r 3 = nI s := by rw [up_at, if_neg (by omega), up_at, if_pos ⟨rfl, rfl⟩]
  have ao : ∀ k, k ≠ 2 → k ≠ 3 → m_up (m_up (m_I M) r 3 (nI s)) r 2 (nI s) r k = m_I M r k := fun k h2 h3 => by rw [up_at, if_neg (fun z => h2 z.2), up_at, if_neg (fun z => h3 z.2)]
  have af : ∀ a, a ≠ r → m_up (m_up (m_I M) r 3 (nI s)) r 2 (nI s) a = m_I M a := fun a ha => by rw [up_fr ha, up_fr ha]
  have ax : TX T n (m_up (m_up (m_I M) r 3 (nI s)) r 2 (nI s) 1) := by rw [af 1 (by omega)]; exact hx
  have p3 : m_up (m_I M) r 3 (nI s) r 3 = nI s := by rw [up_at, if_pos ⟨rfl, rfl⟩]
  generalize hA : m_up (m_up (m_I M) r 3 (nI s)) r 2 (nI s) = A at a1 a2 a3 ao af ax
  unfold F_X8_advance
  rw [x_cV_ok K e0, x_gI_ok (Kx _ _ _), x4_I, p3, x_pI_ok (Kx _ _ _), x4_sI, hA, x_pR_ok (Kx _ _ _), x4_sR, x_gI_ok (Kx _ _ _), x4_I, a2, x_gI_ok (Kx _ _ _), x4_I, a1]
  unfold tokF
  by_cases c : s < n
  · obtain ⟨t1, t2⟩ := ax.lt c
    rw [if_pos (nI_lt c (by omega)), if_pos c, x_gN_ok (Kx _ _ _) (show m_R (m_x4 M A (m_L M) (m_up (m_R M) r 8 none)) r 0 = some 1 from R8), x_gI_ok (Kx _ _ _), x4_I, a2, x_aI_ok (K1x _ _ _) (by rw [L1x]; omega) (by omega), x4_I, t1, x_bd_ok (S_isLetter t2)]
    by_cases w : isLt (T s) = true
    · obtain ⟨R', e, e1, e2, e3⟩ := S_scanWord hr hn (B := m_L M) (R := m_up (m_R M) r 8 none) R8 c a1 a2 a3 ax R88
      obtain ⟨f1, f2⟩ := Rn e1 e2
      rw [w, if_neg (by decide), x_cV_ok (Kx _ _ _) e, if_pos rfl]
      refine ⟨_, rfl, ⟨⟨?_, ?_, ?_, ?_⟩, fun h => ⟨?_, ?_⟩, fun h => ?_, fun h => ?_, fun h => ?_⟩, ⟨rfl, fun a ha => ⟨?_, ?_, f1 a ha⟩, fun k hk => ?_, fun k hk => ?_, f2⟩, ?_⟩
      · rw [x4_I, up_at, if_neg (by omega), up_at, if_neg (by omega)]; exact a1
      · rw [x4_I, up_at, if_neg (by omega), up_at, if_neg (by omega)]; exact a2
      · rw [x4_I, up_at, if_neg (by omega), up_at, if_pos ⟨rfl, rfl⟩]
      · rw [x4_I, up_at, if_pos ⟨rfl, rfl⟩]
      · rw [x4_L, upB_at, if_pos ⟨rfl, rfl⟩]
      · have h' : (if rnW isLt T (n - s) s - s ≤ 8 then 2 else 1) = 2 := h
        rw [x4_R, e3]
        split at h'
        · rename_i z; rw [if_pos z]
        · omega
      · have h' : (if rnW isLt T (n - s) s - s ≤ 8 then 2 else 1) = 3 := h
        split at h' <;> omega
      · have h' : (if rnW isLt T (n - s) s - s ≤ 8 then 2 else 1) = 4 := h
        split at h' <;> omega
      · have h' : (if rnW isLt T (n - s) s - s ≤ 8 then 2 else 1) ≠ 2 := h
        rw [x4_R, e3]
        split at h'
        · exact absurd rfl h'
        · rename_i z; rw [if_neg z]
      · rw [x4_I, up_fr ha, up_fr ha, af a ha]
      · rw [x4_L, upB_fr ha]
      · rw [x4_I, up_at, if_neg (by omega), up_at, if_neg (by omega), ao k (by omega) (by omega)]
      · rw [x4_L, upB_at, if_neg (fun z => hk z.2)]
      · rw [x4_I, up_at, if_neg (by omega), up_at, if_neg (by omega), ao 9 (by omega) (by omega)]
    · rw [Bool.eq_false_iff.mpr w, if_pos (by decide), if_neg (by decide), x_gN_ok (Kx _ _ _) (show m_R (m_x4 M A (m_L M) (m_up (m_R M) r 8 none)) r 0 = some 1 from R8), x_gI_ok (Kx _ _ _), x4_I, a2, x_aI_ok (K1x _ _ _) (by rw [L1x]; omega) (by omega), x4_I, t1, x_bd_ok (S_isDigit t2)]
      by_cases dg : isDg (T s) = true
      · obtain ⟨A', e, e1, e2, e3, e4, e5⟩ := S_scanNumber hr hn (B := m_L M) (R := m_up (m_R M) r 8 none) R8 c a1 a2 a3 ax
        rw [dg, if_neg (by decide), x_cV_ok (Kx _ _ _) e, if_pos rfl]
        refine ⟨_, rfl, ⟨⟨?_, ?_, ?_, ?_⟩, fun h => ?_, fun h => ?_, fun h => ?_, fun h => ?_⟩, ⟨rfl, fun a ha => ⟨?_, rfl, Rn1 a ha⟩, fun k hk => ?_, fun _ _ => rfl, Rn2⟩, ?_⟩
        · rw [x4_I, e2 1 (by omega) (by omega) (by omega)]; exact a1
        · rw [x4_I, e2 2 (by omega) (by omega) (by omega)]; exact a2
        · rw [x4_I]; exact e3
        · rw [x4_I]; exact e4
        · have h' : (if rnW isDg T (n - s) s - s ≤ 4 then 3 else 1) = 2 := h
          split at h' <;> omega
        · rw [x4_I]; exact e5
        · have h' : (if rnW isDg T (n - s) s - s ≤ 4 then 3 else 1) = 4 := h
          split at h' <;> omega
        · rw [x4_R]; exact R88
        · rw [x4_I, e1 a ha, af a ha]
        · rw [x4_I, e2 k (by omega) (by omega) (by omega), ao k (by omega) (by omega)]
        · rw [x4_I, e2 9 (by omega) (by omega) (by omega), ao 9 (by omega) (by omega)]
      · have p6 : m_up A r 6 (nI (T s)) r 6 = nI (T s) := by rw [up_at, if_pos ⟨rfl, rfl⟩]
        have xc : ∀ {β : Type} {f : Option β}, x_c (nI (T s)) f = f := fun {β f} => by
          rw [x_c_eq, if_pos ⟨nI_pos' (by omega), by rw [nI_cl (by omega)]; omega⟩]
        rw [Bool.eq_false_iff.mpr dg, if_pos (by decide), if_neg (by decide), m_let_eq, x_gN_ok (Kx _ _ _) (show m_R (m_x4 M A (m_L M) (m_up (m_R M) r 8 none)) r 0 = some 1 from R8), x_gI_ok (Kx _ _ _), x4_I, a2, x_aI_ok (K1x _ _ _) (by rw [L1x]; omega) (by omega), x4_I, t1, xc, x_pI_ok (Kx _ _ _), x4_sI, x_gI_ok (Kx _ _ _), x4_I, p6, x_bd_ok (S_isSign t2)]
        have a2' : ∀ X Y, m_up (m_up A r 6 X) r 4 Y r 2 = nI s := fun X Y => by rw [up_at, if_neg (by omega), up_at, if_neg (by omega)]; exact a2
        have fin : ∀ v : Nat, (v = 1 ∨ v = 4) → ∃ M', (x_pI kd (m_x4 M (m_up A r 6 (nI (T s))) (m_L M) (m_up (m_R M) r 8 none)) r 4 (nI v) fun M7 =>
            x_gI kd M7 r 2 fun v15 =>
            x_pI kd M7 r 3 (v15 + (1 : Int32)) fun M8 =>
            some ((), M8)) = some ((), M') ∧ TC T n r (s, s + 1, v, 0, 0) M' ∧ tkF r M M' ∧ m_I M' r 9 = m_I M r 9 := by
          intro v hv
          rw [x_pI_ok (Kx _ _ _), x4_sI, x_gI_ok (Kx _ _ _), x4_I, a2', x_pI_ok (Kx _ _ _), nI_1, x4_sI]
          refine ⟨_, rfl, ⟨⟨?_, ?_, ?_, ?_⟩, fun h => ?_, fun h => ?_, fun h => ?_, fun h => ?_⟩, ⟨rfl, fun a ha => ⟨?_, rfl, Rn1 a ha⟩, fun k hk => ?_, fun _ _ => rfl, Rn2⟩, ?_⟩
          · rw [x4_I, up_at, if_neg (by omega), up_at, if_neg (by omega), up_at, if_neg (by omega)]; exact a1
          · rw [x4_I, up_at, if_neg (by omega), up_at, if_neg (by omega), up_at, if_neg (by omega)]; exact a2
          · rw [x4_I, up_at, if_pos ⟨rfl, rfl⟩]
          · rw [x4_I, up_at, if_neg (by omega), up_at, if_pos ⟨rfl, rfl⟩]
          · have h' : v = 2 := h
            omega
          · have h' : v = 3 := h
            omega
          · rw [x4_I, up_at, if_neg (by omega), up_at, if_neg (by omega), up_at, if_pos ⟨rfl, rfl⟩]
          · rw [x4_R]; exact R88
          · rw [x4_I, up_fr ha, up_fr ha, up_fr ha, af a ha]
          · rw [x4_I, up_at, if_neg (by omega), up_at, if_neg (by omega), up_at, if_neg (by omega), ao k (by omega) (by omega)]
          · rw [x4_I, up_at, if_neg (by omega), up_at, if_neg (by omega), up_at, if_neg (by omega), ao 9 (by omega) (by omega)]
        by_cases sg : isSg (T s) = true
        · rw [sg, if_neg (by decide), if_pos rfl]
          exact fin 4 (by omega)
        · rw [Bool.eq_false_iff.mpr sg, if_pos (by decide), if_neg (by decide)]
          exact fin 1 (by omega)
  · rw [if_neg (nI_nlt (by omega) (by omega)), if_neg c, x_pI_ok (Kx _ _ _), x4_sI]
    refine ⟨_, rfl, ⟨⟨?_, ?_, ?_, ?_⟩, fun h => ?_, fun h => ?_, fun h => ?_, fun h => ?_⟩, ⟨rfl, fun a ha => ⟨?_, rfl, Rn1 a ha⟩, fun k hk => ?_, fun _ _ => rfl, Rn2⟩, ?_⟩
    · rw [x4_I, up_at, if_neg (by omega)]; exact a1
    · rw [x4_I, up_at, if_neg (by omega)]; exact a2
    · rw [x4_I, up_at, if_neg (by omega)]; exact a3
    · rw [x4_I, up_at, if_pos ⟨rfl, rfl⟩]; rfl
    · have h' : (0 : Nat) = 2 := h
      omega
    · have h' : (0 : Nat) = 3 := h
      omega
    · have h' : (0 : Nat) = 4 := h
      omega
    · rw [x4_R]; exact R88
    · rw [x4_I, up_fr ha, af a ha]
    · rw [x4_I, up_at, if_neg (by omega), ao k (by omega) (by omega)]
    · rw [x4_I, up_at, if_neg (by omega), ao 9 (by omega) (by omega)]
theorem S_open (hr : RdC kd r M) (hn : n ≤ 1000) (hx : TX T n (m_I M 1)) : ∃ M', F_X8_open kd r (nI n) M = some ((), M') ∧ TC T n r (tokAt T n 0) M' ∧ tkF r M M' ∧ m_I M' r 9 = nI 0 := by
  have hr' := hr
  obtain ⟨K, R0, K1, L1, r1⟩ := hr'
  have Kx : ∀ A B R, m_K (m_x4 M A B R) r = kd := fun A B R => K
  have em : F_J9_min_7cf53 (nI n) (nI 1000) M = some (nI n, M) := by
    unfold F_J9_min_7cf53
    by_cases q : n = 1000
    · rw [q]; rfl
    · rw [if_neg (nI_nlt (by omega) (by omega))]
  have hf : tkF r M (m_x4 M (m_up (m_up (m_up (m_I M) r 1 (nI n)) r 3 (nI 0)) r 9 (nI 0)) (m_L M) (m_R M)) := ⟨rfl, fun a ha => ⟨by rw [x4_I, up_fr ha, up_fr ha, up_fr ha], rfl, rfl⟩, fun k hk => by rw [x4_I, up_at, if_neg (by omega), up_at, if_neg (by omega), up_at, if_neg (by omega)], fun _ _ => rfl, fun _ _ => rfl⟩
  obtain ⟨M', e, e1, e2, e3⟩ := S_adv (hf.Rd hr) hn (hf.X r1 hx) (q := 0) (by omega) (by rw [x4_I, up_at, if_neg (by omega), up_at, if_neg (by omega), up_at, if_pos ⟨rfl, rfl⟩]) (by rw [x4_I, up_at, if_neg (by omega), up_at, if_pos ⟨rfl, rfl⟩])
  refine ⟨M', ?_, e1, hf.trans e2, by rw [e3, x4_I, up_at, if_pos ⟨rfl, rfl⟩]⟩
  unfold F_X8_open
  rw [x_gN_ok K R0, x_len_ok K1, L1, x_bd_ok em, x_pI_ok K, show ∀ v, m_sI M r 1 v = m_x4 M (m_up (m_I M) r 1 v) (m_L M) (m_R M) from fun _ => rfl, x_pI_ok (Kx _ _ _), x4_sI, x_pI_ok (Kx _ _ _), x4_sI, show (0 : Int32) = nI 0 from rfl, x_cV_ok (Kx _ _ _) e]
end CADV
