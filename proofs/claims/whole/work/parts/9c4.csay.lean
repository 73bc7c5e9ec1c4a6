/-! sayable: the class -/
theorem wd_ex {p : Nat} (hp : 0 < p) : ∀ (n : Nat) (g : Nat → Nat), (∀ i, i < n → g i < p) → ∃ w, w < p ^ n ∧ ∀ i, i < n → w / p ^ i % p = g i := by
  intro n
  induction n with
  | zero => intro g _; exact ⟨0, by rw [Nat.pow_zero]; omega, fun i hi => absurd hi (by omega)⟩
  | succ n ih =>
    intro g hg
    obtain ⟨w, h1, h2⟩ := ih g (fun i hi => hg i (by omega))
    have h3 := hg n (by omega)
    refine ⟨w + p ^ n * g n, ?_, fun i hi => ?_⟩
    · rw [Nat.pow_succ]
      have : p ^ n * (g n + 1) ≤ p ^ n * p := Nat.mul_le_mul_left _ (by omega)
      rw [Nat.mul_add] at this
      omega
    · by_cases z : i = n
      · rw [z, Nat.add_mul_div_left _ _ (Nat.pow_pos hp), Nat.div_eq_of_lt h1, Nat.zero_add, Nat.mod_eq_of_lt h3]
      · have e : p ^ n = p ^ i * (p * p ^ (n - i - 1)) := by
          rw [← Nat.mul_assoc, ← Nat.pow_succ, ← Nat.pow_add]
          congr 1
          omega
        rw [← h2 i (by omega), e, Nat.mul_assoc, Nat.add_mul_div_left _ _ (Nat.pow_pos hp), Nat.mul_assoc, Nat.add_mul_mod_self_left]
theorem wd_l {l : Ld} (ho : lOk l) (g : Nat → Nat) (hg : ∀ t, t < lH l 1 → g t < lH l 0) : ∃ w, w < wN l ∧ ∀ t, t < lH l 1 → whr l w t = g t := by
  obtain ⟨w, h1, h2⟩ := wd_ex (p := lH l 0) (by have := ho.1.1; omega) (lH l 1) (fun i => g (lH l 1 - 1 - i)) (fun i hi => hg _ (by omega))
  refine ⟨w, h1, fun t ht => ?_⟩
  unfold whr
  rw [h2 _ (by omega)]
  congr 1
  omega
def ob (v : Nat) (b : Bool) (x : Nat) : Nat := if b then x ||| 2 ^ v else x
theorem ob_ob {v x : Nat} {a b : Bool} : ob v a (ob v b x) = ob v (b || a) x := by
  cases a <;> cases b
  · rfl
  · rfl
  · rfl
  · show (x ||| 2 ^ v) ||| 2 ^ v = x ||| 2 ^ v
    rw [Nat.or_assoc, Nat.or_self]
def wBt (p : Nat) (e : Bool) (k : Nat) : Bool := decide (k / 4 < p) && (decide (k % 4 < p) && (!e || decide (k / 4 = k % 4)))
def wT (p : Nat) (e : Bool) : Nat := knN (wBt p e) 16
def sPT (p : Nat) (e o : Bool) (a : Nat) : Nat := knN (fun k => wBt p e k && decide ((if o then k % 4 else k / 4) = a)) 16
def sNT (p : Nat) (e o : Bool) (a : Nat) : Nat := knN (fun k => wBt p e k && !decide ((if o then k % 4 else k / 4) = a)) 16
theorem tD0 : ∀ p, p < 5 → ((((((((1 : Int32) <<< (nI p &&& 31)) - (1 : Int32)) ||| ((((1 : Int32) <<< (nI p &&& 31)) - (1 : Int32)) <<< ((4 : Int32) &&& 31))) ||| ((((1 : Int32) <<< (nI p &&& 31)) - (1 : Int32)) <<< ((8 : Int32) &&& 31))) ||| ((((1 : Int32) <<< (nI p &&& 31)) - (1 : Int32)) <<< ((12 : Int32) &&& 31))) &&& (((1 : Int32) <<< (((4 : Int32) * nI p) &&& 31)) - (1 : Int32))) = nI (wT p false) ∧ nI (wT p false) &&& (33825 : Int32) = nI (wT p true)) := by decide +kernel
theorem tD1 : ∀ p, p < 5 → ∀ a, a < 4 → ∀ e, (((15 : Int32) <<< (((4 : Int32) * nI a) &&& 31)) &&& nI (wT p e) = nI (sPT p e false a) ∧ ((4369 : Int32) <<< (nI a &&& 31)) &&& nI (wT p e) = nI (sPT p e true a)) := by decide +kernel
theorem tD3 : ∀ p, p < 5 → ∀ a, a < 4 → ∀ e o, nI (wT p e) &&& (nI (sPT p e o a) ^^^ (-1 : Int32)) = nI (sNT p e o a) := by decide +kernel
theorem tw_iff {T p : Nat} {e : Bool} {g : Nat → Bool} : (nI T &&& nI (wT p e) = nI (knN (fun k => wBt p e k && g k) 16)) ↔ ∀ k, k < 16 → wBt p e k = true → T.testBit k = g k := by
  have hW : wT p e < 2 ^ 16 := knN_lt 16
  have hS : knN (fun k => wBt p e k && g k) 16 < 2 ^ 16 := knN_lt 16
  have hTW : T &&& wT p e < 2 ^ 16 := Nat.lt_of_le_of_lt Nat.and_le_right hW
  rw [nI_and, nI_eq (by omega) (by omega)]
  constructor
  · intro h k hk hw
    have h2 : (T &&& wT p e).testBit k = (knN (fun k => wBt p e k && g k) 16).testBit k := by rw [h]
    unfold wT at h2
    rw [Nat.testBit_and, knN_bit, knN_bit, decide_eq_true hk, hw] at h2
    simpa using h2
  · intro h
    refine Nat.eq_of_testBit_eq (fun k => ?_)
    unfold wT
    rw [Nat.testBit_and, knN_bit, knN_bit]
    by_cases hk : k < 16
    · rw [decide_eq_true hk]
      cases hw : wBt p e k
      · simp
      · rw [h k hk hw]; simp
    · rw [decide_eq_false hk]; simp
def siy (l : Ld) (v c t p : Nat) : Bool := mC l (fun w => decide (whr l w t = p)) c (some v) || mC l (fun w => !decide (whr l w t = p)) c (some v)
def noB (l : Ld) (v c j : Nat) : Bool := decide (j % 4 < lH l 0) && (decide (j / 4 = c / 20 / 4 ∨ j / 4 = c % 20 / 4) && siy l v c (j / 4) (j % 4))
section CSAY
variable {M M' : m_M} {l : Ld}
theorem t_sem (ho : lOk l) {c : Nat} (hc : ccOk l c = true) {v : Option Nat} {g : Nat → Bool} : (∀ k, k < 16 → wBt (lH l 0) (decide (c / 20 / 4 = c % 20 / 4)) k = true → tbl l v (partN (c / 20)) (partN (c % 20)) k = g k) ↔ mC l (fun w => g (4 * whr l w (c / 20 / 4) + whr l w (c % 20 / 4))) c v = true := by
  obtain ⟨h1, h2, h3⟩ := ccOk_iff.mp hc
  obtain ⟨q1, _, _⟩ := partN_p (show c / 20 < 20 by omega)
  obtain ⟨q2, _, _⟩ := partN_p (show c % 20 < 20 by omega)
  have h4 := ho.1.2
  have hc2 : ∀ w, cby l v c w = tbl l v (partN (c / 20)) (partN (c % 20)) (4 * whr l w (c / 20 / 4) + whr l w (c % 20 / 4)) := fun w => by
    unfold cby
    rw [hby_tbl ho, q1, q2]
  have hf : c / 20 / 4 < lH l 1 := h2.1
  have hs : c % 20 / 4 < lH l 1 := h3.1
  unfold mC
  rw [decide_eq_true_iff]
  constructor
  · intro h w hw
    have w1 := whr_lt ho w (c / 20 / 4)
    have w2 := whr_lt ho w (c % 20 / 4)
    rw [hc2]
    refine h _ (by omega) ?_
    unfold wBt
    rw [show (4 * whr l w (c / 20 / 4) + whr l w (c % 20 / 4)) / 4 = whr l w (c / 20 / 4) by omega, show (4 * whr l w (c / 20 / 4) + whr l w (c % 20 / 4)) % 4 = whr l w (c % 20 / 4) by omega, decide_eq_true w1, decide_eq_true w2]
    by_cases e : c / 20 / 4 = c % 20 / 4
    · rw [e]; simp
    · rw [decide_eq_false e]; rfl
  · intro h k hk hw
    unfold wBt at hw
    rw [Bool.and_eq_true, Bool.and_eq_true, decide_eq_true_iff, decide_eq_true_iff] at hw
    obtain ⟨b1, b2, b3⟩ := hw
    obtain ⟨w, y1, y2⟩ := wd_l ho (fun t => if t = c / 20 / 4 then k / 4 else if t = c % 20 / 4 then k % 4 else 0) (fun t ht => by
      split
      · exact b1
      · split
        · exact b2
        · omega)
    have z1 := y2 _ hf
    have z2 := y2 _ hs
    rw [if_pos rfl] at z1
    have z3 : whr l w (c % 20 / 4) = k % 4 := by
      rw [z2]
      by_cases e : c % 20 / 4 = c / 20 / 4
      · rw [if_pos e]
        rw [decide_eq_true e.symm] at b3
        simpa using b3
      · rw [if_neg e, if_pos rfl]
    have := h w y1
    dsimp only at this
    rw [hc2, z1, z3, show 4 * (k / 4) + k % 4 = k by omega] at this
    exact this
theorem ite2 {β : Type} {p q : Prop} [Decidable p] [Decidable q] {a b : Bool} {x y : β} (h1 : p ↔ a = true) (h2 : q ↔ b = true) : (if p then x else if q then x else y) = if (a || b) = true then x else y := by
  by_cases hp : p
  · rw [if_pos hp, h1.mp hp, Bool.true_or, if_pos rfl]
  · rw [if_neg hp]
    have ha : a = false := by cases a; rfl; exact absurd (h1.mpr rfl) hp
    rw [ha, Bool.false_or]
    by_cases hq : q
    · rw [if_pos hq, if_pos (h2.mp hq)]
    · rw [if_neg hq, if_neg (fun z => hq (h2.mpr z))]
theorem fin_cells2 (h : G M) : m_R M 67 4 = some 68 ∧ m_K M 68 = 12 ∧ m_len M 68 = 20 := by
  refine ⟨?_, ?_, ?_⟩ <;> simp only [gK h, gR h, gl h]
theorem S_ns56 (h : G M) (ho : lOk l) {v c : Nat} (hv : v < lH l 3) (hc : ccOk l c = true) {X : Int32} (hX : ∀ o a, a < lH l 0 → (X = nI (sPT (lH l 0) (decide (c / 20 / 4 = c % 20 / 4)) o a) ↔ mC l (fun w => decide (whr l w (if o then c % 20 / 4 else c / 20 / 4) = a)) c (some v) = true) ∧ (X = nI (sNT (lH l 0) (decide (c / 20 / 4 = c % 20 / 4)) o a) ↔ mC l (fun w => !decide (whr l w (if o then c % 20 / 4 else c / 20 / 4) = a)) c (some v) = true)) : ∀ (d k f : Nat) (g : Nat → Nat) (A : IA), k + d = lH l 0 → d < f → LCi l A → (∀ j, j < 20 → A 68 j = nI (g j)) →
    ∃ A', F_X2_noteSayable_56 f 67 (nI v) (nI (c / 20 / 4)) (nI (c % 20 / 4)) (nI (wT (lH l 0) (decide (c / 20 / 4 = c % 20 / 4)))) X (nI k) (m_wA M A) = some ((), m_wA M A') ∧ (∀ a, a ≠ 68 → A' a = A a) ∧ ∀ j, j < 20 → A' 68 j = nI (ob v (decide (k ≤ j % 4) && noB l v c j) (g j)) := by
  obtain ⟨h1, h2, h3⟩ := ccOk_iff.mp hc
  have h4 := ho.1.2
  have h5 := ho.2.1
  have h6 := ho.2.2.2.1
  have hf : c / 20 / 4 < lH l 1 := h2.1
  have hs : c % 20 / 4 < lH l 1 := h3.1
  generalize hff : c / 20 / 4 = fi at *
  generalize hss : c % 20 / 4 = se at *
  have hB : ∀ j, noB l v c j = (decide (j % 4 < lH l 0) && (decide (j / 4 = fi ∨ j / 4 = se) && siy l v c (j / 4) (j % 4))) := fun j => by unfold noB; rw [hff, hss]
  have K67 : ∀ A, m_K (m_wA M A) 67 = 2 := fun A => by simp only [wA_K, gK h]
  have R5 : ∀ A, m_R (m_wA M A) 67 5 = some 2 := fun A => by simp only [wA_R, gR h]
  have K2 : ∀ A, m_K (m_wA M A) 2 = 3 := fun A => by simp only [wA_K, gK h]
  have R4 : ∀ A, m_R (m_wA M A) 67 4 = some 68 := fun A => by simp only [wA_R, gR h]
  have K68 : ∀ A, m_K (m_wA M A) 68 = 12 := fun A => by simp only [wA_K, gK h]
  have L68 : ∀ A, m_len (m_wA M A) 68 = 20 := fun A => by simp only [wA_n, gl h]
  intro d
  induction d with
  | zero =>
    intro k f g A hk hf2 hl hg
    obtain ⟨f, rfl⟩ : ∃ f', f = f' + 1 := ⟨f - 1, by omega⟩
    refine ⟨A, ?_, fun _ _ => rfl, fun j hj => ?_⟩
    · rw [F_X2_noteSayable_56, x_gN_ok (K67 _) (R5 _), x_gI_ok (K2 _), wA_I, hl.1.1, if_pos (nI_le (by omega) (by omega))]
    · rw [hB, hg j hj]
      by_cases z : j % 4 < lH l 0
      · rw [decide_eq_false (p := k ≤ j % 4) (by omega)]; rfl
      · rw [decide_eq_false z, Bool.false_and, Bool.and_false]; rfl
  | succ d ih =>
    intro k f g A hk hf2 hl hg
    obtain ⟨f, rfl⟩ : ∃ f', f = f' + 1 := ⟨f - 1, by omega⟩
    -- an update of one cell
    have up1 : ∀ (t : Nat) (b : Bool) (g : Nat → Nat) (A : IA), t < lH l 1 → (∀ j, j < 20 → A 68 j = nI (g j)) → ∃ A1 : IA, (A1 = if b then m_up A 68 (t * 4 + k) (nI (g (t * 4 + k) ||| 2 ^ v)) else A) ∧ (∀ a, a ≠ 68 → A1 a = A a) ∧ ∀ j, j < 20 → A1 68 j = nI (ob v (decide (j = t * 4 + k) && b) (g j)) := by
      intro t b g A ht hg
      refine ⟨_, rfl, ?_, ?_⟩
      · intro a ha
        cases b
        · rfl
        · rw [if_pos rfl]
          funext j
          rw [up_at, if_neg (fun y => ha y.1)]
      · intro j hj
        cases b
        · rw [Bool.and_false, if_neg (by decide)]
          exact hg j hj
        · rw [Bool.and_true, if_pos rfl, up_at]
          by_cases z : j = t * 4 + k
          · rw [if_pos ⟨rfl, z⟩, decide_eq_true z, z]; rfl
          · rw [if_neg (fun y => z y.2), decide_eq_false z]
            exact hg j hj
    obtain ⟨A1, a1, a2, a3⟩ := up1 fi (siy l v c fi k) g A hf hg
    obtain ⟨A2, b1, b2, b3⟩ := up1 se (siy l v c se k) _ A1 hs a3
    obtain ⟨A', e, e1, e2⟩ := ih (k + 1) f _ A2 (by omega) (by omega) (hl.cong (fun a _ ha => by rw [b2 a (by omega), a2 a (by omega)])) b3
    refine ⟨A', ?_, fun a ha => by rw [e1 a ha, b2 a ha, a2 a ha], fun j hj => ?_⟩
    · obtain ⟨x1, x2⟩ := hX false k (by omega)
      obtain ⟨x3, x4⟩ := hX true k (by omega)
      obtain ⟨y1, y2⟩ := tD1 (lH l 0) (by omega) k (by omega) (decide (fi = se))
      have y3 := tD3 (lH l 0) (by omega) k (by omega) (decide (fi = se)) false
      have y4 := tD3 (lH l 0) (by omega) k (by omega) (decide (fi = se)) true
      rw [F_X2_noteSayable_56, x_gN_ok (K67 _) (R5 _), x_gI_ok (K2 _), wA_I, hl.1.1, if_neg (nI_ge (by omega) (by omega))]
      refine m_let_e ?_
      intro k132 h132
      refine m_let_e ?_
      intro k115 h115
      rw [x_gN_ok (K67 _) (R5 _), x_cV_ok (K2 _) (show F_X3_firstAt 2 (nI k) (m_wA M A) = _ from rfl), m_let_eq, x_gN_ok (K67 _) (R5 _), x_cV_ok (K2 _) (show F_X3_secondAt 2 (nI k) (m_wA M A) = _ from rfl), m_let_eq, y1, y2, y3]
      -- what comes behind the first
      have snd : ∀ A, A = A1 → k132 67 (nI v) (nI fi) (nI se) (nI (wT (lH l 0) (decide (fi = se)))) X (nI k) (nI (sPT (lH l 0) (decide (fi = se)) true k)) (m_wA M A) = some ((), m_wA M A') := by
        rintro _ rfl
        rw [h132]
        dsimp only
        refine m_let_e ?_
        intro k169 h169
        refine m_let_e ?_
        intro k151 h151
        rw [y4, ite2 x3 x4]
        have fin : ∀ A, A = A2 → k169 67 (nI v) (nI fi) (nI se) (nI (wT (lH l 0) (decide (fi = se)))) X (nI k) (m_wA M A) = some ((), m_wA M A') := by
          rintro _ rfl
          rw [h169]
          dsimp only
          rw [m_let_eq, nI_1]
          exact e
        show (if siy l v c se k = true then _ else _) = _
        cases q : siy l v c se k
        · rw [if_neg (by decide)]
          exact fin _ (by rw [b1, q]; rfl)
        · rw [if_pos rfl, h151]
          dsimp only
          rw [x_gN_ok (K67 _) (R4 _), show (4 : Int32) = nI 4 from rfl, nI_mul, nI_add, x_aI_ok (K68 _) (by rw [L68]; omega) (by omega), wA_I, a3 _ (by omega), show (1 : Int32) = nI 1 from rfl, nI_shl (by omega), Nat.one_mul, nI_or, x_sI_ok (K68 _) (by rw [L68]; omega) (by omega), wA_s]
          exact fin _ (by rw [b1, q, if_pos rfl])
      rw [ite2 x1 x2]
      show (if siy l v c fi k = true then _ else _) = _
      cases q : siy l v c fi k
      · rw [if_neg (by decide)]
        exact snd _ (by rw [a1, q]; rfl)
      · rw [if_pos rfl, h115]
        dsimp only
        rw [x_gN_ok (K67 _) (R4 _), show (4 : Int32) = nI 4 from rfl, nI_mul, nI_add, x_aI_ok (K68 _) (by rw [L68]; omega) (by omega), wA_I, hg _ (by omega), show (1 : Int32) = nI 1 from rfl, nI_shl (by omega), Nat.one_mul, nI_or, x_sI_ok (K68 _) (by rw [L68]; omega) (by omega), wA_s]
        exact snd _ (by rw [a1, q, if_pos rfl])
    · rw [e2 j hj, ob_ob, ob_ob]
      congr 2
      rw [hB]
      by_cases z : j % 4 = k
      · rw [z, decide_eq_false (p := k + 1 ≤ k) (by omega), decide_eq_true (p := k ≤ k) (by omega), decide_eq_true (p := k < lH l 0) (by omega)]
        by_cases z1 : j / 4 = fi
        · rw [z1, decide_eq_true (p := j = fi * 4 + k) (by omega), decide_eq_true (p := fi = fi ∨ fi = se) (.inl rfl)]
          by_cases z2 : fi = se
          · rw [z2]; cases decide (j = se * 4 + k) <;> cases siy l v c se k <;> rfl
          · rw [decide_eq_false (p := j = se * 4 + k) (by omega)]; cases siy l v c fi k <;> rfl
        · rw [decide_eq_false (p := j = fi * 4 + k) (by omega)]
          by_cases z2 : j / 4 = se
          · rw [z2, decide_eq_true (p := j = se * 4 + k) (by omega), decide_eq_true (p := se = fi ∨ se = se) (.inr rfl)]; cases siy l v c se k <;> rfl
          · rw [decide_eq_false (p := j = se * 4 + k) (by omega), decide_eq_false (p := j / 4 = fi ∨ j / 4 = se) (by omega)]; rfl
      · rw [decide_eq_false (p := j = fi * 4 + k) (by omega), decide_eq_false (p := j = se * 4 + k) (by omega)]
        by_cases z1 : k ≤ j % 4
        · rw [decide_eq_true z1, decide_eq_true (p := k + 1 ≤ j % 4) (by omega)]; simp
        · rw [decide_eq_false z1, decide_eq_false (p := k + 1 ≤ j % 4) (by omega)]; rfl
theorem S_note (h : G M) (ho : lOk l) {v c : Nat} (hv : v < lH l 3) (hc : ccOk l c = true) {g : Nat → Nat} {A : IA} (hl : LCi l A) (hg : ∀ j, j < 20 → A 68 j = nI (g j)) :
    ∃ A', F_X2_noteSayable 67 (nI c) (nI v) (m_wA M A) = some ((), m_wA M A') ∧ (∀ a, a ≠ 68 → A' a = A a) ∧ ∀ j, j < 20 → A' 68 j = nI (ob v (noB l v c j) (g j)) := by
  obtain ⟨h1, h2, h3⟩ := ccOk_iff.mp hc
  have h4 := ho.1.2
  have h5 := ho.2.1
  obtain ⟨q1, _, _⟩ := partN_p (show c / 20 < 20 by omega)
  obtain ⟨q2, _, _⟩ := partN_p (show c % 20 < 20 by omega)
  have hf : c / 20 / 4 < lH l 1 := h2.1
  have hs : c % 20 / 4 < lH l 1 := h3.1
  have K67 : ∀ A, m_K (m_wA M A) 67 = 2 := fun A => by simp only [wA_K, gK h]
  have R5 : ∀ A, m_R (m_wA M A) 67 5 = some 2 := fun A => by simp only [wA_R, gR h]
  have K2 : ∀ A, m_K (m_wA M A) 2 = 3 := fun A => by simp only [wA_K, gK h]
  have e1 := S_firstThing (M := m_wA M A) h hl ho hc
  have e2 := S_secondThing (M := m_wA M A) h hl ho hc
  obtain ⟨T, e3, e4, e5⟩ := S_clauseTable (M := m_wA M A) h hl ho hc (v := some v) (fun j hj => by cases hj; exact hv)
  have e3' : F_X3_clauseTable 2 (nI c) (nI v) (m_wA M A) = some (nI T, m_wA M A) := e3
  rw [q1] at e1
  rw [q2] at e2
  have wt : F_X3_wholeTable 2 (if nI (c / 20 / 4) = nI (c % 20 / 4) then (1 : Int32) else 0) (m_wA M A) = some (nI (wT (lH l 0) (decide (c / 20 / 4 = c % 20 / 4))), m_wA M A) := by
    obtain ⟨d1, d2⟩ := tD0 (lH l 0) (by omega)
    by_cases e : c / 20 / 4 = c % 20 / 4
    · rw [show (if nI (c / 20 / 4) = nI (c % 20 / 4) then (1 : Int32) else 0) = 1 from if_pos (by rw [e])]
      unfold F_X3_wholeTable
      rw [x_gI_ok (K2 _), wA_I, hl.1.1, m_let_eq, m_let_eq, x_gI_ok (K2 _), wA_I, hl.1.1, m_let_eq, d1, if_neg (by decide), d2, decide_eq_true e]
    · rw [show (if nI (c / 20 / 4) = nI (c % 20 / 4) then (1 : Int32) else 0) = 0 from if_neg (fun z => e ((nI_eq (by omega) (by omega)).mp z))]
      unfold F_X3_wholeTable
      rw [x_gI_ok (K2 _), wA_I, hl.1.1, m_let_eq, m_let_eq, x_gI_ok (K2 _), wA_I, hl.1.1, m_let_eq, d1, if_pos rfl, decide_eq_false e]
  have hX : ∀ (o : Bool) (a : Nat), a < lH l 0 → (nI T &&& nI (wT (lH l 0) (decide (c / 20 / 4 = c % 20 / 4))) = nI (sPT (lH l 0) (decide (c / 20 / 4 = c % 20 / 4)) o a) ↔ mC l (fun w => decide (whr l w (if o then c % 20 / 4 else c / 20 / 4) = a)) c (some v) = true) ∧ (nI T &&& nI (wT (lH l 0) (decide (c / 20 / 4 = c % 20 / 4))) = nI (sNT (lH l 0) (decide (c / 20 / 4 = c % 20 / 4)) o a) ↔ mC l (fun w => !decide (whr l w (if o then c % 20 / 4 else c / 20 / 4) = a)) c (some v) = true) := by
    intro o a ha
    have hk : ∀ w, (4 * whr l w (c / 20 / 4) + whr l w (c % 20 / 4)) / 4 = whr l w (c / 20 / 4) ∧ (4 * whr l w (c / 20 / 4) + whr l w (c % 20 / 4)) % 4 = whr l w (c % 20 / 4) := fun w => by
      have := whr_lt ho w (c % 20 / 4)
      omega
    constructor
    · unfold sPT
      rw [tw_iff]
      have := t_sem ho hc (v := some v) (g := fun k => decide ((if o then k % 4 else k / 4) = a))
      have e6 : (fun w => decide (whr l w (if o then c % 20 / 4 else c / 20 / 4) = a)) = (fun w => decide ((if o then (4 * whr l w (c / 20 / 4) + whr l w (c % 20 / 4)) % 4 else (4 * whr l w (c / 20 / 4) + whr l w (c % 20 / 4)) / 4) = a)) := by
        funext w
        rw [(hk w).1, (hk w).2]
        cases o <;> rfl
      rw [e6, ← this]
      exact ⟨fun y k h1 h2 => by rw [← e5]; exact y k h1 h2, fun y k h1 h2 => by rw [e5]; exact y k h1 h2⟩
    · unfold sNT
      rw [tw_iff]
      have := t_sem ho hc (v := some v) (g := fun k => !decide ((if o then k % 4 else k / 4) = a))
      have e6 : (fun w => !decide (whr l w (if o then c % 20 / 4 else c / 20 / 4) = a)) = (fun w => !decide ((if o then (4 * whr l w (c / 20 / 4) + whr l w (c % 20 / 4)) % 4 else (4 * whr l w (c / 20 / 4) + whr l w (c % 20 / 4)) / 4) = a)) := by
        funext w
        rw [(hk w).1, (hk w).2]
        cases o <;> rfl
      rw [e6, ← this]
      exact ⟨fun y k h1 h2 => by rw [← e5]; exact y k h1 h2, fun y k h1 h2 => by rw [e5]; exact y k h1 h2⟩
  obtain ⟨A', u, u1, u2⟩ := S_ns56 h ho hv hc hX (lH l 0) 0 m_FU g A (by omega) (m_FU_lt (by omega)) hl hg
  refine ⟨A', ?_, u1, fun j hj => by rw [u2 j hj, decide_eq_true (Nat.zero_le _), Bool.true_and]⟩
  have u' : F_X2_noteSayable_56 m_FU 67 (nI v) (nI (c / 20 / 4)) (nI (c % 20 / 4)) (nI (wT (lH l 0) (decide (c / 20 / 4 = c % 20 / 4)))) (nI T &&& nI (wT (lH l 0) (decide (c / 20 / 4 = c % 20 / 4)))) (0 : Int32) (m_wA M A) = _ := u
  unfold F_X2_noteSayable
  refine m_let_e ?_
  intro K1 hK1
  rw [x_gN_ok (K67 _) (R5 _), x_cV_ok (K2 _) e1, x_gN_ok (K67 _) (R5 _), x_cV_ok (K2 _) e2, x_gN_ok (K67 _) (R5 _)]
  have fin : ∀ y : Int32, y = (if nI (c / 20 / 4) = nI (c % 20 / 4) then (1 : Int32) else 0) → K1 67 (nI c) (nI v) (nI (c / 20 / 4)) (nI (c % 20 / 4)) 2 y (m_wA M A) = some ((), m_wA M A') := by
    rintro _ rfl
    rw [hK1]
    dsimp only
    rw [x_cV_ok (K2 _) wt, x_gN_ok (K67 _) (R5 _), x_cV_ok (K2 _) e3', m_let_eq, u']
  by_cases e : nI (c / 20 / 4) = nI (c % 20 / 4)
  · rw [if_pos e]
    exact fin _ (by rw [if_pos e])
  · rw [if_neg e]
    exact fin _ (by rw [if_neg e])
end CSAY
