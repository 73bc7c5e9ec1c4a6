/-! clash -/
theorem anN_all {g : Nat → Bool} : ∀ {n : Nat}, anN n g = true ↔ ∀ i, i < n → g i = true := by
  intro n
  induction n with
  | zero => exact ⟨fun _ i hi => absurd hi (Nat.not_lt_zero _), fun _ => rfl⟩
  | succ n ih =>
    constructor
    · intro h i hi
      have h' : (anN n g && g n) = true := h
      rw [Bool.and_eq_true] at h'
      by_cases e : i = n
      · rw [e]; exact h'.2
      · exact ih.mp h'.1 i (by omega)
    · intro h
      show (anN n g && g n) = true
      rw [Bool.and_eq_true]
      exact ⟨ih.mpr (fun i hi => h i (by omega)), h n (by omega)⟩
theorem anN_cong {g g' : Nat → Bool} : ∀ {n : Nat}, (∀ i, i < n → g i = g' i) → anN n g = anN n g' := by
  intro n
  induction n with
  | zero => intro _; rfl
  | succ n ih =>
    intro h
    show (anN n g && g n) = (anN n g' && g' n)
    rw [ih (fun i hi => h i (by omega)), h n (by omega)]
/-- the best set so far of those below k: fewest bits, then the least -/
def clF (bad : Nat → Bool) : Nat → Option Nat
  | 0 => none
  | k + 1 => match clF bad k with
    | none => if bad k then some k else none
    | some b => if bct k < bct b ∧ bad k = true then some k else some b
theorem clF_lt {bad : Nat → Bool} : ∀ {k b : Nat}, clF bad k = some b → b < k := by
  intro k
  induction k with
  | zero => intro b h; simp [clF] at h
  | succ k ih =>
    intro b h
    simp only [clF] at h
    cases hq : clF bad k with
    | none =>
      rw [hq] at h
      dsimp only at h
      split at h
      · have := Option.some.inj h; omega
      · simp at h
    | some b' =>
      rw [hq] at h
      dsimp only at h
      have := ih hq
      split at h
      · have := Option.some.inj h; omega
      · have := Option.some.inj h; omega
theorem clF_some {bad : Nat → Bool} {k : Nat} (h : bad k = true) : ∃ b, clF bad (k + 1) = some b := by
  simp only [clF]
  cases clF bad k with
  | none => exact ⟨k, by dsimp only; rw [if_pos h]⟩
  | some b =>
    dsimp only
    split
    · exact ⟨k, rfl⟩
    · exact ⟨b, rfl⟩
theorem bct_le (n : Nat) : bct n ≤ 12 := cnt_le _ _
def fwO : Option Nat → Nat
  | none => 13
  | some b => bct b
theorem clF_c {bad : Nat → Bool} {k : Nat} : clF bad (k + 1) = if bct k < fwO (clF bad k) ∧ bad k = true then some k else clF bad k := by
  simp only [clF]
  cases clF bad k with
  | none =>
    have h13 : bct k < fwO none := by have := bct_le k; show bct k < 13; omega
    show (if bad k then some k else none) = _
    cases hb : bad k
    · rw [if_neg (by simp), if_neg (by simp)]
    · rw [if_pos rfl, if_pos ⟨h13, rfl⟩]
  | some b => rfl
section CLASH
variable {M : m_M} {s : St} {l : Ld} {t : Tl}
theorem S_ln19 (h : G M) {set k day : Nat} (hs : set < 2147483648) (hk : k < 16) (ht : TlC l t 80 M) {st : Nat} {K : Nat → Nat → Int32 → Int32 → Int64 → m_M → Option (Int32 × m_M)} : ∀ (d i f : Nat) (x : Int64), i + d = t.1.1 → d < f → (∀ j, j < 64 → lb x j = (decide (64 * k + j < wN l) && (lefO l t day t.2.1 (64 * k + j) && anN i (fun i => !set.testBit i || bdS l (t.1.2 i) (64 * k + j))))) →
    ∃ x', F_X1_leavesNothing_19 K f 80 st (nI set) (nI k) x (nI i) M = K 80 st (nI set) (nI k) x' M ∧ ∀ j, j < 64 → lb x' j = (decide (64 * k + j < wN l) && lefP l t day set (64 * k + j)) := by
  obtain ⟨K0, R9, K80, R7, R8, K82, L82, K83, L83, R12, R2, K2, W90⟩ := bk_cells h
  have hb := ht.1.1
  have early : ∀ (i : Nat) (x : Int64), i ≤ t.1.1 → x = 0 → (∀ j, j < 64 → lb x j = (decide (64 * k + j < wN l) && (lefO l t day t.2.1 (64 * k + j) && anN i (fun i => !set.testBit i || bdS l (t.1.2 i) (64 * k + j))))) → ∀ j, j < 64 → lb x j = (decide (64 * k + j < wN l) && lefP l t day set (64 * k + j)) := by
    intro i x hi hx hj j hj2
    have h1 := hj j hj2
    rw [hx, lb_0] at h1 ⊢
    unfold lefP
    cases q : (decide (64 * k + j < wN l) && (lefO l t day t.2.1 (64 * k + j) && anN t.1.1 (fun i => !set.testBit i || bdS l (t.1.2 i) (64 * k + j))))
    · rfl
    · rw [Bool.and_eq_true, Bool.and_eq_true] at q
      have q3 := anN_all.mp q.2.2
      have q4 : anN i (fun i => !set.testBit i || bdS l (t.1.2 i) (64 * k + j)) = true := anN_all.mpr (fun i' hi' => q3 i' (by omega))
      rw [q.1, q.2.1, q4] at h1
      exact h1
  intro d
  induction d with
  | zero =>
    intro i f x hd hf hx
    obtain ⟨f, rfl⟩ : ∃ f', f = f' + 1 := ⟨f - 1, by omega⟩
    refine ⟨x, ?_, fun j hj => ?_⟩
    · rw [F_X1_leavesNothing_19, x_gI_ok K80, ht.2.1.1, if_pos (nI_le (a := t.1.1) (b := i) (by omega) (by omega))]
      split <;> rfl
    · rw [hx j hj, show i = t.1.1 by omega]; rfl
  | succ d ih =>
    intro i f x hd hf hx
    obtain ⟨f, rfl⟩ : ∃ f', f = f' + 1 := ⟨f - 1, by omega⟩
    rw [F_X1_leavesNothing_19]
    by_cases h0 : x = 0
    · refine ⟨x, ?_, early i x (by omega) h0 hx⟩
      rw [if_pos ((lg_cmp_eq _ _).mpr h0)]
    · rw [if_neg (fun z => h0 ((lg_cmp_eq _ _).mp z)), x_gI_ok K80, ht.2.1.1, if_neg (nI_ge (by omega) (by omega)), m_let_eq]
      obtain ⟨r, e1, ⟨r178, Kr, fr, st', la, hf1, _, hr3, hws, s178, l178, hrow⟩, _⟩ := S_saidAt h ht (i := i) (by omega)
      rw [x_cV_ok K80 e1, x_nul_some]
      have hb2 : set / 2 ^ i < 2147483648 := Nat.lt_of_le_of_lt (Nat.div_le_self _ _) hs
      rw [nI_shr hs (by omega), show (1 : Int32) = nI 1 from rfl, nI_m1]
      by_cases q : set.testBit i = true
      · have hq : set / 2 ^ i % 2 = 1 := by rw [tb_div] at q; simpa using q
        obtain ⟨x', e, hx'⟩ := ih (i + 1) f (x &&& m_L M la k) (by omega) (by omega) (fun j hj => by
          rw [lb_and, hx j hj, hrow k hk j hj]
          show _ = (decide (64 * k + j < wN l) && (lefO l t day t.2.1 (64 * k + j) && (anN i (fun i => !set.testBit i || bdS l (t.1.2 i) (64 * k + j)) && (!set.testBit i || bdS l (t.1.2 i) (64 * k + j)))))
          rw [q]
          cases decide (64 * k + j < wN l) <;> cases lefO l t day t.2.1 (64 * k + j) <;> cases anN i (fun i => !set.testBit i || bdS l (t.1.2 i) (64 * k + j)) <;> simp)
        refine ⟨x', ?_, hx'⟩
        rw [hq, if_neg (by decide), x_gN_ok Kr hr3, x_gN_ok hws.1 hws.2.1, x_aL_ok hws.2.2.1 (by rw [hws.2.2.2]; exact hk) (by omega), m_let_eq]
        dsimp only
        rw [m_let_eq, nI_add, e]
      · have hq : set / 2 ^ i % 2 = 0 := by
          rw [tb_div] at q
          have : ¬ set / 2 ^ i % 2 = 1 := by simpa using q
          omega
        obtain ⟨x', e, hx'⟩ := ih (i + 1) f x (by omega) (by omega) (fun j hj => by
          rw [hx j hj]
          show _ = (decide (64 * k + j < wN l) && (lefO l t day t.2.1 (64 * k + j) && (anN i (fun i => !set.testBit i || bdS l (t.1.2 i) (64 * k + j)) && (!set.testBit i || bdS l (t.1.2 i) (64 * k + j)))))
          rw [show set.testBit i = false by simpa using q]
          simp)
        refine ⟨x', ?_, hx'⟩
        rw [hq, if_pos (by decide)]
        dsimp only
        rw [m_let_eq, nI_add, e]
theorem S_leavesNothing (h : G M) (ho : lOk l) {set day : Nat} (hs : set < 2147483648) (ht : TlC l t 80 M) (hL : Rw (wN l) (lefO l t day t.2.1) (m_L M 91)) : F_X1_leavesNothing 80 90 (nI set) M = some (if cnt (lefP l t day set) (wN l) = 0 then nI 1 else nI 0, M) := by
  have hn := wN_le ho
  obtain ⟨K0, R9, K80, R7, R8, K82, L82, K83, L83, R12, R2, K2, W90⟩ := bk_cells h
  have hb := ht.1.1
  unfold F_X1_leavesNothing
  refine up_0 (fun f k (_ : Unit) => F_X1_leavesNothing_2 f 80 90 (nI set) (nI k) M = some (if cnt (lefP l t day set) (wN l) = 0 then nI 1 else nI 0, M)) 16 (fun k (_ : Unit) => ∀ w, w < 64 * k → w < wN l → lefP l t day set w = false) (by omega) (s := ()) (fun w hw => absurd hw (by omega)) ?_ ?_
  · intro f k _ hk hs2 ih
    rw [F_X1_leavesNothing_2, if_neg (show ¬ (16 : Int32) ≤ nI k from nI_ge (b := 16) hk (by omega)), x_gN_ok W90.1 W90.2.1, x_aL_ok W90.2.2.1 (by rw [W90.2.2.2]; exact hk) (by omega)]
    refine m_let_e ?_
    intro K hK
    obtain ⟨x', e, hx'⟩ := S_ln19 (day := day) (st := 90) (K := K) h hs hk ht t.1.1 0 m_FU (m_L M 91 k) (by omega) (m_FU_lt (by omega)) (fun j hj => by rw [hL k hk j hj]; show _ = (_ && (_ && true)); rw [Bool.and_true])
    have e' : F_X1_leavesNothing_19 K m_FU 80 90 (nI set) (nI k) (m_L M 91 k) (0 : Int32) M = K 80 90 (nI set) (nI k) x' M := e
    rw [e', hK]
    dsimp only
    by_cases q : x' = 0
    · rw [if_pos ((lg_cmp_eq _ _).mpr q), m_let_eq, nI_1]
      refine ih () (fun w hw hwn => ?_)
      by_cases z : w < 64 * k
      · exact hs2 w z hwn
      · have := hx' (w - 64 * k) (by omega)
        rw [q, lb_0, show 64 * k + (w - 64 * k) = w by omega, decide_eq_true hwn] at this
        simpa using this.symm
    · rw [if_neg (fun z => q ((lg_cmp_eq _ _).mp z)), if_neg (fun z => q (lb_eq0.mpr (fun j hj => by
        rw [hx' j hj]
        by_cases y : 64 * k + j < wN l
        · rw [cnt_0.mp z _ y]; simp
        · rw [decide_eq_false y]; rfl)))]
      rfl
  · intro f _ hs2
    rw [F_X1_leavesNothing_2, if_pos (by decide), if_pos (cnt_0.mpr (fun w hw => hs2 w (by omega) hw))]
    rfl
theorem shl1 {n : Nat} (hn : n < 31) : (1 : Int32) <<< (nI n &&& (31 : Int32)) = nI (2 ^ n) := by
  rw [show (1 : Int32) = nI 1 from rfl, nI_shl (by omega), Nat.one_mul]
theorem pow12 {n : Nat} (h : n ≤ 12) : 2 ^ n ≤ 4096 := Nat.pow_le_pow_right (by omega) h
def badS (s : St) (set : Nat) : Bool := decide (cnt (lefP s.2.1 s.2.2.1.2.1 s.2.2.1.1 set) (wN s.2.1) = 0)
theorem C_clash_l (h : INV s M) (hL : Rw (wN s.2.1) (lefO s.2.1 s.2.2.1.2.1 s.2.2.1.1 s.2.2.1.2.1.2.1) (m_L M 91)) : F_X11_clash_27 m_FU 0 (0 : Int32) (13 : Int32) (0 : Int32) M = some (match clF (badS s) (2 ^ s.2.2.1.2.1.1.1) with
    | none => nI 0
    | some b => nI b, M) := by
  have hb := h.bc.2.1.1.1
  have hp := pow12 hb
  refine up_0 (S := Int32 × Int32) (fun f k c => F_X11_clash_27 f 0 c.1 c.2 (nI k) M = some (match clF (badS s) (2 ^ s.2.2.1.2.1.1.1) with
    | none => nI 0
    | some b => nI b, M)) (2 ^ s.2.2.1.2.1.1.1) (fun k c => c.1 = (match clF (badS s) k with
    | none => nI 0
    | some b => nI b) ∧ c.2 = nI (fwO (clF (badS s) k))) (s := ((0 : Int32), (13 : Int32))) (by omega) ⟨rfl, rfl⟩ ?_ ?_
  · rintro f k ⟨c1, c2⟩ hk ⟨hc1, hc2⟩ ih
    dsimp only at hc1 hc2 ⊢
    have hfw : fwO (clF (badS s) k) ≤ 13 := by
      cases clF (badS s) k with
      | none => exact Nat.le_refl _
      | some b => exact Nat.le_trans (bct_le b) (by omega)
    have hbk := bct_le k
    rw [F_X11_clash_27, x_gN_ok h.C0 h.R9, x_gI_ok h.B80, h.bc.2.1.2.1.1, shl1 (by omega), if_neg (nI_ge hk (by omega)), m_let_eq, x_bd_ok (S_bitCount (by omega)), hc2]
    by_cases q : bct k < fwO (clF (badS s) k)
    · rw [if_neg (nI_ge q (by omega)), x_gN_ok h.C0 h.R9, x_gN_ok h.C0 h.R12, x_cV_ok h.B80 (S_leavesNothing h.1 h.lo (day := s.2.2.1.1) (by omega) h.bc.2.1 hL)]
      by_cases qb : cnt (lefP s.2.1 s.2.2.1.2.1 s.2.2.1.1 k) (wN s.2.1) = 0
      · have hcl : clF (badS s) (k + 1) = some k := by rw [clF_c, if_pos ⟨q, by unfold badS; rw [decide_eq_true qb]⟩]
        rw [if_pos qb, if_neg (by decide)]
        dsimp only
        rw [m_let_eq, nI_1]
        exact ih (nI k, nI (bct k)) ⟨by dsimp only; rw [hcl], by dsimp only; rw [hcl]; rfl⟩
      · have hcl : clF (badS s) (k + 1) = clF (badS s) k := by rw [clF_c, if_neg (fun z => by have := z.2; unfold badS at this; rw [decide_eq_false qb] at this; simp at this)]
        rw [if_neg qb, if_pos (by decide)]
        dsimp only
        rw [m_let_eq, nI_1]
        exact ih (c1, nI (fwO (clF (badS s) k))) ⟨by dsimp only; rw [hcl]; exact hc1, by dsimp only; rw [hcl]⟩
    · have hcl : clF (badS s) (k + 1) = clF (badS s) k := by rw [clF_c, if_neg (fun z => q z.1)]
      rw [if_pos (nI_le (by omega) (by omega))]
      dsimp only
      rw [m_let_eq, nI_1]
      exact ih (c1, nI (fwO (clF (badS s) k))) ⟨by dsimp only; rw [hcl]; exact hc1, by dsimp only; rw [hcl]⟩
  · rintro f ⟨c1, c2⟩ ⟨hc1, hc2⟩
    dsimp only at hc1 hc2 ⊢
    rw [F_X11_clash_27, x_gN_ok h.C0 h.R9, x_gI_ok h.B80, h.bc.2.1.2.1.1, shl1 (by omega), if_pos (nI_le (Nat.le_refl _) (by omega)), hc1]
theorem M_clash_l (h : INV s M) : ∃ B, F_X12_clash_26 m_FU 128 (-1 : Int32) (0 : Int32) M = some (iO (clF (badS s) (2 ^ s.2.2.1.2.1.1.1)), m_w2 M (m_I M) B) ∧ ∀ b, b ≠ 171 → B b = m_L M b := by
  have hn := wN_le h.lo
  have hb := h.bm.1.1.1
  have hp := pow12 hb
  have K0 : ∀ B, m_K (m_w2 M (m_I M) B) 128 = 10 := fun B => by rw [w2_K]; exact h.K0
  have R51 : ∀ B, m_R (m_w2 M (m_I M) B) 128 51 = some 161 := fun B => by simp only [w2_R, gR h.1]
  have R63 : ∀ B, m_R (m_w2 M (m_I M) B) 128 63 = some 171 := fun B => by simp only [w2_R, gR h.1]
  have X161 : ∀ B (g : Int32 → Option (Int32 × m_M)), x_aI 12 (m_w2 M (m_I M) B) 161 (0 : Int32) g = g (nI s.2.2.1.2.1.1.1) := fun B g => by
    rw [aI_lit (x := (0 : Int32)) (n := 0) (by simp only [w2_K, gK h.1]) (by rw [show m_len (m_w2 M (m_I M) B) 161 = 34 from by simp only [w2_n, gl h.1]]; omega) rfl (by omega), w2_I, show m_I M 161 0 = _ from h.bm.1.2.1.1]
  have key := up_l (S := Int32 × (Nat → Nat → Int64)) (fun f k c => ∃ B, F_X12_clash_26 f 128 c.1 (nI k) (m_w2 M (m_I M) c.2) = some (iO (clF (badS s) (2 ^ s.2.2.1.2.1.1.1)), m_w2 M (m_I M) B) ∧ ∀ b, b ≠ 171 → B b = m_L M b) (2 ^ s.2.2.1.2.1.1.1) (fun k c => c.1 = iO (clF (badS s) k) ∧ ∀ b, b ≠ 171 → c.2 b = m_L M b) ?_ ?_ (2 ^ s.2.2.1.2.1.1.1) 0 m_FU ((-1 : Int32), m_L M) (by omega) (m_FU_lt (by omega)) ⟨rfl, fun _ _ => rfl⟩
  · exact key
  · rintro f k ⟨c, B⟩ hk ⟨hc, hB⟩ ih
    dsimp only at hc hB ⊢
    have scB : SC M (m_w2 M (m_I M) B) := SC_w2' M (fun a ha => hB a (by unfold scL at ha; omega))
    have hB1 := scB.INV h
    rw [F_X12_clash_26, x_gN_ok (K0 _) (R51 _), X161, shl1 (by omega), if_neg (nI_ge hk (by omega))]
    refine m_let_P (fun o => ∃ B, o = some (iO (clF (badS s) (2 ^ s.2.2.1.2.1.1.1)), m_w2 M (m_I M) B) ∧ ∀ b, b ≠ 171 → B b = m_L M b) ?_
    intro k82 h82
    refine m_let_P (fun o => ∃ B, o = some (iO (clF (badS s) (2 ^ s.2.2.1.2.1.1.1)), m_w2 M (m_I M) B) ∧ ∀ b, b ≠ 171 → B b = m_L M b) ?_
    intro k56 h56
    -- trying a set
    have try1 : bct k < fwO (clF (badS s) k) → ∃ B', k56 128 c (nI k) (m_w2 M (m_I M) B) = some (iO (clF (badS s) (2 ^ s.2.2.1.2.1.1.1)), m_w2 M (m_I M) B') ∧ ∀ b, b ≠ 171 → B' b = m_L M b := by
      intro q
      obtain ⟨B1, e, e1, e2⟩ := S_laysLeft (M := M) (A := m_I M) (B := B) (t := s.2.2.1.2.1) (row := 171) (set := k) (day := s.2.2.1.1) h.1 h.lm h.lo (by simp only [gK h.1]) (by simp only [gl h.1]) (by omega) (by omega) (by have := h.bd.1; omega) h.bd.2.1 hB1.bm.1
      have scB1 : SC M (m_w2 M (m_I M) B1) := SC_w2' M (fun a ha => by unfold scL at ha; rw [e1 a (by omega), hB a (by omega)])
      have hB2 := scB1.INV h
      rw [h56]
      dsimp only
      rw [x_gN_ok (K0 _) (R63 _), x_gI_ok (K0 _), w2_I, h.md, x_cV_ok (K0 _) e, x_gN_ok (K0 _) (R63 _), x_cV_ok (K0 _) (S_isAny hB2.1 hB2.lm hB2.lo (row := 171) (len := 16) (by simp only [gK hB2.1]) (by simp only [gl hB2.1]) (by omega) (by omega) (show Rw _ _ (B1 171) from e2))]
      by_cases qb : cnt (lefP s.2.1 s.2.2.1.2.1 s.2.2.1.1 k) (wN s.2.1) = 0
      · have hcl : clF (badS s) (k + 1) = some k := by rw [clF_c, if_pos ⟨q, by unfold badS; rw [decide_eq_true qb]⟩]
        rw [if_pos qb, if_pos (by decide), h82]
        dsimp only
        rw [m_let_eq, nI_1]
        exact ih (nI k, B1) ⟨by dsimp only; rw [hcl]; rfl, fun b hb => by dsimp only; rw [e1 b hb, hB b hb]⟩
      · have hcl : clF (badS s) (k + 1) = clF (badS s) k := by rw [clF_c, if_neg (fun z => by have := z.2; unfold badS at this; rw [decide_eq_false qb] at this; simp at this)]
        rw [if_neg qb, if_neg (by decide), h82]
        dsimp only
        rw [m_let_eq, nI_1]
        exact ih (c, B1) ⟨by dsimp only; rw [hcl]; exact hc, fun b hb => by dsimp only; rw [e1 b hb, hB b hb]⟩
    cases hcl0 : clF (badS s) k with
    | none =>
      rw [hcl0] at hc try1
      rw [if_pos (show c < 0 from by rw [hc]; decide)]
      exact try1 (by have := bct_le k; show bct k < 13; omega)
    | some b =>
      have hbk := clF_lt hcl0
      have hb1 := bct_le k
      have hb2 := bct_le b
      rw [hcl0] at hc try1
      have hc' : c = nI b := hc
      rw [hc'] at try1 ⊢
      rw [if_neg (nI_pos (by omega)), x_bd_ok (S_bits (by omega)), x_bd_ok (S_bits (by omega))]
      by_cases q : bct k < bct b
      · rw [if_pos (nI_lt q (by omega))]
        exact try1 q
      · have hcl : clF (badS s) (k + 1) = some b := by rw [clF_c, hcl0, if_neg (fun z => q z.1)]
        rw [if_neg (nI_nlt (by omega) (by omega)), h82]
        dsimp only
        rw [m_let_eq, nI_1]
        exact ih (nI b, B) ⟨by dsimp only; rw [hcl]; rfl, hB⟩
  · rintro f ⟨c, B⟩ ⟨hc, hB⟩
    dsimp only at hc hB ⊢
    refine ⟨B, ?_, hB⟩
    rw [F_X12_clash_26, x_gN_ok (K0 _) (R51 _), X161, shl1 (by omega), if_pos (nI_le (Nat.le_refl _) (by omega)), hc]
theorem full_set {n i : Nat} (hi : i < n) : (2 ^ n - 1).testBit i = true := by
  rw [Nat.testBit_two_pow_sub_one]; simp [hi]
theorem clash_found (h : INV s M) (hz : cnt (lefN s) (wN s.2.1) = 0) : ∃ b, clF (badS s) (2 ^ s.2.2.1.2.1.1.1) = some b := by
  have hb := h.bc.2.1.1.1
  have hpos : 0 < 2 ^ s.2.2.1.2.1.1.1 := Nat.pow_pos (by omega)
  have : badS s (2 ^ s.2.2.1.2.1.1.1 - 1) = true := by
    unfold badS
    rw [decide_eq_true]
    rw [← hz]
    apply cnt_cong
    intro w _
    show (lefO _ _ _ _ _ && anN _ _) = (lefO _ _ _ _ _ && anN _ _)
    congr 1
    apply anN_cong
    intro i hi
    have h4095 : ∀ i, i < 12 → (4095 : Nat).testBit i = true := by decide
    rw [full_set hi, h4095 i (by omega)]
  have := clF_some this
  rw [show 2 ^ s.2.2.1.2.1.1.1 - 1 + 1 = 2 ^ s.2.2.1.2.1.1.1 by omega] at this
  exact this
theorem O_clash : RO s (F_X11_clash 0) (F_X12_clash 128) := by
  by_cases hz : cnt (lefN s) (wN s.2.1) = 0
  · refine ⟨iO (clF (badS s) (2 ^ s.2.2.1.2.1.1.1)), fun M h => ⟨?_, ?_⟩⟩
    · have hn := wN_le h.lo
      obtain ⟨g, e, e1⟩ := C_left h
      have h2 := SC_left (g := g) |>.INV h
      have hL : Rw (wN s.2.1) (lefN s) (m_L (m_wL M 91 g) 91) := e1.of (fun k _ => by rw [mL_wL, if_pos rfl])
      have E1 := S_isEmpty h2.W90 hn hL
      rw [if_pos hz] at E1
      obtain ⟨g2, f1, f2⟩ := S_fol h2.1 h2.lc h2.lo (by have := h2.bd.1; omega) h2.bc.1 h2.bd.2.1 h2.bc.2.1
      have h3 := SC_left (g := g2) |>.INV h2
      obtain ⟨b, hbb⟩ := clash_found h hz
      refine ⟨_, ?_, (SC_left (g := g)).trans (SC_left (g := g2))⟩
      unfold F_X11_clash
      rw [x_cV_ok h.C0 e, x_gN_ok h2.C0 h2.R12, x_cV_ok h2.W90.1 E1, if_neg (by decide), x_cV_ok h2.C0 f1, C_clash_l h3 (Rw.of (f := g2) f2 (fun k _ => by rw [mL_wL, if_pos rfl])), hbb]
      rfl
    · have h1 := h.thr 0
      obtain ⟨B, e, e1, e2⟩ := M_left h1
      have h2 := (SC_mleft e1).INV h1
      have E := S_isAny h2.1 h2.lm h2.lo (row := 170) (len := 16) (by simp only [gK h2.1]) (by simp only [gl h2.1]) (by omega) (by omega) (show Rw _ (lefN s) (B 170) from e2)
      rw [if_pos hz] at E
      obtain ⟨B2, f1, f2⟩ := M_clash_l h2
      refine ⟨_, ?_, ((SC_thr M 0).trans (SC_mleft e1)).trans (SC_w2' _ (fun a ha => f2 a (by unfold scL at ha; omega)))⟩
      unfold F_X12_clash
      rw [x_pI_ok h.K0, x_cV_ok h1.K0 e, x_gN_ok h2.K0 (r := 170) (by simp only [gR h2.1]), x_cV_ok h2.K0 E, if_pos (by decide), f1]
  · refine ⟨NO, fun M h => ⟨?_, ?_⟩⟩
    · have hn := wN_le h.lo
      obtain ⟨g, e, e1⟩ := C_left h
      have h2 := SC_left (g := g) |>.INV h
      have hL : Rw (wN s.2.1) (lefN s) (m_L (m_wL M 91 g) 91) := e1.of (fun k _ => by rw [mL_wL, if_pos rfl])
      have E1 := S_isEmpty h2.W90 hn hL
      rw [if_neg hz] at E1
      refine ⟨_, ?_, SC_left (g := g)⟩
      unfold F_X11_clash
      rw [x_cV_ok h.C0 e, x_gN_ok h2.C0 h2.R12, x_cV_ok h2.W90.1 E1, if_pos (by decide)]; rfl
    · have h1 := h.thr 0
      obtain ⟨B, e, e1, e2⟩ := M_left h1
      have h2 := (SC_mleft e1).INV h1
      have E := S_isAny h2.1 h2.lm h2.lo (row := 170) (len := 16) (by simp only [gK h2.1]) (by simp only [gl h2.1]) (by omega) (by omega) (show Rw _ (lefN s) (B 170) from e2)
      rw [if_neg hz] at E
      refine ⟨_, ?_, (SC_thr M 0).trans (SC_mleft e1)⟩
      unfold F_X12_clash
      rw [x_pI_ok h.K0, x_cV_ok h1.K0 e, x_gN_ok h2.K0 (r := 170) (by simp only [gR h2.1]), x_cV_ok h2.K0 E, if_neg (by decide)]; rfl
end CLASH
