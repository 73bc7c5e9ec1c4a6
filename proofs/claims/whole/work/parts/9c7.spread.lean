/-! two, shortest: what the class's finder does with literals -/
theorem nI_xor (x y : Nat) : nI x ^^^ nI y = nI (x ^^^ y) := by
  apply Int32.toBitVec_inj.mp
  rw [Int32.toBitVec_xor, nI_bv, nI_bv, nI_bv, BitVec.ofNat_xor]
theorem x1 : ∀ a, a < 800 → (a ^^^ 1) < 800 ∧ (a ^^^ 1) / 2 = a / 2 ∧ (a ^^^ 1) % 2 = 1 - a % 2 ∧ (a ^^^ 1) ^^^ 1 = a := by decide +kernel
def RwL (n : Nat) (P : Nat → Bool) (f : Nat → Int64) : Prop := ∀ k, 64 * k < n → ∀ j, j < 64 → lb (f k) j = (decide (64 * k + j < n) && P (64 * k + j))
theorem Rw.RwL {n : Nat} {P : Nat → Bool} {f : Nat → Int64} (h : Rw n P f) (hn : n ≤ 1024) : RwL n P f := fun k hk j hj => h k (by omega) j hj
theorem RwL.of {n : Nat} {P : Nat → Bool} {f g : Nat → Int64} (h : RwL n P f) (e : ∀ k, g k = f k) : RwL n P g := fun k hk j hj => by rw [e]; exact h k hk j hj
def LitC (l : Ld) (v : Option Nat) (r : Nat) (B : Nat → Nat → Int64) : Prop := ∀ c, c < 400 → ccOk l c = true → RwL (wN l) (cby l v c) (fun k => B r (16 * c + k))
theorem LitC.of {l : Ld} {v : Option Nat} {r : Nat} {B B' : Nat → Nat → Int64} (h : LitC l v r B) (e : B' r = B r) : LitC l v r B' := fun c hc hk => (h c hc hk).of (fun k => by rw [e])
/-- whether a literal holds in none of these worlds -/
def apB (l : Ld) (P Q : Nat → Bool) : Bool := decide (∀ w, w < wN l → (P w && Q w) = false)
theorem lT_x {l : Ld} {v : Option Nat} {a w : Nat} (ha : a < 800) : lT l v (a ^^^ 1) w = !lT l v a w := by
  obtain ⟨_, h1, h2, _⟩ := x1 a ha
  unfold lT
  rw [h1, h2]
  rcases Nat.mod_two_eq_zero_or_one a with q | q <;> rw [q] <;> cases cby l v (a / 2) w <;> rfl
def LsA (f : Nat → Int32) (i : Nat) (L : List Nat) : Prop := ∀ j, j < L.length → f (i + j) = nI (L.getD j 0)
theorem LsA.nil {f : Nat → Int32} {i : Nat} : LsA f i [] := fun j hj => absurd hj (Nat.not_lt_zero j)
theorem LsA.hd {f : Nat → Int32} {a i : Nat} {r : List Nat} (h : LsA f i (a :: r)) : f i = nI a := h 0 (Nat.succ_pos _)
theorem LsA.tl {f : Nat → Int32} {a i : Nat} {r : List Nat} (h : LsA f i (a :: r)) : LsA f (i + 1) r := fun j hj => by
  have := h (j + 1) (Nat.succ_lt_succ hj)
  rw [show i + 1 + j = i + (j + 1) by omega]
  exact this
theorem LsA.app {f : Nat → Int32} {a : Nat} {L : List Nat} {i : Nat} (h1 : LsA f i L) (h2 : f (i + L.length) = nI a) : LsA f i (L ++ [a]) := fun j hj => by
  have hl : (L ++ [a]).length = L.length + 1 := List.length_append
  by_cases z : j = L.length
  · rw [z, List.getD_eq_getElem?_getD, List.getElem?_append_right (Nat.le_refl _), Nat.sub_self]
    exact h2
  · rw [List.getD_eq_getElem?_getD, List.getElem?_append_left (by omega), ← List.getD_eq_getElem?_getD]
    exact h1 j (by omega)
theorem LsA.cong {f g : Nat → Int32} {L : List Nat} {i : Nat} (h1 : LsA f i L) (h2 : ∀ k, i ≤ k → k < i + L.length → g k = f k) : LsA g i L := fun j hj => by
  rw [h2 (i + j) (by omega) (by omega)]
  exact h1 j hj
section SPREAD
variable {M M' : m_M} {l : Ld} {v : Option Nat} {P : Nat → Bool}
theorem w2G (h : G M) (A : IA) (B : Nat → Nat → Int64) : G (m_w2 M A B) := h
theorem S_fwl (h : G M) (ho : lOk l) {A : IA} {B : Nat → Nat → Int64} (hl : LCi l A) {k : Nat} (hk : k < 16) : F_X3_wholeLong 2 (nI k) (m_w2 M A B) = some (wlL (wN l) k, m_w2 M A B) := by
  have K2 : m_K (m_w2 M A B) 2 = 3 := by simp only [w2_K, gK h]
  unfold F_X3_wholeLong
  rw [x_gI_ok K2, w2_I, hl.1.2.2.2.1, x_bd_ok (S_wl _ _ (wN_le ho) hk)]
theorem S_flongOf (h : G M) (ho : lOk l) {A : IA} {B : Nat → Nat → Int64} (hl : LCi l A) {r : Nat} (Kr : m_K M r = 13) (Lr : m_len M r = 6400) (hL : LitC l v r B) {a k : Nat} (ha : a < 800) (hc : ccOk l (a / 2) = true) (hk : 64 * k < wN l) :
    ∃ t, F_X2_longOf 67 r (nI a) (nI k) (m_w2 M A B) = some (t, m_w2 M A B) ∧ ∀ j, j < 64 → lb t j = (decide (64 * k + j < wN l) && lT l v a (64 * k + j)) := by
  have hn := wN_le ho
  have K67 : m_K (m_w2 M A B) 67 = 2 := by simp only [w2_K, gK h]
  have R5 : m_R (m_w2 M A B) 67 5 = some 2 := by simp only [w2_R, gR h]
  have K2 : m_K (m_w2 M A B) 2 = 3 := by simp only [w2_K, gK h]
  have hr := hL (a / 2) (by omega) hc k hk
  unfold F_X2_longOf
  rw [x_nz_eq, if_neg (by decide), show nI a / (2 : Int32) = nI (a / 2) from i32_div (b := 2) (by omega) (by omega), show (16 : Int32) = nI 16 from rfl, nI_mul, nI_add, x_aL_ok (by rw [w2_K]; exact Kr) (by rw [w2_n, Lr]; omega) (by omega), w2_L, x_nz_eq, if_neg (by decide), show nI a - nI (a / 2) * (2 : Int32) = nI (a % 2) from by rw [show (2 : Int32) = nI 2 from rfl, nI_mul, i32_rem2], Nat.mul_comm (a / 2) 16]
  by_cases q : a % 2 = 0
  · rw [q, if_pos (by decide)]
    refine ⟨_, rfl, fun j hj => ?_⟩
    rw [hr j hj]
    unfold lT
    rw [decide_eq_false (p := a % 2 = 1) (by omega)]
    simp
  · rw [if_neg (nI_nz q (by omega)), x_gN_ok K67 R5, x_cV_ok K2 (S_fwl h ho hl (by omega))]
    refine ⟨_, rfl, fun j hj => ?_⟩
    rw [lb_and, l_xor, lb_not _ hj, hr j hj, Rw.whole (wN l) k (by omega) j hj]
    unfold lT
    rw [decide_eq_true (p := a % 2 = 1) (by omega)]
    cases decide (64 * k + j < wN l) <;> cases cby l v (a / 2) (64 * k + j) <;> rfl
theorem S_isApart (h : G M) (ho : lOk l) {A : IA} {B : Nat → Nat → Int64} (hl : LCi l A) {r : Nat} (Kr : m_K M r = 13) (Lr : m_len M r = 6400) (hL : LitC l v r B) {a : Nat} (ha : a < 800) (hc : ccOk l (a / 2) = true) {st la : Nat} (hw : Ws M st la) (hP : RwL (wN l) P (B la)) :
    F_X2_isApart 67 st r (nI a) (m_w2 M A B) = some (bI (apB l P (lT l v a)), m_w2 M A B) := by
  have hn := wN_le ho
  have K67 : m_K (m_w2 M A B) 67 = 2 := by simp only [w2_K, gK h]
  have R5 : m_R (m_w2 M A B) 67 5 = some 2 := by simp only [w2_R, gR h]
  have K2 : m_K (m_w2 M A B) 2 = 3 := by simp only [w2_K, gK h]
  have I24 : A 2 4 = nI ((wN l + 63) / 64) := hl.1.2.2.2.2
  have w1 : m_K (m_w2 M A B) st = 8 := hw.1
  have w2 : m_R (m_w2 M A B) st 0 = some la := hw.2.1
  have w3 : m_K (m_w2 M A B) la = 13 := hw.2.2.1
  have w4 : m_len (m_w2 M A B) la = 16 := hw.2.2.2
  unfold F_X2_isApart
  have key : ∀ (d k f : Nat), k + d = (wN l + 63) / 64 → d < f → (∀ w, w < 64 * k → w < wN l → (P w && lT l v a w) = false) → F_X2_isApart_3 f 67 st r (nI a) (nI k) (m_w2 M A B) = some (bI (apB l P (lT l v a)), m_w2 M A B) := by
    intro d
    induction d with
    | zero =>
      intro k f hk hf hh
      obtain ⟨f, rfl⟩ : ∃ f', f = f' + 1 := ⟨f - 1, by omega⟩
      rw [F_X2_isApart_3, x_gN_ok K67 R5, x_gI_ok K2, w2_I, I24, if_pos (nI_le (by omega) (by omega))]
      unfold apB
      rw [decide_eq_true (fun w hw => hh w (by omega) hw)]
      rfl
    | succ d ih =>
      intro k f hk hf hh
      obtain ⟨f, rfl⟩ : ∃ f', f = f' + 1 := ⟨f - 1, by omega⟩
      have hp := hP k (by omega)
      have go : (∀ j, j < 64 → 64 * k + j < wN l → (P (64 * k + j) && lT l v a (64 * k + j)) = false) → F_X2_isApart_3 f 67 st r (nI a) (nI (k + 1)) (m_w2 M A B) = some (bI (apB l P (lT l v a)), m_w2 M A B) := fun y => ih (k + 1) f (by omega) (by omega) (fun w h1 h2 => by
        by_cases z : w < 64 * k
        · exact hh w z h2
        · have := y (w - 64 * k) (by omega) (by omega)
          rw [show 64 * k + (w - 64 * k) = w by omega] at this
          exact this)
      rw [F_X2_isApart_3, x_gN_ok K67 R5, x_gI_ok K2, w2_I, I24, if_neg (nI_ge (by omega) (by omega)), if_neg (show ¬ (16 : Int32) ≤ nI k from nI_ge (b := 16) (by omega) (by omega))]
      refine m_let_e ?_
      intro K1 hK1
      rw [x_gN_ok w1 w2, x_aL_ok w3 (by rw [w4]; omega) (by omega), w2_L]
      by_cases q : B la k = 0
      · rw [if_pos ((lg_cmp_eq _ _).mpr q), hK1]
        dsimp only
        rw [m_let_eq, nI_1]
        refine go (fun j hj h2 => ?_)
        have := hp j hj
        rw [q, lb_0, decide_eq_true h2, Bool.true_and] at this
        rw [← this]; rfl
      · obtain ⟨t, e, e1⟩ := S_flongOf h ho hl Kr Lr hL ha hc (k := k) (by omega)
        rw [if_neg (fun z => q ((lg_cmp_eq _ _).mp z)), x_gN_ok w1 w2, x_aL_ok w3 (by rw [w4]; omega) (by omega), w2_L, x_cV_ok K67 e]
        by_cases q2 : B la k &&& t = 0
        · rw [if_pos ((lg_cmp_eq _ _).mpr q2), hK1]
          dsimp only
          rw [m_let_eq, nI_1]
          refine go (fun j hj h2 => ?_)
          have : lb (B la k &&& t) j = false := by rw [q2, lb_0]
          rw [lb_and, hp j hj, e1 j hj, decide_eq_true h2, Bool.true_and, Bool.true_and] at this
          exact this
        · rw [if_neg (fun z => q2 ((lg_cmp_eq _ _).mp z))]
          unfold apB
          rw [decide_eq_false (fun z => q2 (lb_ext (fun j hj => by
            rw [lb_and, hp j hj, e1 j hj, lb_0]
            by_cases y : 64 * k + j < wN l
            · rw [decide_eq_true y, Bool.true_and, Bool.true_and]; exact z _ y
            · rw [decide_eq_false y]; rfl)))]
          rfl
  exact key ((wN l + 63) / 64) 0 m_FU (by omega) (m_FU_lt (by omega)) (fun w h1 => absurd h1 (by omega))
theorem S_findRest (h : G M) (ho : lOk l) {A : IA} (hl : LCi l A) {r : Nat} (Kr : m_K M r = 13) (Lr : m_len M r = 6400) (hr76 : r ≠ 76) {a : Nat} (ha : a < 800) (hc : ccOk l (a / 2) = true) {st la : Nat} (hw : Ws M st la) (hla : la ≠ 76) {B : Nat → Nat → Int64} (hL : LitC l v r B) (hP : RwL (wN l) P (B la)) :
    ∃ B', F_X2_findRest 67 st r (nI a) (m_w2 M A B) = some ((), m_w2 M A B') ∧ (∀ b, b ≠ 76 → B' b = B b) ∧ RwL (wN l) (fun w => P w && lT l v a w) (B' 76) := by
  have hn := wN_le ho
  have K67 : ∀ B, m_K (m_w2 M A B) 67 = 2 := fun B => by simp only [w2_K, gK h]
  have R5 : ∀ B, m_R (m_w2 M A B) 67 5 = some 2 := fun B => by simp only [w2_R, gR h]
  have R11 : ∀ B, m_R (m_w2 M A B) 67 11 = some 75 := fun B => by simp only [w2_R, gR h]
  have K75 : ∀ B, m_K (m_w2 M A B) 75 = 8 := fun B => by simp only [w2_K, gK h]
  have R75 : ∀ B, m_R (m_w2 M A B) 75 0 = some 76 := fun B => by simp only [w2_R, gR h]
  have K76 : ∀ B, m_K (m_w2 M A B) 76 = 13 := fun B => by simp only [w2_K, gK h]
  have L76 : ∀ B, m_len (m_w2 M A B) 76 = 16 := fun B => by simp only [w2_n, gl h]
  have K2 : ∀ B, m_K (m_w2 M A B) 2 = 3 := fun B => by simp only [w2_K, gK h]
  have I24 : A 2 4 = nI ((wN l + 63) / 64) := hl.1.2.2.2.2
  have w1 : ∀ B, m_K (m_w2 M A B) st = 8 := fun _ => hw.1
  have w2 : ∀ B, m_R (m_w2 M A B) st 0 = some la := fun _ => hw.2.1
  have w3 : ∀ B, m_K (m_w2 M A B) la = 13 := fun _ => hw.2.2.1
  have w4 : ∀ B, m_len (m_w2 M A B) la = 16 := fun _ => hw.2.2.2
  unfold F_X2_findRest
  have key : ∀ (d k f : Nat) (B : Nat → Nat → Int64), k + d = (wN l + 63) / 64 → d < f → LitC l v r B → RwL (wN l) P (B la) → (∀ k', k' < k → ∀ j, j < 64 → lb (B 76 k') j = (decide (64 * k' + j < wN l) && (P (64 * k' + j) && lT l v a (64 * k' + j)))) → ∃ B', F_X2_findRest_3 f 67 st r (nI a) (nI k) (m_w2 M A B) = some ((), m_w2 M A B') ∧ (∀ b, b ≠ 76 → B' b = B b) ∧ RwL (wN l) (fun w => P w && lT l v a w) (B' 76) := by
    intro d
    induction d with
    | zero =>
      intro k f B hk hf hL hP hh
      obtain ⟨f, rfl⟩ : ∃ f', f = f' + 1 := ⟨f - 1, by omega⟩
      refine ⟨B, ?_, fun _ _ => rfl, fun k' hk' => hh k' (by omega)⟩
      rw [F_X2_findRest_3, x_gN_ok (K67 _) (R5 _), x_gI_ok (K2 _), w2_I, I24, if_pos (nI_le (by omega) (by omega))]
    | succ d ih =>
      intro k f B hk hf hL hP hh
      obtain ⟨f, rfl⟩ : ∃ f', f = f' + 1 := ⟨f - 1, by omega⟩
      obtain ⟨t, e, e1⟩ := S_flongOf h ho (B := B) hl Kr Lr hL ha hc (k := k) (by omega)
      obtain ⟨B', g, g1, g2⟩ := ih (k + 1) f (upB B 76 k (B la k &&& t)) (by omega) (by omega) (hL.of (upB_fr hr76)) (hP.of (fun k' => by rw [upB_fr hla])) (fun k' hk' j hj => by
        by_cases z : k' = k
        · rw [z, upB_at, if_pos ⟨rfl, rfl⟩, lb_and, hP k (by omega) j hj, e1 j hj]
          cases decide (64 * k + j < wN l) <;> rfl
        · rw [upB_at, if_neg (fun y => z y.2)]
          exact hh k' (by omega) j hj)
      refine ⟨B', ?_, fun b hb => by rw [g1 b hb, upB_fr hb], g2⟩
      rw [F_X2_findRest_3, x_gN_ok (K67 _) (R5 _), x_gI_ok (K2 _), w2_I, I24, if_neg (nI_ge (by omega) (by omega)), if_neg (show ¬ (16 : Int32) ≤ nI k from nI_ge (b := 16) (by omega) (by omega)), x_gN_ok (K67 _) (R11 _), x_gN_ok (K75 _) (R75 _), x_gN_ok (w1 _) (w2 _), x_aL_ok (w3 _) (by rw [w4]; omega) (by omega), w2_L, x_cV_ok (K67 _) e, x_sL_ok (K76 _) (by rw [L76]; omega) (by omega), w2_sL, m_let_eq, nI_1]
      exact g
  exact key ((wN l + 63) / 64) 0 m_FU B (by omega) (m_FU_lt (by omega)) hL hP (fun k' h1 => absurd h1 (by omega))
theorem S_sp54 (h : G M) (ho : lOk l) {A : IA} (hl : LCi l A) {r : Nat} (Kr : m_K M r = 13) (Lr : m_len M r = 6400) (hr13 : r ≠ 13) {c : Nat} (hc : ccOk l c = true) {T : Nat} (hT : T < 65536) (hTk : ∀ k, T.testBit k = tbl l v (partN (c / 20)) (partN (c % 20)) k) {vi : Int32} {K : Nat → Int32 → Nat → Int32 → m_M → Option (Unit × m_M)} : ∀ (d k f : Nat) (B : Nat → Nat → Int64), k + d = (wN l + 63) / 64 → d < f → LCs l (B 13) → (∀ k', k' < k → ∀ j, j < 64 → lb (B r (16 * c + k')) j = (decide (64 * k' + j < wN l) && cby l v c (64 * k' + j))) →
    ∃ B', F_X2_spreadAll_54 K f 67 vi r (nI c) (nI T) (nI (partN (c / 20) % 8)) (nI (partN (c % 20) % 8)) (nI k) (m_w2 M A B) = K 67 vi r (nI c) (m_w2 M A B') ∧ (∀ b, b ≠ r → B' b = B b) ∧ (∀ i, (i < 16 * c ∨ 16 * c + 16 ≤ i) → B' r i = B r i) ∧ RwL (wN l) (cby l v c) (fun k => B' r (16 * c + k)) := by
  have hn := wN_le ho
  obtain ⟨c1, _, _⟩ := ccOk_iff.mp hc
  have K67 : ∀ B, m_K (m_w2 M A B) 67 = 2 := fun B => by simp only [w2_K, gK h]
  have R5 : ∀ B, m_R (m_w2 M A B) 67 5 = some 2 := fun B => by simp only [w2_R, gR h]
  have K2 : ∀ B, m_K (m_w2 M A B) 2 = 3 := fun B => by simp only [w2_K, gK h]
  have I24 : A 2 4 = nI ((wN l + 63) / 64) := hl.1.2.2.2.2
  intro d
  induction d with
  | zero =>
    intro k f B hk hf hs hh
    obtain ⟨f, rfl⟩ : ∃ f', f = f' + 1 := ⟨f - 1, by omega⟩
    refine ⟨B, ?_, fun _ _ => rfl, fun _ _ => rfl, fun k' hk' => hh k' (by omega)⟩
    rw [F_X2_spreadAll_54, x_gN_ok (K67 _) (R5 _), x_gI_ok (K2 _), w2_I, I24, if_pos (nI_le (by omega) (by omega))]
  | succ d ih =>
    intro k f B hk hf hs hh
    obtain ⟨f, rfl⟩ : ∃ f', f = f' + 1 := ⟨f - 1, by omega⟩
    obtain ⟨t, e, e1⟩ := S_clauseLong (M := m_w2 M A B) h hl ho hs hc hT hTk (i := k) (by omega)
    obtain ⟨B', g, g1, g2, g3⟩ := ih (k + 1) f (upB B r (16 * c + k) t) (by omega) (by omega) (by rw [upB_fr (Ne.symm hr13)]; exact hs) (fun k' hk' j hj => by
      by_cases z : k' = k
      · rw [z, upB_at, if_pos ⟨rfl, rfl⟩, e1 j hj]
      · rw [upB_at, if_neg (fun y => z (by omega))]
        exact hh k' (by omega) j hj)
    refine ⟨B', ?_, fun b hb => by rw [g1 b hb, upB_fr hb], fun i hi => by rw [g2 i hi, upB_at, if_neg (fun y => by omega)], g3⟩
    rw [F_X2_spreadAll_54, x_gN_ok (K67 _) (R5 _), x_gI_ok (K2 _), w2_I, I24, if_neg (nI_ge (by omega) (by omega)), if_neg (show ¬ (16 : Int32) ≤ nI k from nI_ge (b := 16) (by omega) (by omega)), x_gN_ok (K67 _) (R5 _), x_cV_ok (K2 _) e, show (16 : Int32) = nI 16 from rfl, nI_mul, nI_add, Nat.mul_comm c 16, x_sL_ok (by rw [w2_K]; exact Kr) (by rw [w2_n, Lr]; omega) (by omega), w2_sL, m_let_eq, nI_1]
    exact g
theorem S_spreadAll (h : G M) (ho : lOk l) (hv : vIn l v) {A : IA} (hl : LCi l A) {r : Nat} (Kr : m_K M r = 13) (Lr : m_len M r = 6400) (hr13 : r ≠ 13) {B : Nat → Nat → Int64} (hs : LCs l (B 13)) :
    ∃ B', F_X2_spreadAll 67 (iO v) r (m_w2 M A B) = some ((), m_w2 M A B') ∧ (∀ b, b ≠ r → B' b = B b) ∧ LitC l v r B' := by
  have hn := wN_le ho
  have K67 : ∀ B, m_K (m_w2 M A B) 67 = 2 := fun B => by simp only [w2_K, gK h]
  have R5 : ∀ B, m_R (m_w2 M A B) 67 5 = some 2 := fun B => by simp only [w2_R, gR h]
  have K2 : ∀ B, m_K (m_w2 M A B) 2 = 3 := fun B => by simp only [w2_K, gK h]
  unfold F_X2_spreadAll
  have key : ∀ (d k f : Nat) (B : Nat → Nat → Int64), k + d = 400 → d < f → LCs l (B 13) → (∀ c, c < k → ccOk l c = true → RwL (wN l) (cby l v c) (fun k => B r (16 * c + k))) → ∃ B', F_X2_spreadAll_2 f 67 (iO v) r (nI k) (m_w2 M A B) = some ((), m_w2 M A B') ∧ (∀ b, b ≠ r → B' b = B b) ∧ LitC l v r B' := by
    intro d
    induction d with
    | zero =>
      intro k f B hk hf hs hh
      obtain ⟨f, rfl⟩ : ∃ f', f = f' + 1 := ⟨f - 1, by omega⟩
      obtain rfl : k = 400 := by omega
      refine ⟨B, ?_, fun _ _ => rfl, hh⟩
      rw [F_X2_spreadAll_2, if_pos (by decide)]
    | succ d ih =>
      intro k f B hk hf hs hh
      obtain ⟨f, rfl⟩ : ∃ f', f = f' + 1 := ⟨f - 1, by omega⟩
      have ic : F_X3_isClause 2 (nI k) (m_w2 M A B) = some (bI (ccOk l k), m_w2 M A B) := S_isClauseC (M := m_w2 M A B) h hl ho (by omega)
      cases q : ccOk l k
      · obtain ⟨B', g, g1, g2⟩ := ih (k + 1) f B (by omega) (by omega) hs (fun c hc h2 => hh c (by
          by_cases z : c = k
          · rw [z, q] at h2; cases h2
          · omega) h2)
        refine ⟨B', ?_, g1, g2⟩
        rw [F_X2_spreadAll_2, if_neg (show ¬ (400 : Int32) ≤ nI k from nI_ge (b := 400) (by omega) (by omega))]
        refine m_let_e ?_
        intro K1 hK1
        rw [x_gN_ok (K67 _) (R5 _), x_cV_ok (K2 _) ic, q, if_pos (by decide), hK1]
        dsimp only
        rw [m_let_eq, nI_1]
        exact g
      · have e1 := S_firstThing (M := m_w2 M A B) h hl ho q
        have e2 := S_secondThing (M := m_w2 M A B) h hl ho q
        obtain ⟨T, e3, e4, e5⟩ := S_clauseTable (M := m_w2 M A B) h hl ho q hv
        rw [F_X2_spreadAll_2, if_neg (show ¬ (400 : Int32) ≤ nI k from nI_ge (b := 400) (by omega) (by omega))]
        refine m_let_P (fun o => ∃ B', o = some ((), m_w2 M A B') ∧ (∀ b, b ≠ r → B' b = B b) ∧ LitC l v r B') ?_
        intro K1 hK1
        obtain ⟨B1, g, g1, g2, g3⟩ := S_sp54 h ho hl Kr Lr hr13 q e4 e5 (vi := iO v) (K := K1) ((wN l + 63) / 64) 0 m_FU B (by omega) (m_FU_lt (by omega)) hs (fun k' hk' => absurd hk' (by omega))
        have g' : F_X2_spreadAll_54 K1 m_FU 67 (iO v) r (nI k) (nI T) (nI (partN (k / 20) % 8)) (nI (partN (k % 20) % 8)) (0 : Int32) (m_w2 M A B) = _ := g
        obtain ⟨B', u, u1, u2⟩ := ih (k + 1) f B1 (by omega) (by omega) (by rw [g1 13 (Ne.symm hr13)]; exact hs) (fun c hc h2 => by
          by_cases z : c = k
          · rw [z]; exact g3
          · intro k' hk' j hj
            show lb (B1 r (16 * c + k')) j = _
            rw [g2 (16 * c + k') (by omega)]
            exact hh c (by omega) h2 k' hk' j hj)
        refine ⟨B', ?_, fun b hb => by rw [u1 b hb, g1 b hb], u2⟩
        rw [x_gN_ok (K67 _) (R5 _), x_cV_ok (K2 _) ic, q, if_neg (by decide), x_gN_ok (K67 _) (R5 _), x_cV_ok (K2 _) e3, x_gN_ok (K67 _) (R5 _), x_cV_ok (K2 _) e1, x_gN_ok (K67 _) (R5 _), x_cV_ok (K2 _) e2, g', hK1]
        dsimp only
        rw [m_let_eq, nI_1]
        exact u
  exact key 400 0 m_FU B (by omega) (m_FU_lt (by omega)) hs (fun c hc => absurd hc (by omega))
/-- the literals that, turned round or not, hold in all that is wanted -/
def abvQ (l : Ld) (P : Nat → Bool) (v : Option Nat) (t a : Nat) : Bool := ccOk l (a / 2) && apB l P (lT l v ((a ^^^ t) ^^^ 1))
def abvL (l : Ld) (P : Nat → Bool) (v : Option Nat) (t n : Nat) : List Nat := (List.range n).filter (abvQ l P v t)
theorem abvL_s {t n : Nat} : abvL l P v t (n + 1) = abvL l P v t n ++ (if abvQ l P v t n = true then [n] else []) := by
  unfold abvL
  rw [List.range_succ, List.filter_append]
  congr 1
  rw [List.filter_cons]
  rfl
theorem abvL_le {t n : Nat} : (abvL l P v t n).length ≤ n := by
  have := List.length_filter_le (abvQ l P v t) (List.range n)
  rw [List.length_range] at this
  exact this
theorem S_listAbove (h : G M) (ho : lOk l) {B : Nat → Nat → Int64} {r : Nat} (Kr : m_K M r = 13) (Lr : m_len M r = 6400) (hL : LitC l v r B) {st la : Nat} (hw : Ws M st la) (hP : RwL (wN l) P (B la)) {t : Nat} (ht : t < 2) {into : Nat} (hi : 13 ≤ into) (Ki : m_K M into = 12) (Li : m_len M into = 800) {A : IA} (hl : LCi l A) :
    ∃ A', F_X2_listAbove 67 st r (nI t) into (m_w2 M A B) = some (nI (abvL l P v t 800).length, m_w2 M A' B) ∧ (∀ a, a ≠ into → A' a = A a) ∧ LsA (A' into) 0 (abvL l P v t 800) := by
  have K67 : ∀ A, m_K (m_w2 M A B) 67 = 2 := fun A => by simp only [w2_K, gK h]
  have R5 : ∀ A, m_R (m_w2 M A B) 67 5 = some 2 := fun A => by simp only [w2_R, gR h]
  have K2 : ∀ A, m_K (m_w2 M A B) 2 = 3 := fun A => by simp only [w2_K, gK h]
  unfold F_X2_listAbove
  have key : ∀ (d k f : Nat) (A : IA), k + d = 800 → d < f → LCi l A → LsA (A into) 0 (abvL l P v t k) → ∃ A', F_X2_listAbove_6 f 67 st r (nI t) into (nI (abvL l P v t k).length) (nI k) (m_w2 M A B) = some (nI (abvL l P v t 800).length, m_w2 M A' B) ∧ (∀ a, a ≠ into → A' a = A a) ∧ LsA (A' into) 0 (abvL l P v t 800) := by
    intro d
    induction d with
    | zero =>
      intro k f A hk hf hl hh
      obtain ⟨f, rfl⟩ : ∃ f', f = f' + 1 := ⟨f - 1, by omega⟩
      obtain rfl : k = 800 := by omega
      refine ⟨A, ?_, fun _ _ => rfl, hh⟩
      rw [F_X2_listAbove_6, if_pos (by decide)]
    | succ d ih =>
      intro k f A hk hf hl hh
      obtain ⟨f, rfl⟩ : ∃ f', f = f' + 1 := ⟨f - 1, by omega⟩
      have ic : F_X3_isClause 2 (nI (k / 2)) (m_w2 M A B) = some (bI (ccOk l (k / 2)), m_w2 M A B) := S_isClauseC (M := m_w2 M A B) h hl ho (by omega)
      have hle := abvL_le (l := l) (P := P) (v := v) (t := t) (n := k)
      have hsk : abvQ l P v t k = false → ∃ A', F_X2_listAbove_6 f 67 st r (nI t) into (nI (abvL l P v t k).length) (nI (k + 1)) (m_w2 M A B) = some (nI (abvL l P v t 800).length, m_w2 M A' B) ∧ (∀ a, a ≠ into → A' a = A a) ∧ LsA (A' into) 0 (abvL l P v t 800) := fun y => by
        have e : abvL l P v t (k + 1) = abvL l P v t k := by rw [abvL_s, y, if_neg (by decide), List.append_nil]
        have := ih (k + 1) f A (by omega) (by omega) hl (by rw [e]; exact hh)
        rw [e] at this
        exact this
      have kx : k ^^^ t < 800 ∧ (k ^^^ t) / 2 = k / 2 := by
        rcases (show t = 0 ∨ t = 1 by omega) with z | z
        · rw [z, Nat.xor_zero]; omega
        · rw [z]; exact ⟨(x1 k (by omega)).1, (x1 k (by omega)).2.1⟩
      have kxx := x1 _ kx.1
      rw [F_X2_listAbove_6, if_neg (show ¬ (800 : Int32) ≤ nI k from nI_ge (b := 800) (by omega) (by omega))]
      refine m_let_P (fun o => ∃ A', o = some (nI (abvL l P v t 800).length, m_w2 M A' B) ∧ (∀ a, a ≠ into → A' a = A a) ∧ LsA (A' into) 0 (abvL l P v t 800)) ?_
      intro K1 hK1
      rw [x_gN_ok (K67 _) (R5 _), x_nz_eq, if_neg (by decide), show nI k / (2 : Int32) = nI (k / 2) from i32_div (b := 2) (by omega) (by omega), x_cV_ok (K2 _) ic]
      cases q : ccOk l (k / 2)
      · rw [if_pos (by decide), hK1]
        dsimp only
        rw [m_let_eq, nI_1]
        exact hsk (by unfold abvQ; rw [q]; rfl)
      · have ap := S_isApart h ho (B := B) hl Kr Lr hL (a := (k ^^^ t) ^^^ 1) kxx.1 (by rw [kxx.2.1, kx.2]; exact q) hw hP
        rw [if_neg (by decide), nI_xor, show (1 : Int32) = nI 1 from rfl, nI_xor, x_cV_ok (K67 _) ap]
        cases q2 : apB l P (lT l v ((k ^^^ t) ^^^ 1))
        · rw [if_pos (by decide), hK1]
          dsimp only
          rw [m_let_eq, nI_1]
          exact hsk (by unfold abvQ; rw [q, q2]; rfl)
        · have y : abvQ l P v t k = true := by unfold abvQ; rw [q, q2]; rfl
          have e : abvL l P v t (k + 1) = abvL l P v t k ++ [k] := by rw [abvL_s, y, if_pos rfl]
          obtain ⟨A', g, g1, g2⟩ := ih (k + 1) f (m_up A into (abvL l P v t k).length (nI k)) (by omega) (by omega) (hl.cong (fun a _ ha => by funext j; rw [up_at, if_neg (by omega)])) (by
            rw [e]
            refine LsA.app (hh.cong (fun j _ hj => by rw [up_at, if_neg (by omega)])) ?_
            rw [Nat.zero_add, up_at, if_pos ⟨rfl, rfl⟩])
          rw [e, List.length_append, show [k].length = 1 from rfl] at g
          refine ⟨A', ?_, fun a ha => ?_, g2⟩
          · rw [if_neg (by decide), x_sI_ok (by rw [w2_K]; exact Ki) (by rw [w2_n, Li]; omega) (by omega), w2_sI, m_let_eq, nI_add, hK1]
            dsimp only
            rw [m_let_eq, nI_1]
            exact g
          · rw [g1 a ha]
            funext j
            rw [up_at, if_neg (fun y => ha y.1)]
  have := key 800 0 m_FU A (by omega) (m_FU_lt (by omega)) hl LsA.nil
  exact this
theorem w16_w2 {A : IA} {B : Nat → Nat → Int64} {la : Nat} {g : Nat → Int64} : w16 (m_w2 M A B) la g = m_w2 M A (fun b k => if b = la then (if k < 16 then g k else B la k) else B b k) := Eq.trans rfl rfl
theorem S_findOutside (h : G M) (ho : lOk l) {A : IA} {B : Nat → Nat → Int64} (hl : LCi l A) {st la : Nat} (hw : Ws M st la) (hP : Rw (wN l) P (B la)) :
    ∃ B', F_X2_findOutside 67 st (m_w2 M A B) = some ((), m_w2 M A B') ∧ (∀ b, b ≠ 74 → B' b = B b) ∧ Rw (wN l) (fun w => !P w) (B' 74) := by
  have hn := wN_le ho
  have K67 : ∀ M : m_M, G M → m_K M 67 = 2 := fun M h => by simp only [gK h]
  have R5 : ∀ M : m_M, G M → m_R M 67 5 = some 2 := fun M h => by simp only [gR h]
  have R10 : ∀ M : m_M, G M → m_R M 67 10 = some 73 := fun M h => by simp only [gR h]
  have K2 : ∀ M : m_M, G M → m_K M 2 = 3 := fun M h => by simp only [gK h]
  have W73 : ∀ M : m_M, G M → Ws M 73 74 := fun M h => ⟨by simp only [gK h], by simp only [gR h], by simp only [gK h], by simp only [gl h]⟩
  have hG : G (m_w2 M A B) := h
  have t1 := S_take (W73 _ hG) (show Ws (m_w2 M A B) st la from hw)
  rw [w16_w2] at t1
  obtain ⟨B1, hB1⟩ : ∃ B1 : Nat → Nat → Int64, B1 = (fun b k => if b = 74 then (if k < 16 then m_L (m_w2 M A B) la k else B 74 k) else B b k) := ⟨_, rfl⟩
  rw [← hB1] at t1
  have hG1 : G (m_w2 M A B1) := h
  have t2 := S_turn (n := wN l) hn (W73 _ hG1)
  rw [w16_w2] at t2
  refine ⟨(fun b k => if b = 74 then (if k < 16 then ~~~m_L (m_w2 M A B1) 74 k &&& wlL (wN l) k else B1 74 k) else B1 b k), ?_, fun b hb => ?_, fun k hk j hj => ?_⟩
  · unfold F_X2_findOutside
    rw [x_gN_ok (K67 _ hG) (R10 _ hG), x_cV_ok (W73 _ hG).1 t1, x_gN_ok (K67 _ hG1) (R10 _ hG1), x_gN_ok (K67 _ hG1) (R5 _ hG1), x_gI_ok (K2 _ hG1), w2_I, hl.1.2.2.2.1, x_cV_ok (W73 _ hG1).1 t2]
  · funext k
    dsimp only
    rw [if_neg hb, hB1]
    dsimp only
    rw [if_neg hb]
  · dsimp only
    rw [if_pos rfl, if_pos hk, lb_and, lb_not _ hj, w2_L, hB1]
    dsimp only
    rw [if_pos rfl, if_pos hk, w2_L, hP k hk j hj, Rw.whole (wN l) k hk j hj]
    cases decide (64 * k + j < wN l) <;> cases P (64 * k + j) <;> rfl
end SPREAD
