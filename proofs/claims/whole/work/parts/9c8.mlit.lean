/-! two, shortest: what the model does with literals -/
def mtB (l : Ld) (P : Nat → Bool) (v v' : Option Nat) (a b : Nat) : Bool := decide (∀ w, w < wN l → (lT l v a w && lT l v' b w) = P w)
def jnF (how : Nat) (x y : Bool) : Bool := if how = 1 then x && y else x || y
def jnB (l : Ld) (P : Nat → Bool) (v : Option Nat) (how a b : Nat) : Bool := decide (∀ w, w < wN l → jnF how (lT l v a w) (lT l v b w) = P w)
def wdN (a : Nat) : Nat := 2 + (if a / 2 / 20 % 4 ≤ 0 then 0 else 1) + (if a / 2 % 20 % 4 ≤ 0 then 0 else 1) + a % 2
theorem wdN_ge (a : Nat) : 2 ≤ wdN a := by unfold wdN; omega
theorem wdN_le (a : Nat) : wdN a ≤ 5 := by unfold wdN; split <;> split <;> omega
section MLIT
variable {M M' : m_M} {l : Ld} {v v' : Option Nat} {P : Nat → Bool}
theorem nI_r {a b : Nat} (ha : a < 2147483648) (hb : b < 2147483648) : nI a - nI a / nI b * nI b = nI (a % b) := by
  rw [i32_div ha hb, nI_mul, i32_rem2]
theorem nI_le0 {a : Nat} (h : a < 2147483648) : (nI a ≤ (0 : Int32)) ↔ a ≤ 0 := by
  by_cases q : a ≤ 0
  · exact ⟨fun _ => q, fun _ => nI_le (b := 0) q (by omega)⟩
  · exact ⟨fun z => absurd z (nI_ge (b := a) (a := 0) (by omega) h), fun z => absurd z q⟩
theorem C_words {a : Nat} (ha : a < 800) : F_X2_wordsOf (nI a) M = some (nI (wdN a), M) := by
  unfold F_X2_wordsOf
  refine m_let_e ?_
  intro K1 hK1
  have e2 : nI a / (2 : Int32) = nI (a / 2) := i32_div (b := 2) (by omega) (by omega)
  have e20 : nI (a / 2) / (20 : Int32) = nI (a / 2 / 20) := i32_div (b := 20) (by omega) (by omega)
  have r20 : nI (a / 2) - nI (a / 2 / 20) * (20 : Int32) = nI (a / 2 % 20) := by rw [show (20 : Int32) = nI 20 from rfl, nI_mul, i32_rem2]
  have r4 : nI (a / 2 / 20) - nI (a / 2 / 20) / (4 : Int32) * (4 : Int32) = nI (a / 2 / 20 % 4) := nI_r (b := 4) (by omega) (by omega)
  have r4' : nI (a / 2 % 20) - nI (a / 2 % 20) / (4 : Int32) * (4 : Int32) = nI (a / 2 % 20 % 4) := nI_r (b := 4) (by omega) (by omega)
  have ra : nI a - nI a / (2 : Int32) * (2 : Int32) = nI (a % 2) := nI_r (b := 2) (by omega) (by omega)
  have snd : ∀ x : Nat, x < 2 → K1 (nI a) (nI (a / 2 % 20)) (nI x) M = some (nI (2 + x + (if a / 2 % 20 % 4 ≤ 0 then 0 else 1) + a % 2), M) := by
    intro x hx
    rw [hK1]
    dsimp only
    refine m_let_e ?_
    intro K2 hK2
    have lst : ∀ y : Nat, y < 2 → K2 (nI a) (nI x) (nI y) M = some (nI (2 + x + y + a % 2), M) := by
      intro y hy
      rw [hK2]
      dsimp only
      rw [m_let_eq, x_nz_eq, if_neg (by decide), ra, show (2 : Int32) = nI 2 from rfl, nI_add, nI_add, nI_add, ← Nat.add_assoc]
    rw [x_nz_eq, if_neg (by decide), r4']
    by_cases q : a / 2 % 20 % 4 ≤ 0
    · rw [if_pos ((nI_le0 (by omega)).mpr q), if_pos q]
      exact lst 0 (by omega)
    · rw [if_neg (fun z => q ((nI_le0 (by omega)).mp z)), if_neg q]
      exact lst 1 (by omega)
  rw [x_nz_eq, if_neg (by decide), x_nz_eq, if_neg (by decide), e2, e20, m_let_eq, x_nz_eq, if_neg (by decide), x_nz_eq, if_neg (by decide), r20, m_let_eq, x_nz_eq, if_neg (by decide), r4]
  unfold wdN
  by_cases q : a / 2 / 20 % 4 ≤ 0
  · rw [if_pos ((nI_le0 (by omega)).mpr q), if_pos q]
    exact snd 0 (by omega)
  · rw [if_neg (fun z => q ((nI_le0 (by omega)).mp z)), if_neg q]
    exact snd 1 (by omega)
theorem M_words {a : Nat} (ha : a < 800) : F_X12_wordsOf (nI a) M = some (nI (wdN a), M) := by
  unfold F_X12_wordsOf
  refine m_let_e ?_
  intro K1 hK1
  have e2 : nI a / (2 : Int32) = nI (a / 2) := i32_div (b := 2) (by omega) (by omega)
  have e20 : nI (a / 2) / (20 : Int32) = nI (a / 2 / 20) := i32_div (b := 20) (by omega) (by omega)
  have r20 : nI (a / 2) - nI (a / 2) / (20 : Int32) * (20 : Int32) = nI (a / 2 % 20) := nI_r (b := 20) (by omega) (by omega)
  have r4 : nI (a / 2 / 20) - nI (a / 2 / 20) / (4 : Int32) * (4 : Int32) = nI (a / 2 / 20 % 4) := nI_r (b := 4) (by omega) (by omega)
  have r4' : nI (a / 2 % 20) - nI (a / 2 % 20) / (4 : Int32) * (4 : Int32) = nI (a / 2 % 20 % 4) := nI_r (b := 4) (by omega) (by omega)
  have ra : nI a - nI a / (2 : Int32) * (2 : Int32) = nI (a % 2) := nI_r (b := 2) (by omega) (by omega)
  have snd : ∀ x : Nat, x < 2 → K1 (nI a) (nI (a / 2)) (2 : Int32) (nI x) M = some (nI (2 + x + (if a / 2 % 20 % 4 ≤ 0 then 0 else 1) + a % 2), M) := by
    intro x hx
    rw [hK1]
    dsimp only
    refine m_let_e ?_
    intro K2 hK2
    have lst : ∀ y : Nat, y < 2 → K2 (nI a) ((2 : Int32) + nI x) (nI y) M = some (nI (2 + x + y + a % 2), M) := by
      intro y hy
      rw [hK2]
      dsimp only
      rw [x_nz_eq, if_neg (by decide), ra, show (2 : Int32) = nI 2 from rfl, nI_add, nI_add, nI_add]
    rw [x_nz_eq, if_neg (by decide), x_nz_eq, if_neg (by decide), r20, r4']
    by_cases q : a / 2 % 20 % 4 ≤ 0
    · rw [if_pos ((nI_le0 (by omega)).mpr q), if_pos q]
      exact lst 0 (by omega)
    · rw [if_neg (fun z => q ((nI_le0 (by omega)).mp z)), if_neg q]
      exact lst 1 (by omega)
  rw [x_nz_eq, if_neg (by decide), e2, m_let_eq, x_nz_eq, if_neg (by decide), x_nz_eq, if_neg (by decide), e20, r4]
  unfold wdN
  by_cases q : a / 2 / 20 % 4 ≤ 0
  · rw [if_pos ((nI_le0 (by omega)).mpr q), if_pos q]
    exact snd 0 (by omega)
  · rw [if_neg (fun z => q ((nI_le0 (by omega)).mp z)), if_neg q]
    exact snd 1 (by omega)
theorem M_isAbove (h : G M) (ho : lOk l) {A : IA} {B : Nat → Nat → Int64} (hl : LMi l A) (hL : LitM l v 172 B) {a at0 : Nat} (ha : a < 800) (hc : ccOk l (a / 2) = true) (hat : at0 ≤ 96) (hP : Rw (wN l) P (fun k => B 162 (at0 + k))) :
    F_X12_isAbove 128 (nI a) (nI at0) (m_w2 M A B) = some (bI (apB l P (lT l v (a ^^^ 1))), m_w2 M A B) := by
  have hn := wN_le ho
  have K0 : m_K (m_w2 M A B) 128 = 10 := by simp only [w2_K, gK h]
  have R54 : m_R (m_w2 M A B) 128 54 = some 162 := by simp only [w2_R, gR h]
  have K162 : m_K (m_w2 M A B) 162 = 13 := by simp only [w2_K, gK h]
  have L162 : m_len (m_w2 M A B) 162 = 560 := by simp only [w2_n, gl h]
  have R64 : m_R (m_w2 M A B) 128 64 = some 172 := by simp only [w2_R, gR h]
  have K172 : m_K (m_w2 M A B) 172 = 13 := by simp only [w2_K, gK h]
  have L172 : m_len (m_w2 M A B) 172 = 12800 := by simp only [w2_n, gl h]
  have I43 : A 128 43 = nI ((wN l + 63) / 64) := hl.2.2.2.2.2.2
  have hz := (hP.drop (hL a ha hc)).zl hn
  have ha2 : apB l P (lT l v (a ^^^ 1)) = decide (∀ w, w < wN l → (P w && !lT l v a w) = false) := by
    unfold apB
    rw [decide_eq_decide]
    exact ⟨fun z w hw => by rw [← lT_x ha]; exact z w hw, fun z w hw => by rw [lT_x ha]; exact z w hw⟩
  unfold F_X12_isAbove
  refine up_0 (fun f k (_ : Unit) => F_X12_isAbove_2 f 128 (nI a) (nI at0) (nI k) (m_w2 M A B) = some (bI (apB l P (lT l v (a ^^^ 1))), m_w2 M A B)) ((wN l + 63) / 64) (fun k (_ : Unit) => ∀ j, j < k → B 162 (at0 + j) &&& ~~~(B 172 (16 * a + j)) = 0) (s := ()) (by omega) (fun j hj => absurd hj (by omega)) ?_ ?_
  · intro f k s hk hs ih
    rw [F_X12_isAbove_2, x_gI_ok K0, w2_I, I43, if_neg (nI_ge (by omega) (by omega)), x_gN_ok K0 R54, nI_add, x_aL_ok K162 (by rw [L162]; omega) (by omega), w2_L, x_gN_ok K0 R64, show (16 : Int32) = nI 16 from rfl, nI_mul, nI_add, x_aL_ok K172 (by rw [L172]; omega) (by omega), w2_L, l_xor]
    by_cases q : B 162 (at0 + k) &&& ~~~(B 172 (16 * a + k)) = 0
    · rw [if_pos ((lg_cmp_eq _ _).mpr q), m_let_eq, nI_1]
      exact ih () (fun j hj => by
        by_cases z : j = k
        · rw [z]; exact q
        · exact hs j (by omega))
    · rw [if_neg (fun z => q ((lg_cmp_eq _ _).mp z)), ha2, decide_eq_false (fun z => q (hz.mpr z k hk))]
      rfl
  · intro f s hs
    rw [F_X12_isAbove_2, x_gI_ok K0, w2_I, I43, if_pos (nI_le (by omega) (by omega)), ha2, decide_eq_true (hz.mp hs)]
    rfl
theorem M_meet (h : G M) (ho : lOk l) {A : IA} {B : Nat → Nat → Int64} (hl : LMi l A) (hL : LitM l v 172 B) (hL2 : LitM l v' 173 B) {a b at0 : Nat} (ha : a < 800) (hc : ccOk l (a / 2) = true) (hb : b < 800) (hcb : ccOk l (b / 2) = true) (hat : at0 ≤ 96) (hP : Rw (wN l) P (fun k => B 162 (at0 + k))) :
    F_X12_meet 128 (nI a) (nI b) (nI at0) (m_w2 M A B) = some (bI (mtB l P v v' a b), m_w2 M A B) := by
  have hn := wN_le ho
  have K0 : m_K (m_w2 M A B) 128 = 10 := by simp only [w2_K, gK h]
  have R54 : m_R (m_w2 M A B) 128 54 = some 162 := by simp only [w2_R, gR h]
  have K162 : m_K (m_w2 M A B) 162 = 13 := by simp only [w2_K, gK h]
  have L162 : m_len (m_w2 M A B) 162 = 560 := by simp only [w2_n, gl h]
  have R64 : m_R (m_w2 M A B) 128 64 = some 172 := by simp only [w2_R, gR h]
  have K172 : m_K (m_w2 M A B) 172 = 13 := by simp only [w2_K, gK h]
  have L172 : m_len (m_w2 M A B) 172 = 12800 := by simp only [w2_n, gl h]
  have R65 : m_R (m_w2 M A B) 128 65 = some 173 := by simp only [w2_R, gR h]
  have K173 : m_K (m_w2 M A B) 173 = 13 := by simp only [w2_K, gK h]
  have L173 : m_len (m_w2 M A B) 173 = 12800 := by simp only [w2_n, gl h]
  have I43 : A 128 43 = nI ((wN l + 63) / 64) := hl.2.2.2.2.2.2
  have hz := ((hL a ha hc).and (hL2 b hb hcb)).eql hP hn
  unfold F_X12_meet
  refine up_0 (fun f k (_ : Unit) => F_X12_meet_3 f 128 (nI a) (nI b) (nI at0) (nI k) (m_w2 M A B) = some (bI (mtB l P v v' a b), m_w2 M A B)) ((wN l + 63) / 64) (fun k (_ : Unit) => ∀ j, j < k → B 172 (16 * a + j) &&& B 173 (16 * b + j) = B 162 (at0 + j)) (s := ()) (by omega) (fun j hj => absurd hj (by omega)) ?_ ?_
  · intro f k s hk hs ih
    rw [F_X12_meet_3, x_gI_ok K0, w2_I, I43, if_neg (nI_ge (by omega) (by omega)), x_gN_ok K0 R64, show (16 : Int32) = nI 16 from rfl, nI_mul, nI_add, x_aL_ok K172 (by rw [L172]; omega) (by omega), w2_L, x_gN_ok K0 R65, nI_mul, nI_add, x_aL_ok K173 (by rw [L173]; omega) (by omega), w2_L, x_gN_ok K0 R54, nI_add, x_aL_ok K162 (by rw [L162]; omega) (by omega), w2_L]
    by_cases q : B 172 (16 * a + k) &&& B 173 (16 * b + k) = B 162 (at0 + k)
    · rw [if_pos ((lg_cmp_eq _ _).mpr q), m_let_eq, nI_1]
      exact ih () (fun j hj => by
        by_cases z : j = k
        · rw [z]; exact q
        · exact hs j (by omega))
    · rw [if_neg (fun z => q ((lg_cmp_eq _ _).mp z))]
      unfold mtB
      rw [decide_eq_false (fun z => q (hz.mpr z k hk))]
      rfl
  · intro f s hs
    unfold mtB
    rw [F_X12_meet_3, x_gI_ok K0, w2_I, I43, if_pos (nI_le (by omega) (by omega)), decide_eq_true (hz.mp hs)]
    rfl
theorem M_joins (h : G M) (ho : lOk l) {A : IA} {B : Nat → Nat → Int64} (hl : LMi l A) (hL : LitM l v 172 B) {how a b at0 : Nat} (hh : how < 100) (ha : a < 800) (hc : ccOk l (a / 2) = true) (hb : b < 800) (hcb : ccOk l (b / 2) = true) (hat : at0 ≤ 96) (hP : Rw (wN l) P (fun k => B 162 (at0 + k))) :
    F_X12_joins 128 (nI how) (nI a) (nI b) (nI at0) (m_w2 M A B) = some (bI (jnB l P v how a b), m_w2 M A B) := by
  have hn := wN_le ho
  have K0 : m_K (m_w2 M A B) 128 = 10 := by simp only [w2_K, gK h]
  have R54 : m_R (m_w2 M A B) 128 54 = some 162 := by simp only [w2_R, gR h]
  have K162 : m_K (m_w2 M A B) 162 = 13 := by simp only [w2_K, gK h]
  have L162 : m_len (m_w2 M A B) 162 = 560 := by simp only [w2_n, gl h]
  have R64 : m_R (m_w2 M A B) 128 64 = some 172 := by simp only [w2_R, gR h]
  have K172 : m_K (m_w2 M A B) 172 = 13 := by simp only [w2_K, gK h]
  have L172 : m_len (m_w2 M A B) 172 = 12800 := by simp only [w2_n, gl h]
  have I43 : A 128 43 = nI ((wN l + 63) / 64) := hl.2.2.2.2.2.2
  have hQ : Rw (wN l) (fun w => jnF how (lT l v a w) (lT l v b w)) (fun k => if how = 1 then B 172 (16 * a + k) &&& B 172 (16 * b + k) else B 172 (16 * a + k) ||| B 172 (16 * b + k)) := by
    unfold jnF
    by_cases q : how = 1
    · have := (hL a ha hc).and (hL b hb hcb)
      intro k hk j hj
      dsimp only
      rw [if_pos q, if_pos q]
      exact this k hk j hj
    · have := (hL a ha hc).or (hL b hb hcb)
      intro k hk j hj
      dsimp only
      rw [if_neg q, if_neg q]
      exact this k hk j hj
  have hz := hQ.eql hP hn
  unfold F_X12_joins
  refine up_0 (fun f k (_ : Unit) => F_X12_joins_3 f 128 (nI how) (nI a) (nI b) (nI at0) (nI k) (m_w2 M A B) = some (bI (jnB l P v how a b), m_w2 M A B)) ((wN l + 63) / 64) (fun k (_ : Unit) => ∀ j, j < k → (if how = 1 then B 172 (16 * a + j) &&& B 172 (16 * b + j) else B 172 (16 * a + j) ||| B 172 (16 * b + j)) = B 162 (at0 + j)) (s := ()) (by omega) (fun j hj => absurd hj (by omega)) ?_ ?_
  · intro f k s hk hs ih
    rw [F_X12_joins_3, x_gI_ok K0, w2_I, I43, if_neg (nI_ge (by omega) (by omega))]
    refine m_let_e ?_
    intro K1 hK1
    rw [x_gN_ok K0 R64, show (16 : Int32) = nI 16 from rfl, nI_mul, nI_add, x_aL_ok K172 (by rw [L172]; omega) (by omega), w2_L, x_gN_ok K0 R64, nI_mul, nI_add, x_aL_ok K172 (by rw [L172]; omega) (by omega), w2_L]
    have go : ∀ x, x = (if how = 1 then B 172 (16 * a + k) &&& B 172 (16 * b + k) else B 172 (16 * a + k) ||| B 172 (16 * b + k)) → K1 128 (nI how) (nI a) (nI b) (nI at0) (nI k) x (m_w2 M A B) = some (bI (jnB l P v how a b), m_w2 M A B) := by
      intro x hx
      rw [hK1]
      dsimp only
      rw [x_gN_ok K0 R54, nI_add, x_aL_ok K162 (by rw [L162]; omega) (by omega), w2_L]
      by_cases q : x = B 162 (at0 + k)
      · rw [if_pos ((lg_cmp_eq _ _).mpr q), m_let_eq, nI_1]
        exact ih () (fun j hj => by
          by_cases z : j = k
          · rw [z, ← hx]; exact q
          · exact hs j (by omega))
      · rw [if_neg (fun z => q ((lg_cmp_eq _ _).mp z))]
        unfold jnB
        rw [decide_eq_false (fun z => q (hx.trans (hz.mpr z k hk)))]
        rfl
    by_cases q : how = 1
    · rw [if_pos (show nI how = (1 : Int32) from by rw [q]; rfl)]
      exact go _ (by rw [if_pos q])
    · rw [if_neg (show ¬ nI how = (1 : Int32) from fun z => q ((nI_eq (b := 1) (by omega) (by omega)).mp z))]
      exact go _ (by rw [if_neg q])
  · intro f s hs
    unfold jnB
    rw [F_X12_joins_3, x_gI_ok K0, w2_I, I43, if_pos (nI_le (by omega) (by omega)), decide_eq_true (hz.mp hs)]
    rfl
end MLIT
