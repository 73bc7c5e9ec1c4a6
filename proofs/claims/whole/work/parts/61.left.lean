/-! sayings, books; what is left -/
abbrev Fm : Type := (Nat → Nat) × Nat
/-- told on, binding day, formula -/
abbrev Sy : Type := Nat × Nat × Fm
/-- what is said, what is ordered -/
abbrev Tl : Type := (Nat × (Nat → Sy)) × (Nat × (Nat → Sy))
def bdS (l : Ld) (s : Sy) (w : Nat) : Bool := match vOf l s.2.1 with
  | none => true
  | some v => fMn l (some v) s.2.2.1 s.2.2.2 w
def thS (l : Ld) (s : Sy) (w : Nat) : Bool := fMn l (vOf l s.1) s.2.2.1 s.2.2.2 w
def anN : Nat → (Nat → Bool) → Bool
  | 0, _ => true
  | n + 1, g => anN n g && g n
def lefO (l : Ld) (t : Tl) (day n w : Nat) : Bool := anN n (fun o => decide (day < (t.2.2 o).2.1) || bdS l (t.2.2 o) w)
def lefP (l : Ld) (t : Tl) (day set w : Nat) : Bool := lefO l t day t.2.1 w && anN t.1.1 (fun i => !set.testBit i || bdS l (t.1.2 i) w)
/-- what is told, at the place r of the model's rows -/
def TlM (l : Ld) (t : Tl) (r : Nat) (A : IA) (B : Nat → Nat → Int64) : Prop :=
  (t.1.1 ≤ 12 ∧ t.2.1 ≤ 4) ∧ (A 161 (2 * r) = nI t.1.1 ∧ A 161 (2 * r + 1) = nI t.2.1)
  ∧ (∀ i, i < t.1.1 → A 157 (12 * r + i) = nI (t.1.2 i).2.1 ∧ Rw (wN l) (bdS l (t.1.2 i)) (fun k => B 156 (192 * r + 16 * i + k)))
  ∧ ∀ i, i < t.2.1 → A 160 (4 * r + i) = nI (t.2.2 i).2.1 ∧ Rw (wN l) (bdS l (t.2.2 i)) (fun k => B 158 (64 * r + 16 * i + k)) ∧ Rw (wN l) (thS l (t.2.2 i)) (fun k => B 159 (64 * r + 16 * i + k))
/-- all days are numbers -/
def TlD (t : Tl) : Prop := (∀ i, i < t.1.1 → (t.1.2 i).1 < 1000000 ∧ (t.1.2 i).2.1 < 1000000) ∧ ∀ i, i < t.2.1 → (t.2.2 i).1 < 1000000 ∧ (t.2.2 i).2.1 < 1000000
section LEFT
variable {M : m_M} {l : Ld}
theorem S_ll3 {A : IA} (h : G M) (hl : LMi l A) (ho : lOk l) {row : Nat} (K : m_K M row = 13) (hL : m_len M row = 16) {v w : Int32} {C : Nat → Nat → Int32 → Int32 → m_M → Option (Unit × m_M)} : ∀ (d k f : Nat) (B : Nat → Nat → Int64), k + d = 16 → d < f →
    ∃ B', F_X12_laysLeft_3 C f 128 row v w (nI k) (m_w2 M A B) = C 128 row v w (m_w2 M A B') ∧ (∀ b, b ≠ row → B' b = B b) ∧ (∀ j, j < k → B' row j = B row j) ∧ ∀ j, k ≤ j → j < 16 → B' row j = wlL (wN l) j := by
  intro d
  induction d with
  | zero =>
    intro k f B hk hf
    obtain ⟨f, rfl⟩ : ∃ f', f = f' + 1 := ⟨f - 1, by omega⟩
    refine ⟨B, ?_, fun _ _ => rfl, fun _ _ => rfl, fun j h1 h2 => absurd h1 (by omega)⟩
    rw [F_X12_laysLeft_3, if_pos (show (16 : Int32) ≤ nI k from nI_le (a := 16) (by omega) (by omega))]
  | succ d ih =>
    intro k f B hk hf
    obtain ⟨f, rfl⟩ : ∃ f', f = f' + 1 := ⟨f - 1, by omega⟩
    obtain ⟨B', e, e1, e2, e3⟩ := ih (k + 1) f (upB B row k (wlL (wN l) k)) (by omega) (by omega)
    have hG : G (m_w2 M A B) := h
    refine ⟨B', ?_, fun b hb => by rw [e1 b hb, upB_fr hb], fun j hj => by rw [e2 j (by omega), upB_at, if_neg (by omega)], fun j h1 h2 => ?_⟩
    · rw [F_X12_laysLeft_3, if_neg (show ¬ (16 : Int32) ≤ nI k from nI_ge (b := 16) (by omega) (by omega)), x_cV_ok (by simp only [w2_K, gK h]) (S_allOf hG (show LMi l (m_I (m_w2 M A B)) from hl) ho (k := k) (by omega)), x_sL_ok (by rw [w2_K]; exact K) (by rw [w2_n, hL]; omega) (by omega), w2_sL, m_let_eq, nI_1, e]
    · by_cases q : j = k
      · rw [e2 j (by omega), upB_at, if_pos ⟨rfl, q⟩, q]
      · exact e3 j (by omega) h2
theorem and_step {n row : Nat} {P Q : Nat → Bool} {B B' : Nat → Nat → Int64} {g : Nat → Int64} (hP : Rw n P (B row)) (hQ : Rw n Q g) (h : ∀ j, j < 16 → B' row j = B row j &&& g j) : Rw n (fun w => P w && Q w) (B' row) := (hP.and hQ).of h
theorem S_ll43 {A : IA} (h : G M) {row o day dy : Nat} (K : m_K M row = 13) (hL : m_len M row = 16) (ho4 : o < 4) (hr : row ≠ 158) (hd : A 160 o = nI dy) (hdy : dy < 2147483648) (hday : day < 2147483648) {v : Int32} {C : Nat → Nat → Int32 → Int32 → Int32 → m_M → Option (Unit × m_M)} : ∀ (d k f : Nat) (B : Nat → Nat → Int64), k + d = 16 → d < f →
    ∃ B', F_X12_laysLeft_43 C f 128 row v (nI day) (nI o) (nI k) (m_w2 M A B) = C 128 row v (nI day) (nI o) (m_w2 M A B') ∧ (∀ b, b ≠ row → B' b = B b) ∧ (∀ j, j < k → B' row j = B row j) ∧ ∀ j, k ≤ j → j < 16 → B' row j = if dy ≤ day then B row j &&& B 158 (16 * o + j) else B row j := by
  have K0 : ∀ B, m_K (m_w2 M A B) 128 = 10 := fun B => by simp only [w2_K, gK h]
  have R50 : ∀ B, m_R (m_w2 M A B) 128 50 = some 160 := fun B => by simp only [w2_R, gR h]
  have R48 : ∀ B, m_R (m_w2 M A B) 128 48 = some 158 := fun B => by simp only [w2_R, gR h]
  have K160 : ∀ B, m_K (m_w2 M A B) 160 = 12 := fun B => by simp only [w2_K, gK h]
  have L160 : ∀ B, m_len (m_w2 M A B) 160 = 68 := fun B => by simp only [w2_n, gl h]
  have K158 : ∀ B, m_K (m_w2 M A B) 158 = 13 := fun B => by simp only [w2_K, gK h]
  have L158 : ∀ B, m_len (m_w2 M A B) 158 = 1088 := fun B => by simp only [w2_n, gl h]
  have Kr : ∀ B, m_K (m_w2 M A B) row = 13 := fun B => by rw [w2_K]; exact K
  have Lr : ∀ B, m_len (m_w2 M A B) row = 16 := fun B => by rw [w2_n]; exact hL
  intro d
  induction d with
  | zero =>
    intro k f B hk hf
    obtain ⟨f, rfl⟩ : ∃ f', f = f' + 1 := ⟨f - 1, by omega⟩
    refine ⟨B, ?_, fun _ _ => rfl, fun _ _ => rfl, fun j h1 h2 => absurd h1 (by omega)⟩
    rw [F_X12_laysLeft_43, if_pos (show (16 : Int32) ≤ nI k from nI_le (a := 16) (by omega) (by omega))]
  | succ d ih =>
    intro k f B hk hf
    obtain ⟨f, rfl⟩ : ∃ f', f = f' + 1 := ⟨f - 1, by omega⟩
    rw [F_X12_laysLeft_43, if_neg (show ¬ (16 : Int32) ≤ nI k from nI_ge (b := 16) (by omega) (by omega)), x_gN_ok (K0 _) (R50 _), x_aI_ok (K160 _) (by rw [L160]; omega) (by omega), w2_I, hd]
    by_cases q : dy ≤ day
    · obtain ⟨B', e, e1, e2, e3⟩ := ih (k + 1) f (upB B row k (B row k &&& B 158 (16 * o + k))) (by omega) (by omega)
      refine ⟨B', ?_, fun b hb => by rw [e1 b hb, upB_fr hb], fun j hj => by rw [e2 j (by omega), upB_at, if_neg (by omega)], fun j h1 h2 => ?_⟩
      · rw [if_neg (nI_nlt q (by omega)), x_aL_ok (Kr _) (by rw [Lr]; omega) (by omega), x_gN_ok (K0 _) (R48 _), show (16 : Int32) = nI 16 from rfl, nI_mul, nI_add, x_aL_ok (K158 _) (by rw [L158]; omega) (by omega), x_sL_ok (Kr _) (by rw [Lr]; omega) (by omega), w2_L, w2_sL, m_let_eq, nI_1, e]
      · rw [if_pos q]
        by_cases q2 : j = k
        · rw [e2 j (by omega), upB_at, if_pos ⟨rfl, q2⟩, q2]
        · rw [e3 j (by omega) h2, if_pos q, upB_at, if_neg (by omega), upB_fr (Ne.symm hr)]
    · refine ⟨B, ?_, fun _ _ => rfl, fun _ _ => rfl, fun j h1 h2 => by rw [if_neg q]⟩
      rw [if_pos (nI_lt (by omega) (by omega))]
theorem S_ll29 {A : IA} {t : Tl} (h : G M) (ho : lOk l) {row day : Nat} (K : m_K M row = 13) (hL : m_len M row = 16) (hr : row < 156 ∨ 159 < row) (hday : day < 2147483648) (hd : TlD t) {v : Int32} {C : Nat → Nat → Int32 → m_M → Option (Unit × m_M)} : ∀ (d o f : Nat) (B : Nat → Nat → Int64), o + d = t.2.1 → d < f → TlM l t 0 A B → Rw (wN l) (lefO l t day o) (B row) →
    ∃ B', F_X12_laysLeft_29 C f 128 row v (nI day) (nI o) (m_w2 M A B) = C 128 row v (m_w2 M A B') ∧ (∀ b, b ≠ row → B' b = B b) ∧ Rw (wN l) (lefO l t day t.2.1) (B' row) := by
  have K0 : ∀ B, m_K (m_w2 M A B) 128 = 10 := fun B => by simp only [w2_K, gK h]
  have R51 : ∀ B, m_R (m_w2 M A B) 128 51 = some 161 := fun B => by simp only [w2_R, gR h]
  have K161 : ∀ B, m_K (m_w2 M A B) 161 = 12 := fun B => by simp only [w2_K, gK h]
  have L161 : ∀ B, m_len (m_w2 M A B) 161 = 34 := fun B => by simp only [w2_n, gl h]
  intro d
  induction d with
  | zero =>
    intro o f B hk hf ht hP
    obtain ⟨f, rfl⟩ : ∃ f', f = f' + 1 := ⟨f - 1, by omega⟩
    have hb := ht.1.2
    refine ⟨B, ?_, fun _ _ => rfl, by rw [← show o = t.2.1 by omega]; exact hP⟩
    rw [F_X12_laysLeft_29, x_gN_ok (K0 _) (R51 _), show (1 : Int32) = nI 1 from rfl, x_aI_ok (K161 _) (by rw [L161]; omega) (by omega), w2_I, show A 161 1 = nI t.2.1 from ht.2.1.2, if_pos (nI_le (by omega) (by omega))]
  | succ d ih =>
    intro o f B hk hf ht hP
    obtain ⟨f, rfl⟩ : ∃ f', f = f' + 1 := ⟨f - 1, by omega⟩
    have hb := ht.1.2
    obtain ⟨q1, q2, q3⟩ := ht.2.2.2 o (by omega)
    have hdy := (hd.2 o (by omega)).2
    have q1' : A 160 o = nI (t.2.2 o).2.1 := by have := q1; rw [show 4 * 0 + o = o by omega] at this; exact this
    rw [F_X12_laysLeft_29, x_gN_ok (K0 _) (R51 _), show (1 : Int32) = nI 1 from rfl, x_aI_ok (K161 _) (by rw [L161]; omega) (by omega), w2_I, show A 161 1 = nI t.2.1 from ht.2.1.2, if_neg (nI_ge (by omega) (by omega))]
    refine m_let_P (fun z => ∃ B', z = C 128 row v (m_w2 M A B') ∧ (∀ b, b ≠ row → B' b = B b) ∧ Rw (wN l) (lefO l t day t.2.1) (B' row)) ?_
    intro k87 h87
    obtain ⟨B1, e, e1, e2, e3⟩ := S_ll43 (A := A) h K hL (o := o) (day := day) (by omega) (by omega) q1' (by omega) hday (v := v) (C := k87) 16 0 m_FU B (by omega) (m_FU_lt (by omega))
    have hP1 : Rw (wN l) (lefO l t day (o + 1)) (B1 row) := by
      by_cases q : (t.2.2 o).2.1 ≤ day
      · have := and_step (B' := B1) hP q2 (fun j hj => by rw [e3 j (by omega) hj, if_pos q]; congr 1; congr 1; omega)
        refine this.cong (fun w _ => ?_)
        show _ = (lefO l t day o w && (decide (day < (t.2.2 o).2.1) || bdS l (t.2.2 o) w))
        rw [decide_eq_false (by omega)]; rfl
      · refine (hP.of (g := B1 row) (fun j hj => by rw [e3 j (by omega) hj, if_neg q])).cong (fun w _ => ?_)
        show _ = (lefO l t day o w && (decide (day < (t.2.2 o).2.1) || bdS l (t.2.2 o) w))
        rw [decide_eq_true (by omega)]; simp
    have ht1 : TlM l t 0 A B1 := by
      unfold TlM at ht ⊢
      rw [e1 156 (by omega), e1 158 (by omega), e1 159 (by omega)]
      exact ht
    obtain ⟨B', e4, e5, e6⟩ := ih (o + 1) f B1 (by omega) (by omega) ht1 hP1
    refine ⟨B', ?_, fun b hb => by rw [e5 b hb, e1 b hb], e6⟩
    have e' : F_X12_laysLeft_43 k87 m_FU 128 row v (nI day) (nI o) (0 : Int32) (m_w2 M A B) = k87 128 row v (nI day) (nI o) (m_w2 M A B1) := e
    rw [e', h87]
    dsimp only
    rw [m_let_eq, nI_add, e4]
theorem nI_bit {set i : Nat} (hs : set < 2147483648) (hi : i < 32) : ((nI set >>> (nI i &&& (31 : Int32))) &&& (1 : Int32) = (1 : Int32)) ↔ set.testBit i = true := by
  have hb : set / 2 ^ i < 2147483648 := Nat.lt_of_le_of_lt (Nat.div_le_self _ _) hs
  rw [nI_shr hs hi, show (1 : Int32) = nI 1 from rfl, nI_m1, nI_eq (by omega) (by omega), tb_div]
  simp
theorem S_ll110 {A : IA} (h : G M) {row i set : Nat} (K : m_K M row = 13) (hL : m_len M row = 16) (hi12 : i < 12) (hr : row ≠ 156) (hs : set < 2147483648) {C : Nat → Nat → Int32 → Int32 → m_M → Option (Unit × m_M)} : ∀ (d k f : Nat) (B : Nat → Nat → Int64), k + d = 16 → d < f →
    ∃ B', F_X12_laysLeft_110 C f 128 row (nI set) (nI i) (nI k) (m_w2 M A B) = C 128 row (nI set) (nI i) (m_w2 M A B') ∧ (∀ b, b ≠ row → B' b = B b) ∧ (∀ j, j < k → B' row j = B row j) ∧ ∀ j, k ≤ j → j < 16 → B' row j = if set.testBit i = true then B row j &&& B 156 (16 * i + j) else B row j := by
  have K0 : ∀ B, m_K (m_w2 M A B) 128 = 10 := fun B => by simp only [w2_K, gK h]
  have R46 : ∀ B, m_R (m_w2 M A B) 128 46 = some 156 := fun B => by simp only [w2_R, gR h]
  have K156 : ∀ B, m_K (m_w2 M A B) 156 = 13 := fun B => by simp only [w2_K, gK h]
  have L156 : ∀ B, m_len (m_w2 M A B) 156 = 3264 := fun B => by simp only [w2_n, gl h]
  have Kr : ∀ B, m_K (m_w2 M A B) row = 13 := fun B => by rw [w2_K]; exact K
  have Lr : ∀ B, m_len (m_w2 M A B) row = 16 := fun B => by rw [w2_n]; exact hL
  intro d
  induction d with
  | zero =>
    intro k f B hk hf
    obtain ⟨f, rfl⟩ : ∃ f', f = f' + 1 := ⟨f - 1, by omega⟩
    refine ⟨B, ?_, fun _ _ => rfl, fun _ _ => rfl, fun j h1 h2 => absurd h1 (by omega)⟩
    rw [F_X12_laysLeft_110, if_pos (show (16 : Int32) ≤ nI k from nI_le (a := 16) (by omega) (by omega))]
  | succ d ih =>
    intro k f B hk hf
    obtain ⟨f, rfl⟩ : ∃ f', f = f' + 1 := ⟨f - 1, by omega⟩
    rw [F_X12_laysLeft_110, if_neg (show ¬ (16 : Int32) ≤ nI k from nI_ge (b := 16) (by omega) (by omega))]
    by_cases q : set.testBit i = true
    · obtain ⟨B', e, e1, e2, e3⟩ := ih (k + 1) f (upB B row k (B row k &&& B 156 (16 * i + k))) (by omega) (by omega)
      refine ⟨B', ?_, fun b hb => by rw [e1 b hb, upB_fr hb], fun j hj => by rw [e2 j (by omega), upB_at, if_neg (by omega)], fun j h1 h2 => ?_⟩
      · rw [if_pos ((nI_bit hs (by omega)).mpr q), x_aL_ok (Kr _) (by rw [Lr]; omega) (by omega), x_gN_ok (K0 _) (R46 _), show (16 : Int32) = nI 16 from rfl, nI_mul, nI_add, x_aL_ok (K156 _) (by rw [L156]; omega) (by omega), x_sL_ok (Kr _) (by rw [Lr]; omega) (by omega), w2_L, w2_sL, m_let_eq, nI_1, e]
      · rw [if_pos q]
        by_cases q2 : j = k
        · rw [e2 j (by omega), upB_at, if_pos ⟨rfl, q2⟩, q2]
        · rw [e3 j (by omega) h2, if_pos q, upB_at, if_neg (by omega), upB_fr (Ne.symm hr)]
    · refine ⟨B, ?_, fun _ _ => rfl, fun _ _ => rfl, fun j h1 h2 => by rw [if_neg q]⟩
      rw [if_neg (fun z => q ((nI_bit hs (by omega)).mp z))]
theorem S_ll96 {A : IA} {t : Tl} (h : G M) {row set : Nat} (K : m_K M row = 13) (hL : m_len M row = 16) (hr : row < 156 ∨ 159 < row) (hs : set < 2147483648) {P : Nat → Bool} : ∀ (d i f : Nat) (B : Nat → Nat → Int64), i + d = t.1.1 → d < f → TlM l t 0 A B → Rw (wN l) (fun w => P w && anN i (fun i => !set.testBit i || bdS l (t.1.2 i) w)) (B row) →
    ∃ B', F_X12_laysLeft_96 f 128 row (nI set) (nI i) (m_w2 M A B) = some ((), m_w2 M A B') ∧ (∀ b, b ≠ row → B' b = B b) ∧ Rw (wN l) (fun w => P w && anN t.1.1 (fun i => !set.testBit i || bdS l (t.1.2 i) w)) (B' row) := by
  have K0 : ∀ B, m_K (m_w2 M A B) 128 = 10 := fun B => by simp only [w2_K, gK h]
  have R51 : ∀ B, m_R (m_w2 M A B) 128 51 = some 161 := fun B => by simp only [w2_R, gR h]
  have K161 : ∀ B, m_K (m_w2 M A B) 161 = 12 := fun B => by simp only [w2_K, gK h]
  have L161 : ∀ B, m_len (m_w2 M A B) 161 = 34 := fun B => by simp only [w2_n, gl h]
  intro d
  induction d with
  | zero =>
    intro i f B hk hf ht hP
    obtain ⟨f, rfl⟩ : ∃ f', f = f' + 1 := ⟨f - 1, by omega⟩
    have hb := ht.1.1
    refine ⟨B, ?_, fun _ _ => rfl, by rw [← show i = t.1.1 by omega]; exact hP⟩
    rw [F_X12_laysLeft_96, x_gN_ok (K0 _) (R51 _), show (0 : Int32) = nI 0 from rfl, x_aI_ok (K161 _) (by rw [L161]; omega) (by omega), w2_I, show A 161 0 = nI t.1.1 from ht.2.1.1, if_pos (nI_le (by omega) (by omega))]
  | succ d ih =>
    intro i f B hk hf ht hP
    obtain ⟨f, rfl⟩ : ∃ f', f = f' + 1 := ⟨f - 1, by omega⟩
    have hb := ht.1.1
    obtain ⟨q1, q2⟩ := ht.2.2.1 i (by omega)
    rw [F_X12_laysLeft_96, x_gN_ok (K0 _) (R51 _), show (0 : Int32) = nI 0 from rfl, x_aI_ok (K161 _) (by rw [L161]; omega) (by omega), w2_I, show A 161 0 = nI t.1.1 from ht.2.1.1, if_neg (nI_ge (by omega) (by omega)), m_let_eq]
    obtain ⟨B1, e, e1, e2, e3⟩ := S_ll110 (A := A) h K hL (i := i) (set := set) (by omega) (by omega) hs (C := fun (v7 : Nat) (v8 : Nat) (v9 : Int32) (v10 : Int32) (M1 : m_M) =>
      m_let (v10 + (1 : Int32)) fun v11 =>
      F_X12_laysLeft_96 f v7 v8 v9 v11 M1) 16 0 m_FU B (by omega) (m_FU_lt (by omega))
    have hP1 : Rw (wN l) (fun w => P w && anN (i + 1) (fun i => !set.testBit i || bdS l (t.1.2 i) w)) (B1 row) := by
      by_cases q : set.testBit i = true
      · have := and_step (B' := B1) hP q2 (fun j hj => by rw [e3 j (by omega) hj, if_pos q]; congr 1; congr 1; omega)
        refine this.cong (fun w _ => ?_)
        show _ = (P w && (anN i (fun i => !set.testBit i || bdS l (t.1.2 i) w) && (!set.testBit i || bdS l (t.1.2 i) w)))
        rw [q, Bool.and_assoc]; rfl
      · refine (hP.of (g := B1 row) (fun j hj => by rw [e3 j (by omega) hj, if_neg q])).cong (fun w _ => ?_)
        show _ = (P w && (anN i (fun i => !set.testBit i || bdS l (t.1.2 i) w) && (!set.testBit i || bdS l (t.1.2 i) w)))
        rw [show set.testBit i = false by simpa using q]; simp
    have ht1 : TlM l t 0 A B1 := by
      unfold TlM at ht ⊢
      rw [e1 156 (by omega), e1 158 (by omega), e1 159 (by omega)]
      exact ht
    obtain ⟨B', e4, e5, e6⟩ := ih (i + 1) f B1 (by omega) (by omega) ht1 hP1
    refine ⟨B', ?_, fun b hb => by rw [e5 b hb, e1 b hb], e6⟩
    rw [e]
    rw [m_let_eq, nI_1, e4]
/-- what is left by orders that have come and some of what is said -/
theorem S_laysLeft {A : IA} {B : Nat → Nat → Int64} {t : Tl} (h : G M) (hl : LMi l A) (ho : lOk l) {row set day : Nat} (K : m_K M row = 13) (hL : m_len M row = 16) (hr : row < 156 ∨ 159 < row) (hs : set < 2147483648) (hday : day < 2147483648) (hd : TlD t) (ht : TlM l t 0 A B) :
    ∃ B', F_X12_laysLeft 128 row (nI set) (nI day) (m_w2 M A B) = some ((), m_w2 M A B') ∧ (∀ b, b ≠ row → B' b = B b) ∧ Rw (wN l) (lefP l t day set) (B' row) := by
  have hb := ht.1
  unfold F_X12_laysLeft
  refine m_let_P (fun o => ∃ B', o = some ((), m_w2 M A B') ∧ (∀ b, b ≠ row → B' b = B b) ∧ Rw (wN l) (lefP l t day set) (B' row)) ?_
  intro k26 h26
  obtain ⟨B1, e, e1, e2, e3⟩ := S_ll3 h hl ho K hL (v := nI set) (w := nI day) (C := k26) 16 0 m_FU B (by omega) (m_FU_lt (by omega))
  have e' : F_X12_laysLeft_3 k26 m_FU 128 row (nI set) (nI day) (0 : Int32) (m_w2 M A B) = k26 128 row (nI set) (nI day) (m_w2 M A B1) := e
  rw [e', h26]
  have hP0 : Rw (wN l) (lefO l t day 0) (B1 row) := (Rw.whole (wN l)).of (fun j hj => e3 j (by omega) hj)
  have ht1 : TlM l t 0 A B1 := by
    unfold TlM at ht ⊢
    rw [e1 156 (by omega), e1 158 (by omega), e1 159 (by omega)]
    exact ht
  refine m_let_P (fun o => ∃ B', o = some ((), m_w2 M A B') ∧ (∀ b, b ≠ row → B' b = B b) ∧ Rw (wN l) (lefP l t day set) (B' row)) ?_
  intro k93 h93
  obtain ⟨B2, f1, f2, f3⟩ := S_ll29 h ho K hL hr hday hd (v := nI set) (C := k93) t.2.1 0 m_FU B1 (by omega) (m_FU_lt (by omega)) ht1 hP0
  have f1' : F_X12_laysLeft_29 k93 m_FU 128 row (nI set) (nI day) (0 : Int32) (m_w2 M A B1) = k93 128 row (nI set) (m_w2 M A B2) := f1
  rw [f1', h93]
  have ht2 : TlM l t 0 A B2 := by
    unfold TlM at ht1 ⊢
    rw [f2 156 (by omega), f2 158 (by omega), f2 159 (by omega)]
    exact ht1
  obtain ⟨B3, g1, g2, g3⟩ := S_ll96 (l := l) (t := t) (set := set) (P := lefO l t day t.2.1) h K hL hr hs t.1.1 0 m_FU B2 (by omega) (m_FU_lt (by omega)) ht2 (f3.cong (fun w _ => by show _ = (_ && true); rw [Bool.and_true]))
  exact ⟨B3, g1, fun b hb => by rw [g2 b hb, f2 b hb, e1 b hb], g3⟩
theorem S_leaves {A : IA} {B : Nat → Nat → Int64} {t : Tl} (h : G M) (hl : LMi l A) (ho : lOk l) {day : Nat} (hday : day < 2147483648) (hA : A 128 53 = nI day) (hd : TlD t) (ht : TlM l t 0 A B) :
    ∃ B', F_X12_leaves 128 (m_w2 M A B) = some ((), m_w2 M A B') ∧ (∀ b, b ≠ 170 → B' b = B b) ∧ Rw (wN l) (lefP l t day 4095) (B' 170) := by
  obtain ⟨B', e, e1, e2⟩ := S_laysLeft (row := 170) (set := 4095) (B := B) h hl ho (by simp only [gK h]) (by simp only [gl h]) (by omega) (by omega) hday hd ht
  refine ⟨B', ?_, e1, e2⟩
  have K0 : ∀ B, m_K (m_w2 M A B) 128 = 10 := fun B => by simp only [w2_K, gK h]
  have R62 : ∀ B, m_R (m_w2 M A B) 128 62 = some 170 := fun B => by simp only [w2_R, gR h]
  unfold F_X12_leaves
  rw [x_gN_ok (K0 _) (R62 _), x_gI_ok (K0 _), w2_I, hA, show (4095 : Int32) = nI 4095 from rfl, x_cV_ok (K0 _) e]
end LEFT
