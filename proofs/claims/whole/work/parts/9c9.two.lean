/-! two -/
def fS {α : Type} (g : Nat → Option α) : Nat → Nat → Option α
  | 0, _ => none
  | d + 1, k => match g k with
    | some x => some x
    | none => fS g d (k + 1)
theorem fS_none {α : Type} {g : Nat → Option α} {d k : Nat} (h : g k = none) : fS g (d + 1) k = fS g d (k + 1) := by
  show (match g k with | some x => some x | none => fS g d (k + 1)) = _
  rw [h]
theorem fS_some {α : Type} {g : Nat → Option α} {d k : Nat} {x : α} (h : g k = some x) : fS g (d + 1) k = some x := by
  show (match g k with | some x => some x | none => fS g d (k + 1)) = _
  rw [h]
theorem fS_range {α : Type} {g : Nat → Option α} : ∀ (d k : Nat), fS g d k = (List.range' k d).findSome? g := by
  intro d
  induction d with
  | zero => intro k; rfl
  | succ d ih =>
    intro k
    rw [List.range'_succ, List.findSome?_cons, ← ih (k + 1)]
    rfl
theorem fS_cong {α : Type} {g g' : Nat → Option α} : ∀ (d k : Nat), (∀ i, k ≤ i → i < k + d → g i = g' i) → fS g d k = fS g' d k := by
  intro d
  induction d with
  | zero => intro k _; rfl
  | succ d ih =>
    intro k h
    have e := h k (Nat.le_refl k) (by omega)
    have e2 := ih (k + 1) (fun i h1 h2 => h i (by omega) (by omega))
    show (match g k with | some x => some x | none => fS g d (k + 1)) = (match g' k with | some x => some x | none => fS g' d (k + 1))
    rw [e, e2]
theorem fS_in {α : Type} {g : Nat → Option α} {x : α} : ∀ (d k : Nat), fS g d k = some x → ∃ i, k ≤ i ∧ i < k + d ∧ g i = some x := by
  intro d
  induction d with
  | zero => intro k h; cases h
  | succ d ih =>
    intro k h
    cases q : g k with
    | some y => rw [fS_some q] at h; exact ⟨k, Nat.le_refl k, by omega, by rw [q]; exact h⟩
    | none =>
      rw [fS_none q] at h
      obtain ⟨i, h1, h2, h3⟩ := ih (k + 1) h
      exact ⟨i, by omega, by omega, h3⟩
theorem fsm_filter {α β : Type} {q : α → Bool} {g : α → Option β} : ∀ (L : List α), (L.filter q).findSome? g = L.findSome? (fun a => if q a = true then g a else none) := by
  intro L
  induction L with
  | nil => rfl
  | cons a r ih =>
    rw [List.filter_cons, List.findSome?_cons]
    by_cases z : q a = true
    · rw [if_pos z, if_pos z, List.findSome?_cons, ih]
    · rw [if_neg z, if_neg z, ih]
/-- the model's search at one pair of verbs -/
def twB (l : Ld) (P : Nat → Bool) (v v' : Option Nat) (a b : Nat) : Option (Nat × Nat) := if (ccOk l (b / 2) && mtB l P v v' a b) = true then some (a, b) else none
def twA (l : Ld) (P : Nat → Bool) (v v' : Option Nat) (a : Nat) : Option (Nat × Nat) := if (ccOk l (a / 2) && apB l P (lT l v (a ^^^ 1))) = true then fS (twB l P v v' a) 800 0 else none
def twR (l : Ld) (P : Nat → Bool) (v v' : Option Nat) : Option (Nat × Nat) := fS (twA l P v v') 800 0
/-- the class's -/
def tgB (l : Ld) (P : Nat → Bool) (v v' : Option Nat) (a b : Nat) : Option (Nat × Nat) := if apB l (fun w => !P w && lT l v a w) (lT l v' b) = true then some (a, b) else none
def tgA (l : Ld) (P : Nat → Bool) (v v' : Option Nat) (a : Nat) : Option (Nat × Nat) := (abvL l P v' 0 800).findSome? (tgB l P v v' a)
def tgR (l : Ld) (P : Nat → Bool) (v v' : Option Nat) : Option (Nat × Nat) := (abvL l P v 0 800).findSome? (tgA l P v v')
theorem apB_x {l : Ld} {P : Nat → Bool} {v : Option Nat} {a : Nat} (ha : a < 800) : apB l P (lT l v (a ^^^ 1)) = decide (∀ w, w < wN l → P w = true → lT l v a w = true) := by
  unfold apB
  rw [decide_eq_decide]
  refine forall_congr' (fun w => forall_congr' (fun _ => ?_))
  rw [lT_x ha]
  cases P w <;> cases lT l v a w <;> simp
theorem tw_tg {l : Ld} {P : Nat → Bool} {v v' : Option Nat} : tgR l P v v' = twR l P v v' := by
  unfold tgR abvL twR
  rw [fsm_filter, List.range_eq_range', ← fS_range]
  refine fS_cong 800 0 (fun a _ ha => ?_)
  have ha : a < 800 := by omega
  unfold twA abvQ
  rw [Nat.xor_zero]
  by_cases qa : (ccOk l (a / 2) && apB l P (lT l v (a ^^^ 1))) = true
  · rw [if_pos qa, if_pos qa]
    have ha2 := (Bool.and_eq_true _ _ ▸ qa).2
    rw [apB_x ha, decide_eq_true_iff] at ha2
    unfold tgA abvL
    rw [fsm_filter, List.range_eq_range', ← fS_range]
    refine fS_cong 800 0 (fun b _ hb => ?_)
    have hb : b < 800 := by omega
    unfold tgB twB abvQ
    rw [Nat.xor_zero]
    have key : (ccOk l (b / 2) && mtB l P v v' a b) = true ↔ (ccOk l (b / 2) && apB l P (lT l v' (b ^^^ 1))) = true ∧ apB l (fun w => !P w && lT l v a w) (lT l v' b) = true := by
      rw [Bool.and_eq_true, Bool.and_eq_true, apB_x hb, decide_eq_true_iff]
      unfold mtB apB
      rw [decide_eq_true_iff, decide_eq_true_iff]
      constructor
      · rintro ⟨h1, h2⟩
        refine ⟨⟨h1, fun w hw hp => ?_⟩, fun w hw => ?_⟩
        · have := h2 w hw
          rw [hp, Bool.and_eq_true] at this
          exact this.2
        · have := h2 w hw
          dsimp only
          rw [← this]
          cases lT l v a w <;> cases lT l v' b w <;> rfl
      · rintro ⟨⟨h1, h2⟩, h3⟩
        refine ⟨h1, fun w hw => ?_⟩
        have y1 := ha2 w hw
        have y2 := h2 w hw
        have y3 := h3 w hw
        dsimp only at y3
        cases hp : P w
        · rw [hp] at y3
          cases qx : lT l v a w <;> cases qy : lT l v' b w
          · rfl
          · rfl
          · rfl
          · rw [qx, qy] at y3; cases y3
        · rw [y1 hp, y2 hp]; rfl
    by_cases q1 : (ccOk l (b / 2) && apB l P (lT l v' (b ^^^ 1))) = true
    · rw [if_pos q1]
      by_cases q2 : apB l (fun w => !P w && lT l v a w) (lT l v' b) = true
      · rw [if_pos q2, if_pos (key.mpr ⟨q1, q2⟩)]
      · rw [if_neg q2, if_neg (fun z => q2 (key.mp z).2)]
    · rw [if_neg q1, if_neg (fun z => q1 (key.mp z).1)]
  · rw [if_neg qa, if_neg qa]
section TWO
variable {M M' : m_M} {l : Ld} {v v' : Option Nat} {P : Nat → Bool} {s : St}
theorem M_tw149 (h : G M) (ho : lOk l) {A : IA} {B : Nat → Nat → Int64} (hl : LMi l A) (hL : LitM l v 172 B) (hL2 : LitM l v' 173 B) {a at0 : Nat} (ha : a < 800) (hc : ccOk l (a / 2) = true) (hat : at0 ≤ 96) (hP : Rw (wN l) P (fun k => B 162 (at0 + k))) {wh dd : Int32} {K1 : Int32 → Int32 → Int32 → Int32 → m_M → Option (Int32 × m_M)} {K2 : Nat → Int32 → Int32 → Int32 → Int32 → m_M → Option (Int32 × m_M)} : ∀ (d k f : Nat), k + d = 800 → d < f →
    F_X12_two_149 K1 K2 f 128 wh (nI at0) dd (nI a) (nI k) (m_w2 M A B) = match fS (twB l P v v' a) d k with | some ab => K1 wh dd (nI ab.1) (nI ab.2) (m_w2 M A B) | none => K2 128 wh (nI at0) dd (nI a) (m_w2 M A B) := by
  have K0 : m_K (m_w2 M A B) 128 = 10 := by simp only [w2_K, gK h]
  intro d
  induction d with
  | zero =>
    intro k f hk hf
    obtain ⟨f, rfl⟩ : ∃ f', f = f' + 1 := ⟨f - 1, by omega⟩
    obtain rfl : k = 800 := by omega
    rw [F_X12_two_149, if_pos (by decide)]
    rfl
  | succ d ih =>
    intro k f hk hf
    obtain ⟨f, rfl⟩ : ∃ f', f = f' + 1 := ⟨f - 1, by omega⟩
    have ic : F_X12_isClause 128 (nI (k / 2)) (m_w2 M A B) = some (bI (ccOk l (k / 2)), m_w2 M A B) := S_isClauseM (M := m_w2 M A B) h hl ho (by omega)
    have step := ih (k + 1) f (by omega) (by omega)
    rw [F_X12_two_149, if_neg (show ¬ (800 : Int32) ≤ nI k from nI_ge (b := 800) (by omega) (by omega))]
    refine m_let_e ?_
    intro K3 hK3
    rw [x_nz_eq, if_neg (by decide), show nI k / (2 : Int32) = nI (k / 2) from i32_div (b := 2) (by omega) (by omega), x_cV_ok K0 ic]
    cases q : ccOk l (k / 2)
    · rw [if_pos (by decide), hK3]
      dsimp only
      rw [m_let_eq, nI_1, step, fS_none (k := k) (by unfold twB; rw [q]; rfl)]
    · rw [if_neg (by decide), x_cV_ok K0 (M_meet h ho hl hL hL2 ha hc (show k < 800 by omega) q hat hP)]
      cases q2 : mtB l P v v' a k
      · rw [if_pos (by decide), hK3]
        dsimp only
        rw [m_let_eq, nI_1, step, fS_none (k := k) (by unfold twB; rw [q2]; simp)]
      · rw [if_neg (by decide), fS_some (k := k) (show twB l P v v' a k = some (a, k) by unfold twB; rw [q, q2]; rfl)]
theorem M_tw114 (h : G M) (ho : lOk l) {A : IA} {B : Nat → Nat → Int64} (hl : LMi l A) (hL : LitM l v 172 B) (hL2 : LitM l v' 173 B) {at0 : Nat} (hat : at0 ≤ 96) (hP : Rw (wN l) P (fun k => B 162 (at0 + k))) {wh dd : Int32} {K1 : Int32 → Int32 → Int32 → Int32 → m_M → Option (Int32 × m_M)} {K2 : Nat → Int32 → Int32 → Int32 → m_M → Option (Int32 × m_M)} : ∀ (d k f : Nat), k + d = 800 → d < f →
    F_X12_two_114 K1 K2 f 128 wh (nI at0) dd (nI k) (m_w2 M A B) = match fS (twA l P v v') d k with | some ab => K1 wh dd (nI ab.1) (nI ab.2) (m_w2 M A B) | none => K2 128 wh (nI at0) dd (m_w2 M A B) := by
  have K0 : m_K (m_w2 M A B) 128 = 10 := by simp only [w2_K, gK h]
  intro d
  induction d with
  | zero =>
    intro k f hk hf
    obtain ⟨f, rfl⟩ : ∃ f', f = f' + 1 := ⟨f - 1, by omega⟩
    obtain rfl : k = 800 := by omega
    rw [F_X12_two_114, if_pos (by decide)]
    rfl
  | succ d ih =>
    intro k f hk hf
    obtain ⟨f, rfl⟩ : ∃ f', f = f' + 1 := ⟨f - 1, by omega⟩
    have ic : F_X12_isClause 128 (nI (k / 2)) (m_w2 M A B) = some (bI (ccOk l (k / 2)), m_w2 M A B) := S_isClauseM (M := m_w2 M A B) h hl ho (by omega)
    have step := ih (k + 1) f (by omega) (by omega)
    rw [F_X12_two_114, if_neg (show ¬ (800 : Int32) ≤ nI k from nI_ge (b := 800) (by omega) (by omega))]
    refine m_let_e ?_
    intro K3 hK3
    rw [x_nz_eq, if_neg (by decide), show nI k / (2 : Int32) = nI (k / 2) from i32_div (b := 2) (by omega) (by omega), x_cV_ok K0 ic]
    cases q : ccOk l (k / 2)
    · rw [if_pos (by decide), hK3]
      dsimp only
      rw [m_let_eq, nI_1, step, fS_none (k := k) (by unfold twA; rw [q]; rfl)]
    · rw [if_neg (by decide), x_cV_ok K0 (M_isAbove h ho hl hL (show k < 800 by omega) q hat hP)]
      cases q2 : apB l P (lT l v (k ^^^ 1))
      · rw [if_pos (by decide), hK3]
        dsimp only
        rw [m_let_eq, nI_1, step, fS_none (k := k) (by unfold twA; rw [q2]; simp)]
      · rw [if_neg (by decide)]
        have e : F_X12_two_149 K1 K3 m_FU 128 wh (nI at0) dd (nI k) (0 : Int32) (m_w2 M A B) = _ := M_tw149 h ho hl hL hL2 (show k < 800 by omega) q hat hP (wh := wh) (dd := dd) (K1 := K1) (K2 := K3) 800 0 m_FU (by omega) (m_FU_lt (by omega))
        have hA : twA l P v v' k = fS (twB l P v v' k) 800 0 := by unfold twA; rw [q, q2]; rfl
        rw [e]
        cases q3 : fS (twB l P v v' k) 800 0 with
        | some ab => rw [fS_some (k := k) (hA.trans q3)]
        | none =>
          rw [fS_none (k := k) (hA.trans q3)]
          dsimp only
          rw [hK3]
          dsimp only
          rw [m_let_eq, nI_1, step]
theorem S_ft28 (h : G M) (ho : lOk l) {A : IA} {B : Nat → Nat → Int64} (hl : LCi l A) (hL : LitC l v' 70 B) {R : Nat → Bool} (hR : RwL (wN l) R (B 76)) {a mt n : Nat} {ii : Int32} (hn8 : n ≤ 800) {K1 : Nat → Int32 → Int32 → m_M → Option (Int32 × m_M)} {K2 : Nat → Int32 → Int32 → Int32 → m_M → Option (Int32 × m_M)} : ∀ (L : List Nat) (j f : Nat), j + L.length = n → L.length < f → LsA (A 72) j L → (∀ b, b ∈ L → b < 800 ∧ ccOk l (b / 2) = true) →
    (L.findSome? (fun b => if apB l R (lT l v' b) = true then some (a, b) else none) = none ∧ F_X2_findTogether_28 K1 K2 f 67 (nI mt) (nI n) ii (nI j) (m_w2 M A B) = K2 67 (nI mt) (nI n) ii (m_w2 M A B)) ∨ ∃ j' b, j' < n ∧ A 72 j' = nI b ∧ L.findSome? (fun b => if apB l R (lT l v' b) = true then some (a, b) else none) = some (a, b) ∧ F_X2_findTogether_28 K1 K2 f 67 (nI mt) (nI n) ii (nI j) (m_w2 M A B) = K1 67 ii (nI j') (m_w2 M A B) := by
  have K67 : m_K (m_w2 M A B) 67 = 2 := by simp only [w2_K, gK h]
  have R11 : m_R (m_w2 M A B) 67 11 = some 75 := by simp only [w2_R, gR h]
  have R7 : m_R (m_w2 M A B) 67 7 = some 70 := by simp only [w2_R, gR h]
  have R9 : m_R (m_w2 M A B) 67 9 = some 72 := by simp only [w2_R, gR h]
  have K72 : m_K (m_w2 M A B) 72 = 12 := by simp only [w2_K, gK h]
  have L72 : m_len (m_w2 M A B) 72 = 800 := by simp only [w2_n, gl h]
  have W75 : Ws M 75 76 := ⟨by simp only [gK h], by simp only [gR h], by simp only [gK h], by simp only [gl h]⟩
  intro L
  induction L with
  | nil =>
    intro j f hj hf _ _
    obtain ⟨f, rfl⟩ : ∃ f', f = f' + 1 := ⟨f - 1, by omega⟩
    have hj : j = n := hj
    refine .inl ⟨rfl, ?_⟩
    rw [F_X2_findTogether_28, if_pos (nI_le (by omega) (by omega))]
  | cons b r ih =>
    intro j f hj hf hA hb
    obtain ⟨f, rfl⟩ : ∃ f', f = f' + 1 := ⟨f - 1, by omega⟩
    have hlen : (b :: r).length = r.length + 1 := rfl
    obtain ⟨b1, b2⟩ := hb b (List.mem_cons_self)
    have ap := S_isApart h ho (A := A) (B := B) hl (r := 70) (by simp only [gK h]) (by simp only [gl h]) hL b1 b2 W75 hR
    have hst : F_X2_findTogether_28 K1 K2 (f + 1) 67 (nI mt) (nI n) ii (nI j) (m_w2 M A B) = if apB l R (lT l v' b) = true then K1 67 ii (nI j) (m_w2 M A B) else F_X2_findTogether_28 K1 K2 f 67 (nI mt) (nI n) ii (nI (j + 1)) (m_w2 M A B) := by
      rw [F_X2_findTogether_28, if_neg (nI_ge (by omega) (by omega)), x_gN_ok K67 R11, x_gN_ok K67 R7, x_gN_ok K67 R9, x_aI_ok K72 (by rw [L72]; omega) (by omega), w2_I, hA.hd, x_cV_ok K67 ap]
      cases apB l R (lT l v' b)
      · rw [if_pos (by decide), m_let_eq, nI_1]
        rfl
      · rw [if_neg (by decide)]
        rfl
    rw [hst, List.findSome?_cons]
    by_cases q : apB l R (lT l v' b) = true
    · rw [if_pos q, if_pos q]
      exact .inr ⟨j, b, by omega, hA.hd, rfl, rfl⟩
    · rw [if_neg q, if_neg q]
      exact ih (j + 1) f (by omega) (by omega) hA.tl (fun x hx => hb x (List.mem_cons_of_mem _ hx))
theorem abvL_mem {t n b : Nat} (h : b ∈ abvL l P v t n) : b < n ∧ ccOk l (b / 2) = true := by
  unfold abvL at h
  rw [List.mem_filter, List.mem_range] at h
  refine ⟨h.1, ?_⟩
  have := h.2
  unfold abvQ at this
  rw [Bool.and_eq_true] at this
  exact this.1
theorem S_findTogether (h : G M) (ho : lOk l) {A : IA} (hl : LCi l A) (h71 : LsA (A 71) 0 (abvL l P v 0 800)) (h72 : LsA (A 72) 0 (abvL l P v' 0 800)) {B : Nat → Nat → Int64} (hL1 : LitC l v 69 B) (hL2 : LitC l v' 70 B) (hO : RwL (wN l) (fun w => !P w) (B 74)) :
    ∃ A' B', F_X2_findTogether 67 (nI (abvL l P v 0 800).length) (nI (abvL l P v' 0 800).length) (m_w2 M A B) = some (bI (tgR l P v v').isSome, m_w2 M A' B') ∧ (∀ a, a ≠ 67 → A' a = A a) ∧ (∀ b, b ≠ 76 → B' b = B b) ∧ ∀ ab, tgR l P v v' = some ab → A' 67 2 = nI ab.1 ∧ A' 67 3 = nI ab.2 := by
  have hn1 := abvL_le (l := l) (P := P) (v := v) (t := 0) (n := 800)
  have hn2 := abvL_le (l := l) (P := P) (v := v') (t := 0) (n := 800)
  have K67 : ∀ A B, m_K (m_w2 M A B) 67 = 2 := fun A B => by simp only [w2_K, gK h]
  have R10 : ∀ A B, m_R (m_w2 M A B) 67 10 = some 73 := fun A B => by simp only [w2_R, gR h]
  have R6 : ∀ A B, m_R (m_w2 M A B) 67 6 = some 69 := fun A B => by simp only [w2_R, gR h]
  have R8 : ∀ A B, m_R (m_w2 M A B) 67 8 = some 71 := fun A B => by simp only [w2_R, gR h]
  have R9 : ∀ A B, m_R (m_w2 M A B) 67 9 = some 72 := fun A B => by simp only [w2_R, gR h]
  have K71 : ∀ A B, m_K (m_w2 M A B) 71 = 12 := fun A B => by simp only [w2_K, gK h]
  have L71 : ∀ A B, m_len (m_w2 M A B) 71 = 800 := fun A B => by simp only [w2_n, gl h]
  have K72 : ∀ A B, m_K (m_w2 M A B) 72 = 12 := fun A B => by simp only [w2_K, gK h]
  have L72 : ∀ A B, m_len (m_w2 M A B) 72 = 800 := fun A B => by simp only [w2_n, gl h]
  have W73 : Ws M 73 74 := ⟨by simp only [gK h], by simp only [gR h], by simp only [gK h], by simp only [gl h]⟩
  unfold F_X2_findTogether
  refine m_let_P (fun o => ∃ A' B', o = some (bI (tgR l P v v').isSome, m_w2 M A' B') ∧ (∀ a, a ≠ 67 → A' a = A a) ∧ (∀ b, b ≠ 76 → B' b = B b) ∧ ∀ ab, tgR l P v v' = some ab → A' 67 2 = nI ab.1 ∧ A' 67 3 = nI ab.2) ?_
  intro K1 hK1
  have key : ∀ (L : List Nat) (i f : Nat) (B : Nat → Nat → Int64), i + L.length = (abvL l P v 0 800).length → L.length < f → LsA (A 71) i L → (∀ b, b ∈ L → b < 800 ∧ ccOk l (b / 2) = true) → LitC l v 69 B → LitC l v' 70 B → RwL (wN l) (fun w => !P w) (B 74) →
      ∃ A' B', F_X2_findTogether_2 K1 f 67 (nI (abvL l P v 0 800).length) (nI (abvL l P v' 0 800).length) (nI i) (m_w2 M A B) = some (bI (L.findSome? (tgA l P v v')).isSome, m_w2 M A' B') ∧ (∀ a, a ≠ 67 → A' a = A a) ∧ (∀ b, b ≠ 76 → B' b = B b) ∧ ∀ ab, L.findSome? (tgA l P v v') = some ab → A' 67 2 = nI ab.1 ∧ A' 67 3 = nI ab.2 := by
    intro L
    induction L with
    | nil =>
      intro i f B hi hf _ _ _ _ _
      obtain ⟨f, rfl⟩ : ∃ f', f = f' + 1 := ⟨f - 1, by omega⟩
      have hi : i = _ := hi
      refine ⟨A, B, ?_, fun _ _ => rfl, fun _ _ => rfl, fun ab hab => by cases hab⟩
      rw [F_X2_findTogether_2, if_pos (nI_le (by omega) (by omega))]
      rfl
    | cons a r ih =>
      intro i f B hi hf hA hm hL1 hL2 hO
      obtain ⟨f, rfl⟩ : ∃ f', f = f' + 1 := ⟨f - 1, by omega⟩
      have hlen : (a :: r).length = r.length + 1 := rfl
      obtain ⟨b1, b2⟩ := hm a (List.mem_cons_self)
      obtain ⟨B1, u, u1, u2⟩ := S_findRest h ho (A := A) hl (r := 69) (by simp only [gK h]) (by simp only [gl h]) (by omega) b1 b2 W73 (by omega) hL1 hO
      rw [F_X2_findTogether_2, if_neg (nI_ge (by omega) (by omega)), x_gN_ok (K67 _ _) (R10 _ _), x_gN_ok (K67 _ _) (R6 _ _), x_gN_ok (K67 _ _) (R8 _ _), x_aI_ok (K71 _ _) (by rw [L71]; omega) (by omega), w2_I, hA.hd, x_cV_ok (K67 _ _) u]
      refine m_let_P (fun o => ∃ A' B', o = some (bI ((a :: r).findSome? (tgA l P v v')).isSome, m_w2 M A' B') ∧ (∀ a, a ≠ 67 → A' a = A a) ∧ (∀ b, b ≠ 76 → B' b = B b) ∧ ∀ ab, (a :: r).findSome? (tgA l P v v') = some ab → A' 67 2 = nI ab.1 ∧ A' 67 3 = nI ab.2) ?_
      intro K2 hK2
      have hL2' : LitC l v' 70 B1 := hL2.of (u1 70 (by omega))
      rcases S_ft28 h ho hl hL2' u2 (a := a) (mt := (abvL l P v 0 800).length) (n := (abvL l P v' 0 800).length) (ii := nI i) hn2 (K1 := K1) (K2 := K2) (abvL l P v' 0 800) 0 m_FU (by omega) (m_FU_lt (by omega)) h72 (fun b hb => abvL_mem hb) with ⟨e1, e2⟩ | ⟨j', b, hj', e0, e1, e2⟩
      · have e2' : F_X2_findTogether_28 K1 K2 m_FU 67 (nI (abvL l P v 0 800).length) (nI (abvL l P v' 0 800).length) (nI i) (0 : Int32) (m_w2 M A B1) = _ := e2
        have ht : tgA l P v v' a = none := e1
        obtain ⟨A', B', g, g1, g2, g3⟩ := ih (i + 1) f B1 (by omega) (by omega) hA.tl (fun x hx => hm x (List.mem_cons_of_mem _ hx)) (hL1.of (u1 69 (by omega))) hL2' (hO.of (fun k => by rw [u1 74 (by omega)]))
        have hfs : (a :: r).findSome? (tgA l P v v') = r.findSome? (tgA l P v v') := by rw [List.findSome?_cons, ht]
        rw [hfs, e2', hK2]
        dsimp only
        rw [m_let_eq, nI_1]
        exact ⟨A', B', g, g1, fun b hb => by rw [g2 b hb, u1 b hb], g3⟩
      · have e2' : F_X2_findTogether_28 K1 K2 m_FU 67 (nI (abvL l P v 0 800).length) (nI (abvL l P v' 0 800).length) (nI i) (0 : Int32) (m_w2 M A B1) = _ := e2
        have ht : tgA l P v v' a = some (a, b) := e1
        have hfs : (a :: r).findSome? (tgA l P v v') = some (a, b) := by rw [List.findSome?_cons, ht]
        rw [hfs, e2', hK1]
        dsimp only
        refine ⟨m_up (m_up A 67 2 (nI a)) 67 3 (nI b), B1, ?_, fun c hc => ?_, u1, fun ab hab => ?_⟩
        · rw [x_gN_ok (K67 _ _) (R8 _ _), x_aI_ok (K71 _ _) (by rw [L71]; omega) (by omega), w2_I, hA.hd, x_pI_ok (K67 _ _), w2_sI, x_gN_ok (K67 _ _) (R9 _ _), x_aI_ok (K72 _ _) (by rw [L72]; omega) (by omega), w2_I, show m_up A 67 2 (nI a) 72 j' = A 72 j' from by rw [up_at, if_neg (by omega)], e0, x_pI_ok (K67 _ _), w2_sI]
          rfl
        · funext j
          rw [up_at, if_neg (fun y => hc y.1), up_at, if_neg (fun y => hc y.1)]
        · cases hab
          exact ⟨by rw [up_at, if_neg (by omega), up_at, if_pos ⟨rfl, rfl⟩], by rw [up_at, if_pos ⟨rfl, rfl⟩]⟩
  obtain ⟨A', B', g, g1, g2, g3⟩ := key (abvL l P v 0 800) 0 m_FU B (by omega) (m_FU_lt (by omega)) h71 (fun b hb => abvL_mem hb) hL1 hL2 hO
  exact ⟨A', B', g, g1, g2, g3⟩
end TWO
