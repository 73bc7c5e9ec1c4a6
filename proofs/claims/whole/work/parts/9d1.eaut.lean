/-! laws: the model's reading as a pure machine over tokens -/
abbrev AS : Type := Nat × Nat × Bool × (Nat → Nat) × (Nat → Bool) × List Nat
def opr (T : Nat → Nat) (t : Tok) : Option (Nat × Nat × Nat) :=
  if tkS T 42 t = true then some (3, 22, 18) else if tkS T 43 t = true then some (2, 20, 16) else if tkS T 45 t = true then some (2, 21, 17) else if tkS T 60 t = true then some (1, 24, 14) else if tkS T 61 t = true then some (1, 25, 15) else if tkW 1111 t = true then some (0, 26, 12) else if tkW 423 t = true then some (0, 27, 13) else none
def fct (isB : Bool) (t : Tok) : Option Nat :=
  if isB = true then (if tkW 8740067 t = true then some 0 else if tkW 332864552 t = true then some 1 else none)
  else (if tkW 3379448 t = true then some 0 else if tkW 275356804 t = true then some 1 else if tkW 6559778 t = true then some 2 else if tkW 4351291 t = true then some 3 else if tkW 774500 t = true then some 4 else none)
def ofB (isB : Bool) : Nat := if isB = true then 6 else 1
def okd (T : Nat → Nat) (isB : Bool) (t : Tok) : Nat × Nat × Nat :=
  if tkW 10631 t = true then (1, 30, 11) else if tkS T 40 t = true then (2, 28, 0) else match fct isB t with
  | some x => (3, ofB isB + x, x)
  | none => if t.2.2.1 = 3 then (3, 100 + t.2.2.2.2, 100 + t.2.2.2.2) else (0, 0, 0)
def popN (op : Nat → Nat) : Nat → Nat
  | 0 => 0
  | d + 1 => if op (d + 1) = 1 then popN op d else d + 1
def upf {α : Type} (f : Nat → α) (k : Nat) (v : α) : Nat → α := fun j => if j = k then v else f j
def aStep (T : Nat → Nat) (n : Nat) (isB : Bool) : AS → (Nat ⊕ (Nat × List Nat)) ⊕ AS
  | (q, d, true, op, cp, mc) =>
    if (okd T isB (tokAt T n q)).1 = 0 then .inl (.inl (1 + 16 * (tokAt T n q).1))
    else if d = 5 then .inl (.inl (5 + 16 * (tokAt T n q).1))
    else if (okd T isB (tokAt T n q)).1 = 3 then .inr ((tokAt T n q).2.1, popN op d, false, op, cp, mc ++ [(okd T isB (tokAt T n q)).2.1])
    else .inr ((tokAt T n q).2.1, d + 1, true, upf op (d + 1) (okd T isB (tokAt T n q)).1, upf cp (d + 1) false, mc ++ [(okd T isB (tokAt T n q)).2.1])
  | (q, d, false, op, cp, mc) => match opr T (tokAt T n q) with
    | some (l, m, _) =>
      if l = 1 then (if cp d = true then .inl (.inl (1 + 16 * (tokAt T n q).1)) else .inr ((tokAt T n q).2.1, d, true, op, upf cp d true, mc ++ [m]))
      else if l = 0 then .inr ((tokAt T n q).2.1, d, true, op, upf cp d false, mc ++ [m])
      else .inr ((tokAt T n q).2.1, d, true, op, cp, mc ++ [m])
    | none =>
      if tkS T 41 (tokAt T n q) = true ∧ 0 < d then .inr ((tokAt T n q).2.1, popN op (d - 1), false, op, cp, mc ++ [29])
      else if d = 0 ∧ tkS T 59 (tokAt T n q) = true then .inl (.inr ((tokAt T n q).2.1, mc))
      else .inl (.inl (1 + 16 * (tokAt T n q).1))
def aRun (T : Nat → Nat) (n : Nat) (isB : Bool) : Nat → AS → Nat ⊕ (Nat × List Nat)
  | 0, _ => .inl 0
  | e + 1, s => match aStep T n isB s with
    | .inl r => r
    | .inr s' => aRun T n isB e s'
def aR (T : Nat → Nat) (n : Nat) (isB : Bool) (s : AS) : Nat ⊕ (Nat × List Nat) := aRun T n isB (n - s.1 + 1) s
section EAUT
variable {M M' : m_M} {T : Nat → Nat} {n b0 : Nat} {isB : Bool}
theorem okd_k {t : Tok} (h : (okd T isB t).1 ≠ 0) : t.2.2.1 ≠ 0 := by
  unfold okd at h
  by_cases h1 : tkW 10631 t = true
  · unfold tkW at h1; simp at h1; omega
  rw [if_neg h1] at h
  by_cases h2 : tkS T 40 t = true
  · unfold tkS at h2; simp at h2; omega
  rw [if_neg h2] at h
  cases hf : fct isB t with
  | some x =>
    have : ∀ c, tkW c t = true → t.2.2.1 = 2 := fun c hc => by unfold tkW at hc; simp at hc; exact hc.1
    unfold fct at hf
    by_cases z : t.2.2.1 = 2
    · omega
    · exfalso
      have f : ∀ c, ¬ tkW c t = true := fun c hc => z (this c hc)
      rw [if_neg (f _), if_neg (f _), if_neg (f _), if_neg (f _), if_neg (f _), if_neg (f _), if_neg (f _)] at hf
      split at hf <;> cases hf
  | none =>
    rw [hf] at h
    dsimp only at h
    by_cases z : t.2.2.1 = 3
    · omega
    · rw [if_neg z] at h; exact absurd rfl h
theorem tkS_k {t : Tok} {c : Nat} (h : tkS T c t = true) : t.2.2.1 = 4 ∧ T t.1 = c := by unfold tkS at h; simpa using h
theorem tkW_k {t : Tok} {c : Int64} (h : tkW c t = true) : t.2.2.1 = 2 ∧ t.2.2.2.1 = c := by unfold tkW at h; simpa using h
theorem tkS_o {t : Tok} {c : Nat} (h : tkS T c t = true) {c' : Nat} (hc : c ≠ c') : ¬ tkS T c' t = true := fun z => hc ((tkS_k h).2.symm.trans (tkS_k z).2)
theorem tkSW {t : Tok} {c : Nat} (h : tkS T c t = true) {w : Int64} : ¬ tkW w t = true := fun z => by have := (tkS_k h).1; have := (tkW_k z).1; omega
theorem tkWS {t : Tok} {c : Nat} {w : Int64} (h : tkW w t = true) : ¬ tkS T c t = true := fun z => by have := (tkS_k z).1; have := (tkW_k h).1; omega
theorem tkW_o {t : Tok} {c : Int64} (h : tkW c t = true) {c' : Int64} (hc : c ≠ c') : ¬ tkW c' t = true := fun z => hc ((tkW_k h).2.symm.trans (tkW_k z).2)
theorem opr_k {t : Tok} {x : Nat × Nat × Nat} (h : opr T t = some x) : t.2.2.1 ≠ 0 := by
  intro z
  have f : ∀ c, ¬ tkW c t = true := fun c hc => by have := (tkW_k hc).1; omega
  have g : ∀ c, ¬ tkS T c t = true := fun c hc => by have := (tkS_k hc).1; omega
  unfold opr at h
  rw [if_neg (g _), if_neg (g _), if_neg (g _), if_neg (g _), if_neg (g _), if_neg (f _), if_neg (f _)] at h
  cases h
theorem opr_in {t : Tok} {l m c : Nat} (h : opr T t = some (l, m, c)) : (l = 3 ∧ m = 22 ∧ c = 18) ∨ (l = 2 ∧ ((m = 20 ∧ c = 16) ∨ (m = 21 ∧ c = 17))) ∨ (l = 1 ∧ ((m = 24 ∧ c = 14) ∨ (m = 25 ∧ c = 15))) ∨ (l = 0 ∧ ((m = 26 ∧ c = 12) ∨ (m = 27 ∧ c = 13))) := by
  unfold opr at h
  repeat (split at h; · cases h; omega)
  cases h
theorem okd_in {t : Tok} (h9 : t.2.2.1 = 3 → t.2.2.2.2 < 10000) : ((okd T isB t).1 = 0 ∧ True) ∨ (okd T isB t = (1, 30, 11) ∧ tkW 10631 t = true) ∨ (okd T isB t = (2, 28, 0) ∧ tkS T 40 t = true ∧ ¬ tkW 10631 t = true) ∨ (∃ x, okd T isB t = (3, ofB isB + x, x) ∧ fct isB t = some x ∧ x < (if isB = true then 2 else 5) ∧ ¬ tkW 10631 t = true ∧ ¬ tkS T 40 t = true) ∨ (okd T isB t = (3, 100 + t.2.2.2.2, 100 + t.2.2.2.2) ∧ t.2.2.1 = 3 ∧ t.2.2.2.2 < 10000 ∧ fct isB t = none ∧ ¬ tkW 10631 t = true ∧ ¬ tkS T 40 t = true) := by
  unfold okd
  by_cases h1 : tkW 10631 t = true
  · rw [if_pos h1]; exact .inr (.inl ⟨rfl, h1⟩)
  rw [if_neg h1]
  by_cases h2 : tkS T 40 t = true
  · rw [if_pos h2]; exact .inr (.inr (.inl ⟨rfl, h2, h1⟩))
  rw [if_neg h2]
  cases hf : fct isB t with
  | some x =>
    refine .inr (.inr (.inr (.inl ⟨x, rfl, rfl, ?_, h1, h2⟩)))
    unfold fct at hf
    cases isB
    · rw [if_neg (by decide)] at hf ⊢
      repeat (split at hf; · cases hf; omega)
      cases hf
    · rw [if_pos rfl] at hf ⊢
      repeat (split at hf; · cases hf; omega)
      cases hf
  | none =>
    dsimp only
    by_cases z : t.2.2.1 = 3
    · rw [if_pos z]; exact .inr (.inr (.inr (.inr ⟨rfl, z, h9 z, rfl, h1, h2⟩)))
    · rw [if_neg z]; exact .inl ⟨rfl, trivial⟩
theorem tok_lt {q : Nat} (hq : q ≤ n) (h : (tokAt T n q).2.2.1 ≠ 0) : q < (tokAt T n q).2.1 ∧ (tokAt T n q).2.1 ≤ n ∧ q < n := by
  obtain ⟨h1, h2, h3, h4, h5, _⟩ := tok_ok (T := T) q hq
  rcases h5 with h5 | h5
  · exact absurd h5 h
  · omega
theorem aStep_q {s s' : AS} (hq : s.1 ≤ n) (h : aStep T n isB s = .inr s') : s.1 < s'.1 ∧ s'.1 ≤ n := by
  obtain ⟨q, d, w, op, cp, mc⟩ := s
  have hq : q ≤ n := hq
  cases w
  · unfold aStep at h
    dsimp only at h
    cases ho : opr T (tokAt T n q) with
    | some x =>
      have := tok_lt hq (opr_k ho)
      obtain ⟨l, m, c⟩ := x
      rw [ho] at h
      dsimp only at h
      split at h
      · split at h
        · cases h
        · cases h; exact ⟨this.1, this.2.1⟩
      · split at h
        · cases h; exact ⟨this.1, this.2.1⟩
        · cases h; exact ⟨this.1, this.2.1⟩
    | none =>
      rw [ho] at h
      dsimp only at h
      split at h
      · rename_i z
        have := tok_lt hq (by rw [(tkS_k z.1).1]; decide)
        cases h; exact ⟨this.1, this.2.1⟩
      · split at h
        · cases h
        · cases h
  · unfold aStep at h
    dsimp only at h
    split at h
    · cases h
    · rename_i z
      have := tok_lt hq (okd_k z)
      split at h
      · cases h
      · split at h
        · cases h; exact ⟨this.1, this.2.1⟩
        · cases h; exact ⟨this.1, this.2.1⟩
theorem aRun_fu : ∀ (e e' : Nat) (s : AS), s.1 ≤ n → n - s.1 < e → n - s.1 < e' → aRun T n isB e s = aRun T n isB e' s := by
  intro e
  induction e with
  | zero => intro e' s _ h; omega
  | succ e ih =>
    intro e' s hq h h'
    obtain ⟨e', rfl⟩ : ∃ x, e' = x + 1 := ⟨e' - 1, by omega⟩
    show (match aStep T n isB s with | .inl r => r | .inr s' => aRun T n isB e s') = (match aStep T n isB s with | .inl r => r | .inr s' => aRun T n isB e' s')
    cases ha : aStep T n isB s with
    | inl r => rfl
    | inr s' =>
      obtain ⟨h1, h2⟩ := aStep_q hq ha
      exact ih e' s' h2 (by omega) (by omega)
theorem aR_end {s : AS} {r : Nat ⊕ (Nat × List Nat)} (h : aStep T n isB s = .inl r) : aR T n isB s = r := by
  show (match aStep T n isB s with | .inl r => r | .inr s' => aRun T n isB (n - s.1) s') = r
  rw [h]
theorem aR_next {s s' : AS} (hq : s.1 ≤ n) (h : aStep T n isB s = .inr s') : aR T n isB s = aR T n isB s' := by
  obtain ⟨h1, h2⟩ := aStep_q hq h
  show (match aStep T n isB s with | .inl r => r | .inr s' => aRun T n isB (n - s.1) s') = _
  rw [h]
  exact aRun_fu _ _ s' h2 (by omega) (by omega)
/-- what the model's memory holds -/
def EM (T : Nat → Nat) (n b0 : Nat) (isB : Bool) (s : AS) (M : m_M) : Prop := G M ∧ TX T n (m_I M 129) ∧ TM n (tokAt T n s.1) M ∧ (m_I M 128 21 = nI (b0 + s.2.2.2.2.2.length) ∧ m_I M 128 22 = bI isB) ∧ LsA (m_I M 140) b0 s.2.2.2.2.2 ∧ (∀ j, 1 ≤ j → j ≤ s.2.1 → m_I M 141 j = nI (s.2.2.2.1 j) ∧ s.2.2.2.1 j < 3) ∧ ∀ j, j ≤ s.2.1 → m_I M 142 j = bI (s.2.2.2.2.1 j)
def emF (b0 : Nat) (M M' : m_M) : Prop := M'.1 = M.1 ∧ m_R M' = m_R M ∧ (∀ a, a ≠ 128 → a ≠ 140 → a ≠ 141 → a ≠ 142 → m_I M' a = m_I M a) ∧ (∀ a, a ≠ 128 → m_L M' a = m_L M a) ∧ (∀ k, (k < 3 ∨ (9 < k ∧ k ≠ 21)) → m_I M' 128 k = m_I M 128 k) ∧ (∀ k, k ≠ 7 → m_L M' 128 k = m_L M 128 k) ∧ ∀ j, j < b0 → m_I M' 140 j = m_I M 140 j
theorem emF.rfl' : emF b0 M M := ⟨rfl, rfl, fun _ _ _ _ _ => rfl, fun _ _ => rfl, fun _ _ => rfl, fun _ _ => rfl, fun _ _ => rfl⟩
theorem emF.trans {M1 M2 M3 : m_M} (h1 : emF b0 M1 M2) (h2 : emF b0 M2 M3) : emF b0 M1 M3 := by
  obtain ⟨a1, a2, a3, a4, a5, a6, a7⟩ := h1
  obtain ⟨b1, b2, b3, b4, b5, b6, b7⟩ := h2
  exact ⟨b1.trans a1, b2.trans a2, fun a x y z w => (b3 a x y z w).trans (a3 a x y z w), fun a x => (b4 a x).trans (a4 a x), fun k x => (b5 k x).trans (a5 k x), fun k x => (b6 k x).trans (a6 k x), fun j x => (b7 j x).trans (a7 j x)⟩
theorem emF.g (h : emF b0 M M') (hG : G M) : G M' := by
  unfold G m_N m_T
  rw [h.1, h.2.1]
  exact hG
theorem tmF.em (h : tmF M M') : emF b0 M M' := ⟨h.1, h.2.1, fun a x _ _ _ => (h.2.2.1 a x).1, fun a x => (h.2.2.1 a x).2, fun k hk => h.2.2.2.1 k (by omega), h.2.2.2.2, fun j _ => by rw [(h.2.2.1 140 (by omega)).1]⟩
theorem tok_4 {q : Nat} (hq : q ≤ n) : (tokAt T n q).2.2.1 ≤ 4 := (tok_ok q hq).2.2.2.2.2.1
theorem tok_9 {q : Nat} (hq : q ≤ n) : (tokAt T n q).2.2.1 = 3 → (tokAt T n q).2.2.2.2 < 10000 := (tok_ok q hq).2.2.2.2.2.2.1
theorem EM.W {s : AS} (h : EM T n b0 isB s M) (hq : s.1 ≤ n) {c : Int64} : F_X12_isWord 128 c M = some (bI (tkW c (tokAt T n s.1)), M) := S_misW h.1 h.2.2.1 (tok_4 hq)
theorem EM.S {s : AS} (h : EM T n b0 isB s M) (hn : n ≤ 1000) (hq : s.1 ≤ n) {c : Nat} (hc : c < 127) : F_X12_isSign 128 (nI c) M = some (bI (tkS T c (tokAt T n s.1)), M) := S_misS h.1 h.2.2.1 (tok_4 hq) hn h.2.1 (fun q => (tok_ok s.1 hq).2.2.2.2.2.2.2 (by omega)) hc
theorem EM.K {s : AS} (h : EM T n b0 isB s M) : m_K M 128 = 10 := by simp only [gK h.1]
theorem EM.fact {s : AS} (h : EM T n b0 isB s M) (hq : s.1 ≤ n) : F_X12_fact 128 M = some (match fct isB (tokAt T n s.1) with | some x => nI (ofB isB + x) | none => 0, M) := by
  have K := h.K
  have e6 := h.2.2.1.1.2.2.2
  have h4 := tok_4 (T := T) hq
  obtain ⟨t1, t2, t3, t4, t5⟩ := tkM_n h4
  unfold F_X12_fact
  rw [x_gI_ok K, e6]
  by_cases q2 : (tokAt T n s.1).2.2.1 = 2
  · have e7 := h.2.2.1.2.1 q2
    have hw : ∀ c : Int64, tkW c (tokAt T n s.1) = decide ((tokAt T n s.1).2.2.2.1 = c) := fun c => by unfold tkW; rw [decide_eq_true q2, Bool.true_and]
    have gL : ∀ {β : Type} (f : Int64 → Option β), x_gL 10 M 128 7 f = f (tokAt T n s.1).2.2.2.1 := fun f => by rw [x_gL_ok K, e7]
    rw [if_pos (show nI (tkM (tokAt T n s.1).2.2.1) = (1 : Int32) from by rw [t1.mpr q2]; rfl), x_gI_ok K, h.2.2.2.1.2]
    unfold fct
    simp only [hw, decide_eq_true_eq]
    cases isB
    · rw [if_pos (by decide), if_neg (by decide), gL]
      by_cases c1 : (tokAt T n s.1).2.2.2.1 = 3379448
      · rw [if_pos ((lg_cmp_eq _ _).mpr c1), if_pos c1]; rfl
      rw [if_neg (fun z => c1 ((lg_cmp_eq _ _).mp z)), if_neg c1, gL]
      by_cases c2 : (tokAt T n s.1).2.2.2.1 = 275356804
      · rw [if_pos ((lg_cmp_eq _ _).mpr c2), if_pos c2]; rfl
      rw [if_neg (fun z => c2 ((lg_cmp_eq _ _).mp z)), if_neg c2, gL]
      by_cases c3 : (tokAt T n s.1).2.2.2.1 = 6559778
      · rw [if_pos ((lg_cmp_eq _ _).mpr c3), if_pos c3]; rfl
      rw [if_neg (fun z => c3 ((lg_cmp_eq _ _).mp z)), if_neg c3, gL]
      by_cases c4 : (tokAt T n s.1).2.2.2.1 = 4351291
      · rw [if_pos ((lg_cmp_eq _ _).mpr c4), if_pos c4]; rfl
      rw [if_neg (fun z => c4 ((lg_cmp_eq _ _).mp z)), if_neg c4, gL]
      by_cases c5 : (tokAt T n s.1).2.2.2.1 = 774500
      · rw [if_pos ((lg_cmp_eq _ _).mpr c5), if_pos c5]; rfl
      rw [if_neg (fun z => c5 ((lg_cmp_eq _ _).mp z)), if_neg c5]
    · rw [if_neg (by decide), if_pos rfl, gL]
      by_cases c1 : (tokAt T n s.1).2.2.2.1 = 8740067
      · rw [if_pos ((lg_cmp_eq _ _).mpr c1), if_pos c1]; rfl
      rw [if_neg (fun z => c1 ((lg_cmp_eq _ _).mp z)), if_neg c1, gL]
      by_cases c2 : (tokAt T n s.1).2.2.2.1 = 332864552
      · rw [if_pos ((lg_cmp_eq _ _).mpr c2), if_pos c2]; rfl
      rw [if_neg (fun z => c2 ((lg_cmp_eq _ _).mp z)), if_neg c2]
  · have f : ∀ c, ¬ tkW c (tokAt T n s.1) = true := fun c hc => q2 (tkW_k hc).1
    rw [if_neg (show ¬ nI (tkM (tokAt T n s.1).2.2.1) = (1 : Int32) from fun z => q2 (t1.mp ((nI_eq (b := 1) (by omega) (by omega)).mp z)))]
    unfold fct
    rw [if_neg (f _), if_neg (f _), if_neg (f _), if_neg (f _), if_neg (f _), if_neg (f _), if_neg (f _)]
    cases isB <;> rfl
theorem EM.puts {q d : Nat} {w : Bool} {op : Nat → Nat} {cp : Nat → Bool} {mc : List Nat} (h : EM T n b0 isB (q, d, w, op, cp, mc) M) (hb : b0 + mc.length < 2000) {c : Nat} {w' : Bool} : ∃ M', F_X12_puts 128 (nI c) M = some ((), M') ∧ EM T n b0 isB (q, d, w', op, cp, mc ++ [c]) M' ∧ emF b0 M M' := by
  obtain ⟨g, e129, et, ⟨e21, e22⟩, e140, e141, e142⟩ := h
  have K : ∀ A, m_K (m_wA M A) 128 = 10 := fun A => by simp only [wA_K, gK g]
  have R20 : ∀ A, m_R (m_wA M A) 128 20 = some 140 := fun A => by simp only [wA_R, gR g]
  have K140 : ∀ A, m_K (m_wA M A) 140 = 12 := fun A => by simp only [wA_K, gK g]
  have L140 : ∀ A, m_len (m_wA M A) 140 = 2000 := fun A => by simp only [wA_n, gl g]
  have e0 : M = m_wA M (m_I M) := wA_0.symm
  have e21 : m_I M 128 21 = nI (b0 + mc.length) := e21
  refine ⟨m_wA M (m_up (m_up (m_I M) 140 (b0 + mc.length) (nI c)) 128 21 (nI (b0 + mc.length + 1))), ?_, ⟨g, ?_, ⟨⟨?_, ?_, ?_, ?_⟩, et.2.1, ?_⟩, ⟨?_, ?_⟩, ?_, ?_, ?_⟩, ⟨rfl, rfl, ?_, fun _ _ => rfl, ?_, fun _ _ => rfl, ?_⟩⟩
  · rw [e0]
    unfold F_X12_puts
    rw [x_gN_ok (K _) (R20 _), x_gI_ok (K _), wA_I, e21, x_sI_ok (K140 _) (by rw [L140]; exact hb) (by have : b0 + mc.length < 2000 := hb; omega), wA_s, x_gI_ok (K _), wA_I, up_at, if_neg (by omega), e21, x_pI_ok (K _), nI_1, wA_s]
    rfl
  · rw [wA_I, up_fr (by omega), up_fr (by omega)]; exact e129
  · rw [wA_I, up_at, if_neg (by omega), up_at, if_neg (by omega)]; exact et.1.1
  · rw [wA_I, up_at, if_neg (by omega), up_at, if_neg (by omega)]; exact et.1.2.1
  · rw [wA_I, up_at, if_neg (by omega), up_at, if_neg (by omega)]; exact et.1.2.2.1
  · rw [wA_I, up_at, if_neg (by omega), up_at, if_neg (by omega)]; exact et.1.2.2.2
  · intro z
    rw [wA_I, up_at, if_neg (by omega), up_at, if_neg (by omega)]; exact et.2.2 z
  · rw [wA_I, up_at, if_pos ⟨rfl, rfl⟩]
    show _ = nI (b0 + (mc ++ [c]).length)
    rw [List.length_append]; rfl
  · rw [wA_I, up_at, if_neg (by omega), up_at, if_neg (by omega)]; exact e22
  · rw [wA_I, up_fr (by omega)]
    refine LsA.app (e140.cong (fun k _ hk => ?_)) ?_
    · have hk : k < b0 + mc.length := hk
      rw [up_at, if_neg (by omega)]
    · rw [up_at, if_pos ⟨rfl, rfl⟩]
  · intro j h1 h2
    rw [wA_I, up_fr (by omega), up_fr (by omega)]; exact e141 j h1 h2
  · intro j h2
    rw [wA_I, up_fr (by omega), up_fr (by omega)]; exact e142 j h2
  · intro a a1 a2 _ _
    rw [wA_I, up_fr (by omega), up_fr (by omega)]
  · intro k hk
    rw [wA_I, up_at, if_neg (by omega), up_at, if_neg (by omega)]
  · intro j hj
    rw [wA_I, up_at, if_neg (by omega), up_at, if_neg (by omega)]
theorem EM.next {q d : Nat} {w : Bool} {op : Nat → Nat} {cp : Nat → Bool} {mc : List Nat} (h : EM T n b0 isB (q, d, w, op, cp, mc) M) (hn : n ≤ 1000) (hq : q ≤ n) {w' : Bool} : ∃ M', F_X12_nextToken 128 M = some ((), M') ∧ EM T n b0 isB ((tokAt T n q).2.1, d, w', op, cp, mc) M' ∧ emF b0 M M' := by
  obtain ⟨g, e129, et, ⟨e21, e22⟩, e140, e141, e142⟩ := h
  have hq2 := (tok_ok (T := T) q hq).2.2.2.1
  obtain ⟨M', e, t, f, _⟩ := S_next g hn e129 hq2 et.1.1 et.1.2.1
  have f2 := f.2.2.1
  have f3 := f.2.2.2.1
  refine ⟨M', e, ⟨f.g g, by rw [(f2 129 (by omega)).1]; exact e129, t, ⟨by rw [f3 21 (by omega)]; exact e21, by rw [f3 22 (by omega)]; exact e22⟩, by rw [(f2 140 (by omega)).1]; exact e140, fun j h1 h2 => by rw [(f2 141 (by omega)).1]; exact e141 j h1 h2, fun j h2 => by rw [(f2 142 (by omega)).1]; exact e142 j h2⟩, f.em⟩
theorem EM.setC {q d : Nat} {w : Bool} {op : Nat → Nat} {cp : Nat → Bool} {mc : List Nat} (h : EM T n b0 isB (q, d, w, op, cp, mc) M) {b : Bool} : EM T n b0 isB (q, d, w, op, upf cp d b, mc) (m_sI M 142 d (bI b)) ∧ emF b0 M (m_sI M 142 d (bI b)) := by
  obtain ⟨g, e129, et, ⟨e21, e22⟩, e140, e141, e142⟩ := h
  have s : ∀ a k, a ≠ 142 → m_I (m_sI M 142 d (bI b)) a k = m_I M a k := fun a k ha => by rw [mI_sI, if_neg (fun z => ha z.1)]
  have s' : ∀ a, a ≠ 142 → m_I (m_sI M 142 d (bI b)) a = m_I M a := fun a ha => funext fun k => s a k ha
  refine ⟨⟨g, by rw [s' 129 (by omega)]; exact e129, ⟨⟨by rw [s 128 _ (by omega)]; exact et.1.1, by rw [s 128 _ (by omega)]; exact et.1.2.1, by rw [s 128 _ (by omega)]; exact et.1.2.2.1, by rw [s 128 _ (by omega)]; exact et.1.2.2.2⟩, et.2.1, fun z => by rw [s 128 _ (by omega)]; exact et.2.2 z⟩, ⟨by rw [s 128 _ (by omega)]; exact e21, by rw [s 128 _ (by omega)]; exact e22⟩, by rw [s' 140 (by omega)]; exact e140, fun j h1 h2 => by rw [s 141 _ (by omega)]; exact e141 j h1 h2, fun j h2 => ?_⟩, ⟨rfl, rfl, fun a _ _ _ ha => s' a ha, fun _ _ => rfl, fun k _ => s 128 k (by omega), fun _ _ => rfl, fun j _ => s 140 j (by omega)⟩⟩
  rw [mI_sI]
  unfold upf
  by_cases z : j = d
  · rw [if_pos ⟨rfl, z⟩]
    dsimp only
    rw [if_pos z]
  · rw [if_neg (fun y => z y.2)]
    dsimp only
    rw [if_neg z]
    exact e142 j h2
theorem EM.push {q d : Nat} {w : Bool} {op : Nat → Nat} {cp : Nat → Bool} {mc : List Nat} (h : EM T n b0 isB (q, d, w, op, cp, mc) M) {o : Nat} (ho : o < 3) : EM T n b0 isB (q, d + 1, w, upf op (d + 1) o, upf cp (d + 1) false, mc) (m_sI (m_sI M 141 (d + 1) (nI o)) 142 (d + 1) (bI false)) ∧ emF b0 M (m_sI (m_sI M 141 (d + 1) (nI o)) 142 (d + 1) (bI false)) := by
  obtain ⟨g, e129, et, ⟨e21, e22⟩, e140, e141, e142⟩ := h
  have s : ∀ a k, a ≠ 142 → a ≠ 141 → m_I (m_sI (m_sI M 141 (d + 1) (nI o)) 142 (d + 1) (bI false)) a k = m_I M a k := fun a k ha hb => by rw [mI_sI, if_neg (fun z => ha z.1), mI_sI, if_neg (fun z => hb z.1)]
  have s' : ∀ a, a ≠ 142 → a ≠ 141 → m_I (m_sI (m_sI M 141 (d + 1) (nI o)) 142 (d + 1) (bI false)) a = m_I M a := fun a ha hb => funext fun k => s a k ha hb
  refine ⟨⟨g, by rw [s' 129 (by omega) (by omega)]; exact e129, ⟨⟨by rw [s 128 _ (by omega) (by omega)]; exact et.1.1, by rw [s 128 _ (by omega) (by omega)]; exact et.1.2.1, by rw [s 128 _ (by omega) (by omega)]; exact et.1.2.2.1, by rw [s 128 _ (by omega) (by omega)]; exact et.1.2.2.2⟩, et.2.1, fun z => by rw [s 128 _ (by omega) (by omega)]; exact et.2.2 z⟩, ⟨by rw [s 128 _ (by omega) (by omega)]; exact e21, by rw [s 128 _ (by omega) (by omega)]; exact e22⟩, by rw [s' 140 (by omega) (by omega)]; exact e140, fun j h1 h2 => ?_, fun j h2 => ?_⟩, ⟨rfl, rfl, fun a _ _ hb ha => s' a ha hb, fun _ _ => rfl, fun k _ => s 128 k (by omega) (by omega), fun _ _ => rfl, fun j _ => s 140 j (by omega) (by omega)⟩⟩
  · rw [mI_sI, if_neg (by omega), mI_sI]
    have h2 : j ≤ d + 1 := h2
    show (if 141 = 141 ∧ j = d + 1 then nI o else m_I M 141 j) = nI (if j = d + 1 then o else op j) ∧ (if j = d + 1 then o else op j) < 3
    by_cases z : j = d + 1
    · rw [if_pos ⟨rfl, z⟩, if_pos z]; exact ⟨rfl, ho⟩
    · rw [if_neg (fun y => z y.2), if_neg z]
      exact e141 j h1 (by show j ≤ d; omega)
  · rw [mI_sI]
    have h2 : j ≤ d + 1 := h2
    show (if 142 = 142 ∧ j = d + 1 then bI false else m_I (m_sI M 141 (d + 1) (nI o)) 142 j) = bI (if j = d + 1 then false else cp j)
    by_cases z : j = d + 1
    · rw [if_pos ⟨rfl, z⟩, if_pos z]
    · rw [if_neg (fun y => z y.2), if_neg z, mI_sI, if_neg (by omega)]
      exact e142 j (by show j ≤ d; omega)
theorem EM.low {q d d' : Nat} {w w' : Bool} {op : Nat → Nat} {cp : Nat → Bool} {mc : List Nat} (h : EM T n b0 isB (q, d, w, op, cp, mc) M) (hd : d' ≤ d) : EM T n b0 isB (q, d', w', op, cp, mc) M := by
  obtain ⟨g, e129, et, e2, e140, e141, e142⟩ := h
  exact ⟨g, e129, et, e2, e140, fun j h1 h2 => e141 j h1 (by have h2 : j ≤ d' := h2; show j ≤ d; omega), fun j h2 => e142 j (by have h2 : j ≤ d' := h2; show j ≤ d; omega)⟩
theorem popN_le (op : Nat → Nat) : ∀ d, popN op d ≤ d := by
  intro d
  induction d with
  | zero => exact Nat.le_refl 0
  | succ d ih =>
    unfold popN
    split
    · omega
    · omega
end EAUT
