/-! laws: the class's reading -/
def ECS (T : Nat → Nat) (n q : Nat) (cc : List Nat) (M : m_M) : Prop := G M ∧ TX T n (m_I M 1) ∧ TC T n 30 (tokAt T n q) M ∧ m_I M 16 5 = nI cc.length ∧ ∀ j, j < cc.length → m_I M 22 j = cw (cc.getD j 0)
def csE (M M' : m_M) : Prop := M'.1 = M.1 ∧ (∀ a, a ≠ 16 → a ≠ 22 → a ≠ 30 → m_I M' a = m_I M a) ∧ (∀ a, a ≠ 30 → m_L M' a = m_L M a ∧ m_R M' a = m_R M a) ∧ (∀ k, k ≠ 5 → m_I M' 16 k = m_I M 16 k) ∧ (∀ k, 9 < k → m_I M' 30 k = m_I M 30 k) ∧ (∀ k, k ≠ 8 → m_R M' 30 k = m_R M 30 k)
def owN (isB : Bool) : Nat := if isB = true then 1 else 2
section ECLS
variable {M M' : m_M} {T : Nat → Nat} {n : Nat} {isB : Bool}
theorem csE.rfl' : csE M M := ⟨rfl, fun _ _ _ _ => rfl, fun _ _ => ⟨rfl, rfl⟩, fun _ _ => rfl, fun _ _ => rfl, fun _ _ => rfl⟩
theorem csE.trans {M1 M2 M3 : m_M} (h1 : csE M1 M2) (h2 : csE M2 M3) : csE M1 M3 := by
  obtain ⟨a1, a2, a3, a4, a5, a6⟩ := h1
  obtain ⟨b1, b2, b3, b4, b5, b6⟩ := h2
  exact ⟨b1.trans a1, fun a x y z => (b2 a x y z).trans (a2 a x y z), fun a x => ⟨(b3 a x).1.trans (a3 a x).1, (b3 a x).2.trans (a3 a x).2⟩, fun k x => (b4 k x).trans (a4 k x), fun k x => (b5 k x).trans (a5 k x), fun k x => (b6 k x).trans (a6 k x)⟩
theorem tkF.ce (h : tkF 30 M M') : csE M M' := ⟨h.1, fun a _ _ x => (h.2.1 a x).1, fun a x => ⟨(h.2.1 a x).2.1, (h.2.1 a x).2.2⟩, fun k _ => by rw [(h.2.1 16 (by omega)).1], fun k hk => h.2.2.1 k (by omega), h.2.2.2.2⟩
theorem g_Rl_30 : ∀ x ∈ g_Rl, x.1 = 30 → x.2.1 ≠ 8 := by decide +kernel
theorem csE.g (h : csE M M') (hG : G M) : G M' := by
  obtain ⟨a1, a2, a3, a4, a5, a6⟩ := h
  unfold G m_N m_T at *
  rw [a1]
  refine ⟨hG.1, hG.2.1, fun x hx => ?_⟩
  by_cases q : x.1 = 30
  · rw [q, a6 _ (g_Rl_30 x hx q), ← q]; exact hG.2.2 x hx
  · rw [(a3 x.1 q).2]; exact hG.2.2 x hx
theorem rd30 (hG : G M) : RdC 4 30 M ∧ m_R M 30 10 = some 16 ∧ m_K M 16 = 3 ∧ m_R M 16 11 = some 22 ∧ m_K M 22 = 12 ∧ m_len M 22 = 1000 := by
  refine ⟨⟨?_, ?_, ?_, ?_, ?_⟩, ?_, ?_, ?_, ?_, ?_⟩ <;> first | omega | simp only [gK hG, gR hG, gl hG]
theorem ECS.K {q : Nat} {cc : List Nat} (h : ECS T n q cc M) : m_K M 30 = 4 := (rd30 h.1).1.1
theorem ECS.adv {q : Nat} {cc : List Nat} (h : ECS T n q cc M) (hn : n ≤ 1000) (hq : q ≤ n) : ∃ M', F_X8_advance 4 30 M = some ((), M') ∧ ECS T n (tokAt T n q).2.1 cc M' ∧ csE M M' := by
  obtain ⟨g, hx, ht, h5, hc⟩ := h
  have hq2 := (tok_ok (T := T) q hq).2.2.2.1
  obtain ⟨M', e, t, f, _⟩ := S_adv (rd30 g).1 hn hx hq2 ht.1.1 ht.1.2.2.1
  refine ⟨M', e, ⟨f.ce.g g, f.X (by omega) hx, t, by rw [(f.2.1 16 (by omega)).1]; exact h5, fun j hj => by rw [(f.2.1 22 (by omega)).1]; exact hc j hj⟩, f.ce⟩
theorem ECS.W {q : Nat} {cc : List Nat} (h : ECS T n q cc M) (hq : q ≤ n) {j : Nat} (hj : j < 20) : F_X8_isAt 4 30 (1000000 + j) M = some (bI (tkW (k_wl.getD j 0) (tokAt T n q)), M) := S_isAtW h.K h.2.2.1 (tok_4 hq) hj
theorem ECS.S {q : Nat} {cc : List Nat} (h : ECS T n q cc M) (hq : q ≤ n) {c : Nat} (hc : c < 127) : F_X8_isAt_ 4 30 (nI c) M = some (bI (tkS T c (tokAt T n q)), M) := S_isAtS h.K h.2.2.1 (tok_4 hq) (fun z => (h.2.1.lt ((tok_ok q hq).2.2.2.2.2.2.2 (by omega))).2) hc
theorem ECS.fail {q : Nat} {cc : List Nat} (h : ECS T n q cc M) {k : Nat} : ∃ M', F_X8_fail 4 30 (nI k) M = some (nI 0, M') ∧ m_I M' 30 9 = nI (k + 16 * (tokAt T n q).1) ∧ csE M M' := ⟨_, S_fail h.K h.2.2.1, by rw [mI_sI, if_pos ⟨rfl, rfl⟩], tkF_sI9.ce⟩
theorem ECS.add {q : Nat} {cc : List Nat} (h : ECS T n q cc M) (hl : cc.length < 1000) {c : Nat} : ∃ M', F_X3_addCode 16 (cw c) M = some ((), M') ∧ ECS T n q (cc ++ [c]) M' ∧ csE M M' := by
  obtain ⟨g, hx, ht, h5, hc⟩ := h
  obtain ⟨_, _, K16, R11, K22, L22⟩ := rd30 g
  obtain ⟨A, hA⟩ : ∃ A, A = m_up (m_up (m_I M) 22 cc.length (cw c)) 16 5 (nI (cc.length + 1)) := ⟨_, rfl⟩
  have fr : ∀ a, a ≠ 16 → a ≠ 22 → A a = m_I M a := fun a x y => by rw [hA, up_fr x, up_fr y]
  refine ⟨m_wA M A, ?_, ⟨g, by rw [wA_I, fr 1 (by omega) (by omega)]; exact hx, ⟨?_, ht.2.1, ?_, ?_, ht.2.2.2.2⟩, ?_, ?_⟩, rfl, fun a x y _ => by rw [wA_I, fr a x y], fun _ _ => ⟨rfl, rfl⟩, fun k hk => ?_, fun k _ => by rw [wA_I, fr 30 (by omega) (by omega)], fun _ _ => rfl⟩
  · have k16 : ∀ A, m_K (m_wA M A) 16 = 3 := fun _ => K16
    have r11 : ∀ A, m_R (m_wA M A) 16 11 = some 22 := fun _ => R11
    have k22 : ∀ A, m_K (m_wA M A) 22 = 12 := fun _ => K22
    have l22 : ∀ A, m_len (m_wA M A) 22 = 1000 := fun _ => L22
    rw [show F_X3_addCode 16 (cw c) M = F_X3_addCode 16 (cw c) (m_wA M (m_I M)) from by rw [wA_0]]
    unfold F_X3_addCode
    rw [x_gI_ok (k16 _), wA_I, h5, x_gN_ok (k16 _) (r11 _), x_len_ok (k22 _), l22, if_neg (nI_ge (by omega) (by omega)), x_gN_ok (k16 _) (r11 _), x_gI_ok (k16 _), wA_I, h5, x_sI_ok (k22 _) (by rw [l22]; exact hl) (by omega), wA_s, x_gI_ok (k16 _), wA_I, up_at, if_neg (by omega), h5, x_pI_ok (k16 _), nI_1, wA_s, hA]
  · rw [wA_I, fr 30 (by omega) (by omega)]; exact ht.1
  · rw [wA_I, fr 30 (by omega) (by omega)]; exact ht.2.2.1
  · rw [wA_I, fr 30 (by omega) (by omega)]; exact ht.2.2.2.1
  · rw [wA_I, hA, up_at, if_pos ⟨rfl, rfl⟩, List.length_append]; rfl
  · intro j hj
    rw [List.length_append] at hj
    have hj : j < cc.length + 1 := hj
    rw [wA_I, hA, up_at, if_neg (by omega), up_at]
    by_cases z : j = cc.length
    · rw [if_pos ⟨rfl, z⟩, z, List.getD_eq_getElem?_getD, List.getElem?_append_right (Nat.le_refl _), Nat.sub_self]
      rfl
    · rw [if_neg (fun y => z y.2), List.getD_eq_getElem?_getD, List.getElem?_append_left (by omega), ← List.getD_eq_getElem?_getD]
      exact hc j (by omega)
  · rw [wA_I, hA, up_at, if_neg (by omega), up_fr (by omega)]
theorem S_operatorOf {q lv : Nat} {cc : List Nat} (h : ECS T n q cc M) (hq : q ≤ n) (hl : lv < 4) : F_X4_operatorOf 30 (nI lv) M = some (match opr T (tokAt T n q) with | some (l, _, c) => if l = lv then cw c else 0 | none => 0, M) := by
  have K := h.K
  obtain ⟨t, ht⟩ : ∃ t, t = tokAt T n q := ⟨_, rfl⟩
  have hW : ∀ j, j < 20 → F_X8_isAt 4 30 (1000000 + j) M = some (bI (tkW (k_wl.getD j 0) t), M) := fun j hj => by rw [ht]; exact h.W hq hj
  have hS : ∀ c, c < 127 → F_X8_isAt_ 4 30 (nI c) M = some (bI (tkS T c t), M) := fun c hc => by rw [ht]; exact h.S hq hc
  rw [← ht]
  unfold F_X4_operatorOf opr
  rcases (show lv = 0 ∨ lv = 1 ∨ lv = 2 ∨ lv = 3 by omega) with rfl | rfl | rfl | rfl
  · rw [if_pos (by decide), x_cV_ok K (hW 11 (by omega)), show k_wl.getD 11 0 = (1111 : Int64) from rfl]
    by_cases w1 : tkW 1111 t = true
    · rw [bI_tr w1, if_neg (by decide), if_neg (tkWS w1), if_neg (tkWS w1), if_neg (tkWS w1), if_neg (tkWS w1), if_neg (tkWS w1), if_pos w1]
      rfl
    rw [bI_fa w1, if_pos rfl, x_cV_ok K (hW 12 (by omega)), show k_wl.getD 12 0 = (423 : Int64) from rfl]
    by_cases w2 : tkW 423 t = true
    · rw [bI_tr w2, if_neg (by decide), if_neg (tkWS w2), if_neg (tkWS w2), if_neg (tkWS w2), if_neg (tkWS w2), if_neg (tkWS w2), if_neg w1, if_pos w2]
      rfl
    rw [bI_fa w2, if_pos rfl, if_neg w1, if_neg w2]
    by_cases s42 : tkS T 42 t = true
    · rw [if_pos s42]; rfl
    by_cases s43 : tkS T 43 t = true
    · rw [if_neg s42, if_pos s43]; rfl
    by_cases s45 : tkS T 45 t = true
    · rw [if_neg s42, if_neg s43, if_pos s45]; rfl
    by_cases s60 : tkS T 60 t = true
    · rw [if_neg s42, if_neg s43, if_neg s45, if_pos s60]; rfl
    by_cases s61 : tkS T 61 t = true
    · rw [if_neg s42, if_neg s43, if_neg s45, if_neg s60, if_pos s61]; rfl
    rw [if_neg s42, if_neg s43, if_neg s45, if_neg s60, if_neg s61]
  · rw [if_neg (by decide), if_pos (by decide), x_cV_ok K (show F_X8_isAt_ 4 30 (60 : Int32) M = _ from hS 60 (by omega))]
    by_cases s60 : tkS T 60 t = true
    · rw [bI_tr s60, if_neg (by decide), if_neg (tkS_o s60 (by omega)), if_neg (tkS_o s60 (by omega)), if_neg (tkS_o s60 (by omega)), if_pos s60]
      rfl
    rw [bI_fa s60, if_pos rfl, x_cV_ok K (show F_X8_isAt_ 4 30 (61 : Int32) M = _ from hS 61 (by omega))]
    by_cases s61 : tkS T 61 t = true
    · rw [bI_tr s61, if_neg (by decide), if_neg (tkS_o s61 (by omega)), if_neg (tkS_o s61 (by omega)), if_neg (tkS_o s61 (by omega)), if_neg s60, if_pos s61]
      rfl
    rw [bI_fa s61, if_pos rfl, if_neg s60, if_neg s61]
    by_cases s42 : tkS T 42 t = true
    · rw [if_pos s42]; rfl
    by_cases s43 : tkS T 43 t = true
    · rw [if_neg s42, if_pos s43]; rfl
    by_cases s45 : tkS T 45 t = true
    · rw [if_neg s42, if_neg s43, if_pos s45]; rfl
    rw [if_neg s42, if_neg s43, if_neg s45]
    by_cases w1 : tkW 1111 t = true
    · rw [if_pos w1]; rfl
    by_cases w2 : tkW 423 t = true
    · rw [if_neg w1, if_pos w2]; rfl
    rw [if_neg w1, if_neg w2]
  · rw [if_neg (by decide), if_neg (by decide), if_pos (by decide), x_cV_ok K (show F_X8_isAt_ 4 30 (43 : Int32) M = _ from hS 43 (by omega))]
    by_cases s43 : tkS T 43 t = true
    · rw [bI_tr s43, if_neg (by decide), if_neg (tkS_o s43 (by omega)), if_pos s43]
      rfl
    rw [bI_fa s43, if_pos rfl, x_cV_ok K (show F_X8_isAt_ 4 30 (45 : Int32) M = _ from hS 45 (by omega))]
    by_cases s45 : tkS T 45 t = true
    · rw [bI_tr s45, if_neg (by decide), if_neg (tkS_o s45 (by omega)), if_neg s43, if_pos s45]
      rfl
    rw [bI_fa s45, if_pos rfl, if_neg s43, if_neg s45]
    by_cases s42 : tkS T 42 t = true
    · rw [if_pos s42]; rfl
    by_cases s60 : tkS T 60 t = true
    · rw [if_neg s42, if_pos s60]; rfl
    by_cases s61 : tkS T 61 t = true
    · rw [if_neg s42, if_neg s60, if_pos s61]; rfl
    rw [if_neg s42, if_neg s60, if_neg s61]
    by_cases w1 : tkW 1111 t = true
    · rw [if_pos w1]; rfl
    by_cases w2 : tkW 423 t = true
    · rw [if_neg w1, if_pos w2]; rfl
    rw [if_neg w1, if_neg w2]
  · rw [if_neg (by decide), if_neg (by decide), if_neg (by decide), if_pos (by decide), x_cV_ok K (show F_X8_isAt_ 4 30 (42 : Int32) M = _ from hS 42 (by omega))]
    by_cases s42 : tkS T 42 t = true
    · rw [bI_tr s42, if_neg (by decide), if_pos s42]
      rfl
    rw [bI_fa s42, if_pos rfl, if_neg s42]
    by_cases s43 : tkS T 43 t = true
    · rw [if_pos s43]; rfl
    by_cases s45 : tkS T 45 t = true
    · rw [if_neg s43, if_pos s45]; rfl
    by_cases s60 : tkS T 60 t = true
    · rw [if_neg s43, if_neg s45, if_pos s60]; rfl
    by_cases s61 : tkS T 61 t = true
    · rw [if_neg s43, if_neg s45, if_neg s60, if_pos s61]; rfl
    rw [if_neg s43, if_neg s45, if_neg s60, if_neg s61]
    by_cases w1 : tkW 1111 t = true
    · rw [if_pos w1]; rfl
    by_cases w2 : tkW 423 t = true
    · rw [if_neg w1, if_pos w2]; rfl
    rw [if_neg w1, if_neg w2]
/-! what a reading comes to -/
abbrev EO : Type := Nat ⊕ (Nat × List Nat × List Nat × EV)
def cN (lv d : Nat) : Nat := (4 - lv) + 4 * (5 - d) + 1
def Sx : Nat → Nat → List Nat → EV → Nat → Prop
  | 0, off, mc, V, k => S0 off mc V k
  | 1, off, mc, V, k => S1 off mc V k
  | 2, off, mc, V, k => S2 off mc V k
  | 3, off, mc, V, k => S3 off mc V k
  | _ + 4, off, mc, V, k => SPt off mc V k
def vLoc (isB : Bool) (V : EV) : Prop := ∀ fs fs' : Nat → Int32, (∀ x, x < (if isB = true then 2 else 5) → fs x = fs' x) → V fs = V fs'
def eGd (n : Nat) (isB : Bool) (lv d q : Nat) (o : EO) : Prop := match o with
  | .inl f => 0 < f ∧ f < 20000
  | .inr (q', cc, mc, V) => (q < q' ∧ q' ≤ n) ∧ (q + cc.length ≤ q' ∧ q + mc.length ≤ q') ∧ SCl cc V (cN lv d) ∧ Sx lv (ofB isB) mc V (5 - d) ∧ vLoc isB V
def eCl (T : Nat → Nat) (n : Nat) (cc0 : List Nat) (o : EO) (M M' : m_M) (v : Int32) : Prop := csE M M' ∧ match o with
  | .inl f => v = nI 0 ∧ m_I M' 30 9 = nI f
  | .inr (q', cc, _, _) => v = nI 1 ∧ ECS T n q' (cc0 ++ cc) M'
def StpQ (T : Nat → Nat) (n lv q : Nat) (b : Bool) : Prop := ∀ l m c, opr T (tokAt T n q) = some (l, m, c) → l < lv ∨ (l = 1 ∧ b = true)
def eAu (T : Nat → Nat) (n : Nat) (isB : Bool) (lv d q : Nat) (o : EO) : Prop := ∀ (op : Nat → Nat) (cp : Nat → Bool) (mc0 : List Nat), (lv < 4 → d = 0 ∨ ¬ op d = 1) → (lv ≤ 1 → cp d = false) → match o with
  | .inl f => aR T n isB (q, d, true, op, cp, mc0) = .inl f
  | .inr (q', _, mc, _) => ∃ op' cp', (∀ j, j ≤ d → op' j = op j) ∧ (∀ j, j < d → cp' j = cp j) ∧ (2 ≤ lv → cp' d = cp d) ∧ aR T n isB (q, d, true, op, cp, mc0) = aR T n isB (q', popN op' d, false, op', cp', mc0 ++ mc) ∧ StpQ T n lv q' (cp' d)
def JE (T : Nat → Nat) (n : Nat) (isB : Bool) (lv d q B : Nat) : Prop := ∃ o, eGd n isB lv d q o ∧ (∀ f M cc0, B ≤ f → cc0.length ≤ q → ECS T n q cc0 M → ∃ v M', (G_E f).1 30 (nI (owN isB)) (nI lv) (nI d) M = some (v, M') ∧ eCl T n cc0 o M M' v) ∧ eAu T n isB lv d q o
def JPt (T : Nat → Nat) (n : Nat) (isB : Bool) (d q B : Nat) : Prop := ∃ o, eGd n isB 4 d q o ∧ (∀ f M cc0, B ≤ f → cc0.length ≤ q → ECS T n q cc0 M → ∃ v M', (G_E f).2 30 (nI (owN isB)) (nI d) M = some (v, M') ∧ eCl T n cc0 o M M' v) ∧ eAu T n isB 4 d q o
theorem popN_no {op : Nat → Nat} {d : Nat} (h : d = 0 ∨ ¬ op d = 1) : popN op d = d := by
  cases d with
  | zero => rfl
  | succ d =>
    rcases h with h | h
    · omega
    · unfold popN; rw [if_neg h]
theorem popN_cg {op op' : Nat → Nat} : ∀ d, (∀ j, j ≤ d → op' j = op j) → popN op' d = popN op d := by
  intro d
  induction d with
  | zero => intro _; rfl
  | succ d ih =>
    intro h
    unfold popN
    rw [h (d + 1) (Nat.le_refl _), ih (fun j hj => h j (by omega))]
theorem vLoc_b {V1 V2 : EV} {x : Nat} (h1 : vLoc isB V1) (h2 : vLoc isB V2) : vLoc isB (bV x V1 V2) := fun fs fs' h => by unfold bV; rw [h1 fs fs' h, h2 fs fs' h]
theorem vLoc_n {V : EV} (h : vLoc isB V) : vLoc isB (nV V) := fun fs fs' y => by unfold nV; rw [h fs fs' y]
theorem Sx_up {lv off k : Nat} {mc : List Nat} {V : EV} (hl : lv < 4) (h : Sx (lv + 1) off mc V k) : Sx lv off mc V k := by
  rcases (show lv = 0 ∨ lv = 1 ∨ lv = 2 ∨ lv = 3 by omega) with rfl | rfl | rfl | rfl
  · exact S0_of h
  · exact S1_of h
  · exact S2_of h
  · exact S3_of h
theorem Sx_row {t : Tok} {lv off m c k : Nat} {m1 m2 : List Nat} {V1 V2 : EV} (ho : opr T t = some (lv, m, c)) (hl : lv ≠ 1) (h1 : Sx lv off m1 V1 k) (h2 : Sx (lv + 1) off m2 V2 k) : Sx lv off (m1 ++ (m :: m2)) (bV c V1 V2) k := by
  rcases opr_in ho with ⟨rfl, rfl, rfl⟩ | ⟨rfl, ⟨rfl, rfl⟩ | ⟨rfl, rfl⟩⟩ | ⟨rfl, h⟩ | ⟨rfl, ⟨rfl, rfl⟩ | ⟨rfl, rfl⟩⟩
  · exact S3_row h1 h2 (Nat.le_refl _) (Nat.le_refl _)
  · exact S2_row (.inl rfl) h1 h2 (Nat.le_refl _) (Nat.le_refl _)
  · exact S2_row (.inr rfl) h1 h2 (Nat.le_refl _) (Nat.le_refl _)
  · exact absurd rfl hl
  · exact S0_row (.inl rfl) h1 h2 (Nat.le_refl _) (Nat.le_refl _)
  · exact S0_row (.inr rfl) h1 h2 (Nat.le_refl _) (Nat.le_refl _)
theorem Sx_cmp {t : Tok} {off m c k : Nat} {m1 m2 : List Nat} {V1 V2 : EV} (ho : opr T t = some (1, m, c)) (h1 : S2 off m1 V1 k) (h2 : S2 off m2 V2 k) : S1 off (m1 ++ (m :: m2)) (bV c V1 V2) k := by
  rcases opr_in ho with ⟨h, _⟩ | ⟨h, _⟩ | ⟨_, ⟨rfl, rfl⟩ | ⟨rfl, rfl⟩⟩ | ⟨h, _⟩
  · omega
  · omega
  · exact S1_cmp (.inl rfl) h1 h2 (Nat.le_refl _) (Nat.le_refl _)
  · exact S1_cmp (.inr rfl) h1 h2 (Nat.le_refl _) (Nat.le_refl _)
  · omega
theorem opr_c {t : Tok} {l m c : Nat} (h : opr T t = some (l, m, c)) : 11 < c ∧ c < 19 ∧ l < 4 := by
  rcases opr_in h with h | h | h | h <;> omega
theorem cw_ne {c : Nat} (h : 11 < c ∧ c < 19) : ¬ cw c = 0 := by
  rcases (show c = 12 ∨ c = 13 ∨ c = 14 ∨ c = 15 ∨ c = 16 ∨ c = 17 ∨ c = 18 by omega) with h | h | h | h | h | h | h <;> rw [h] <;> decide
/-! an operator's step of the machine -/
theorem a_op {q d l m c : Nat} {op : Nat → Nat} {cp : Nat → Bool} {mc : List Nat} (hq : q ≤ n) (ho : opr T (tokAt T n q) = some (l, m, c)) (h1 : l = 1 → cp d = false) : aR T n isB (q, d, false, op, cp, mc) = aR T n isB ((tokAt T n q).2.1, d, true, op, (if l = 1 then upf cp d true else if l = 0 then upf cp d false else cp), mc ++ [m]) := by
  refine aR_next hq ?_
  show (match opr T (tokAt T n q) with | some (l, m, _) => _ | none => _) = _
  rw [ho]
  dsimp only
  by_cases l1 : l = 1
  · rw [if_pos l1, if_pos l1, if_neg (by rw [h1 l1]; decide)]
  · rw [if_neg l1, if_neg l1]
    by_cases l0 : l = 0
    · rw [if_pos l0, if_pos l0]
    · rw [if_neg l0, if_neg l0]
/-- rows of operands -/
def JLp (T : Nat → Nat) (n : Nat) (isB : Bool) (lv d q1 B : Nat) (cc1 mc1 : List Nat) (V1 : EV) : Prop := ∃ o : EO, (match o with
    | .inl f => 0 < f ∧ f < 20000
    | .inr (q', cc, mc, V) => (q1 ≤ q' ∧ q' ≤ n) ∧ (cc.length + q1 ≤ cc1.length + q' ∧ mc.length + q1 ≤ mc1.length + q') ∧ SCl cc V (cN lv d) ∧ Sx lv (ofB isB) mc V (5 - d) ∧ vLoc isB V)
  ∧ (∀ f fu i M cc0, B ≤ f → (cc0 ++ cc1).length ≤ q1 → i < q1 → n - q1 < fu → ECS T n q1 (cc0 ++ cc1) M → ∃ v M', F_X4_readLevel_29 (G_E f).1 (G_E f).2 fu 30 (nI (owN isB)) (nI lv) (nI d) (nI i) M = some (v, M') ∧ eCl T n cc0 o M M' v)
  ∧ ∀ (op : Nat → Nat) (cp : Nat → Bool) (mc0 : List Nat), (d = 0 ∨ ¬ op d = 1) → StpQ T n (lv + 1) q1 (cp d) → match o with
    | .inl f => aR T n isB (q1, d, false, op, cp, mc0 ++ mc1) = .inl f
    | .inr (q', _, mc, _) => ∃ op' cp', (∀ j, j ≤ d → op' j = op j) ∧ (∀ j, j < d → cp' j = cp j) ∧ (2 ≤ lv → cp' d = cp d) ∧ aR T n isB (q1, d, false, op, cp, mc0 ++ mc1) = aR T n isB (q', d, false, op', cp', mc0 ++ mc) ∧ StpQ T n lv q' (cp' d)
theorem J_lp (hn : n ≤ 1000) {lv d B : Nat} (hl : lv < 4) (hl1 : lv ≠ 1) (hj : ∀ q, q ≤ n → JE T n isB (lv + 1) d q B) : ∀ (e q1 : Nat) (cc1 mc1 : List Nat) (V1 : EV), q1 ≤ n → n - q1 < e → SCl cc1 V1 (cN lv d) → Sx lv (ofB isB) mc1 V1 (5 - d) → vLoc isB V1 → JLp T n isB lv d q1 B cc1 mc1 V1 := by
  intro e
  induction e with
  | zero => intro q1 cc1 mc1 V1 _ h; omega
  | succ e ih =>
    intro q1 cc1 mc1 V1 hq he hC hS hV
    by_cases hop : ∃ m c, opr T (tokAt T n q1) = some (lv, m, c)
    · obtain ⟨m, c, ho⟩ := hop
      obtain ⟨c1, c2, c3⟩ := opr_c ho
      obtain ⟨t1, t2, t3⟩ := tok_lt hq (opr_k ho)
      obtain ⟨o, g, hc, ha⟩ := hj (tokAt T n q1).2.1 t2
      -- the class's turn up to the operand
      have turn : ∀ f fu i M cc0, B ≤ f → (cc0 ++ cc1).length ≤ q1 → i < q1 → n - q1 < fu + 1 → ECS T n q1 (cc0 ++ cc1) M → ∃ v M1, eCl T n (cc0 ++ cc1) o M M1 v ∧ F_X4_readLevel_29 (G_E f).1 (G_E f).2 (fu + 1) 30 (nI (owN isB)) (nI lv) (nI d) (nI i) M = (if v = 0 then some ((0 : Int32), M1) else x_gN 4 M1 30 10 fun v14 => x_cV 3 M1 v14 (F_X3_addCode v14 (cw c) M1) fun _ M5 => m_let (nI i + (1 : Int32)) fun v15 => F_X4_readLevel_29 (G_E f).1 (G_E f).2 fu 30 (nI (owN isB)) (nI lv) (nI d) v15 M5) := by
        intro f fu i M cc0 hf hlen hi hfu h
        obtain ⟨M1, a1, a2, a3⟩ := h.adv hn hq
        obtain ⟨v, M2, b1, b2⟩ := hc f M1 (cc0 ++ cc1) hf (by omega) a2
        refine ⟨v, M2, ⟨a3.trans b2.1, b2.2⟩, ?_⟩
        have opo := S_operatorOf h hq hl
        rw [ho] at opo
        dsimp only at opo
        rw [if_pos rfl] at opo
        rw [F_X4_readLevel_29, if_neg (show ¬ (1000 : Int32) ≤ nI i from nI_ge (b := 1000) (by omega) (by omega)), x_cV_ok h.K opo, if_neg (cw_ne ⟨c1, c2⟩)]
        refine m_let_e ?_
        intro K hK
        rw [if_neg (show ¬ nI lv = (1 : Int32) from fun z => hl1 ((nI_eq (b := 1) (by omega) (by omega)).mp z)), hK]
        dsimp only
        rw [x_cV_ok h.K a1, nI_1, x_cV_ok a2.K b1]
      cases o with
      | inl fl =>
        refine ⟨.inl fl, g, fun f fu i M cc0 hf hlen hi hfu h => ?_, fun op cp mc0 hd hst => ?_⟩
        · obtain ⟨fu, rfl⟩ : ∃ x, fu = x + 1 := ⟨fu - 1, by omega⟩
          obtain ⟨v, M1, e1, e2⟩ := turn f fu i M cc0 hf hlen hi hfu h
          obtain ⟨f1, hv, f2⟩ := e1
          refine ⟨0, M1, ?_, f1, rfl, f2⟩
          rw [e2, hv, if_pos (by decide)]
        · dsimp only
          rw [a_op hq ho (fun z => absurd z hl1)]
          have := ha op (if lv = 1 then upf cp d true else if lv = 0 then upf cp d false else cp) ((mc0 ++ mc1) ++ [m]) (fun _ => hd) (fun z => by
            have l0 : lv = 0 := by omega
            rw [if_neg hl1, if_pos l0]
            exact if_pos rfl)
          exact this
      | inr r =>
        obtain ⟨q2, cc2, mc2, V2⟩ := r
        obtain ⟨⟨g1, g2⟩, ⟨g3, g4⟩, g5, g6, g7⟩ := g
        have hcN : cN (lv + 1) d + 1 ≤ cN lv d := by unfold cN; omega
        have hC2 : SCl (cc1 ++ (cc2 ++ [c])) (bV c V1 V2) (cN lv d) := SCl_bin hC g5 ⟨c1, c2⟩ (Nat.le_refl _) hcN
        have hS2 := Sx_row ho hl1 hS g6
        obtain ⟨o', k1, k2, k3⟩ := ih q2 (cc1 ++ (cc2 ++ [c])) (mc1 ++ (m :: mc2)) (bV c V1 V2) g2 (by omega) hC2 hS2 (vLoc_b hV g7)
        have lc : (cc1 ++ (cc2 ++ [c])).length = cc1.length + cc2.length + 1 := by rw [List.length_append, List.length_append]; show _ + (_ + 1) = _; omega
        have lm : (mc1 ++ (m :: mc2)).length = mc1.length + mc2.length + 1 := by rw [List.length_append]; show _ + (_ + 1) = _; omega
        refine ⟨o', ?_, fun f fu i M cc0 hf hlen hi hfu h => ?_, fun op cp mc0 hd hst => ?_⟩
        · cases o' with
          | inl _ => exact k1
          | inr r' =>
            obtain ⟨q', cc', mc', V'⟩ := r'
            obtain ⟨⟨y1, y2⟩, ⟨y3, y4⟩, y5⟩ := k1
            rw [lc] at y3
            rw [lm] at y4
            exact ⟨⟨by omega, y2⟩, ⟨by omega, by omega⟩, y5⟩
        · obtain ⟨fu, rfl⟩ : ∃ x, fu = x + 1 := ⟨fu - 1, by omega⟩
          obtain ⟨v, M1, e1, e2⟩ := turn f fu i M cc0 hf hlen hi hfu h
          obtain ⟨f1, hv, f2⟩ := e1
          have hlen2 : (cc0 ++ cc1 ++ cc2).length < 1000 := by rw [List.length_append]; omega
          obtain ⟨M2, s1, s2, s3⟩ := f2.add hlen2 (c := c)
          have hass : cc0 ++ cc1 ++ cc2 ++ [c] = cc0 ++ (cc1 ++ (cc2 ++ [c])) := by rw [List.append_assoc, List.append_assoc]
          rw [hass] at s2
          obtain ⟨w, M', u1, u2⟩ := k2 f fu (i + 1) M2 cc0 hf (by rw [List.length_append, lc]; rw [List.length_append] at hlen; omega) (by omega) (by omega) s2
          refine ⟨w, M', ?_, (f1.trans s3).trans u2.1, u2.2⟩
          rw [e2, hv, if_neg (by decide), x_gN_ok f2.K (rd30 f2.1).2.1, x_cV_ok (rd30 f2.1).2.2.1 s1, m_let_eq, nI_1]
          exact u1
        · rw [a_op hq ho (fun z => absurd z hl1)]
          obtain ⟨op1, cp1, x1, x2, x3, x4, x5⟩ := ha op (if lv = 1 then upf cp d true else if lv = 0 then upf cp d false else cp) ((mc0 ++ mc1) ++ [m]) (fun _ => hd) (fun z => by
            have l0 : lv = 0 := by omega
            rw [if_neg hl1, if_pos l0]
            exact if_pos rfl)
          have hd1 : d = 0 ∨ ¬ op1 d = 1 := by rw [x1 d (Nat.le_refl _)]; exact hd
          have hass : mc0 ++ mc1 ++ [m] ++ mc2 = mc0 ++ (mc1 ++ (m :: mc2)) := by rw [List.append_assoc, List.append_assoc]; rfl
          rw [popN_no hd1, hass] at x4
          have k3' := k3 op1 cp1 mc0 hd1 x5
          rw [x4]
          have hcp : ∀ j, j < d → cp1 j = cp j := fun j hj => by
            rw [x2 j hj, if_neg hl1]
            split
            · unfold upf; rw [if_neg (by omega)]
            · rfl
          cases o' with
          | inl fl => exact k3'
          | inr r' =>
            obtain ⟨q', cc', mc', V'⟩ := r'
            obtain ⟨op2, cp2, z1, z2, z3, z4, z5⟩ := k3'
            refine ⟨op2, cp2, fun j hj => by rw [z1 j hj, x1 j hj], fun j hj => by rw [z2 j hj, hcp j hj], fun z => ?_, z4, z5⟩
            rw [z3 z, x3 (by omega), if_neg hl1, if_neg (by omega)]
    · refine ⟨.inr (q1, cc1, mc1, V1), ⟨⟨Nat.le_refl _, hq⟩, ⟨Nat.le_refl _, Nat.le_refl _⟩, hC, hS, hV⟩, fun f fu i M cc0 hf hlen hi hfu h => ?_, fun op cp mc0 hd hst => ?_⟩
      · obtain ⟨fu, rfl⟩ : ∃ x, fu = x + 1 := ⟨fu - 1, by omega⟩
        have opo := S_operatorOf h hq hl
        have h0 : (match opr T (tokAt T n q1) with | some (l, _, c) => if l = lv then cw c else (0 : Int32) | none => 0) = 0 := by
          cases hx : opr T (tokAt T n q1) with
          | none => rfl
          | some x =>
            obtain ⟨l, m, c⟩ := x
            dsimp only
            rw [if_neg (fun z => hop ⟨m, c, by rw [hx, z]⟩)]
        rw [h0] at opo
        refine ⟨1, M, ?_, csE.rfl', rfl, h⟩
        rw [F_X4_readLevel_29, if_neg (show ¬ (1000 : Int32) ≤ nI i from nI_ge (b := 1000) (by omega) (by omega)), x_cV_ok h.K opo, if_pos rfl]
      · refine ⟨op, cp, fun _ _ => rfl, fun _ _ => rfl, fun _ => rfl, rfl, fun l m c hx => ?_⟩
        rcases hst l m c hx with y | y
        · by_cases z : l = lv
          · exact absurd ⟨m, c, by rw [hx, z]⟩ hop
          · exact .inl (by omega)
        · exact .inr y
end ECLS
