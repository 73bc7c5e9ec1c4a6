/-! a land read: what a line comes to; the class's draft -/
def sB {α β : Type} : Nat ⊕ α → (α → Nat ⊕ β) → Nat ⊕ β
  | .inl f, _ => .inl f
  | .inr a, g => g a
theorem sB_l {α β : Type} {f : Nat} {g : α → Nat ⊕ β} : sB (.inl f) g = .inl f := rfl
theorem sB_r {α β : Type} {a : α} {g : α → Nat ⊕ β} : sB (.inr a) g = g a := rfl
def mostN (kd : Nat) : Nat := if kd = 0 then 5 else if kd = 1 then 3 else if kd = 2 then 6 else 3
def toldW (l : Ld) (w : Int64) : Bool := (List.range 4).any (fun kd => (fdN (fun i => lM l (8 * kd + i)) (lH l (kd + 1)) w).isSome)
def flt (T : Nat → Nat) (n q k : Nat) : Nat := k + 16 * (tokAt T n q).1
def nmO (T : Nat → Nat) (n : Nat) (l : Ld) (kd q : Nat) : Nat ⊕ (Int64 × Nat) :=
  if mostN kd ≤ lH l (kd + 1) then .inl (flt T n q 5)
  else if tkNm (tokAt T n (tokAt T n q).2.1) = true then (if toldW l (tokAt T n (tokAt T n q).2.1).2.2.2.1 = true then .inl (flt T n (tokAt T n q).2.1 3) else .inr ((tokAt T n (tokAt T n q).2.1).2.2.2.1, (tokAt T n (tokAt T n q).2.1).2.1))
  else .inl (flt T n (tokAt T n q).2.1 1)
def wdO (T : Nat → Nat) (n : Nat) (c : Int64) (q : Nat) : Nat ⊕ Nat := if tkW c (tokAt T n q) = true then .inr (tokAt T n q).2.1 else .inl (flt T n q 1)
def clO (T : Nat → Nat) (n q : Nat) : Nat ⊕ Nat := if tkS T 59 (tokAt T n q) = true then .inr (tokAt T n q).2.1 else .inl (flt T n q 1)
def nuO (T : Nat → Nat) (n lo hi q : Nat) : Nat ⊕ (Nat × Nat) := if (tokAt T n q).2.2.1 = 3 then (if lo ≤ (tokAt T n q).2.2.2.2 ∧ (tokAt T n q).2.2.2.2 ≤ hi then .inr ((tokAt T n q).2.2.2.2, (tokAt T n q).2.1) else .inl (flt T n q 4)) else .inl (flt T n q 1)
def vbO (T : Nat → Nat) (n : Nat) (l : Ld) (q : Nat) : Nat ⊕ Nat := if tkNm (tokAt T n q) = true then (match fdN (fun i => lM l (16 + i)) (lH l 3) (tokAt T n q).2.2.2.1 with | some v => .inr v | none => .inl (flt T n q 2)) else .inl (flt T n q 1)
/-! a land with something more in it -/
def ldH (l : Ld) (k v : Nat) : Ld := (upf (lH l) k v, l.2)
def ldW (l : Ld) (t v : Nat) : Ld := (l.1, upf (lW l) t v, l.2.2)
def ldD (l : Ld) (d : Nat) (v : Option Nat) : Ld := (l.1, l.2.1, upf (lD l) d v, l.2.2.2)
def ldV (l : Ld) (k v : Nat) : Ld := (l.1, l.2.1, l.2.2.1, upf (lV l) k v, l.2.2.2.2)
def ldM (l : Ld) (k : Nat) (v : Int64) : Ld := (l.1, l.2.1, l.2.2.1, l.2.2.2.1, upf (lM l) k v, l.2.2.2.2.2)
def ldE (l : Ld) (k : Nat) (v : (Nat → Int32) → Int32) : Ld := (l.1, l.2.1, l.2.2.1, l.2.2.2.1, l.2.2.2.2.1, upf (lE l) k v)
/-- names of a kind -/
def ldN (l : Ld) (kd : Nat) (w : Int64) : Ld := ldH (ldM l (8 * kd + lH l (kd + 1)) w) (kd + 1) (lH l (kd + 1) + 1)
def thO (T : Nat → Nat) (n : Nat) (l : Ld) (q : Nat) : Nat ⊕ (Nat × Ld) := sB (nmO T n l 0 q) fun a => sB (wdO T n 12328316 a.2) fun q3 => sB (nuO T n 0 99 q3) fun b => sB (clO T n b.2) fun q5 => .inr (q5, ldN (ldW l (lH l 1) b.1) 0 a.1)
def brO (T : Nat → Nat) (n : Nat) (l : Ld) (bt : Bool) (q : Nat) : Nat ⊕ (Nat × Ld) := if bt = true then .inl (flt T n q 3) else sB (nuO T n 0 99 (tokAt T n q).2.1) fun b => sB (clO T n b.2) fun q5 => .inr (q5, ldH l 6 b.1)
/-- the days of a week, from the i-th on -/
def wkO (T : Nat → Nat) (n : Nat) : Nat → Ld → Nat → Nat → Nat ⊕ (Nat × Ld)
  | 0, _, _, q => .inl (flt T n q 5)
  | e + 1, l, i, q => if 0 < i ∧ tkS T 59 (tokAt T n q) = true then .inr ((tokAt T n q).2.1, l)
    else sB (if tkW 277652441 (tokAt T n q) = true then .inr none else sB (vbO T n l q) fun v => .inr (some v)) fun v => if 7 ≤ i then .inl (flt T n q 5) else wkO T n e (ldH (ldD l i v) 5 (i + 1)) (i + 1) (tokAt T n q).2.1
def weO (T : Nat → Nat) (n : Nat) (l : Ld) (q : Nat) : Nat ⊕ (Nat × Ld) := if 0 < lH l 5 then .inl (flt T n q 3) else wkO T n 9 l 0 (tokAt T n q).2.1
/-- what a speaker wants, from the i-th on -/
def spO (T : Nat → Nat) (n : Nat) : Nat → Ld → Nat → Nat → Nat → Nat ⊕ (Nat × Ld)
  | 0, _, _, _, q => .inl (flt T n q 3)
  | e + 1, l, set, i, q => if 0 < i ∧ tkS T 59 (tokAt T n q) = true then .inr ((tokAt T n q).2.1, l)
    else sB (vbO T n l q) fun v => if set.testBit v = true then .inl (flt T n q 3) else sB (nuO T n 0 99 (tokAt T n q).2.1) fun b => spO T n e (ldV l (6 * lH l 4 + v) b.1) (set ||| 2 ^ v) (i + 1) b.2
def seO (T : Nat → Nat) (n : Nat) (l : Ld) (q : Nat) : Nat ⊕ (Nat × Ld) := sB (nmO T n l 3 q) fun a => sB (wdO T n 12253591 a.2) fun q3 => sB (spO T n 8 l 0 0 q3) fun r => .inr (r.1, ldN r.2 3 a.1)
section LDS
variable {l : Ld}
theorem ldH_k {k v j : Nat} : lH (ldH l k v) j = if j = k then v else lH l j := rfl
theorem ldN_H {kd j : Nat} {w : Int64} : lH (ldN l kd w) j = if j = kd + 1 then lH l (kd + 1) + 1 else lH l j := rfl
theorem ldN_M {kd j : Nat} {w : Int64} : lM (ldN l kd w) j = if j = 8 * kd + lH l (kd + 1) then w else lM l j := rfl
end LDS
/-! the class's draft -/
def pdN (pd : Option (Nat × Int64)) (kd : Nat) : Nat := match pd with
  | some (k, _) => if k = kd then 1 else 0
  | none => 0
/-- a law of the class's draft -/
def CLw (isB : Bool) (cc : List Nat) (A : IA) (i : Nat) (E : (Nat → Int32) → Int32) : Prop := ∃ (a : Nat) (c1 : List Nat) (V : EV), a + c1.length ≤ cc.length ∧ A 23 i = nI a ∧ A 24 i = nI (a + c1.length) ∧ (∀ j, j < c1.length → cc.getD (a + j) 0 = c1.getD j 0) ∧ SCl c1 V 30 ∧ vLoc isB V ∧ E = fun fs => V (fun x => fs (ofB isB + x))
def DC (l : Ld) (pd : Option (Nat × Int64)) (cc : List Nat) (A : IA) (B : Nat → Nat → Int64) : Prop := (A 16 0 = nI (lH l 0) ∧ A 16 1 = nI (lH l 6) ∧ A 16 2 = nI (lH l 5)) ∧ (∀ kd, kd < 4 → A 17 kd = nI (lH l (kd + 1) + pdN pd kd))
  ∧ (∀ t, t < lH l 1 → A 18 t = nI (lW l t)) ∧ (∀ d, d < lH l 5 → A 19 d = iO (lD l d)) ∧ (∀ k, k < 18 → A 20 k = nI (lV l k))
  ∧ (∀ kd, kd < 4 → ∀ i, i < lH l (kd + 1) → B 21 (8 * kd + i) = lM l (8 * kd + i)) ∧ (∀ kd w, pd = some (kd, w) → B 21 (8 * kd + lH l (kd + 1)) = w)
  ∧ (∀ j, j < lH l 2 → CLw true cc A (8 + j) (lE l j)) ∧ ∀ v, v < lH l 3 → CLw false cc A (16 + v) (lE l (3 + v))
def DS (T : Nat → Nat) (n q : Nat) (l : Ld) (pd : Option (Nat × Int64)) (bt : Bool) (M : m_M) : Prop := q ≤ n ∧ lOk l ∧ ∃ cc, cc.length ≤ q ∧ ECS T n q cc M ∧ DC l pd cc (m_I M) (m_L M) ∧ m_I M 30 11 = bI bt
/-- what the reading of a land may change in the class -/
def dcF (M M' : m_M) : Prop := M'.1 = M.1 ∧ (∀ a, (a < 16 ∨ (24 < a ∧ a ≠ 30)) → m_I M' a = m_I M a) ∧ (∀ a, a ≠ 21 → a ≠ 30 → m_L M' a = m_L M a) ∧ (∀ a, a ≠ 30 → m_R M' a = m_R M a) ∧ ∀ k, k ≠ 8 → m_R M' 30 k = m_R M 30 k
section DRAFT
variable {M M' : m_M} {T : Nat → Nat} {n q : Nat} {l : Ld} {pd : Option (Nat × Int64)} {bt : Bool}
theorem dcF.rfl' : dcF M M := ⟨rfl, fun _ _ => rfl, fun _ _ _ => rfl, fun _ _ => rfl, fun _ _ => rfl⟩
theorem dcF.trans {M1 M2 M3 : m_M} (h1 : dcF M1 M2) (h2 : dcF M2 M3) : dcF M1 M3 := by
  obtain ⟨a1, a2, a3, a4, a5⟩ := h1
  obtain ⟨b1, b2, b3, b4, b5⟩ := h2
  exact ⟨b1.trans a1, fun a h => (b2 a h).trans (a2 a h), fun a h h' => (b3 a h h').trans (a3 a h h'), fun a h => (b4 a h).trans (a4 a h), fun k h => (b5 k h).trans (a5 k h)⟩
theorem csE.dc (h : csE M M') : dcF M M' := ⟨h.1, fun a ha => h.2.1 a (by omega) (by omega) (by omega), fun a _ ha => (h.2.2.1 a ha).1, fun a ha => (h.2.2.1 a ha).2, h.2.2.2.2.2⟩
theorem CLw.cong {isB : Bool} {cc cc' : List Nat} {A A' : IA} {i : Nat} {E : (Nat → Int32) → Int32} (h : CLw isB cc A i E) (e1 : A' 23 i = A 23 i) (e2 : A' 24 i = A 24 i) (hc : ∃ r, cc' = cc ++ r) : CLw isB cc' A' i E := by
  obtain ⟨a, c1, V, h1, h2, h3, h4, h5, h6, h7⟩ := h
  obtain ⟨r, rfl⟩ := hc
  refine ⟨a, c1, V, by rw [List.length_append]; omega, by rw [e1]; exact h2, by rw [e2]; exact h3, fun j hj => ?_, h5, h6, h7⟩
  rw [List.getD_eq_getElem?_getD, List.getElem?_append_left (by omega), ← List.getD_eq_getElem?_getD]
  exact h4 j hj
theorem DC.cong {cc cc' : List Nat} {A A' : IA} {B B' : Nat → Nat → Int64} (h : DC l pd cc A B) (e : ∀ a, 17 ≤ a → a ≤ 24 → a ≠ 22 → A' a = A a) (e16 : ∀ k, k ≠ 5 → A' 16 k = A 16 k) (e21 : B' 21 = B 21) (hc : ∃ r, cc' = cc ++ r) : DC l pd cc' A' B' := by
  obtain ⟨⟨h1, h2, h3⟩, h4, h5, h6, h7, h8, h9, h10, h11⟩ := h
  refine ⟨⟨by rw [e16 0 (by omega)]; exact h1, by rw [e16 1 (by omega)]; exact h2, by rw [e16 2 (by omega)]; exact h3⟩, by rw [e 17 (by omega) (by omega) (by omega)]; exact h4, by rw [e 18 (by omega) (by omega) (by omega)]; exact h5, by rw [e 19 (by omega) (by omega) (by omega)]; exact h6, by rw [e 20 (by omega) (by omega) (by omega)]; exact h7, by rw [e21]; exact h8, by rw [e21]; exact h9, fun j hj => (h10 j hj).cong (by rw [e 23 (by omega) (by omega) (by omega)]) (by rw [e 24 (by omega) (by omega) (by omega)]) hc, fun v hv => (h11 v hv).cong (by rw [e 23 (by omega) (by omega) (by omega)]) (by rw [e 24 (by omega) (by omega) (by omega)]) hc⟩
theorem DS.csE {cc cc' : List Nat} {q' : Nat} (hD : DC l pd cc (m_I M) (m_L M)) (f : csE M M') (hc : ∃ r, cc' = cc ++ r) : DC l pd cc' (m_I M') (m_L M') := hD.cong (fun a h1 h2 h3 => f.2.1 a (by omega) h3 (by omega)) (fun k hk => f.2.2.2.1 k hk) (f.2.2.1 21 (by omega)).1 hc
theorem DS.adv (h : DS T n q l pd bt M) (hn : n ≤ 1000) : ∃ M', F_X8_advance 4 30 M = some ((), M') ∧ DS T n (tokAt T n q).2.1 l pd bt M' ∧ dcF M M' := by
  obtain ⟨hq, ho, cc, h1, h2, h3, h4⟩ := h
  obtain ⟨M', e, e1, e2⟩ := h2.adv hn hq
  obtain ⟨o1, o2, o3, o4, _⟩ := tok_ok (T := T) q hq
  exact ⟨M', e, ⟨o4, ho, cc, by omega, e1, DS.csE (q' := 0) h3 e2 ⟨[], (List.append_nil cc).symm⟩, by rw [e2.2.2.2.2.1 11 (by omega)]; exact h4⟩, e2.dc⟩
theorem DS.K (h : DS T n q l pd bt M) : m_K M 30 = 4 := by obtain ⟨_, _, cc, _, h2, _⟩ := h; exact h2.K
theorem DS.g (h : DS T n q l pd bt M) : G M := by obtain ⟨_, _, cc, _, h2, _⟩ := h; exact h2.1
theorem DS.W (h : DS T n q l pd bt M) {j : Nat} (hj : j < 20) : F_X8_isAt 4 30 (1000000 + j) M = some (bI (tkW (k_wl.getD j 0) (tokAt T n q)), M) := by obtain ⟨hq, _, cc, _, h2, _⟩ := h; exact h2.W hq hj
theorem DS.S (h : DS T n q l pd bt M) {c : Nat} (hc : c < 127) : F_X8_isAt_ 4 30 (nI c) M = some (bI (tkS T c (tokAt T n q)), M) := by obtain ⟨hq, _, cc, _, h2, _⟩ := h; exact h2.S hq hc
theorem DS.Nm (h : DS T n q l pd bt M) : F_X8_isAtName 4 30 M = some (bI (tkNm (tokAt T n q)), M) := by obtain ⟨hq, _, cc, _, h2, _⟩ := h; exact S_isAtNm h2.K h2.2.2.1 (tok_4 hq)
theorem DS.w (h : DS T n q l pd bt M) (hk : (tokAt T n q).2.2.1 = 2) : m_L M 30 7 = (tokAt T n q).2.2.2.1 := by obtain ⟨_, _, cc, _, h2, _⟩ := h; exact (h2.2.2.1.2.1 hk).1
theorem DS.fail (h : DS T n q l pd bt M) {k : Nat} : ∃ M', F_X8_fail 4 30 (nI k) M = some (nI 0, M') ∧ m_I M' 30 9 = nI (flt T n q k) ∧ dcF M M' := by
  obtain ⟨_, _, cc, _, h2, _⟩ := h
  obtain ⟨M', e, e1, e2⟩ := h2.fail (k := k)
  exact ⟨M', e, e1, e2.dc⟩
/-- what a piece of the class's reading comes to -/
def CRes (T : Nat → Nat) (n : Nat) (pd : Option (Nat × Int64)) (bt : Bool) (o : Nat ⊕ (Nat × Ld)) (r : Option (Int32 × m_M)) (M : m_M) : Prop := ∃ v M', r = some (v, M') ∧ dcF M M' ∧ match o with
  | .inl f => v = nI 0 ∧ m_I M' 30 9 = nI f
  | .inr (q', l') => v = nI 1 ∧ DS T n q' l' pd bt M'
theorem CRes.tr {o : Nat ⊕ (Nat × Ld)} {r : Option (Int32 × m_M)} (h : CRes T n pd bt o r M') (f : dcF M M') : CRes T n pd bt o r M := by
  obtain ⟨v, M2, e, f2, g⟩ := h
  exact ⟨v, M2, e, f.trans f2, g⟩
theorem DS.failR (h : DS T n q l pd bt M) {k : Nat} : CRes T n pd bt (.inl (flt T n q k)) (x_cV 4 M 30 (F_X8_fail 4 30 (nI k) M) fun v2 M3 => x_b v2 <| some (v2, M3)) M := by
  obtain ⟨M', e, e1, e2⟩ := h.fail (k := k)
  exact ⟨nI 0, M', by rw [x_cV_ok h.K e, x_b0], e2, rfl, e1⟩
theorem DS.passS (h : DS T n q l pd bt M) (hn : n ≤ 1000) {c : Nat} (hc : c < 127) : ∃ v M', F_X8_pass_ 4 30 (nI c) M = some (v, M') ∧ dcF M M' ∧ if tkS T c (tokAt T n q) = true then v = nI 1 ∧ DS T n (tokAt T n q).2.1 l pd bt M' else v = nI 0 ∧ m_I M' 30 9 = nI (flt T n q 1) := by
  unfold F_X8_pass_
  rw [x_cV_ok h.K (h.S hc)]
  by_cases s : tkS T c (tokAt T n q) = true
  · obtain ⟨M1, a1, a2, a3⟩ := h.adv hn
    exact ⟨1, M1, by rw [bI_tr s, if_neg (by decide), x_cV_ok h.K a1], a3, by rw [if_pos s]; exact ⟨rfl, a2⟩⟩
  · obtain ⟨M1, a1, a2, a3⟩ := h.fail (k := 1)
    have a1' : F_X8_fail 4 30 (1 : Int32) M = _ := a1
    exact ⟨0, M1, by rw [bI_fa s, if_pos rfl, x_cV_ok h.K a1', x_b0]; rfl, a3, by rw [if_neg s]; exact ⟨rfl, a2⟩⟩
theorem DS.passW (h : DS T n q l pd bt M) (hn : n ≤ 1000) {j : Nat} (hj : j < 20) : ∃ v M', F_X8_pass 4 30 (1000000 + j) M = some (v, M') ∧ dcF M M' ∧ match wdO T n (k_wl.getD j 0) q with | .inl f => v = nI 0 ∧ m_I M' 30 9 = nI f | .inr q' => v = nI 1 ∧ DS T n q' l pd bt M' := by
  unfold F_X8_pass wdO
  rw [x_cV_ok h.K (h.W hj)]
  by_cases s : tkW (k_wl.getD j 0) (tokAt T n q) = true
  · obtain ⟨M1, a1, a2, a3⟩ := h.adv hn
    exact ⟨1, M1, by rw [bI_tr s, if_neg (by decide), x_cV_ok h.K a1], a3, by rw [if_pos s]; exact ⟨rfl, a2⟩⟩
  · obtain ⟨M1, a1, a2, a3⟩ := h.fail (k := 1)
    have a1' : F_X8_fail 4 30 (1 : Int32) M = _ := a1
    exact ⟨0, M1, by rw [bI_fa s, if_pos rfl, x_cV_ok h.K a1', x_b0]; rfl, a3, by rw [if_neg s]; exact ⟨rfl, a2⟩⟩
theorem DS.num (h : DS T n q l pd bt M) (hn : n ≤ 1000) {lo hi : Nat} (hlo : lo < 100) (hhi : hi < 100) : ∃ v M', F_X8_passNumber 4 30 (nI lo) (nI hi) M = some (v, M') ∧ dcF M M' ∧ match nuO T n lo hi q with | .inl f => v = NO ∧ m_I M' 30 9 = nI f | .inr (x, q') => v = nI x ∧ x ≤ hi ∧ DS T n q' l pd bt M' := by
  have h4 := tok_4 (T := T) h.1
  have h9 := tok_9 (T := T) h.1
  have e4 : m_I M 30 4 = nI (tokAt T n q).2.2.1 := by obtain ⟨_, _, cc, _, h2, _⟩ := h; exact h2.2.2.1.1.2.2.2
  unfold F_X8_passNumber nuO
  rw [x_gI_ok h.K, e4]
  by_cases k3 : (tokAt T n q).2.2.1 = 3
  · have e5 : m_I M 30 5 = nI (tokAt T n q).2.2.2.2 := by obtain ⟨_, _, cc, _, h2, _⟩ := h; exact h2.2.2.1.2.2.1 k3
    have h10 := h9 k3
    rw [if_pos (show nI (tokAt T n q).2.2.1 = (3 : Int32) from by rw [k3]; rfl), if_pos k3]
    refine m_let_P (fun o => ∃ v M', o = some (v, M') ∧ dcF M M' ∧ match (if lo ≤ (tokAt T n q).2.2.2.2 ∧ (tokAt T n q).2.2.2.2 ≤ hi then (Sum.inr ((tokAt T n q).2.2.2.2, (tokAt T n q).2.1) : Nat ⊕ (Nat × Nat)) else .inl (flt T n q 4)) with | .inl f => v = NO ∧ m_I M' 30 9 = nI f | .inr (x, q') => v = nI x ∧ x ≤ hi ∧ DS T n q' l pd bt M') ?_
    intro K hK
    obtain ⟨M1, a1, a2, a3⟩ := h.fail (k := 4)
    have a1' : F_X8_fail 4 30 (4 : Int32) M = _ := a1
    have bad : K 30 M = some (NO, M1) := by
      rw [hK]
      dsimp only
      rw [x_cV_ok h.K a1']; rfl
    rw [x_gI_ok h.K, e5]
    by_cases c1 : lo ≤ (tokAt T n q).2.2.2.2
    · rw [if_neg (nI_nlt c1 (by omega))]
      by_cases c2 : (tokAt T n q).2.2.2.2 ≤ hi
      · obtain ⟨M2, b1, b2, b3⟩ := h.adv hn
        rw [if_pos (nI_le c2 (by omega)), x_cV_ok h.K b1]
        exact ⟨_, M2, rfl, b3, by rw [if_pos ⟨c1, c2⟩]; exact ⟨rfl, c2, b2⟩⟩
      · rw [if_neg (nI_ge (by omega) (by omega)), bad]
        exact ⟨_, M1, rfl, a3, by rw [if_neg (fun z => c2 z.2)]; exact ⟨rfl, a2⟩⟩
    · rw [if_pos (nI_lt (by omega) (by omega)), bad]
      exact ⟨_, M1, rfl, a3, by rw [if_neg (fun z => c1 z.1)]; exact ⟨rfl, a2⟩⟩
  · obtain ⟨M1, a1, a2, a3⟩ := h.fail (k := 1)
    have a1' : F_X8_fail 4 30 (1 : Int32) M = _ := a1
    rw [if_neg (show ¬ nI (tokAt T n q).2.2.1 = (3 : Int32) from fun z => k3 ((nI_eq (b := 3) (by omega) (by omega)).mp z)), if_neg k3, x_cV_ok h.K a1']
    exact ⟨_, M1, rfl, a3, rfl, a2⟩
theorem dr_cells (h : G M) : m_R M 30 10 = some 16 ∧ m_K M 16 = 3 ∧ m_R M 16 6 = some 17 ∧ m_K M 17 = 12 ∧ m_len M 17 = 4 ∧ m_R M 16 10 = some 21 ∧ m_K M 21 = 13 ∧ m_len M 21 = 32 ∧ m_R M 16 7 = some 18 ∧ m_K M 18 = 12 ∧ m_len M 18 = 5 ∧ m_R M 16 8 = some 19 ∧ m_K M 19 = 12 ∧ m_len M 19 = 7 ∧ m_R M 16 9 = some 20 ∧ m_K M 20 = 12 ∧ m_len M 20 = 18 ∧ m_R M 16 12 = some 23 ∧ m_K M 23 = 12 ∧ m_len M 23 = 32 ∧ m_R M 16 13 = some 24 ∧ m_K M 24 = 12 ∧ m_len M 24 = 32 := by
  refine ⟨?_, ?_, ?_, ?_, ?_, ?_, ?_, ?_, ?_, ?_, ?_, ?_, ?_, ?_, ?_, ?_, ?_, ?_, ?_, ?_, ?_, ?_, ?_⟩ <;> simp only [gK h, gR h, gl h]
theorem lH_most (ho : lOk l) {kd : Nat} (hk : kd < 4) : lH l (kd + 1) ≤ mostN kd := by
  unfold mostN
  rcases (show kd = 0 ∨ kd = 1 ∨ kd = 2 ∨ kd = 3 by omega) with rfl | rfl | rfl | rfl
  · exact ho.2.1
  · exact ho.2.2.1
  · exact ho.2.2.2.1
  · exact ho.2.2.2.2.1
theorem mostN_le (kd : Nat) : mostN kd ≤ 6 := by unfold mostN; split; omega; split; omega; split <;> omega
theorem DS.find (h : DS T n q l pd bt M) {kd : Nat} (hk : kd < 4) (hp : pdN pd kd = 0) {w : Int64} : F_X3_find 16 (nI kd) w M = some (iO (fdN (fun i => lM l (8 * kd + i)) (lH l (kd + 1)) w), M) := by
  obtain ⟨_, K16, R6, K17, L17, R10, K21, L21, _⟩ := dr_cells h.g
  obtain ⟨_, ho, cc, _, _, hD, _⟩ := h
  have hm := lH_most ho hk
  have h6 := mostN_le kd
  have e := S_find3 (M := M) (b := 16) (mc := 17) (nc := 21) (kd := kd) (n := lH l (kd + 1)) (w := w) K16 R6 R10 K17 (by rw [L17]; exact hk) K21 (by rw [L21]; omega) (by omega) (by have := hD.2.1 kd hk; rw [hp] at this; exact this) (lH l (kd + 1)) 0 m_FU (by omega) (m_FU_lt (by omega)) (fun j hj => absurd hj (Nat.not_lt_zero _))
  unfold F_X3_find
  refine e.trans ?_
  rw [fdN_cg (g := fun i => lM l (8 * kd + i)) (fun k hk2 => by
    rw [Nat.mul_comm kd 8]
    exact hD.2.2.2.2.2.1 kd hk k hk2)]
theorem iO_n1 {o : Option Nat} (h : ∀ k, o = some k → k < 2147483648) : iO o = (-1 : Int32) ↔ o = none := by rw [iO_no h]
theorem DS.isTold (h : DS T n q l none bt M) {w : Int64} : F_X3_isTold 16 w M = some (bI (toldW l w), M) := by
  have K16 := (dr_cells h.g).2.1
  have ho := h.2.1
  unfold F_X3_isTold
  have key : ∀ (d k f : Nat), k + d = 4 → d < f → (∀ j, j < k → (fdN (fun i => lM l (8 * j + i)) (lH l (j + 1)) w).isSome = false) → F_X3_isTold_2 f 16 w (nI k) M = some (bI (toldW l w), M) := by
    intro d
    induction d with
    | zero =>
      intro k f hk hf hh
      obtain ⟨f, rfl⟩ : ∃ f', f = f' + 1 := ⟨f - 1, by omega⟩
      obtain rfl : k = 4 := by omega
      have : toldW l w = false := by
        unfold toldW
        rw [List.any_eq_false]
        intro x hx
        rw [List.mem_range] at hx
        rw [hh x hx]
        decide
      rw [F_X3_isTold_2, if_pos (by decide), this]
      rfl
    | succ d ih =>
      intro k f hk hf hh
      obtain ⟨f, rfl⟩ : ∃ f', f = f' + 1 := ⟨f - 1, by omega⟩
      have hm := lH_most ho (kd := k) (by omega)
      have h6 := mostN_le k
      rw [F_X3_isTold_2, if_neg (show ¬ (4 : Int32) ≤ nI k from nI_ge (b := 4) (by omega) (by omega)), x_cV_ok K16 (h.find (by omega) rfl)]
      cases hx : fdN (fun i => lM l (8 * k + i)) (lH l (k + 1)) w with
      | none =>
        rw [if_pos (iO_none rfl), m_let_eq, nI_1]
        refine ih (k + 1) f (by omega) (by omega) (fun j hj => ?_)
        by_cases z : j = k
        · rw [z, hx]; rfl
        · exact hh j (by omega)
      | some x =>
        have := (fdN_lt hx).1
        have ht : toldW l w = true := by
          unfold toldW
          rw [List.any_eq_true]
          exact ⟨k, by rw [List.mem_range]; omega, by rw [hx]; rfl⟩
        rw [if_neg (fun z => by have := (iO_n1 (fun j hj => by cases hj; omega)).mp z; cases this), ht]
        rfl
  exact key 4 0 m_FU (by omega) (m_FU_lt (by omega)) (fun j hj => absurd hj (by omega))
theorem DS.verbHere (h : DS T n q l pd bt M) (hp : pdN pd 2 = 0) : ∃ v M', F_X4_verbHere 30 M = some (v, M') ∧ dcF M M' ∧ match vbO T n l q with | .inl f => v = NO ∧ m_I M' 30 9 = nI f | .inr x => v = nI x ∧ x < lH l 3 ∧ M' = M := by
  obtain ⟨R10, K16, _⟩ := dr_cells h.g
  have b6 := h.2.1.2.2.2.1
  unfold F_X4_verbHere vbO
  rw [x_cV_ok h.K h.Nm]
  by_cases s : tkNm (tokAt T n q) = true
  · have hf := h.find (kd := 2) (by omega) hp (w := (tokAt T n q).2.2.2.1)
    have hf' : F_X3_find 16 (2 : Int32) (tokAt T n q).2.2.2.1 M = _ := hf
    rw [bI_tr s, if_neg (by decide), x_gN_ok h.K R10, x_gL_ok h.K, h.w (tkNm_k s), x_cV_ok K16 hf', if_pos s, show (fun i => lM l (8 * 2 + i)) = (fun i => lM l (16 + i)) from rfl]
    cases hx : fdN (fun i => lM l (16 + i)) (lH l (2 + 1)) (tokAt T n q).2.2.2.1 with
    | none =>
      obtain ⟨M1, a1, a2, a3⟩ := h.fail (k := 2)
      have a1' : F_X8_fail 4 30 (2 : Int32) M = _ := a1
      rw [if_pos (iO_none rfl), x_cV_ok h.K a1']
      exact ⟨_, M1, rfl, a3, rfl, a2⟩
    | some x =>
      have hx3 := (fdN_lt hx).1
      have hx3 : x < lH l 3 := hx3
      rw [if_neg (fun z => by have := (iO_n1 (fun j hj => by cases hj; omega)).mp z; cases this)]
      exact ⟨_, M, rfl, dcF.rfl', rfl, hx3, rfl⟩
  · obtain ⟨M1, a1, a2, a3⟩ := h.fail (k := 1)
    have a1' : F_X8_fail 4 30 (1 : Int32) M = _ := a1
    rw [bI_fa s, if_pos rfl, x_cV_ok h.K a1', if_neg s]
    exact ⟨_, M1, rfl, a3, rfl, a2⟩
end DRAFT
