/-! a land read: the model's draft and its steps -/
def MLw (c : Nat) (A : IA) (line : Nat) (E : (Nat → Int32) → Int32) : Prop := ∃ (a : Nat) (mc : List Nat) (V : EV), 1000 ≤ a ∧ a + mc.length ≤ 1000 + c ∧ A 138 (9 + line) = nI a ∧ A 139 (9 + line) = nI (a + mc.length) ∧ LsA (A 140) a mc ∧ S0 (ofB (decide (line < 3))) mc V 5 ∧ E = fun fs => V (fun x => fs (ofB (decide (line < 3)) + x))
def DM (l : Ld) (c : Nat) (A : IA) (B : Nat → Nat → Int64) : Prop := (∀ k, k < 7 → A 130 (8 + k) = nI (lH l k)) ∧ (∀ t, t < lH l 1 → A 135 (5 + t) = nI (lW l t)) ∧ (∀ d, d < lH l 5 → A 136 (7 + d) = iO (lD l d)) ∧ (∀ k, k < 6 * lH l 4 → A 137 (18 + k) = nI (lV l k) ∨ (A 137 (18 + k) = NO ∧ lV l k = 0))
  ∧ ((∀ t, t < lH l 1 → B 131 (5 + t) = lM l t) ∧ (∀ j, j < lH l 2 → B 132 (3 + j) = lM l (8 + j)) ∧ (∀ v, v < lH l 3 → B 133 (6 + v) = lM l (16 + v)) ∧ ∀ k, k < lH l 4 → B 134 k = lM l (24 + k))
  ∧ ∀ line, lnOk l line → MLw c A line (lE l line)
def MT (T : Nat → Nat) (n q : Nat) (l : Ld) (bt : Bool × Bool) (M : m_M) : Prop := q ≤ n ∧ (lOk l ∧ ∀ k, 6 * lH l 4 ≤ k → lV l k = 0) ∧ ∃ c, c ≤ q ∧ G M ∧ TX T n (m_I M 129) ∧ TM n (tokAt T n q) M ∧ m_I M 128 21 = nI (1000 + c) ∧ DM l c (m_I M) (m_L M) ∧ m_I M 128 23 = bI bt.2 ∧ m_I M 128 24 = bI bt.1
/-- what the reading of a land may change in the model -/
def dmF (M M' : m_M) : Prop := M'.1 = M.1 ∧ m_R M' = m_R M ∧ (∀ a, a ≠ 128 → a ≠ 130 → (a < 135 ∨ 142 < a) → m_I M' a = m_I M a) ∧ (∀ k, (k < 3 ∨ (9 < k ∧ k < 21) ∨ (24 < k ∧ k ≠ 37)) → m_I M' 128 k = m_I M 128 k) ∧ (∀ k, k < 8 → m_I M' 130 k = m_I M 130 k)
  ∧ ((∀ k, k < 5 → m_I M' 135 k = m_I M 135 k) ∧ (∀ k, k < 7 → m_I M' 136 k = m_I M 136 k) ∧ (∀ k, k < 18 → m_I M' 137 k = m_I M 137 k) ∧ (∀ k, k < 9 → m_I M' 138 k = m_I M 138 k ∧ m_I M' 139 k = m_I M 139 k) ∧ ∀ k, k < 1000 → m_I M' 140 k = m_I M 140 k)
  ∧ (∀ a, a ≠ 128 → (a < 131 ∨ 134 < a) → m_L M' a = m_L M a) ∧ (∀ k, k ≠ 7 → m_L M' 128 k = m_L M 128 k) ∧ (∀ k, k < 5 → m_L M' 131 k = m_L M 131 k) ∧ (∀ k, k < 3 → m_L M' 132 k = m_L M 132 k) ∧ ∀ k, k < 6 → m_L M' 133 k = m_L M 133 k
/-- what one step may change in the model -/
def tnF (M M' : m_M) : Prop := M'.1 = M.1 ∧ m_R M' = m_R M ∧ (∀ a, a ≠ 128 → m_I M' a = m_I M a ∧ m_L M' a = m_L M a) ∧ (∀ k, (k < 3 ∨ (9 < k ∧ k ≠ 37)) → m_I M' 128 k = m_I M 128 k) ∧ ∀ k, k ≠ 7 → m_L M' 128 k = m_L M 128 k
section MDRAFT
variable {M M' : m_M} {T : Nat → Nat} {n q : Nat} {l : Ld} {bt : Bool × Bool}
theorem dmF.rfl' : dmF M M := ⟨rfl, rfl, fun _ _ _ _ => rfl, fun _ _ => rfl, fun _ _ => rfl, ⟨fun _ _ => rfl, fun _ _ => rfl, fun _ _ => rfl, fun _ _ => ⟨rfl, rfl⟩, fun _ _ => rfl⟩, fun _ _ _ => rfl, fun _ _ => rfl, fun _ _ => rfl, fun _ _ => rfl, fun _ _ => rfl⟩
theorem dmF.trans {M1 M2 M3 : m_M} (h1 : dmF M1 M2) (h2 : dmF M2 M3) : dmF M1 M3 := by
  obtain ⟨a1, a2, a3, a4, a5, ⟨a6, a7, a8, a9, a10⟩, a11, a12, a13, a14, a15⟩ := h1
  obtain ⟨b1, b2, b3, b4, b5, ⟨b6, b7, b8, b9, b10⟩, b11, b12, b13, b14, b15⟩ := h2
  exact ⟨b1.trans a1, b2.trans a2, fun a x y z => (b3 a x y z).trans (a3 a x y z), fun k x => (b4 k x).trans (a4 k x), fun k x => (b5 k x).trans (a5 k x), ⟨fun k x => (b6 k x).trans (a6 k x), fun k x => (b7 k x).trans (a7 k x), fun k x => (b8 k x).trans (a8 k x), fun k x => ⟨(b9 k x).1.trans (a9 k x).1, (b9 k x).2.trans (a9 k x).2⟩, fun k x => (b10 k x).trans (a10 k x)⟩, fun a x y => (b11 a x y).trans (a11 a x y), fun k x => (b12 k x).trans (a12 k x), fun k x => (b13 k x).trans (a13 k x), fun k x => (b14 k x).trans (a14 k x), fun k x => (b15 k x).trans (a15 k x)⟩
theorem tmF.dm (h : tmF M M') : dmF M M' := by
  obtain ⟨a1, a2, a3, a4, a5⟩ := h
  have e : ∀ a, a ≠ 128 → m_I M' a = m_I M a := fun a ha => (a3 a ha).1
  have e2 : ∀ a, a ≠ 128 → m_L M' a = m_L M a := fun a ha => (a3 a ha).2
  exact ⟨a1, a2, fun a x _ _ => e a x, fun k hk => a4 k (by omega), fun k _ => by rw [e 130 (by omega)], ⟨fun k _ => by rw [e 135 (by omega)], fun k _ => by rw [e 136 (by omega)], fun k _ => by rw [e 137 (by omega)], fun k _ => ⟨by rw [e 138 (by omega)], by rw [e 139 (by omega)]⟩, fun k _ => by rw [e 140 (by omega)]⟩, fun a x _ => e2 a x, a5, fun k _ => by rw [e2 131 (by omega)], fun k _ => by rw [e2 132 (by omega)], fun k _ => by rw [e2 133 (by omega)]⟩
theorem tnF.rfl' : tnF M M := ⟨rfl, rfl, fun _ _ => ⟨rfl, rfl⟩, fun _ _ => rfl, fun _ _ => rfl⟩
theorem tnF.trans {M1 M2 M3 : m_M} (h1 : tnF M1 M2) (h2 : tnF M2 M3) : tnF M1 M3 := by
  obtain ⟨a1, a2, a3, a4, a5⟩ := h1
  obtain ⟨b1, b2, b3, b4, b5⟩ := h2
  exact ⟨b1.trans a1, b2.trans a2, fun a x => ⟨(b3 a x).1.trans (a3 a x).1, (b3 a x).2.trans (a3 a x).2⟩, fun k x => (b4 k x).trans (a4 k x), fun k x => (b5 k x).trans (a5 k x)⟩
theorem tnF.dm (h : tnF M M') : dmF M M' := by
  obtain ⟨a1, a2, a3, a4, a5⟩ := h
  have e : ∀ a, a ≠ 128 → m_I M' a = m_I M a := fun a ha => (a3 a ha).1
  have e2 : ∀ a, a ≠ 128 → m_L M' a = m_L M a := fun a ha => (a3 a ha).2
  exact ⟨a1, a2, fun a x _ _ => e a x, fun k hk => a4 k (by omega), fun k _ => by rw [e 130 (by omega)], ⟨fun k _ => by rw [e 135 (by omega)], fun k _ => by rw [e 136 (by omega)], fun k _ => by rw [e 137 (by omega)], fun k _ => ⟨by rw [e 138 (by omega)], by rw [e 139 (by omega)]⟩, fun k _ => by rw [e 140 (by omega)]⟩, fun a x _ => e2 a x, a5, fun k _ => by rw [e2 131 (by omega)], fun k _ => by rw [e2 132 (by omega)], fun k _ => by rw [e2 133 (by omega)]⟩
theorem tmF.tn (h : tmF M M') : tnF M M' := ⟨h.1, h.2.1, h.2.2.1, fun k hk => h.2.2.2.1 k (by omega), h.2.2.2.2⟩
theorem tnF_9 {v : Int32} {k : Nat} (hk : (3 ≤ k ∧ k ≤ 9) ∨ k = 37) : tnF M (m_sI M 128 k v) := ⟨rfl, rfl, fun a ha => ⟨sI_ne ha, rfl⟩, fun j hj => by rw [mI_sI, if_neg (by omega)], fun _ _ => rfl⟩
theorem emF.dm (h : emF 1000 M M') : dmF M M' := by
  obtain ⟨a1, a2, a3, a4, a5, a6, a7⟩ := h
  have e : ∀ a, a ≠ 128 → a ≠ 140 → a ≠ 141 → a ≠ 142 → m_I M' a = m_I M a := a3
  exact ⟨a1, a2, fun a x _ z => e a x (by omega) (by omega) (by omega), fun k hk => a5 k (by omega), fun k _ => by rw [e 130 (by omega) (by omega) (by omega) (by omega)], ⟨fun k _ => by rw [e 135 (by omega) (by omega) (by omega) (by omega)], fun k _ => by rw [e 136 (by omega) (by omega) (by omega) (by omega)], fun k _ => by rw [e 137 (by omega) (by omega) (by omega) (by omega)], fun k _ => ⟨by rw [e 138 (by omega) (by omega) (by omega) (by omega)], by rw [e 139 (by omega) (by omega) (by omega) (by omega)]⟩, a7⟩, fun a x _ => a4 a x, a6, fun k _ => by rw [a4 131 (by omega)], fun k _ => by rw [a4 132 (by omega)], fun k _ => by rw [a4 133 (by omega)]⟩
theorem dmF.g (h : dmF M M') (hG : G M) : G M' := by
  unfold G m_N m_T
  rw [h.1, h.2.1]
  exact hG
theorem MT.g (h : MT T n q l bt M) : G M := by obtain ⟨_, _, c, _, g, _⟩ := h; exact g
theorem MT.K (h : MT T n q l bt M) : m_K M 128 = 10 := by have g := h.g; simp only [gK g]
theorem MT.nextT (h : MT T n q l bt M) (hn : n ≤ 1000) : ∃ M', F_X12_nextToken 128 M = some ((), M') ∧ MT T n (tokAt T n q).2.1 l bt M' ∧ tmF M M' := by
  obtain ⟨hq, ho, c, hc, g, hx, ht, e21, hD, e23, e24⟩ := h
  obtain ⟨o1, o2, o3, o4, _⟩ := tok_ok (T := T) q hq
  obtain ⟨M', e, t, f, _⟩ := S_next g hn hx o4 ht.1.1 ht.1.2.1
  have fI : ∀ a, a ≠ 128 → m_I M' a = m_I M a := fun a ha => (f.2.2.1 a ha).1
  have fL : ∀ a, a ≠ 128 → m_L M' a = m_L M a := fun a ha => (f.2.2.1 a ha).2
  have f3 := f.2.2.2.1
  refine ⟨M', e, ⟨o4, ho, c, by omega, f.g g, by rw [fI 129 (by omega)]; exact hx, t, by rw [f3 21 (by omega)]; exact e21, ?_, by rw [f3 23 (by omega)]; exact e23, by rw [f3 24 (by omega)]; exact e24⟩, f⟩
  obtain ⟨d1, d2, d3, d4, ⟨d5, d6, d7, d8⟩, d9⟩ := hD
  refine ⟨by rw [fI 130 (by omega)]; exact d1, by rw [fI 135 (by omega)]; exact d2, by rw [fI 136 (by omega)]; exact d3, by rw [fI 137 (by omega)]; exact d4, ⟨by rw [fL 131 (by omega)]; exact d5, by rw [fL 132 (by omega)]; exact d6, by rw [fL 133 (by omega)]; exact d7, by rw [fL 134 (by omega)]; exact d8⟩, ?_⟩
  unfold MLw
  rw [fI 138 (by omega), fI 139 (by omega), fI 140 (by omega)]
  exact d9
theorem MT.next (h : MT T n q l bt M) (hn : n ≤ 1000) : ∃ M', F_X12_nextToken 128 M = some ((), M') ∧ MT T n (tokAt T n q).2.1 l bt M' ∧ dmF M M' := by
  obtain ⟨M', a, b, c⟩ := h.nextT hn
  exact ⟨M', a, b, c.dm⟩
theorem s37 {v : Int32} : m_I (m_sI M 128 37 v) 128 37 = v := by rw [mI_sI, if_pos ⟨rfl, rfl⟩]
theorem MT.W (h : MT T n q l bt M) {c : Int64} : F_X12_isWord 128 c M = some (bI (tkW c (tokAt T n q)), M) := by obtain ⟨hq, _, _, _, g, _, ht, _⟩ := h; exact S_misW g ht (tok_4 hq)
theorem MT.S (h : MT T n q l bt M) (hn : n ≤ 1000) {c : Nat} (hc : c < 127) : F_X12_isSign 128 (nI c) M = some (bI (tkS T c (tokAt T n q)), M) := by obtain ⟨hq, _, _, _, g, hx, ht, _⟩ := h; exact S_misS g ht (tok_4 hq) hn hx (fun z => (tok_ok q hq).2.2.2.2.2.2.2 (by omega)) hc
theorem MT.Nm (h : MT T n q l bt M) : F_X12_isKept 128 M = some (bI (!tkNm (tokAt T n q)), M) := by obtain ⟨hq, _, _, _, g, _, ht, _⟩ := h; exact S_mkept g ht (tok_4 hq)
theorem MT.w (h : MT T n q l bt M) (hk : (tokAt T n q).2.2.1 = 2) : m_L M 128 7 = (tokAt T n q).2.2.2.1 := by obtain ⟨_, _, _, _, _, _, ht, _⟩ := h; exact ht.2.1 hk
theorem dmF_9 {v : Int32} {k : Nat} (hk : (3 ≤ k ∧ k ≤ 9) ∨ (21 ≤ k ∧ k ≤ 24) ∨ k = 37) : dmF M (m_sI M 128 k v) := by
  have e : ∀ a, a ≠ 128 → m_I (m_sI M 128 k v) a = m_I M a := fun a ha => sI_ne ha
  exact ⟨rfl, rfl, fun a x _ _ => e a x, fun j hj => by rw [mI_sI, if_neg (by omega)], fun k _ => by rw [e 130 (by omega)], ⟨fun k _ => by rw [e 135 (by omega)], fun k _ => by rw [e 136 (by omega)], fun k _ => by rw [e 137 (by omega)], fun k _ => ⟨by rw [e 138 (by omega)], by rw [e 139 (by omega)]⟩, fun k _ => by rw [e 140 (by omega)]⟩, fun _ _ _ => rfl, fun _ _ => rfl, fun _ _ => rfl, fun _ _ => rfl, fun _ _ => rfl⟩
theorem MT.fail (h : MT T n q l bt M) {k : Nat} : ∃ M', F_X12_fails 128 (nI k) M = some (nI 0, M') ∧ m_I M' 128 9 = nI (flt T n q k) ∧ tnF M M' := by
  obtain ⟨_, _, c, _, g, hx, ht, _⟩ := h
  exact ⟨m_sI M 128 9 (nI (k + 16 * (tokAt T n q).1)), S_mfails g ht, by rw [mI_sI, if_pos ⟨rfl, rfl⟩]; rfl, tnF_9 (by omega)⟩
/-- what a piece of the model's reading comes to -/
def MRes (T : Nat → Nat) (n : Nat) (bt : Bool × Bool) (o : Nat ⊕ (Nat × Ld)) (r : Option (Int32 × m_M)) (M : m_M) : Prop := ∃ v M', r = some (v, M') ∧ dmF M M' ∧ match o with
  | .inl f => v = nI 0 ∧ m_I M' 128 9 = nI f
  | .inr (q', l') => v = nI 1 ∧ MT T n q' l' bt M'
theorem MRes.tr {o : Nat ⊕ (Nat × Ld)} {r : Option (Int32 × m_M)} (h : MRes T n bt o r M') (f : dmF M M') : MRes T n bt o r M := by
  obtain ⟨v, M2, e, f2, g⟩ := h
  exact ⟨v, M2, e, f.trans f2, g⟩
theorem MT.failR (h : MT T n q l bt M) {k : Nat} {bt' : Bool × Bool} : MRes T n bt' (.inl (flt T n q k)) (x_cV 10 M 128 (F_X12_fails 128 (nI k) M) fun v2 M3 => x_b v2 <| some (v2, M3)) M := by
  obtain ⟨M', e, e1, e2⟩ := h.fail (k := k)
  exact ⟨nI 0, M', by rw [x_cV_ok h.K e, x_b0], e2.dm, rfl, e1⟩
theorem MT.needsW (h : MT T n q l bt M) (hn : n ≤ 1000) {c : Int64} : ∃ v M', F_X12_needsWord 128 c M = some (v, M') ∧ tnF M M' ∧ match wdO T n c q with | .inl f => v = nI 0 ∧ m_I M' 128 9 = nI f | .inr q' => v = nI 1 ∧ MT T n q' l bt M' := by
  unfold F_X12_needsWord wdO
  rw [x_cV_ok h.K h.W]
  by_cases s : tkW c (tokAt T n q) = true
  · obtain ⟨M1, a1, a2, a3⟩ := h.nextT hn
    exact ⟨1, M1, by rw [bI_tr s, if_neg (by decide), x_cV_ok h.K a1], a3.tn, by rw [if_pos s]; exact ⟨rfl, a2⟩⟩
  · obtain ⟨M1, a1, a2, a3⟩ := h.fail (k := 1)
    have a1' : F_X12_fails 128 (1 : Int32) M = _ := a1
    exact ⟨0, M1, by rw [bI_fa s, if_pos rfl, x_cV_ok h.K a1', x_b0]; rfl, a3, by rw [if_neg s]; exact ⟨rfl, a2⟩⟩
theorem MT.closeR (h : MT T n q l bt M) (hn : n ≤ 1000) : MRes T n bt (sB (clO T n q) fun q5 => .inr (q5, l)) (F_X12_closes 128 M) M := by
  unfold F_X12_closes clO
  rw [x_cV_ok h.K (show F_X12_isSign 128 (59 : Int32) M = _ from h.S hn (c := 59) (by omega))]
  by_cases s : tkS T 59 (tokAt T n q) = true
  · obtain ⟨M1, a1, a2, a3⟩ := h.next hn
    rw [if_pos s, bI_tr s, if_neg (by decide), x_cV_ok h.K a1]
    exact ⟨1, M1, rfl, a3, rfl, a2⟩
  · rw [if_neg s, bI_fa s, if_pos rfl]
    exact h.failR (k := 1)
theorem MT.closeX (h : MT T n q l bt M) (hn : n ≤ 1000) : MRes T n bt (sB (clO T n q) fun q5 => .inr (q5, l)) (x_cV 10 M 128 (F_X12_closes 128 M) fun v12 M9 => x_b v12 <| some (v12, M9)) M := by
  obtain ⟨v, M1, e, f, g⟩ := h.closeR hn
  refine ⟨v, M1, ?_, f, g⟩
  rw [x_cV_ok h.K e]
  unfold clO at g
  by_cases s : tkS T 59 (tokAt T n q) = true
  · rw [if_pos s] at g; obtain ⟨g1, _⟩ := g; rw [g1, x_b1]
  · rw [if_neg s] at g; obtain ⟨g1, _⟩ := g; rw [g1, x_b0]
theorem MT.sI (h : MT T n q l bt M) {k : Nat} {v : Int32} (hk : k = 37 ∨ k = 22) : MT T n q l bt (m_sI M 128 k v) := by
  obtain ⟨hq, ho, c, hc, g, hx, ht, e21, hD, e23, e24⟩ := h
  have s : ∀ a, a ≠ 128 → m_I (m_sI M 128 k v) a = m_I M a := fun a ha => sI_ne ha
  have s8 : ∀ j, j ≠ k → m_I (m_sI M 128 k v) 128 j = m_I M 128 j := fun j hj => by rw [mI_sI, if_neg (fun z => hj z.2)]
  obtain ⟨⟨t1, t2, t3, t4⟩, t5, t6⟩ := ht
  refine ⟨hq, ho, c, hc, g, by rw [s 129 (by omega)]; exact hx, ⟨⟨by rw [s8 3 (by omega)]; exact t1, by rw [s8 4 (by omega)]; exact t2, by rw [s8 5 (by omega)]; exact t3, by rw [s8 6 (by omega)]; exact t4⟩, t5, fun z => by rw [s8 8 (by omega)]; exact t6 z⟩, by rw [s8 21 (by omega)]; exact e21, ?_, by rw [s8 23 (by omega)]; exact e23, by rw [s8 24 (by omega)]; exact e24⟩
  obtain ⟨d1, d2, d3, d4, d5, d9⟩ := hD
  refine ⟨by rw [s 130 (by omega)]; exact d1, by rw [s 135 (by omega)]; exact d2, by rw [s 136 (by omega)]; exact d3, by rw [s 137 (by omega)]; exact d4, d5, ?_⟩
  unfold MLw
  rw [s 138 (by omega), s 139 (by omega), s 140 (by omega)]
  exact d9
theorem MT.num (h : MT T n q l bt M) (hn : n ≤ 1000) {lo hi : Nat} (hlo : lo < 100) (hhi : hi < 100) : ∃ v M', F_X12_needsNumber 128 (nI lo) (nI hi) M = some (v, M') ∧ tnF M M' ∧ match nuO T n lo hi q with | .inl f => v = nI 0 ∧ m_I M' 128 9 = nI f | .inr (x, q') => v = nI 1 ∧ x ≤ hi ∧ m_I M' 128 37 = nI x ∧ MT T n q' l bt M' := by
  have h4 := tok_4 (T := T) h.1
  have h9 := tok_9 (T := T) h.1
  obtain ⟨tk1, tk2, tk3, tk4, tk5⟩ := tkM_n h4
  have e6 : m_I M 128 6 = nI (tkM (tokAt T n q).2.2.1) := by obtain ⟨_, _, c, _, g, hx, ht, _⟩ := h; exact ht.1.2.2.2
  unfold F_X12_needsNumber nuO
  rw [x_gI_ok h.K, e6]
  by_cases k3 : (tokAt T n q).2.2.1 = 3
  · have e8 : m_I M 128 8 = nI (tokAt T n q).2.2.2.2 := by obtain ⟨_, _, c, _, g, hx, ht, _⟩ := h; exact ht.2.2 k3
    have h10 := h9 k3
    rw [if_pos k3, if_pos (show nI (tkM (tokAt T n q).2.2.1) = (2 : Int32) from by rw [tk3.mpr k3]; rfl), x_gI_ok h.K, e8, x_bd_ok (S_within (by omega) (by omega) (by omega))]
    by_cases c : lo ≤ (tokAt T n q).2.2.2.2 ∧ (tokAt T n q).2.2.2.2 ≤ hi
    · have h1 := h.sI (k := 37) (v := nI (tokAt T n q).2.2.2.2) (.inl rfl)
      obtain ⟨M1, a1, a2, a3⟩ := h1.nextT hn
      rw [if_pos c, decide_eq_true c.1, decide_eq_true c.2, if_neg (by decide), x_gI_ok h.K, e8, x_pI_ok h.K, x_cV_ok h1.K a1]
      exact ⟨1, M1, rfl, (tnF_9 (by omega)).trans a3.tn, rfl, c.2, by rw [a3.2.2.2.1 37 (by omega), s37], a2⟩
    · have hb : (decide (lo ≤ (tokAt T n q).2.2.2.2) && decide ((tokAt T n q).2.2.2.2 ≤ hi)) = false := by
        by_cases c1 : lo ≤ (tokAt T n q).2.2.2.2
        · rw [decide_eq_false (fun z => c ⟨c1, z⟩), Bool.and_false]
        · rw [decide_eq_false c1]; rfl
      obtain ⟨M1, a1, a2, a3⟩ := h.fail (k := 4)
      have a1' : F_X12_fails 128 (4 : Int32) M = _ := a1
      rw [if_neg c, hb, if_pos (by decide), x_cV_ok h.K a1', x_b0]
      exact ⟨nI 0, M1, rfl, a3, rfl, a2⟩
  · obtain ⟨M1, a1, a2, a3⟩ := h.fail (k := 1)
    have a1' : F_X12_fails 128 (1 : Int32) M = _ := a1
    rw [if_neg k3, if_neg (show ¬ nI (tkM (tokAt T n q).2.2.1) = (2 : Int32) from fun z => k3 (tk3.mp ((nI_eq (b := 2) (by omega) (by omega)).mp z))), x_cV_ok h.K a1', x_b0]
    exact ⟨nI 0, M1, rfl, a3, rfl, a2⟩
/-- names -/
theorem MT.nm (h : MT T n q l bt M) {w : Int64} (hw : m_L M 128 7 = w) : F_X12_thingNamed 128 (1 : Int32) M = some (iO (fdN (fun i => lM l (8 * 0 + i)) (lH l 1) w), M) ∧ F_X12_bendNamed 128 (1 : Int32) M = some (iO (fdN (fun i => lM l (8 * 1 + i)) (lH l 2) w), M) ∧ F_X12_verbNamed 128 (1 : Int32) M = some (iO (fdN (fun i => lM l (8 * 2 + i)) (lH l 3) w), M) := by
  obtain ⟨hq, ho, c, hc, g, hx, ht, e21, hD, e23, e24⟩ := h
  obtain ⟨d1, d2, d3, d4, ⟨d5, d6, d7, d8⟩, d9⟩ := hD
  have b1 := ho.1.2.1
  have b2 := ho.1.2.2.1
  have b3 := ho.1.2.2.2.1
  refine ⟨?_, ?_, ?_⟩
  · have e := S_thingNm2 g (r := 1) (n := lH l 1) (w := w) (by omega) b1 (d1 1 (by omega)) hw (lH l 1) 0 m_FU (by omega) (m_FU_lt (by omega)) (fun j hj => absurd hj (Nat.not_lt_zero _))
    unfold F_X12_thingNamed
    refine e.trans ?_
    rw [fdN_cg (g := fun i => lM l (8 * 0 + i)) (fun k hk => by rw [show 5 * 1 + k = 5 + k by omega, show 8 * 0 + k = k by omega]; exact d5 k hk)]
  · have e := S_bendNm2 g (r := 1) (n := lH l 2) (w := w) (by omega) b2 (d1 2 (by omega)) hw (lH l 2) 0 m_FU (by omega) (m_FU_lt (by omega)) (fun j hj => absurd hj (Nat.not_lt_zero _))
    unfold F_X12_bendNamed
    refine e.trans ?_
    rw [fdN_cg (g := fun i => lM l (8 * 1 + i)) (fun k hk => by rw [show 3 * 1 + k = 3 + k by omega, show 8 * 1 + k = 8 + k by omega]; exact d6 k hk)]
  · have e := S_verbNm2 g (r := 1) (n := lH l 3) (w := w) (by omega) b3 (d1 3 (by omega)) hw (lH l 3) 0 m_FU (by omega) (m_FU_lt (by omega)) (fun j hj => absurd hj (Nat.not_lt_zero _))
    unfold F_X12_verbNamed
    refine e.trans ?_
    rw [fdN_cg (g := fun i => lM l (8 * 2 + i)) (fun k hk => by rw [show 6 * 1 + k = 6 + k by omega, show 8 * 2 + k = 16 + k by omega]; exact d7 k hk)]
theorem iO_ge {o : Option Nat} (h : ∀ k, o = some k → k < 2147483648) : ((0 : Int32) ≤ iO o) ↔ o.isSome = true := by
  cases o with
  | none => exact ⟨fun z => absurd z (by decide), fun z => by cases z⟩
  | some k => exact ⟨fun _ => rfl, fun _ => nI_pos' (h k rfl)⟩
theorem toldW_eq {w : Int64} : toldW l w = ((fdN (fun i => lM l (8 * 0 + i)) (lH l 1) w).isSome || ((fdN (fun i => lM l (8 * 1 + i)) (lH l 2) w).isSome || ((fdN (fun i => lM l (8 * 2 + i)) (lH l 3) w).isSome || (fdN (fun i => lM l (8 * 3 + i)) (lH l 4) w).isSome))) := by
  unfold toldW
  simp only [List.range, List.range.loop, List.any_cons, List.any_nil, Bool.or_false]
/-- whether a name is new: what comes after its line's first word -/
theorem MT.isNew (h : MT T n q l bt M) : ∃ v M', F_X12_isNew 128 M = some (v, M') ∧ tnF M M' ∧ if tkNm (tokAt T n q) = true then (if toldW l (tokAt T n q).2.2.2.1 = true then v = nI 0 ∧ m_I M' 128 9 = nI (flt T n q 3) else v = nI 1 ∧ M' = M) else v = nI 0 ∧ m_I M' 128 9 = nI (flt T n q 1) := by
  unfold F_X12_isNew
  rw [x_cV_ok h.K h.Nm]
  by_cases s : tkNm (tokAt T n q) = true
  · have hw := h.w (tkNm_k s)
    obtain ⟨w, hww⟩ : ∃ w, w = (tokAt T n q).2.2.2.1 := ⟨_, rfl⟩
    rw [← hww] at hw ⊢
    obtain ⟨n1, n2, n3⟩ := h.nm hw
    have b1 := h.2.1.1.2.1
    have b2 := h.2.1.1.2.2.1
    have b3 := h.2.1.1.2.2.2.1
    have b4 := h.2.1.1.2.2.2.2.1
    have R10 : m_R M 128 10 = some 130 := by have g := h.g; simp only [gR g]
    have K130 : m_K M 130 = 12 := by have g := h.g; simp only [gK g]
    have L130 : m_len M 130 = 16 := by have g := h.g; simp only [gl g]
    have R14 : m_R M 128 14 = some 134 := by have g := h.g; simp only [gR g]
    have K134 : m_K M 134 = 13 := by have g := h.g; simp only [gK g]
    have L134 : m_len M 134 = 3 := by have g := h.g; simp only [gl g]
    rw [show bI (!tkNm (tokAt T n q)) = 0 from by rw [s]; rfl, if_pos rfl]
    -- the answer by the three kinds and by what is said of speakers
    obtain ⟨P, hP⟩ : ∃ P : Option (Int32 × m_M) → Prop, P = fun o => ∃ v M', o = some (v, M') ∧ tnF M M' ∧ if tkNm (tokAt T n q) = true then (if toldW l w = true then v = nI 0 ∧ m_I M' 128 9 = nI (flt T n q 3) else v = nI 1 ∧ M' = M) else v = nI 0 ∧ m_I M' 128 9 = nI (flt T n q 1) := ⟨_, rfl⟩
    rw [show (∃ v M', _ = some (v, M') ∧ tnF M M' ∧ if tkNm (tokAt T n q) = true then (if toldW l w = true then v = nI 0 ∧ m_I M' 128 9 = nI (flt T n q 3) else v = nI 1 ∧ M' = M) else v = nI 0 ∧ m_I M' 128 9 = nI (flt T n q 1)) = P _ from by rw [hP]]
    refine m_let_P P ?_
    intro k42 h42
    refine m_let_P P ?_
    intro k41 h41
    have e41 : k41 128 M = k42 128 (0 : Int32) M := by rw [h41]
    -- speakers
    have sp : ∀ b : Bool, (b = false → toldW l w = true) → (b = true → toldW l w = (fdN (fun i => lM l (8 * 3 + i)) (lH l 4) w).isSome) → P (k42 128 (bI b) M) := by
      intro b hb1 hb2
      rw [h42]
      dsimp only
      refine m_let_P P ?_
      intro k86 h86
      have k86f : toldW l w = true → P (k86 128 (bI false) M) := by
        intro ht
        obtain ⟨M1, a1, a2, a3⟩ := h.fail (k := 3)
        have a1' : F_X12_fails 128 (3 : Int32) M = _ := a1
        rw [h86]
        dsimp only
        refine m_let_P P ?_
        intro k98 h98
        rw [if_pos (show bI false = 0 from rfl), x_cV_ok h.K a1', if_pos (show nI 0 = (0 : Int32) from rfl), hP]
        exact ⟨0, M1, rfl, a3, by rw [if_pos s, if_pos ht]; exact ⟨rfl, a2⟩⟩
      have k86t : ¬ toldW l w = true → P (k86 128 (bI true) M) := by
        intro ht
        rw [h86]
        dsimp only
        refine m_let_P P ?_
        intro k98 h98
        rw [if_neg (show ¬ bI true = 0 from by decide), h98, hP]
        exact ⟨1, M, rfl, tnF.rfl', by rw [if_pos s, if_neg ht]; exact ⟨rfl, rfl⟩⟩
      obtain ⟨hq, ho, c, hc, g, hx, ht, e21, ⟨d1, d2, d3, d4, ⟨d5, d6, d7, d8⟩, d9⟩, e23, e24⟩ := h
      have K : m_K M 128 = 10 := by simp only [gK g]
      have key : ∀ (e k f : Nat) (b' : Bool), k + e = lH l 4 → e < f → (b' = false → toldW l w = true) → (b' = true → toldW l w = (fdN (fun i => lM l (8 * 3 + i)) (lH l 4) w).isSome ∧ ∀ j, j < k → lM l (24 + j) ≠ w) → P (F_X12_isNew_45 k86 f 128 (bI b') (nI k) M) := by
        intro e
        induction e with
        | zero =>
          intro k f b' hk hf g1 g2
          obtain ⟨f, rfl⟩ : ∃ x, f = x + 1 := ⟨f - 1, by omega⟩
          rw [F_X12_isNew_45, x_gN_ok K R10, aI_lit (x := (12 : Int32)) (n := 12) K130 (by rw [L130]; omega) rfl (by omega), show m_I M 130 12 = nI (lH l 4) from d1 4 (by omega), if_pos (nI_le (by omega) (by omega))]
          cases b'
          · exact k86f (g1 rfl)
          · obtain ⟨y1, y2⟩ := g2 rfl
            refine k86t ?_
            rw [y1, fdN_none (fun j hj => y2 j (by omega))]
            decide
        | succ e ih =>
          intro k f b' hk hf g1 g2
          obtain ⟨f, rfl⟩ : ∃ x, f = x + 1 := ⟨f - 1, by omega⟩
          rw [F_X12_isNew_45, x_gN_ok K R10, aI_lit (x := (12 : Int32)) (n := 12) K130 (by rw [L130]; omega) rfl (by omega), show m_I M 130 12 = nI (lH l 4) from d1 4 (by omega), if_neg (nI_ge (by omega) (by omega))]
          refine m_let_P P ?_
          intro k79 h79
          refine m_let_P P ?_
          intro k78 h78
          have no : toldW l w = true → P (k78 128 (nI k) M) := fun ht => by
            rw [h78]
            dsimp only
            rw [h79]
            dsimp only
            rw [nI_1, m_let_eq]
            exact ih (k + 1) f false (by omega) (by omega) (fun _ => ht) (fun z => by cases z)
          cases b'
          · rw [if_pos (show bI false = 0 from rfl)]
            exact no (g1 rfl)
          · obtain ⟨y1, y2⟩ := g2 rfl
            rw [if_neg (show ¬ bI true = 0 from by decide), x_gN_ok K R14, x_aL_ok K134 (by rw [L134]; omega) (by omega), d8 k (by omega), x_gL_ok K, hw]
            by_cases z : lM l (24 + k) = w
            · rw [if_pos ((lg_cmp_eq _ _).mpr z)]
              refine no ?_
              rw [y1, fdN_some (k := k) (by omega) z (fun j hj => y2 j hj)]
              rfl
            · rw [if_neg (fun y => z ((lg_cmp_eq _ _).mp y)), h79]
              dsimp only
              rw [nI_1, m_let_eq]
              refine ih (k + 1) f true (by omega) (by omega) (fun z => by cases z) (fun _ => ⟨y1, fun j hj => ?_⟩)
              by_cases y : j = k
              · rw [y]; exact z
              · exact y2 j (by omega)
      exact key (lH l 4) 0 m_FU b (by omega) (m_FU_lt (by omega)) hb1 (fun z => ⟨hb2 z, fun j hj => absurd hj (by omega)⟩)
    have f1 : ∀ k, fdN (fun i => lM l (8 * 0 + i)) (lH l 1) w = some k → k < 2147483648 := fun k hk => by have := (fdN_lt hk).1; omega
    have f2 : ∀ k, fdN (fun i => lM l (8 * 1 + i)) (lH l 2) w = some k → k < 2147483648 := fun k hk => by have := (fdN_lt hk).1; omega
    have f3 : ∀ k, fdN (fun i => lM l (8 * 2 + i)) (lH l 3) w = some k → k < 2147483648 := fun k hk => by have := (fdN_lt hk).1; omega
    rw [x_cV_ok h.K n1]
    by_cases c1 : (fdN (fun i => lM l (8 * 0 + i)) (lH l 1) w).isSome = true
    · rw [if_pos ((iO_ge f1).mpr c1), e41]
      exact sp false (fun _ => by rw [toldW_eq, c1]; rfl) (fun z => by cases z)
    rw [if_neg (fun z => c1 ((iO_ge f1).mp z)), x_cV_ok h.K n2]
    by_cases c2 : (fdN (fun i => lM l (8 * 1 + i)) (lH l 2) w).isSome = true
    · rw [if_pos ((iO_ge f2).mpr c2), e41]
      exact sp false (fun _ => by rw [toldW_eq, c2]; simp) (fun z => by cases z)
    rw [if_neg (fun z => c2 ((iO_ge f2).mp z)), x_cV_ok h.K n3]
    by_cases c3 : (fdN (fun i => lM l (8 * 2 + i)) (lH l 3) w).isSome = true
    · rw [if_pos ((iO_ge f3).mpr c3), e41]
      exact sp false (fun _ => by rw [toldW_eq, c3]; simp) (fun z => by cases z)
    rw [if_neg (fun z => c3 ((iO_ge f3).mp z))]
    exact sp true (fun z => by cases z) (fun _ => by
      rw [toldW_eq, show (fdN (fun i => lM l (8 * 0 + i)) (lH l 1) w).isSome = false by simpa using c1, show (fdN (fun i => lM l (8 * 1 + i)) (lH l 2) w).isSome = false by simpa using c2, show (fdN (fun i => lM l (8 * 2 + i)) (lH l 3) w).isSome = false by simpa using c3]
      rfl)
  · obtain ⟨M1, a1, a2, a3⟩ := h.fail (k := 1)
    have a1' : F_X12_fails 128 (1 : Int32) M = _ := a1
    rw [show bI (!tkNm (tokAt T n q)) = 1 from by rw [show tkNm (tokAt T n q) = false by simpa using s]; rfl, if_neg (by decide), x_cV_ok h.K a1', x_b0]
    exact ⟨nI 0, M1, rfl, a3, by rw [if_neg s]; exact ⟨rfl, a2⟩⟩
theorem MT.needsV (h : MT T n q l bt M) : ∃ v M', F_X12_needsVerb 128 M = some (v, M') ∧ tnF M M' ∧ match vbO T n l q with | .inl f => v = nI 0 ∧ m_I M' 128 9 = nI f | .inr x => v = nI 1 ∧ x < lH l 3 ∧ M' = m_sI M 128 37 (nI x) := by
  have b3 := h.2.1.1.2.2.2.1
  unfold F_X12_needsVerb vbO
  rw [x_cV_ok h.K h.Nm]
  by_cases s : tkNm (tokAt T n q) = true
  · have hw := h.w (tkNm_k s)
    obtain ⟨n1, n2, n3⟩ := h.nm hw
    rw [if_pos s, show bI (!tkNm (tokAt T n q)) = 0 from by rw [s]; rfl, if_pos rfl, x_cV_ok h.K n3, x_pI_ok h.K, show (fun i => lM l (8 * 2 + i)) = (fun i => lM l (16 + i)) from rfl]
    cases hx : fdN (fun i => lM l (16 + i)) (lH l 3) (tokAt T n q).2.2.2.1 with
    | none =>
      have h1 := h.sI (k := 37) (v := NO) (.inl rfl)
      obtain ⟨M1, a1, a2, a3⟩ := h1.fail (k := 2)
      have a1' : F_X12_fails 128 (2 : Int32) (m_sI M 128 37 NO) = _ := a1
      rw [show iO none = NO from rfl, x_gI_ok h1.K, s37, if_neg (by decide), x_cV_ok h1.K a1', x_b0]
      exact ⟨nI 0, M1, rfl, (tnF_9 (by omega)).trans a3, rfl, a2⟩
    | some x =>
      have hx3 := (fdN_lt hx).1
      have h1 := h.sI (k := 37) (v := nI x) (.inl rfl)
      rw [show iO (some x) = nI x from rfl, x_gI_ok h1.K, s37, if_pos (nI_pos' (by omega))]
      exact ⟨1, _, rfl, tnF_9 (by omega), rfl, hx3, rfl⟩
  · obtain ⟨M1, a1, a2, a3⟩ := h.fail (k := 1)
    have a1' : F_X12_fails 128 (1 : Int32) M = _ := a1
    rw [if_neg s, show bI (!tkNm (tokAt T n q)) = 1 from by rw [show tkNm (tokAt T n q) = false by simpa using s]; rfl, if_neg (by decide), x_cV_ok h.K a1', x_b0]
    exact ⟨nI 0, M1, rfl, a3, rfl, a2⟩
end MDRAFT
