/-! the state of both sides -/
/-- day, what is told, what is asked, what is seen -/
abbrev Bk : Type := Nat × Tl × Option Fm × (Nat × (Nat → Nat × Nat × Bool))
def seC (x : Nat × Nat × Bool) : Nat := (x.1 * 1024 + x.2.1) * 2 + (if x.2.2 then 1 else 0)
def BkC (l : Ld) (b : Bk) (base : Nat) (M : m_M) : Prop := m_I M base 0 = nI b.1 ∧ TlC l b.2.1 base M
  ∧ (∃ fr, m_R M base 5 = some fr ∧ (b.2.2.1 = none → m_K M fr = 12 ∧ m_len M fr = 0 ∧ (fr < 178 ∨ 178 ≤ fr)) ∧ ∀ f, b.2.2.1 = some f → FmC l f fr M)
  ∧ (m_I M base 3 = nI b.2.2.2.1 ∧ ∀ i, i < b.2.2.2.1 → m_I M (base + 4) i = nI (seC (b.2.2.2.2 i)))
def BkM (l : Ld) (b : Bk) (r : Nat) (A : IA) (B : Nat → Nat → Int64) : Prop := TlM l b.2.1 r A B
  ∧ (A 163 r = bI b.2.2.1.isSome ∧ ∀ f, b.2.2.1 = some f → (∀ v, v < lH l 3 → Rw (wN l) (fMn l (some v) f.1 f.2) (fun k => B 162 (112 * r + 16 * v + k))) ∧ Rw (wN l) (fMn l none f.1 f.2) (fun k => B 162 (112 * r + 96 + k)))
  ∧ (A 167 r = nI b.2.2.2.1 ∧ ∀ i, i < b.2.2.2.1 → A 164 (20 * r + i) = nI (b.2.2.2.2 i).1 ∧ A 165 (20 * r + i) = nI (b.2.2.2.2 i).2.1 ∧ A 166 (20 * r + i) = bI (b.2.2.2.2 i).2.2)
/-- what holds of a book whatever the memory -/
def BkD (l : Ld) (b : Bk) : Prop := b.1 < 900000 ∧ TlD b.2.1 ∧ (b.2.2.2.1 ≤ 20 ∧ ∀ i, i < b.2.2.2.1 → ccOk l (b.2.2.2.2 i).1 = true ∧ (b.2.2.2.2 i).2.1 < wN l)
/-- a deed leads from t to t' -/
def dRel0 (l : Ld) (t t' : Tl) (d q : Int32) (r : Option Nat) (M : m_M) : Prop :=
  (d = nI 0 ∧ t'.1.1 = t.1.1 + 1 ∧ q = nI t.1.1 ∧ (∀ i, i < t.1.1 → t'.1.2 i = t.1.2 i) ∧ t'.2 = t.2)
  ∨ (d = nI 1 ∧ t.1.1 = t'.1.1 + 1 ∧ t'.2 = t.2 ∧ ∃ p, p ≤ t'.1.1 ∧ q = nI p ∧ (∀ i, i < p → t'.1.2 i = t.1.2 i) ∧ (∀ i, p ≤ i → i < t'.1.1 → t'.1.2 i = t.1.2 (i + 1)) ∧ ∃ x, r = some x ∧ SyC l (t.1.2 p) x M)
  ∨ (d = nI 2 ∧ t'.2.1 = t.2.1 + 1 ∧ (∀ i, i < t.2.1 → t'.2.2 i = t.2.2 i) ∧ t'.1 = t.1)
def dRel (l : Ld) (t t' : Tl) (d q : Int32) (r : Option Nat) (M : m_M) : Prop := (∃ x, r = some x) ∧ dRel0 l t t' d q r M
abbrev Un : Type := Nat × (Nat → Tl)
def unAt (u : Un) (now : Tl) (j : Nat) : Tl := if j < u.1 then u.2 j else now
def UnC (l : Ld) (u : Un) (now : Tl) (M : m_M) : Prop := u.1 ≤ 12 ∧ m_I M 80 4 = nI u.1 ∧ ∀ j, j < u.1 → dRel l (u.2 j) (unAt u now (j + 1)) (m_I M 85 j) (m_I M 86 j) (m_R M 87 j) M
def UnM (l : Ld) (u : Un) (A : IA) (B : Nat → Nat → Int64) : Prop := A 128 52 = nI u.1 ∧ ∀ j, j < u.1 → TlM l (u.2 j) (5 + j) A B ∧ TlD (u.2 j)
/-- tape, land, book, what can be undone, marks -/
abbrev St : Type := (Nat × (Nat → Nat)) × Ld × Bk × Un × (Nat → Option Bk)
def NmC (l : Ld) (M : m_M) : Prop := (∀ t, t < lH l 1 → m_L M 7 t = lM l t) ∧ ∀ j, j < lH l 2 → m_L M 7 (8 + j) = lM l (8 + j)
def NmM (l : Ld) (M : m_M) : Prop := (∀ t, t < lH l 1 → m_L M 131 t = lM l t) ∧ ∀ j, j < lH l 2 → m_L M 132 j = lM l (8 + j)
def INV (s : St) (M : m_M) : Prop := G M ∧ lOk s.2.1 ∧ (LCi s.2.1 (m_I M) ∧ LCs s.2.1 (m_L M 13) ∧ NmC s.2.1 M) ∧ (LMi s.2.1 (m_I M) ∧ NmM s.2.1 M)
  ∧ (s.1.1 ≤ 1000 ∧ m_I M 0 1 = nI s.1.1 ∧ m_I M 128 1 = nI s.1.1 ∧ ∀ i, i < s.1.1 → m_I M 1 i = nI (s.1.2 i) ∧ m_I M 129 i = nI (s.1.2 i) ∧ (s.1.2 i = 10 ∨ (32 ≤ s.1.2 i ∧ s.1.2 i ≤ 126)))
  ∧ (BkC s.2.1 s.2.2.1 80 M ∧ BkM s.2.1 s.2.2.1 0 (m_I M) (m_L M) ∧ BkD s.2.1 s.2.2.1 ∧ m_I M 128 53 = nI s.2.2.1.1)
  ∧ (UnC s.2.1 s.2.2.2.1 s.2.2.1.2.1 M ∧ UnM s.2.1 s.2.2.2.1 (m_I M) (m_L M))
  ∧ ∀ i, i < 4 → m_I M 89 i = bI (s.2.2.2.2 i).isSome ∧ m_I M 169 i = bI (s.2.2.2.2 i).isSome ∧ ∀ b, s.2.2.2.2 i = some b → BkC s.2.1 b (96 + 8 * i) M ∧ BkM s.2.1 b (1 + i) (m_I M) (m_L M) ∧ BkD s.2.1 b ∧ m_I M 168 (1 + i) = nI b.1
/-- cells that are of no matter between calls -/
def scI (a : Nat) : Prop := (a = 14 ∨ a = 15 ∨ (67 ≤ a ∧ a ≤ 79)) ∨ (143 ≤ a ∧ a ≤ 152) ∨ a = 154 ∨ a = 155 ∨ (174 ≤ a ∧ a ≤ 177)
def scL (a : Nat) : Prop := a = 0 ∨ (36 ≤ a ∧ a ≤ 79) ∨ a = 91 ∨ a = 93 ∨ a = 95 ∨ a = 128 ∨ (170 ≤ a ∧ a ≤ 177)
def SC (M M' : m_M) : Prop := M'.1 = M.1 ∧ m_R M' = m_R M ∧ (∀ a, ¬ scI a → a ≠ 128 → m_I M' a = m_I M a) ∧ (∀ k, 0 < k → (k < 66 ∨ 69 < k) → m_I M' 128 k = m_I M 128 k) ∧ ∀ a, ¬ scL a → m_L M' a = m_L M a
theorem SC.rfl' (M : m_M) : SC M M := ⟨rfl, rfl, fun _ _ _ => rfl, fun _ _ _ => rfl, fun _ _ => rfl⟩
theorem SC.trans {M1 M2 M3 : m_M} (h1 : SC M1 M2) (h2 : SC M2 M3) : SC M1 M3 := by
  obtain ⟨a1, a2, a3, a4, a5⟩ := h1
  obtain ⟨b1, b2, b3, b4, b5⟩ := h2
  exact ⟨b1.trans a1, b2.trans a2, fun a h h' => (b3 a h h').trans (a3 a h h'), fun k h h' => (b4 k h h').trans (a4 k h h'), fun a h => (b5 a h).trans (a5 a h)⟩
section STATE
variable {M M' : m_M} {l : Ld}
theorem SC.hi (h : SC M M') : hiK M M' := by
  obtain ⟨a1, a2, a3, a4, a5⟩ := h
  refine ⟨by unfold m_N; rw [a1]; exact Nat.le_refl _, fun a ha _ => ⟨by unfold m_T; rw [a1], a3 a (by unfold scI; omega) (by omega), a5 a (by unfold scL; omega), by rw [a2]⟩⟩
theorem SC.K (h : SC M M') (a : Nat) : m_K M' a = m_K M a ∧ m_len M' a = m_len M a := by
  have e := h.1
  unfold m_K m_len m_N m_T
  rw [e]
  exact ⟨rfl, rfl⟩
theorem SC.gG (h : SC M M') (hG : G M) : G M' := by
  obtain ⟨a1, a2, a3, a4, a5⟩ := h
  unfold G m_N m_T
  rw [a1, a2]
  exact hG
theorem SC.TlC {t : Tl} {b : Nat} (h : SC M M') (hb : 80 ≤ b ∧ b ≤ 120) (ht : TlC l t b M) : TlC l t b M' := ht.hi h.hi (h.2.2.1 b (by unfold scI; omega) (by omega)) (by rw [h.2.1]) (by rw [h.2.1])
theorem SC.BkC {b : Bk} {base : Nat} (h : SC M M') (hb : 80 ≤ base ∧ base ≤ 120) (ht : BkC l b base M) : BkC l b base M' := by
  obtain ⟨h1, h2, ⟨fr, h3, h4, h5⟩, h6, h7⟩ := ht
  have e1 := h.2.2.1 base (by unfold scI; omega) (by omega)
  have e2 := h.2.2.1 (base + 4) (by unfold scI; omega) (by omega)
  refine ⟨by rw [e1]; exact h1, h.TlC hb h2, ⟨fr, by rw [h.2.1]; exact h3, fun q => ?_, fun f hf => (h5 f hf).hi h.hi⟩, by rw [e1]; exact h6, by rw [e2]; exact h7⟩
  rw [(h.K fr).1, (h.K fr).2]
  exact h4 q
theorem SC.tTlM {t : Tl} {r : Nat} (h : SC M M') (ht : TlM l t r (m_I M) (m_L M)) : TlM l t r (m_I M') (m_L M') := by
  obtain ⟨a1, a2, a3, a4, a5⟩ := h
  unfold TlM at ht ⊢
  rw [a3 161 (by unfold scI; omega) (by omega), a3 157 (by unfold scI; omega) (by omega), a3 160 (by unfold scI; omega) (by omega), a5 156 (by unfold scL; omega), a5 158 (by unfold scL; omega), a5 159 (by unfold scL; omega)]
  exact ht
theorem SC.bBkM {b : Bk} {r : Nat} (h : SC M M') (ht : BkM l b r (m_I M) (m_L M)) : BkM l b r (m_I M') (m_L M') := by
  obtain ⟨h1, h2, h3⟩ := ht
  refine ⟨h.tTlM h1, ?_, ?_⟩
  · rw [h.2.2.1 163 (by unfold scI; omega) (by omega), h.2.2.2.2 162 (by unfold scL; omega)]
    exact h2
  · rw [h.2.2.1 167 (by unfold scI; omega) (by omega), h.2.2.1 164 (by unfold scI; omega) (by omega), h.2.2.1 165 (by unfold scI; omega) (by omega), h.2.2.1 166 (by unfold scI; omega) (by omega)]
    exact h3
theorem SC.dRel0 {t t' : Tl} {d q : Int32} {r : Option Nat} (h : SC M M') (ht : dRel0 l t t' d q r M) : dRel0 l t t' d q r M' := by
  rcases ht with ht | ⟨h1, h2, h3, p, h4, h5, h6, h7, x, h8, h9⟩ | ht
  · exact .inl ht
  · exact .inr (.inl ⟨h1, h2, h3, p, h4, h5, h6, h7, x, h8, h9.hi h.hi⟩)
  · exact .inr (.inr ht)
theorem SC.dRel {t t' : Tl} {d q : Int32} {r : Option Nat} (h : SC M M') (ht : dRel l t t' d q r M) : dRel l t t' d q r M' := ⟨ht.1, h.dRel0 ht.2⟩
theorem SC.INV {s : St} (h : SC M M') (hi : INV s M) : INV s M' := by
  obtain ⟨hG, ho, ⟨c1, c2, c3⟩, ⟨m1, m2⟩, ⟨t1, t2, t3, t4⟩, ⟨b1, b2, b3, b4⟩, ⟨⟨u1, u2, u3⟩, u4, u5⟩, hm⟩ := hi
  have a3 := h.2.2.1
  have a4 := h.2.2.2.1
  have a5 := h.2.2.2.2
  refine ⟨h.gG hG, ho, ⟨c1.cong (fun a _ _ => a3 a (by unfold scI; omega) (by omega)), ?_, ?_⟩, ⟨m1.cong (fun a _ _ => a3 a (by unfold scI; omega) (by omega)) (a4 42 (by omega) (by omega)) (a4 43 (by omega) (by omega)), ?_⟩, ⟨t1, ?_, ?_, ?_⟩, ⟨h.BkC (by omega) b1, h.bBkM b2, b3, ?_⟩, ⟨⟨u1, ?_, ?_⟩, ?_, ?_⟩, ?_⟩
  · rw [a5 13 (by unfold scL; omega)]; exact c2
  · unfold NmC; rw [a5 7 (by unfold scL; omega)]; exact c3
  · unfold NmM; rw [a5 131 (by unfold scL; omega), a5 132 (by unfold scL; omega)]; exact m2
  · rw [a3 0 (by unfold scI; omega) (by omega)]; exact t2
  · rw [a4 1 (by omega) (by omega)]; exact t3
  · rw [a3 1 (by unfold scI; omega) (by omega), a3 129 (by unfold scI; omega) (by omega)]; exact t4
  · rw [a4 53 (by omega) (by omega)]; exact b4
  · rw [a3 80 (by unfold scI; omega) (by omega)]; exact u2
  · rw [a3 85 (by unfold scI; omega) (by omega), a3 86 (by unfold scI; omega) (by omega), h.2.1]
    exact fun j hj => h.dRel (u3 j hj)
  · rw [a4 52 (by omega) (by omega)]; exact u4
  · exact fun j hj => ⟨h.tTlM (u5 j hj).1, (u5 j hj).2⟩
  · intro i hi
    obtain ⟨x1, x2, x3⟩ := hm i hi
    refine ⟨by rw [a3 89 (by unfold scI; omega) (by omega)]; exact x1, by rw [a3 169 (by unfold scI; omega) (by omega)]; exact x2, fun b hb => ?_⟩
    obtain ⟨y1, y2, y3, y4⟩ := x3 b hb
    exact ⟨h.BkC (by omega) y1, h.bBkM y2, y3, by rw [a3 168 (by unfold scI; omega) (by omega)]; exact y4⟩
end STATE
