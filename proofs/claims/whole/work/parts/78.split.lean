/-! writing calls: the class's part of the state and the model's -/
def PI (s : St) : Prop := lOk s.2.1 ∧ (s.1.1 ≤ 1000 ∧ ∀ i, i < s.1.1 → (s.1.2 i = 10 ∨ (32 ≤ s.1.2 i ∧ s.1.2 i ≤ 126))) ∧ BkD s.2.1 s.2.2.1 ∧ (∀ j, j < s.2.2.2.1.1 → TlD (s.2.2.2.1.2 j)) ∧ ∀ i, i < 4 → ∀ b, s.2.2.2.2 i = some b → BkD s.2.1 b
def CI (s : St) (M : m_M) : Prop := (LCi s.2.1 (m_I M) ∧ LCs s.2.1 (m_L M 13) ∧ NmC s.2.1 M) ∧ (m_I M 0 1 = nI s.1.1 ∧ ∀ i, i < s.1.1 → m_I M 1 i = nI (s.1.2 i)) ∧ BkC s.2.1 s.2.2.1 80 M ∧ UnC s.2.1 s.2.2.2.1 s.2.2.1.2.1 M
  ∧ ∀ i, i < 4 → m_I M 89 i = bI (s.2.2.2.2 i).isSome ∧ ∀ b, s.2.2.2.2 i = some b → BkC s.2.1 b (96 + 8 * i) M
def MI (s : St) (M : m_M) : Prop := (LMi s.2.1 (m_I M) ∧ NmM s.2.1 M) ∧ (m_I M 128 1 = nI s.1.1 ∧ ∀ i, i < s.1.1 → m_I M 129 i = nI (s.1.2 i)) ∧ (BkM s.2.1 s.2.2.1 0 (m_I M) (m_L M) ∧ m_I M 128 53 = nI s.2.2.1.1) ∧ (m_I M 128 52 = nI s.2.2.2.1.1 ∧ ∀ j, j < s.2.2.2.1.1 → TlM s.2.1 (s.2.2.2.1.2 j) (5 + j) (m_I M) (m_L M))
  ∧ ∀ i, i < 4 → m_I M 169 i = bI (s.2.2.2.2 i).isSome ∧ ∀ b, s.2.2.2.2 i = some b → BkM s.2.1 b (1 + i) (m_I M) (m_L M) ∧ m_I M 168 (1 + i) = nI b.1
section SPLIT
variable {M M' : m_M} {s : St}
theorem INV.split (h : INV s M) : G M ∧ PI s ∧ CI s M ∧ MI s M := by
  obtain ⟨hG, ho, c, m, ⟨t1, t2, t3, t4⟩, ⟨b1, b2, b3, b4⟩, ⟨u1, u2, u3⟩, hm⟩ := h
  refine ⟨hG, ⟨ho, ⟨t1, fun i hi => (t4 i hi).2.2⟩, b3, fun j hj => (u3 j hj).2, fun i hi b hb => ((hm i hi).2.2 b hb).2.2.1⟩, ⟨c, ⟨t2, fun i hi => (t4 i hi).1⟩, b1, u1, fun i hi => ⟨(hm i hi).1, fun b hb => ((hm i hi).2.2 b hb).1⟩⟩, ⟨m, ⟨t3, fun i hi => (t4 i hi).2.1⟩, ⟨b2, b4⟩, ⟨u2, fun j hj => (u3 j hj).1⟩, fun i hi => ⟨(hm i hi).2.1, fun b hb => ⟨((hm i hi).2.2 b hb).2.1, ((hm i hi).2.2 b hb).2.2.2⟩⟩⟩⟩
theorem INV.join (hG : G M) (hp : PI s) (hc : CI s M) (hm : MI s M) : INV s M := by
  obtain ⟨p1, ⟨p2, p3⟩, p4, p5, p6⟩ := hp
  obtain ⟨c1, ⟨c2, c3⟩, c4, c5, c6⟩ := hc
  obtain ⟨m1, ⟨m2, m3⟩, ⟨m4, m5⟩, ⟨m6, m7⟩, m8⟩ := hm
  exact ⟨hG, p1, c1, m1, ⟨p2, c2, m2, fun i hi => ⟨c3 i hi, m3 i hi, p3 i hi⟩⟩, ⟨c4, m4, p4, m5⟩, ⟨c5, m6, fun j hj => ⟨m7 j hj, p5 j hj⟩⟩, fun i hi => ⟨(c6 i hi).1, (m8 i hi).1, fun b hb => ⟨(c6 i hi).2 b hb, ((m8 i hi).2 b hb).1, p6 i hi b hb, ((m8 i hi).2 b hb).2⟩⟩⟩
/-- what a call of the class leaves to the model -/
def frC (M M' : m_M) : Prop := G M' ∧ ∀ a, 128 ≤ a → a < 178 → m_I M' a = m_I M a ∧ m_L M' a = m_L M a
/-- what a call of the model leaves to the class -/
def frM (M M' : m_M) : Prop := G M' ∧ M'.1 = M.1 ∧ m_R M' = m_R M ∧ ∀ a, (a < 128 ∨ 178 ≤ a) → m_I M' a = m_I M a ∧ m_L M' a = m_L M a
theorem TlM.congr {l : Ld} {t : Tl} {r : Nat} {A A' : IA} {B B' : Nat → Nat → Int64} (h : TlM l t r A B) (h1 : A' 161 = A 161) (h2 : A' 157 = A 157) (h3 : A' 160 = A 160) (h4 : B' 156 = B 156) (h5 : B' 158 = B 158) (h6 : B' 159 = B 159) : TlM l t r A' B' := by
  unfold TlM at h ⊢
  rw [h1, h2, h3, h4, h5, h6]
  exact h
theorem frC.MI (h : frC M M') (hm : MI s M) : MI s M' := by
  obtain ⟨hG, hf⟩ := h
  have f : ∀ a, 128 ≤ a → a < 178 → m_I M' a = m_I M a := fun a h1 h2 => (hf a h1 h2).1
  have g : ∀ a, 128 ≤ a → a < 178 → m_L M' a = m_L M a := fun a h1 h2 => (hf a h1 h2).2
  have tm : ∀ (t : Tl) (r : Nat), TlM s.2.1 t r (m_I M) (m_L M) → TlM s.2.1 t r (m_I M') (m_L M') := fun t r ht => ht.congr (f 161 (by omega) (by omega)) (f 157 (by omega) (by omega)) (f 160 (by omega) (by omega)) (g 156 (by omega) (by omega)) (g 158 (by omega) (by omega)) (g 159 (by omega) (by omega))
  have bm : ∀ (b : Bk) (r : Nat), BkM s.2.1 b r (m_I M) (m_L M) → BkM s.2.1 b r (m_I M') (m_L M') := by
    intro b r hb
    obtain ⟨b1, b2, b3⟩ := hb
    refine ⟨tm _ _ b1, ?_, ?_⟩
    · rw [f 163 (by omega) (by omega), g 162 (by omega) (by omega)]; exact b2
    · rw [f 167 (by omega) (by omega), f 164 (by omega) (by omega), f 165 (by omega) (by omega), f 166 (by omega) (by omega)]; exact b3
  obtain ⟨⟨m0, m1⟩, ⟨m2, m3⟩, ⟨m4, m5⟩, ⟨m6, m7⟩, m8⟩ := hm
  refine ⟨⟨m0.cong (fun a h1 h2 => f a (by omega) (by omega)) (by rw [f 128 (by omega) (by omega)]) (by rw [f 128 (by omega) (by omega)]), ?_⟩, ⟨?_, ?_⟩, ⟨bm _ _ m4, ?_⟩, ⟨?_, fun j hj => tm _ _ (m7 j hj)⟩, fun i hi => ⟨?_, fun b hb => ⟨bm _ _ ((m8 i hi).2 b hb).1, ?_⟩⟩⟩
  · unfold NmM; rw [g 131 (by omega) (by omega), g 132 (by omega) (by omega)]; exact m1
  · rw [f 128 (by omega) (by omega)]; exact m2
  · rw [f 129 (by omega) (by omega)]; exact m3
  · rw [f 128 (by omega) (by omega)]; exact m5
  · rw [f 128 (by omega) (by omega)]; exact m6
  · rw [f 169 (by omega) (by omega)]; exact (m8 i hi).1
  · rw [f 168 (by omega) (by omega)]; exact ((m8 i hi).2 b hb).2
theorem frM.hi (h : frM M M') : hiK M M' := by
  obtain ⟨hG, h1, h2, hf⟩ := h
  refine ⟨by unfold m_N; rw [h1]; exact Nat.le_refl _, fun a ha _ => ⟨by unfold m_T; rw [h1], (hf a (.inr ha)).1, (hf a (.inr ha)).2, by rw [h2]⟩⟩
theorem BkC.congr {l : Ld} {b : Bk} {base : Nat} (hb : BkC l b base M) (hh : hiK M M') (hK : ∀ a, m_K M' a = m_K M a ∧ m_len M' a = m_len M a) (h1 : m_I M' base = m_I M base) (h2 : m_R M' base = m_R M base) (h3 : m_R M' (base + 2) = m_R M (base + 2)) (h4 : m_R M' (base + 3) = m_R M (base + 3)) (h5 : m_I M' (base + 4) = m_I M (base + 4)) : BkC l b base M' := by
  obtain ⟨a1, a2, ⟨fr, a3, a4, a5⟩, a6, a7⟩ := hb
  refine ⟨by rw [h1]; exact a1, a2.hi hh h1 h3 h4, ⟨fr, by rw [h2]; exact a3, fun q => ?_, fun f hf => (a5 f hf).hi hh⟩, by rw [h1]; exact a6, by rw [h5]; exact a7⟩
  rw [(hK fr).1, (hK fr).2]
  exact a4 q
theorem dRel0.hi {l : Ld} {t t' : Tl} {d q : Int32} {r : Option Nat} (ht : dRel0 l t t' d q r M) (h : hiK M M') : dRel0 l t t' d q r M' := by
  rcases ht with ht | ⟨h1, h2, h3, p, h4, h5, h6, h7, x, h8, h9⟩ | ht
  · exact .inl ht
  · exact .inr (.inl ⟨h1, h2, h3, p, h4, h5, h6, h7, x, h8, h9.hi h⟩)
  · exact .inr (.inr ht)
theorem dRel.hi {l : Ld} {t t' : Tl} {d q : Int32} {r : Option Nat} (ht : dRel l t t' d q r M) (h : hiK M M') : dRel l t t' d q r M' := ⟨ht.1, ht.2.hi h⟩
theorem frM.CI (h : frM M M') (hc : CI s M) : CI s M' := by
  have hh := h.hi
  obtain ⟨hG, h1, h2, hf⟩ := h
  have hK : ∀ a, m_K M' a = m_K M a ∧ m_len M' a = m_len M a := fun a => by
    unfold m_K m_len m_N m_T
    rw [h1]
    exact ⟨rfl, rfl⟩
  have f : ∀ a, a < 128 → m_I M' a = m_I M a := fun a ha => (hf a (.inl ha)).1
  have g : ∀ a, a < 128 → m_L M' a = m_L M a := fun a ha => (hf a (.inl ha)).2
  have bc : ∀ (b : Bk) (base : Nat), base < 124 → BkC s.2.1 b base M → BkC s.2.1 b base M' := fun b base hb h => h.congr hh hK (f _ (by omega)) (by rw [h2]) (by rw [h2]) (by rw [h2]) (f _ (by omega))
  obtain ⟨⟨c0, c1, c2⟩, ⟨c3, c4⟩, c5, ⟨c6, c7, c8⟩, c9⟩ := hc
  refine ⟨⟨c0.cong (fun a _ ha => f a (by omega)), ?_, ?_⟩, ⟨?_, ?_⟩, bc _ _ (by omega) c5, ⟨c6, ?_, ?_⟩, fun i hi => ⟨?_, fun b hb => bc _ _ (by omega) ((c9 i hi).2 b hb)⟩⟩
  · rw [g 13 (by omega)]; exact c1
  · unfold NmC; rw [g 7 (by omega)]; exact c2
  · rw [f 0 (by omega)]; exact c3
  · rw [f 1 (by omega)]; exact c4
  · rw [f 80 (by omega)]; exact c7
  · rw [f 85 (by omega), f 86 (by omega), h2]
    exact fun j hj => (c8 j hj).hi hh
  · rw [f 89 (by omega)]; exact (c9 i hi).1
/-- every element of an array of sayings is none or a saying -/
def RefK (M : m_M) : Prop := ∀ a, a < 178 → m_K M a = 16 → ∀ i x, m_R M a i = some x → 178 ≤ x ∧ m_K M x = 6
theorem RefK.same (h : RefK M) (hR : m_R M' = m_R M) (hT : M'.1 = M.1) : RefK M' := by
  have hK : ∀ a, m_K M' a = m_K M a := fun a => by unfold m_K m_N m_T; rw [hT]
  intro a ha hk i x hx
  rw [hK] at hk
  rw [hR] at hx
  rw [hK]
  exact h a ha hk i x hx
/-- no day of a book is behind D -/
def dB (D : Nat) (s : St) : Prop := s.2.2.1.1 ≤ D ∧ ∀ i, i < 4 → ∀ b, s.2.2.2.2 i = some b → b.1 ≤ D
/-- a call that changes the state: one answer, one next state -/
def WO (D : Nat) (s : St) (fc fm : m_M → Option (Int32 × m_M)) : Prop := ∃ v s', PI s' ∧ dB (D + 1000) s' ∧ (∀ M, G M → PI s → CI s M → RefK M → m_N M < 999000 → ∃ M', fc M = some (v, M') ∧ CI s' M' ∧ frC M M' ∧ m_N M' ≤ m_N M + 8 ∧ RefK M') ∧ ∀ M, G M → PI s → MI s M → ∃ M', fm M = some (v, M') ∧ MI s' M' ∧ frM M M'
/-- what the law asks of a call -/
def RUN (D : Nat) (s : St) (fc fm : m_M → Option (Int32 × m_M)) : Prop := ∀ M, INV s M → RefK M → m_N M < 999000 → ∃ v s' M' M'', fc M = some (v, M') ∧ G M' ∧ fm M' = some (v, M'') ∧ INV s' M'' ∧ m_N M'' ≤ m_N M + 8 ∧ dB (D + 1000) s' ∧ RefK M''
theorem WO.run {D : Nat} {fc fm : m_M → Option (Int32 × m_M)} (hw : WO D s fc fm) : RUN D s fc fm := by
  intro M h hk hN
  obtain ⟨v, s', p, db, c, m⟩ := hw
  obtain ⟨hG, hp, hc, hm⟩ := h.split
  obtain ⟨M', e, c', f, n, hk'⟩ := c M hG hp hc hk hN
  obtain ⟨M'', e2, m', f2⟩ := m M' f.1 hp (f.MI hm)
  refine ⟨v, s', M', M'', e, f.1, e2, INV.join f2.1 p (f2.CI c') m', ?_, db, hk'.same f2.2.2.1 f2.2.1⟩
  have : m_N M'' = m_N M' := by unfold m_N; rw [f2.2.1]
  omega
theorem RO.run {D : Nat} {fc fm : m_M → Option (Int32 × m_M)} (hr : RO s fc fm) (hd : dB D s) : RUN D s fc fm := by
  intro M h hk hN
  obtain ⟨v, hv⟩ := hr
  obtain ⟨⟨M', e, sc⟩, _⟩ := hv M h
  have h1 := sc.INV h
  obtain ⟨_, ⟨M'', e2, sc2⟩⟩ := hv M' h1
  refine ⟨v, s, M', M'', e, h1.1, e2, sc2.INV h1, ?_, ⟨by have := hd.1; omega, fun i hi b hb => by have := hd.2 i hi b hb; omega⟩, hk.same (by rw [sc2.2.1, sc.2.1]) (by rw [sc2.1, sc.1])⟩
  have : m_N M'' = m_N M := by unfold m_N; rw [sc2.1, sc.1]
  omega
end SPLIT
