/-! undo, the model's side -/
def stUn (s : St) : St := (s.1, s.2.1, (s.2.2.1.1, s.2.2.2.1.2 (s.2.2.2.1.1 - 1), s.2.2.1.2.2), (s.2.2.2.1.1 - 1, s.2.2.2.1.2), s.2.2.2.2)
section MUNDO
variable {M : m_M} {s : St} {D : Nat}
theorem frM_w2 {A : IA} {B : Nat → Nat → Int64} (hG : G M) (h : ∀ a, (a < 128 ∨ 178 ≤ a) → A a = m_I M a ∧ B a = m_L M a) : frM M (m_w2 M A B) := ⟨hG, rfl, rfl, h⟩
theorem BkM.mvo {l : Ld} {b : Bk} {r q p : Nat} {A : IA} {B : Nat → Nat → Int64} (h : BkM l b p A B) (hp : p ≠ q) : BkM l b p (tA A r q) (tB B r q) := by
  obtain ⟨b1, b2, b3⟩ := h
  refine ⟨b1.mvo hp, ?_, ?_⟩
  · rw [tA_fr (by omega) (by omega) (by omega), tB_fr (by omega) (by omega) (by omega)]; exact b2
  · rw [tA_fr (by omega) (by omega) (by omega), tA_fr (by omega) (by omega) (by omega), tA_fr (by omega) (by omega) (by omega), tA_fr (by omega) (by omega) (by omega)]; exact b3
theorem PI_undo (hp : PI s) (h0 : 0 < s.2.2.2.1.1) : PI (stUn s) := by
  obtain ⟨p1, p2, ⟨p3, p4, p5⟩, p6, p7⟩ := hp
  exact ⟨p1, p2, ⟨p3, p6 _ (by omega), p5⟩, fun j hj => p6 j (Nat.lt_of_lt_of_le hj (Nat.sub_le _ _)), p7⟩
theorem M_undo (hG : G M) (hm : MI s M) (h0 : 0 < s.2.2.2.1.1) (hu : s.2.2.2.1.1 ≤ 12) : ∃ M', F_X12_undo 128 M = some (nI 1, M') ∧ MI (stUn s) M' ∧ frM M M' := by
  obtain ⟨⟨m0, m1⟩, ⟨m2, m3⟩, ⟨⟨m4, m4', m4''⟩, m5⟩, ⟨m6, m7⟩, m8⟩ := hm
  have f : ∀ a, a ≠ 128 → m_I (m_sI (m_sI M 128 0 (nI 0)) 128 52 (nI (s.2.2.2.1.1 - 1))) a = m_I M a := fun a ha => by rw [sI_ne ha, sI_ne ha]
  have g : ∀ j, j ≠ 0 → j ≠ 52 → m_I (m_sI (m_sI M 128 0 (nI 0)) 128 52 (nI (s.2.2.2.1.1 - 1))) 128 j = m_I M 128 j := fun j h0 h4 => by rw [mI_sI, if_neg (by omega), mI_sI, if_neg (by omega)]
  have g52 : m_I (m_sI (m_sI M 128 0 (nI 0)) 128 52 (nI (s.2.2.2.1.1 - 1))) 128 52 = nI (s.2.2.2.1.1 - 1) := by rw [mI_sI, if_pos ⟨rfl, rfl⟩]
  have K1 : m_K (m_sI M 128 0 (nI 0)) 128 = 10 := by simp only [mK_sI, gK hG]
  have K2 : m_K (m_sI (m_sI M 128 0 (nI 0)) 128 52 (nI (s.2.2.2.1.1 - 1))) 128 = 10 := by simp only [mK_sI, gK hG]
  have e1 : m_I (m_sI M 128 0 (nI 0)) 128 52 = nI s.2.2.2.1.1 := by rw [mI_sI, if_neg (by omega)]; exact m6
  have hG2 : G (m_sI (m_sI M 128 0 (nI 0)) 128 52 (nI (s.2.2.2.1.1 - 1))) := hG
  have key := S_laysTold (M := m_sI (m_sI M 128 0 (nI 0)) 128 52 (nI (s.2.2.2.1.1 - 1))) (A := m_I (m_sI (m_sI M 128 0 (nI 0)) 128 52 (nI (s.2.2.2.1.1 - 1)))) (B := m_L M) hG2 (r := 5 + (s.2.2.2.1.1 - 1)) (q := 0) (by omega) (by omega) (by omega)
  have key2 : F_X12_laysTold 128 (nI (5 + (s.2.2.2.1.1 - 1))) (nI 0) (m_sI (m_sI M 128 0 (nI 0)) 128 52 (nI (s.2.2.2.1.1 - 1))) = _ := key
  have bm : ∀ (b : Bk) (r : Nat), r ≠ 0 → BkM s.2.1 b r (m_I M) (m_L M) → BkM s.2.1 b r (tA (m_I (m_sI (m_sI M 128 0 (nI 0)) 128 52 (nI (s.2.2.2.1.1 - 1)))) (5 + (s.2.2.2.1.1 - 1)) 0) (tB (m_L M) (5 + (s.2.2.2.1.1 - 1)) 0) := by
    intro b r hr hb
    refine BkM.mvo ?_ hr
    obtain ⟨b1, b2, b3⟩ := hb
    refine ⟨b1.congr (f _ (by omega)) (f _ (by omega)) (f _ (by omega)) rfl rfl rfl, ?_, ?_⟩
    · rw [f 163 (by omega)]; exact b2
    · rw [f 167 (by omega), f 164 (by omega), f 165 (by omega), f 166 (by omega)]; exact b3
  have tm : ∀ (t : Tl) (r : Nat), TlM s.2.1 t r (m_I M) (m_L M) → TlM s.2.1 t r (m_I (m_sI (m_sI M 128 0 (nI 0)) 128 52 (nI (s.2.2.2.1.1 - 1)))) (m_L M) := fun t r ht => ht.congr (f _ (by omega)) (f _ (by omega)) (f _ (by omega)) rfl rfl rfl
  have a1 : ∀ a, a ≠ 128 → a ≠ 157 → a ≠ 160 → a ≠ 161 → tA (m_I (m_sI (m_sI M 128 0 (nI 0)) 128 52 (nI (s.2.2.2.1.1 - 1)))) (5 + (s.2.2.2.1.1 - 1)) 0 a = m_I M a := fun a h1 h2 h3 h4 => by rw [tA_fr h2 h3 h4, f a h1]
  have a2 : tA (m_I (m_sI (m_sI M 128 0 (nI 0)) 128 52 (nI (s.2.2.2.1.1 - 1)))) (5 + (s.2.2.2.1.1 - 1)) 0 128 = m_I (m_sI (m_sI M 128 0 (nI 0)) 128 52 (nI (s.2.2.2.1.1 - 1))) 128 := tA_fr (by omega) (by omega) (by omega)
  refine ⟨_, ?_, ?_, ((frM_sI hG (by omega)).trans (frM_sI hG (by omega))).trans (frM_w2 (A := tA (m_I (m_sI (m_sI M 128 0 (nI 0)) 128 52 (nI (s.2.2.2.1.1 - 1)))) (5 + (s.2.2.2.1.1 - 1)) 0) (B := tB (m_L M) (5 + (s.2.2.2.1.1 - 1)) 0) hG2 (fun a ha => ⟨tA_fr (by omega) (by omega) (by omega), tB_fr (by omega) (by omega) (by omega)⟩))⟩
  · unfold F_X12_undo
    rw [show (0 : Int32) = nI 0 from rfl, x_pI_ok (by simp only [gK hG]), x_gI_ok K1, e1, if_neg (show ¬ nI s.2.2.2.1.1 = (nI 0) from fun q => by have := (nI_eq (by omega) (by omega)).mp q; omega), x_gI_ok K1, e1, show (1 : Int32) = nI 1 from rfl, nI_sub' (by omega), x_pI_ok K1, x_gI_ok K2, g52, show (5 : Int32) = nI 5 from rfl, nI_add, x_cV_ok K2 key2]
  · refine ⟨⟨m0.cong (fun a h1 h2 => a1 a (by omega) (by omega) (by omega) (by omega)) ?_ ?_, ?_⟩, ⟨?_, ?_⟩, ⟨⟨(tm _ _ (m7 _ (by omega))).mv, ?_, ?_⟩, ?_⟩, ⟨?_, fun j hj => (tm _ _ (m7 j (Nat.lt_of_lt_of_le hj (Nat.sub_le _ _)))).mvo (by omega)⟩, fun i hi => ⟨?_, fun b hb => ⟨bm _ _ (by omega) ((m8 i hi).2 b hb).1, ?_⟩⟩⟩
    · rw [w2_I, a2]; exact g 42 (by omega) (by omega)
    · rw [w2_I, a2]; exact g 43 (by omega) (by omega)
    · unfold NmM
      rw [w2_L, tB_fr (by omega) (by omega) (by omega), tB_fr (by omega) (by omega) (by omega)]; exact m1
    · rw [w2_I, a2, g 1 (by omega) (by omega)]; exact m2
    · rw [w2_I, a1 129 (by omega) (by omega) (by omega) (by omega)]; exact m3
    · rw [w2_I, w2_L, a1 163 (by omega) (by omega) (by omega) (by omega), tB_fr (by omega) (by omega) (by omega)]; exact m4'
    · rw [w2_I, a1 167 (by omega) (by omega) (by omega) (by omega), a1 164 (by omega) (by omega) (by omega) (by omega), a1 165 (by omega) (by omega) (by omega) (by omega), a1 166 (by omega) (by omega) (by omega) (by omega)]; exact m4''
    · rw [w2_I, a2, g 53 (by omega) (by omega)]; exact m5
    · rw [w2_I, a2, g52]; rfl
    · rw [w2_I, a1 169 (by omega) (by omega) (by omega) (by omega)]; exact (m8 i hi).1
    · rw [w2_I, a1 168 (by omega) (by omega) (by omega) (by omega)]; exact ((m8 i hi).2 b hb).2
end MUNDO
