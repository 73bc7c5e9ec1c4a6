/-! a land told: both sides -/
section RLAND2
variable {M M' : m_M} {s : St} {T : Nat → Nat} {n q : Nat} {l : Ld} {bt : Bool × Bool} {D : Nat}
theorem dmF.mi (h : dmF M M') (ho : lOk s.2.1) (hm : MI s M) : MI s M' := by
  obtain ⟨a1, a2, a3, a4, a5, ⟨a6, a7, a8, a9, a10⟩, a11, a12, a13, a14, a15⟩ := h
  have hI : ∀ a, 142 < a → m_I M' a = m_I M a := fun a ha => a3 a (by omega) (by omega) (.inr ha)
  have hL : ∀ a, 134 < a → m_L M' a = m_L M a := fun a ha => a11 a (by omega) (.inr ha)
  have h8 : ∀ k, 37 < k → m_I M' 128 k = m_I M 128 k := fun k hk => a4 k (by omega)
  have tm : ∀ (t : Tl) (r : Nat), TlM s.2.1 t r (m_I M) (m_L M) → TlM s.2.1 t r (m_I M') (m_L M') := fun t r ht => ht.congr (hI 161 (by omega)) (hI 157 (by omega)) (hI 160 (by omega)) (hL 156 (by omega)) (hL 158 (by omega)) (hL 159 (by omega))
  have bm : ∀ (b : Bk) (r : Nat), BkM s.2.1 b r (m_I M) (m_L M) → BkM s.2.1 b r (m_I M') (m_L M') := by
    intro b r hb
    obtain ⟨b1, b2, b3⟩ := hb
    refine ⟨tm _ _ b1, ?_, ?_⟩
    · rw [hI 163 (by omega), hL 162 (by omega)]; exact b2
    · rw [hI 167 (by omega), hI 164 (by omega), hI 165 (by omega), hI 166 (by omega)]; exact b3
  have o1 := ho.2.1
  have o2 := ho.2.2.1
  have o3 := ho.2.2.2.1
  have o4 := ho.2.2.2.2.1
  have o5 := ho.2.2.2.2.2.1
  obtain ⟨⟨⟨l1, l2, l3, l4, l5, l6, l7⟩, n1, n2⟩, ⟨m2, m3⟩, ⟨m4, m5⟩, ⟨m6, m7⟩, m8⟩ := hm
  refine ⟨⟨⟨fun k hk => by rw [a5 k (by omega)]; exact l1 k hk, fun t ht => by rw [a6 t (by omega)]; exact l2 t ht, fun d hd => by rw [a7 d (by omega)]; exact l3 d hd, fun k hk => by rw [a8 k (by omega)]; exact l4 k hk, fun line hl => ?_, by rw [h8 42 (by omega)]; exact l6, by rw [h8 43 (by omega)]; exact l7⟩, fun t ht => by rw [a13 t (by omega)]; exact n1 t ht, fun j hj => by rw [a14 j (by omega)]; exact n2 j hj⟩, ⟨by rw [a4 1 (by omega)]; exact m2, by rw [a3 129 (by omega) (by omega) (by omega)]; exact m3⟩, ⟨bm _ _ m4, by rw [h8 53 (by omega)]; exact m5⟩, ⟨by rw [h8 52 (by omega)]; exact m6, fun j hj => tm _ _ (m7 j hj)⟩, fun i hi => ⟨by rw [hI 169 (by omega)]; exact (m8 i hi).1, fun b hb => ⟨bm _ _ ((m8 i hi).2 b hb).1, by rw [hI 168 (by omega)]; exact ((m8 i hi).2 b hb).2⟩⟩⟩
  obtain ⟨c, a, e, b1, b2, b3, b4, b5, b6⟩ := l5 line hl
  have hl9 : line < 9 := by rcases hl with h | h <;> omega
  exact ⟨c, a, e, b1, b2, by rw [(a9 line hl9).1]; exact b3, by rw [(a9 line hl9).2]; exact b4, fun j h1 h2 => by rw [a10 j (by omega)]; exact b5 j h1 h2, b6⟩
theorem dmF.frM (h : dmF M M') (hG : G M) : frM M M' := ⟨h.g hG, h.1, h.2.1, fun a ha => ⟨h.2.2.1 a (by omega) (by omega) (by omega), h.2.2.2.2.2.2.1 a (by omega) (by omega)⟩⟩
theorem M_land (hG : G M) (hp : PI s) (hm : MI s M) {o : Nat ⊕ Ld} (ho : okE o) (hr : ∀ M, G M → TX s.1.2 s.1.1 (m_I M 129) → m_I M 128 1 = nI s.1.1 → ∃ v M', F_X12_readsAll 128 M = some (v, M') ∧ dmF (m_sI M 128 1 (nI 0)) M' ∧ MEnd s.1.2 s.1.1 o v M') : ∃ M', F_X12_land 128 M = some (ldO o, M') ∧ MI (ldT s o) M' ∧ frM M M' := by
  have hn : s.1.1 ≤ 1000 := hp.2.1.1
  have K128 : ∀ {M : m_M}, G M → m_K M 128 = 10 := fun hG => by simp only [gK hG]
  have hG0 : G (m_sI M 128 0 (nI 0)) := hG
  have hm0 : MI s (m_sI M 128 0 (nI 0)) := hm.o8 (by omega) (by omega) (by omega) (by omega) (by omega)
  have hx : TX s.1.2 s.1.1 (m_I (m_sI M 128 0 (nI 0)) 129) := fun j hj => ⟨by rw [sI_ne (by omega)]; exact hm.2.1.2 j hj, hp.2.1.2 j hj⟩
  obtain ⟨v, M2, a1, a2, a3⟩ := hr _ hG0 hx hm0.2.1.1
  have hG1 : G (m_sI (m_sI M 128 0 (nI 0)) 128 1 (nI 0)) := hG
  have hG2 : G M2 := a2.g hG1
  have f1 : frM M (m_sI (m_sI M 128 0 (nI 0)) 128 1 (nI 0)) := ⟨hG, rfl, rfl, fun a ha => ⟨by rw [sI_ne (by omega), sI_ne (by omega)], rfl⟩⟩
  have f2 : frM M M2 := f1.trans (a2.frM hG1)
  unfold F_X12_land
  rw [x_pI_ok (K128 hG), show (0 : Int32) = nI 0 from rfl, x_cV_ok (show m_K (m_sI M 128 0 (nI 0)) 128 = 10 from K128 hG) a1]
  cases o with
  | inl f =>
    obtain ⟨hv, h9⟩ := a3
    refine ⟨M2, ?_, a2.mi hp.1 hm0.tk, f2⟩
    rw [hv, if_pos rfl, x_gI_ok (K128 hG2), h9]
    rfl
  | inr l =>
    obtain ⟨hv, q', bt, hq, ⟨hok, hz⟩, c, hc, _, hX, _, e21, ⟨d1, d2, d3, d4, ⟨d5, d6, d7, d8⟩, d9⟩, _, _⟩ := a3
    have o1 := hok.2.1
    have o2 := hok.2.2.1
    have o3 := hok.2.2.2.1
    have o4 := hok.2.2.2.2.1
    have o5 := hok.2.2.2.2.2.1
    obtain ⟨A1, B1, e1, ⟨g1, g2, g3, g4, g5, g6⟩, g7, ⟨g8, g9⟩, g10⟩ := S_mlays (A := m_I M2) (B := m_L M2) hG2
    rw [w2_0] at e1
    have Kx : ∀ A B, m_K (m_w2 M2 A B) 128 = 10 := fun A B => by simp only [w2_K, gK hG2]
    have R51 : ∀ A B, m_R (m_w2 M2 A B) 128 51 = some 161 := fun A B => by simp only [w2_R, gR hG2]
    have R55 : ∀ A B, m_R (m_w2 M2 A B) 128 55 = some 163 := fun A B => by simp only [w2_R, gR hG2]
    have R59 : ∀ A B, m_R (m_w2 M2 A B) 128 59 = some 167 := fun A B => by simp only [w2_R, gR hG2]
    have K161 : ∀ A B, m_K (m_w2 M2 A B) 161 = 12 := fun A B => by simp only [w2_K, gK hG2]
    have L161 : ∀ A B, m_len (m_w2 M2 A B) 161 = 34 := fun A B => by simp only [w2_n, gl hG2]
    have K163 : ∀ A B, m_K (m_w2 M2 A B) 163 = 14 := fun A B => by simp only [w2_K, gK hG2]
    have L163 : ∀ A B, m_len (m_w2 M2 A B) 163 = 5 := fun A B => by simp only [w2_n, gl hG2]
    have K167 : ∀ A B, m_K (m_w2 M2 A B) 167 = 12 := fun A B => by simp only [w2_K, gK hG2]
    have L167 : ∀ A B, m_len (m_w2 M2 A B) 167 = 5 := fun A B => by simp only [w2_n, gl hG2]
    have e2 := S_measures (M := M2) (A := A1) (B := B1) (l := l) hG2 (by rw [g1 0 (by omega)]; exact d1 0 (by omega)) (by rw [g1 1 (by omega)]; exact d1 1 (by omega)) hok
    obtain ⟨A2, hA2⟩ : ∃ A2, A2 = m_up (m_up (m_up (m_up (m_up (m_up (m_up (m_up A1 128 42 (nI (wN l))) 128 43 (nI ((wN l + 63) / 64))) 161 0 (nI 0)) 161 1 (nI 0)) 128 52 (nI 0)) 128 53 (nI 0)) 163 0 (bI false)) 167 0 (nI 0) := ⟨_, rfl⟩
    have fA2 : ∀ b, b ≠ 128 → b ≠ 161 → b ≠ 163 → b ≠ 167 → A2 b = A1 b := fun b x y z w => by rw [hA2, up_fr w, up_fr z, up_fr x, up_fr x, up_fr y, up_fr y, up_fr x, up_fr x]
    have e128 : ∀ k, k ≠ 42 → k ≠ 43 → k ≠ 52 → k ≠ 53 → A2 128 k = m_I M2 128 k := fun k x y z w => by
      rw [hA2, up_fr (by omega), up_fr (by omega), up_at, if_neg (fun u => w u.2), up_at, if_neg (fun u => z u.2), up_fr (by omega), up_fr (by omega), up_at, if_neg (fun u => y u.2), up_at, if_neg (fun u => x u.2), g7 128 (by omega)]
    obtain ⟨A3, u1, u2, u3⟩ := M_laid (M := M2) (B := B1) hG2 4 0 m_FU A2 (by omega) (m_FU_lt (by omega)) (fun j hj => absurd hj (Nat.not_lt_zero _))
    have k3 : ∀ b, 129 < b → b < 143 → A3 b = A1 b := fun b x y => by rw [u2 b (by omega), fA2 b (by omega) (by omega) (by omega) (by omega)]
    have e3 : A3 128 = A2 128 := u2 128 (by omega)
    refine ⟨m_w2 M2 A3 B1, ?_, ?_, ?_⟩
    · rw [hv, if_neg (by decide), x_cV_ok (K128 hG2) e1, x_cV_ok (Kx _ _) e2, x_gN_ok (Kx _ _) (R51 _ _), x_sI_ok (K161 _ _) (by rw [L161]; omega) (by omega), w2_sI, x_gN_ok (Kx _ _) (R51 _ _), show (1 : Int32) = nI 1 from rfl, x_sI_ok (K161 _ _) (by rw [L161]; omega) (by omega), w2_sI, x_pI_ok (Kx _ _), w2_sI, x_pI_ok (Kx _ _), w2_sI, x_gN_ok (Kx _ _) (R55 _ _), x_sI_ok (K163 _ _) (by rw [L163]; omega) (by omega), show vp_nar .boolean (nI 0) = bI false from nar0, w2_sI, x_gN_ok (Kx _ _) (R59 _ _), x_sI_ok (K167 _ _) (by rw [L167]; omega) (by omega), w2_sI, ← hA2]
      exact u1
    · show MI (stLd s l) _
      refine ⟨⟨⟨fun k hk => ?_, fun t ht => ?_, fun d hd => ?_, fun k hk => ?_, fun line hl => ?_, ?_, ?_⟩, fun t ht => ?_, fun j hj => ?_⟩, ⟨?_, fun i hi => absurd hi (Nat.not_lt_zero _)⟩, ⟨⟨⟨⟨Nat.zero_le _, Nat.zero_le _⟩, ⟨?_, ?_⟩, fun i hi => absurd hi (Nat.not_lt_zero _), fun i hi => absurd hi (Nat.not_lt_zero _)⟩, ⟨?_, fun f hf => (by cases hf)⟩, ?_, fun i hi => absurd hi (Nat.not_lt_zero _)⟩, ?_⟩, ⟨?_, fun j hj => absurd hj (Nat.not_lt_zero _)⟩, fun i hi => ⟨u3 i hi, fun b hb => (by cases hb)⟩⟩
      · show A3 130 k = _
        rw [k3 130 (by omega) (by omega), g1 k (by omega)]; exact d1 k hk
      · have ht : t < lH l 1 := ht
        show A3 135 t = _
        rw [k3 135 (by omega) (by omega), g2 t (by omega)]; exact d2 t ht
      · have hd : d < lH l 5 := hd
        show A3 136 d = _
        rw [k3 136 (by omega) (by omega), g3 d (by omega)]; exact d3 d hd
      · have hk : k < 6 * lH l 4 := hk
        show A3 137 k = _ ∨ (A3 137 k = _ ∧ _)
        rw [k3 137 (by omega) (by omega), g4 k (by omega)]; exact d4 k hk
      · have hl : lnOk l line := hl
        have hl9 : line < 9 := by rcases hl with h | h <;> omega
        refine MLn_of (A' := A3) (d9 line hl) (by omega) ?_ ?_ (fun j hj => ?_)
        · rw [k3 138 (by omega) (by omega)]; exact (g6 line hl9).1
        · rw [k3 139 (by omega) (by omega)]; exact (g6 line hl9).2
        · rw [k3 140 (by omega) (by omega)]; exact g5 j hj
      · show A3 128 42 = nI (wN l)
        rw [e3, hA2, up_fr (by omega), up_fr (by omega), up_at, if_neg (by omega), up_at, if_neg (by omega), up_fr (by omega), up_fr (by omega), up_at, if_neg (by omega), up_at, if_pos ⟨rfl, rfl⟩]
      · show A3 128 43 = nI ((wN l + 63) / 64)
        rw [e3, hA2, up_fr (by omega), up_fr (by omega), up_at, if_neg (by omega), up_at, if_neg (by omega), up_fr (by omega), up_fr (by omega), up_at, if_pos ⟨rfl, rfl⟩]
      · have ht : t < lH l 1 := ht
        show B1 131 t = _
        rw [g8 t (by omega)]; exact d5 t ht
      · have hj : j < lH l 2 := hj
        show B1 132 j = _
        rw [g9 j (by omega)]; exact d6 j hj
      · show A3 128 1 = nI 0
        rw [e3, e128 1 (by omega) (by omega) (by omega) (by omega), a2.2.2.2.1 1 (by omega), mI_sI, if_pos ⟨rfl, rfl⟩]
      · show A3 161 (2 * 0) = nI 0
        rw [u2 161 (by omega), hA2, up_fr (by omega), up_fr (by omega), up_fr (by omega), up_fr (by omega), up_at, if_neg (by omega), up_at, if_pos ⟨rfl, rfl⟩]
      · show A3 161 (2 * 0 + 1) = nI 0
        rw [u2 161 (by omega), hA2, up_fr (by omega), up_fr (by omega), up_fr (by omega), up_fr (by omega), up_at, if_pos ⟨rfl, rfl⟩]
      · show A3 163 0 = bI false
        rw [u2 163 (by omega), hA2, up_fr (by omega), up_at, if_pos ⟨rfl, rfl⟩]
      · show A3 167 0 = nI 0
        rw [u2 167 (by omega), hA2, up_at, if_pos ⟨rfl, rfl⟩]
      · show A3 128 53 = nI 0
        rw [e3, hA2, up_fr (by omega), up_fr (by omega), up_at, if_pos ⟨rfl, rfl⟩]
      · show A3 128 52 = nI 0
        rw [e3, hA2, up_fr (by omega), up_fr (by omega), up_at, if_neg (by omega), up_at, if_pos ⟨rfl, rfl⟩]
    · refine f2.trans ⟨hG2, rfl, rfl, fun a ha => ⟨?_, ?_⟩⟩
      · show A3 a = m_I M2 a
        rw [u2 a (by omega), fA2 a (by omega) (by omega) (by omega) (by omega), g7 a (by omega)]
      · exact g10 a (by omega)
theorem R_land (hd : dB D s) : RUN D s (F_X11_land 0) (F_X12_land 128) := by
  intro M h hk hN
  obtain ⟨hG, hp, hc, hm⟩ := h.split
  have hn : s.1.1 ≤ 1000 := hp.2.1.1
  obtain ⟨o, o1, o2, o3⟩ := J_read hn s.1.2
  refine WO.run (s := s) ⟨ldO o, ldT s o, ?_, ?_, fun M hG hp hc hk hN => C_land hG hp hc hk o1 o2, fun M hG hp hm => M_land hG hp hm o1 o3⟩ M h hk hN
  · cases o with
    | inl f => exact PI_tk hp
    | inr l =>
      obtain ⟨v, M', e, f, g⟩ := o2 (m_sI M 0 1 (nI 0)) hG (fun j hj => ⟨by rw [sI_ne (by omega)]; exact hc.2.1.2 j hj, hp.2.1.2 j hj⟩)
      obtain ⟨hv, q', bt, hD⟩ := g
      exact PI_ld hD.2.1
  · cases o with
    | inl f => exact dB_tk hd
    | inr l => exact dB_ld
end RLAND2
