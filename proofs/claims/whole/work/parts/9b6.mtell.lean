/-! say, order: the model's side -/
section MTELL
variable {M M' : m_M} {s : St} {D : Nat}
theorem TlM.adt {l : Ld} {t : Tl} {y : Sy} {A A' : IA} {B B' : Nat → Nat → Int64} (h : TlM l t 0 A B) (h12 : t.1.1 < 12) (h161 : A' 161 0 = nI (t.1.1 + 1) ∧ A' 161 1 = A 161 1) (h157 : A' 157 t.1.1 = nI y.2.1 ∧ ∀ j, j < t.1.1 → A' 157 j = A 157 j) (h160 : A' 160 = A 160) (h156 : (∀ j, j < 16 * t.1.1 → B' 156 j = B 156 j) ∧ Rw (wN l) (bdS l y) (fun k => B' 156 (16 * t.1.1 + k))) (h158 : B' 158 = B 158) (h159 : B' 159 = B 159) : TlM l (adT t y) 0 A' B' := by
  obtain ⟨⟨h1, h2⟩, ⟨h3, h4⟩, h5, h6⟩ := h
  refine ⟨⟨by show t.1.1 + 1 ≤ 12; omega, h2⟩, ⟨h161.1, h161.2.trans h4⟩, fun i hi => ?_, ?_⟩
  · have hi' : i < t.1.1 + 1 := hi
    show _ = nI (if i = t.1.1 then y else t.1.2 i).2.1 ∧ Rw (wN l) (bdS l (if i = t.1.1 then y else t.1.2 i)) _
    by_cases q : i = t.1.1
    · rw [if_pos q, show 12 * 0 + i = t.1.1 by omega]
      refine ⟨h157.1, h156.2.of (fun k hk => ?_)⟩
      rw [show 192 * 0 + 16 * i + k = 16 * t.1.1 + k by omega]
    · rw [if_neg q, h157.2 _ (by omega)]
      exact ⟨(h5 i (by omega)).1, (h5 i (by omega)).2.of (fun k hk => h156.1 _ (by omega))⟩
  · rw [h160, h158, h159]
    exact h6
theorem TlM.ado {l : Ld} {t : Tl} {y : Sy} {A A' : IA} {B B' : Nat → Nat → Int64} (h : TlM l t 0 A B) (h4' : t.2.1 < 4) (h161 : A' 161 1 = nI (t.2.1 + 1) ∧ A' 161 0 = A 161 0) (h157 : A' 157 = A 157) (h160 : A' 160 t.2.1 = nI y.2.1 ∧ ∀ j, j < t.2.1 → A' 160 j = A 160 j) (h156 : B' 156 = B 156) (h158 : (∀ j, j < 16 * t.2.1 → B' 158 j = B 158 j) ∧ Rw (wN l) (bdS l y) (fun k => B' 158 (16 * t.2.1 + k))) (h159 : (∀ j, j < 16 * t.2.1 → B' 159 j = B 159 j) ∧ Rw (wN l) (thS l y) (fun k => B' 159 (16 * t.2.1 + k))) : TlM l (adO t y) 0 A' B' := by
  obtain ⟨⟨h1, h2⟩, ⟨h3, h4⟩, h5, h6⟩ := h
  refine ⟨⟨h1, by show t.2.1 + 1 ≤ 4; omega⟩, ⟨h161.2.trans h3, h161.1⟩, ?_, fun i hi => ?_⟩
  · rw [h157, h156]
    exact h5
  · have hi' : i < t.2.1 + 1 := hi
    show _ = nI (if i = t.2.1 then y else t.2.2 i).2.1 ∧ Rw (wN l) (bdS l (if i = t.2.1 then y else t.2.2 i)) _ ∧ Rw (wN l) (thS l (if i = t.2.1 then y else t.2.2 i)) _
    by_cases q : i = t.2.1
    · rw [if_pos q, show 4 * 0 + i = t.2.1 by omega]
      refine ⟨h160.1, h158.2.of (fun k hk => ?_), h159.2.of (fun k hk => ?_)⟩
      · rw [show 64 * 0 + 16 * i + k = 16 * t.2.1 + k by omega]
      · rw [show 64 * 0 + 16 * i + k = 16 * t.2.1 + k by omega]
    · rw [if_neg q, h160.2 _ (by omega)]
      exact ⟨(h6 i (by omega)).1, (h6 i (by omega)).2.1.of (fun k hk => h158.1 _ (by omega)), (h6 i (by omega)).2.2.of (fun k hk => h159.1 _ (by omega))⟩
/-- rows behind the first -/
theorem TlM.far {l : Ld} {t : Tl} {r : Nat} {A A' : IA} {B B' : Nat → Nat → Int64} (h : TlM l t r A B) (hr : 0 < r) (h161 : ∀ j, 2 ≤ j → A' 161 j = A 161 j) (h157 : ∀ j, 12 ≤ j → A' 157 j = A 157 j) (h160 : ∀ j, 4 ≤ j → A' 160 j = A 160 j) (h156 : ∀ j, 192 ≤ j → B' 156 j = B 156 j) (h158 : ∀ j, 64 ≤ j → B' 158 j = B 158 j) (h159 : ∀ j, 64 ≤ j → B' 159 j = B 159 j) : TlM l t r A' B' := by
  obtain ⟨⟨h1, h2⟩, ⟨h3, h4⟩, h5, h6⟩ := h
  refine ⟨⟨h1, h2⟩, ⟨(h161 _ (by omega)).trans h3, (h161 _ (by omega)).trans h4⟩, fun i hi => ⟨(h157 _ (by omega)).trans (h5 i hi).1, (h5 i hi).2.of (fun k hk => h156 _ (by omega))⟩, fun i hi => ⟨(h160 _ (by omega)).trans (h6 i hi).1, (h6 i hi).2.1.of (fun k hk => h158 _ (by omega)), (h6 i hi).2.2.of (fun k hk => h159 _ (by omega))⟩⟩
theorem M_sayF (hG : G M) (hp : PI s) (hm : MI s M) (hu : s.2.2.2.1.1 ≤ 12) {f : Fm} {M2 : m_M} (hf : f.2 < 1000) (hok : fRok s.2.1 f.1 f.2 0 0) (e : F_X12_readsSaying 128 (m_sI M 128 0 (nI 0)) = some (nI 1, M2)) (fr2 : msF (m_sI (m_sI M 128 0 (nI 0)) 128 1 (nI 0)) M2) (h39 : m_I M2 128 39 = nI f.2) (hpt : ∀ i, i < f.2 → m_I M2 153 i = nI (f.1 i)) {v : Nat} (hv : vOf s.2.1 s.2.2.1.1 = some v) (h12 : s.2.2.1.2.1.1.1 < 12) : ∃ M', F_X12_say 128 M = some (nI 0, M') ∧ MI (stTell (stTk s) (adT s.2.2.1.2.1 (s.2.2.1.1, s.2.2.1.1, f))) M' ∧ frM M M' := by
  have ho : lOk s.2.1 := hp.1
  have b3 := ho.2.2.2.1
  have hday : s.2.2.1.1 < 900000 := hp.2.2.1.1
  have hvi : vIn s.2.1 (some v) := by rw [← hv]; exact vOf_in ho _
  have hvl := hvi v rfl
  obtain ⟨hm2, f0⟩ := M_flt hG hm fr2
  have hG2 := f0.1
  have K0 : ∀ A B, m_K (m_w2 M2 A B) 128 = 10 := fun A B => by simp only [w2_K, gK hG2]
  have K0' : m_K M2 128 = 10 := by simp only [gK hG2]
  have R46 : ∀ A B, m_R (m_w2 M2 A B) 128 46 = some 156 := fun A B => by simp only [w2_R, gR hG2]
  have R47 : ∀ A B, m_R (m_w2 M2 A B) 128 47 = some 157 := fun A B => by simp only [w2_R, gR hG2]
  have R51 : ∀ A B, m_R (m_w2 M2 A B) 128 51 = some 161 := fun A B => by simp only [w2_R, gR hG2]
  have R51' : m_R M2 128 51 = some 161 := by simp only [gR hG2]
  have K157 : ∀ A B, m_K (m_w2 M2 A B) 157 = 12 := fun A B => by simp only [w2_K, gK hG2]
  have L157 : ∀ A B, m_len (m_w2 M2 A B) 157 = 204 := fun A B => by simp only [w2_n, gl hG2]
  have K161 : ∀ A B, m_K (m_w2 M2 A B) 161 = 12 := fun A B => by simp only [w2_K, gK hG2]
  have L161 : ∀ A B, m_len (m_w2 M2 A B) 161 = 34 := fun A B => by simp only [w2_n, gl hG2]
  have K161' : m_K M2 161 = 12 := by simp only [gK hG2]
  have L161' : m_len M2 161 = 34 := by simp only [gl hG2]
  have K156 : m_K M2 156 = 13 := by simp only [gK hG2]
  have L156 : m_len M2 156 = 3264 := by simp only [gl hG2]
  have hm2' := hm2
  obtain ⟨⟨m0, m1⟩, ⟨m2, m3⟩, ⟨⟨m4, m4', m4''⟩, m5⟩, ⟨m6, m7⟩, m8⟩ := hm2'
  have m5' : m_I M2 128 53 = nI s.2.2.1.1 := m5
  have m4c : m_I M2 161 0 = nI s.2.2.1.2.1.1.1 := m4.2.1.1
  obtain ⟨A1, B1, k1, k2, k3, k4, k5, k6, k7⟩ := S_keeps hG2 (A := m_I M2) (B := m_L M2) (u := s.2.2.2.1) (now := s.2.2.1.2.1) (l := s.2.1) hu m6 m4 m7
  rw [w2_0] at k1
  have t0 : TlM s.2.1 s.2.2.1.2.1 0 A1 B1 := k4 0 _ (by omega) m4
  have c0 : A1 161 0 = nI s.2.2.1.2.1.1.1 := t0.2.1.1
  have l1 : LMi s.2.1 A1 := m0.cong (fun a h1 h2 => k5 a (by omega) (by omega) (by omega) (by omega)) (k6 42 (by omega)) (k6 43 (by omega))
  have a153 : A1 153 = m_I M2 153 := k5 153 (by omega) (by omega) (by omega) (by omega)
  have d1 : A1 128 53 = nI s.2.2.1.1 := by rw [k6 53 (by omega)]; exact m5'
  obtain ⟨A2, B2, e2, g1, g2, g3, g4⟩ := S_laysMeant hG2 ho (A := A1) (B := B1) (row := 156) (at0 := 16 * s.2.2.1.2.1.1.1) (v := some v) hvi (by omega) l1 (by rw [k6 39 (by omega)]; exact h39) (by rw [a153]; exact hpt) hok K156 L156 (by omega) (by omega)
  have hby : bdS s.2.1 (s.2.2.1.1, s.2.2.1.1, f) = fMn s.2.1 (some v) f.1 f.2 := by
    funext w
    unfold bdS
    dsimp only
    rw [hv]
  have ns : ∀ a, (a < 143 ∨ 155 < a) → A2 a = A1 a := fun a ha => g1 a (by unfold scr; omega)
  have sA : ∀ a, a ≠ 157 → a ≠ 161 → m_up (m_up A2 157 s.2.2.1.2.1.1.1 (nI s.2.2.1.1)) 161 0 (nI (s.2.2.1.2.1.1.1 + 1)) a = A2 a := fun a h1 h2 => by rw [up_fr h2, up_fr h1]
  have r161 : ∀ j, j ≠ 0 → m_up (m_up A2 157 s.2.2.1.2.1.1.1 (nI s.2.2.1.1)) 161 0 (nI (s.2.2.1.2.1.1.1 + 1)) 161 j = A1 161 j := fun j hj => by rw [up_at, if_neg (fun z => hj z.2), up_fr (by omega), ns 161 (by omega)]
  have r157 : ∀ j, j ≠ s.2.2.1.2.1.1.1 → m_up (m_up A2 157 s.2.2.1.2.1.1.1 (nI s.2.2.1.1)) 161 0 (nI (s.2.2.1.2.1.1.1 + 1)) 157 j = A1 157 j := fun j hj => by rw [up_fr (by omega), up_at, if_neg (fun z => hj z.2), ns 157 (by omega)]
  have far : ∀ {t : Tl} {r : Nat}, 0 < r → TlM s.2.1 t r A1 B1 → TlM s.2.1 t r (m_up (m_up A2 157 s.2.2.1.2.1.1.1 (nI s.2.2.1.1)) 161 0 (nI (s.2.2.1.2.1.1.1 + 1))) B2 := fun {t r} hr ht => ht.far hr (fun j hj => r161 j (by omega)) (fun j hj => r157 j (by omega)) (fun j hj => by rw [sA 160 (by omega) (by omega), ns 160 (by omega)]) (fun j hj => g3 j (by omega)) (fun j hj => by rw [g2 158 (by omega)]) (fun j hj => by rw [g2 159 (by omega)])
  have near : TlM s.2.1 (adT s.2.2.1.2.1 (s.2.2.1.1, s.2.2.1.1, f)) 0 (m_up (m_up A2 157 s.2.2.1.2.1.1.1 (nI s.2.2.1.1)) 161 0 (nI (s.2.2.1.2.1.1.1 + 1))) B2 := t0.adt h12 ⟨by rw [up_at, if_pos ⟨rfl, rfl⟩], r161 1 (by omega)⟩ ⟨by rw [up_fr (by omega), up_at, if_pos ⟨rfl, rfl⟩], fun j hj => r157 j (by omega)⟩ (by rw [sA 160 (by omega) (by omega), ns 160 (by omega)]) ⟨fun j hj => g3 j (by omega), by rw [hby]; exact g4⟩ (g2 158 (by omega)) (g2 159 (by omega))
  refine ⟨m_w2 M2 (m_up (m_up A2 157 s.2.2.1.2.1.1.1 (nI s.2.2.1.1)) 161 0 (nI (s.2.2.1.2.1.1.1 + 1))) B2, ?_, MI_tell hm2 ?_ (fun j hj => far (by omega) (k3 j hj)) near (fun r t h1 h2 ht => far h1 (k4 r t h2 ht)) (fun a h1 h2 h3 h4 h5 => ?_) (fun j hj => ?_) (fun a h1 h2 h3 h4 h5 => ?_), f0.trans (frM_w2 hG2 (fun a ha => ⟨?_, ?_⟩))⟩
  · have ev : F_X12_verbOf 128 (nI s.2.2.1.1) M2 = some (iO (some v), M2) := by rw [← hv]; exact S_verbOfM hG2 m0 ho (by omega)
    have ev1 : F_X12_verbOf 128 (nI s.2.2.1.1) (m_w2 M2 A1 B1) = some (iO (some v), m_w2 M2 A1 B1) := by rw [← hv]; exact S_verbOfM (M := m_w2 M2 A1 B1) hG2 l1 ho (by omega)
    have dA2 : A2 128 53 = nI s.2.2.1.1 := by rw [ns 128 (by omega)]; exact d1
    have p161 : m_up A2 157 s.2.2.1.2.1.1.1 (nI s.2.2.1.1) 161 0 = nI s.2.2.1.2.1.1.1 := by rw [up_fr (by omega), ns 161 (by omega)]; exact c0
    unfold F_X12_say
    rw [x_pI_ok (by simp only [gK hG]), show (0 : Int32) = nI 0 from rfl, x_cV_ok (show m_K (m_sI M 128 0 (nI 0)) 128 = 10 from by simp only [mK_sI, gK hG]) e, if_neg (by decide), x_gI_ok K0', m5', x_cV_ok K0' ev, if_pos (show nI 0 ≤ iO (some v) from nI_pos' (by omega)), x_gN_ok K0' R51', x_aI_ok K161' (by rw [L161']; omega) (by omega), m4c, if_neg (show ¬ nI s.2.2.1.2.1.1.1 = (12 : Int32) from fun z => by have := (nI_eq (b := 12) (by omega) (by omega)).mp z; omega), x_cV_ok K0' k1, x_gN_ok (K0 _ _) (R51 _ _), x_aI_ok (K161 _ _) (by rw [L161]; omega) (by omega), w2_I, c0, x_gI_ok (K0 _ _), w2_I, d1, x_cV_ok (K0 _ _) ev1, x_gN_ok (K0 _ _) (R46 _ _), show (16 : Int32) = nI 16 from rfl, nI_mul, x_cV_ok (K0 _ _) e2, x_gN_ok (K0 _ _) (R47 _ _), x_gI_ok (K0 _ _), w2_I, dA2, x_sI_ok (K157 _ _) (by rw [L157]; omega) (by omega), w2_sI, x_gN_ok (K0 _ _) (R51 _ _), x_aI_ok (K161 _ _) (by rw [L161]; omega) (by omega), w2_I, p161, nI_1, x_sI_ok (K161 _ _) (by rw [L161]; omega) (by omega), w2_sI]
  · rw [sA 128 (by omega) (by omega), ns 128 (by omega)]; exact k2
  · rw [sA a h2 h4, g1 a h5]; exact k5 a (by omega) h2 h3 h4
  · rw [sA 128 (by omega) (by omega), ns 128 (by omega), k6 j (by omega)]
  · rw [g2 a h2, k7 a h2 h3 h4]
  · by_cases q : a = 128
    · omega
    · rw [sA a (by omega) (by omega), ns a (by omega)]; exact k5 a q (by omega) (by omega) (by omega)
  · rw [g2 a (by omega), k7 a (by omega) (by omega) (by omega)]
theorem R_say (hd : dB D s) : RUN D s (F_X11_say 0) (F_X12_say 128) := by
  intro M h hk hN
  obtain ⟨hG, hp, hc, hm⟩ := h.split
  have hu := hc.2.2.2.1.1
  have hb12 := hm.2.2.1.1.1.1.1
  have ho : lOk s.2.1 := hp.1
  have hday : s.2.2.1.1 < 900000 := hp.2.2.1.1
  obtain ⟨o, o1, o2, o3⟩ := J_saying hp
  have K0 : ∀ {M : m_M}, G M → m_K M 0 = 9 := fun hG => by simp only [gK hG]
  have R5 : ∀ {M : m_M}, G M → m_R M 0 5 = some 31 := fun hG => by simp only [gR hG]
  have R9 : ∀ {M : m_M}, G M → m_R M 0 9 = some 80 := fun hG => by simp only [gR hG]
  have K80 : ∀ {M : m_M}, G M → m_K M 80 = 1 := fun hG => by simp only [gK hG]
  have K128 : ∀ {M : m_M}, G M → m_K M 128 = 10 := fun hG => by simp only [gK hG]
  have hm0 : ∀ {M : m_M}, MI s M → MI s (m_sI M 128 0 (nI 0)) := fun hm => hm.o8 (by omega) (by omega) (by omega) (by omega) (by omega)
  cases o with
  | inl k =>
    have hk0 : 0 < k ∧ k < 20000 := o1
    refine WO.run (s := s) ⟨nI k, stTk s, PI_tk hp, dB_tk hd, fun M hG hp hc hk hN => ?_, fun M hG hp hm => ?_⟩ M h hk hN
    · obtain ⟨v, M1, e, e1, e2⟩ := o2 M hG hc
      obtain ⟨t1, t2⟩ := take_eq hG hc e
      obtain ⟨a1, a2, a3, a4⟩ := C_flt hG hc hk e1
      have hG0 : G (m_sI M 0 1 (nI 0)) := hG
      have e2' : v = nI k := e2
      refine ⟨M1, ?_, a1, a2, a3, a4⟩
      unfold F_X11_say
      rw [x_gN_ok (K0 hG) (R5 hG), x_cV_ok (K0 hG) t1, x_cV_ok (rd31 hG0).1.1 t2, e2', if_neg (nI_ne0 (by omega) (by omega))]
    · obtain ⟨v, M2, e, e1, e2, e3⟩ := o3 (m_sI M 128 0 (nI 0)) hG (hm0 hm)
      obtain ⟨a1, a2⟩ := M_flt hG hm e1
      refine ⟨M2, ?_, a1, a2⟩
      unfold F_X12_say
      rw [x_pI_ok (K128 hG), show (0 : Int32) = nI 0 from rfl, x_cV_ok (show m_K (m_sI M 128 0 (nI 0)) 128 = 10 from K128 hG) e, e2, if_pos rfl, x_gI_ok (K128 a2.1), e3]
  | inr f =>
    obtain ⟨f1, f2⟩ := o1
    cases hv : vOf s.2.1 s.2.2.1.1 with
    | none =>
      refine WO.run (s := s) ⟨-2, stTk s, PI_tk hp, dB_tk hd, fun M hG hp hc hk hN => ?_, fun M hG hp hm => ?_⟩ M h hk hN
      · obtain ⟨v, M1, e, e1, e2, _⟩ := o2 M hG hc
        obtain ⟨t1, t2⟩ := take_eq hG hc e
        obtain ⟨a1, a2, a3, a4⟩ := C_flt hG hc hk e1
        have hG0 : G (m_sI M 0 1 (nI 0)) := hG
        have hv1 : F_X11_verbToday 0 M1 = some (iO none, M1) := by rw [← hv]; exact C_today2 (s := stTk s) a2.1 a1 ho (by show s.2.2.1.1 < _; omega)
        refine ⟨M1, ?_, a1, a2, a3, a4⟩
        unfold F_X11_say
        rw [x_gN_ok (K0 hG) (R5 hG), x_cV_ok (K0 hG) t1, x_cV_ok (rd31 hG0).1.1 t2, e2, if_pos (by decide), x_cV_ok (K0 a2.1) hv1, if_pos (by decide)]
      · obtain ⟨v, M2, e, e1, e2, _⟩ := o3 (m_sI M 128 0 (nI 0)) hG (hm0 hm)
        obtain ⟨a1, a2⟩ := M_flt hG hm e1
        have hv1 : F_X12_verbOf 128 (nI s.2.2.1.1) M2 = some (iO none, M2) := by rw [← hv]; exact S_verbOfM a2.1 a1.1.1 ho (by omega)
        have hd53 : m_I M2 128 53 = nI s.2.2.1.1 := a1.2.2.1.2
        refine ⟨M2, ?_, a1, a2⟩
        unfold F_X12_say
        rw [x_pI_ok (K128 hG), show (0 : Int32) = nI 0 from rfl, x_cV_ok (show m_K (m_sI M 128 0 (nI 0)) 128 = 10 from K128 hG) e, e2, if_neg (by decide), x_gI_ok (K128 a2.1), hd53, x_cV_ok (K128 a2.1) hv1, if_neg (by decide)]
    | some v =>
      have hvl := vOf_in ho s.2.2.1.1 v hv
      have b3 := ho.2.2.2.1
      by_cases q : s.2.2.1.2.1.1.1 < 12
      · refine WO.run (s := s) ⟨nI 0, stTell (stTk s) (adT s.2.2.1.2.1 (s.2.2.1.1, s.2.2.1.1, f)), ?_, dB_tk hd, fun M hG hp hc hk hN => ?_, fun M hG hp hm => ?_⟩ M h hk hN
        · refine PI_tell (PI_tk hp) ⟨fun i hi => ?_, hp.2.2.1.2.1.2⟩
          have hi' : i < s.2.2.1.2.1.1.1 + 1 := hi
          show (if i = s.2.2.1.2.1.1.1 then (s.2.2.1.1, s.2.2.1.1, f) else s.2.2.1.2.1.1.2 i).1 < 1000000 ∧ (if i = s.2.2.1.2.1.1.1 then (s.2.2.1.1, s.2.2.1.1, f) else s.2.2.1.2.1.1.2 i).2.1 < 1000000
          by_cases z : i = s.2.2.1.2.1.1.1
          · rw [if_pos z]; exact ⟨by show s.2.2.1.1 < _; omega, by show s.2.2.1.1 < _; omega⟩
          · rw [if_neg z]; exact hp.2.2.1.2.1.1 i (by omega)
        · obtain ⟨w, M1, e, e1, e2, e3, e4⟩ := o2 M hG hc
          obtain ⟨t1, t2⟩ := take_eq hG hc e
          obtain ⟨a1, a2, a3, a4⟩ := C_flt hG hc hk e1
          have hG0 : G (m_sI M 0 1 (nI 0)) := hG
          have n1 := N_tk e1
          have hv1 : F_X11_verbToday 0 M1 = some (iO (some v), M1) := by rw [← hv]; exact C_today2 (s := stTk s) a2.1 a1 ho (by show s.2.2.1.1 < _; omega)
          obtain ⟨M4, g1, g2, g3⟩ := S_sayingFor a2.1 a1 ho (f := f) (by omega) e3 e4 f1 f2 (day := s.2.2.1.1) (by omega)
          have hG4 := g2.g a2.1
          obtain ⟨M5, p1, p2, p3, p4, p5⟩ := C_tell hG4 (g2.ci a2.1 a1) (g2.refK a2.1 a4) g3 q
          have i1 : m_I M1 80 1 = nI s.2.2.1.2.1.1.1 := a1.2.2.1.2.1.2.1.1
          have i0 : m_I M1 80 0 = nI s.2.2.1.1 := a1.2.2.1.1
          refine ⟨M5, ?_, p2, ⟨p3.1, fun a h1 h2 => ?_⟩, ?_, p5⟩
          · unfold F_X11_say
            rw [x_gN_ok (K0 hG) (R5 hG), x_cV_ok (K0 hG) t1, x_cV_ok (rd31 hG0).1.1 t2, e2, if_pos (by decide), x_cV_ok (K0 a2.1) hv1, if_neg (show ¬ iO (some v) = (-1 : Int32) from nI_nm1 (by omega)), x_gN_ok (K0 a2.1) (R9 a2.1), x_gI_ok (K80 a2.1), i1, if_pos (show nI s.2.2.1.2.1.1.1 < (12 : Int32) from nI_lt (b := 12) q (by omega)), x_gN_ok (K0 a2.1) (R9 a2.1), x_gN_ok (K0 a2.1) (R9 a2.1), x_gI_ok (K80 a2.1), i0, x_cV_ok (K0 a2.1) g1, x_cV_ok (K80 hG4) p1]
            rfl
          · have w1 := a2.2 a h1 h2
            have w2 := (g2.frC a2.1).2 a h1 h2
            have w3 := p3.2 a h1 h2
            exact ⟨w3.1.trans (w2.1.trans w1.1), w3.2.trans (w2.2.trans w1.2)⟩
          · rw [p4, g2.1, n1]; omega
        · obtain ⟨w, M2, e, e1, e2, e3, e4⟩ := o3 (m_sI M 128 0 (nI 0)) hG (hm0 hm)
          rw [e2] at e
          exact M_sayF hG hp hm hu f1 f2 e e1 e3 e4 hv q
      · have q12 : s.2.2.1.2.1.1.1 = 12 := by omega
        refine WO.run (s := s) ⟨-3, stTk s, PI_tk hp, dB_tk hd, fun M hG hp hc hk hN => ?_, fun M hG hp hm => ?_⟩ M h hk hN
        · obtain ⟨w, M1, e, e1, e2, _⟩ := o2 M hG hc
          obtain ⟨t1, t2⟩ := take_eq hG hc e
          obtain ⟨a1, a2, a3, a4⟩ := C_flt hG hc hk e1
          have hG0 : G (m_sI M 0 1 (nI 0)) := hG
          have hv1 : F_X11_verbToday 0 M1 = some (iO (some v), M1) := by rw [← hv]; exact C_today2 (s := stTk s) a2.1 a1 ho (by show s.2.2.1.1 < _; omega)
          have i1 : m_I M1 80 1 = nI s.2.2.1.2.1.1.1 := a1.2.2.1.2.1.2.1.1
          refine ⟨M1, ?_, a1, a2, a3, a4⟩
          unfold F_X11_say
          rw [x_gN_ok (K0 hG) (R5 hG), x_cV_ok (K0 hG) t1, x_cV_ok (rd31 hG0).1.1 t2, e2, if_pos (by decide), x_cV_ok (K0 a2.1) hv1, if_neg (show ¬ iO (some v) = (-1 : Int32) from nI_nm1 (by omega)), x_gN_ok (K0 a2.1) (R9 a2.1), x_gI_ok (K80 a2.1), i1, q12, if_neg (by decide)]
        · obtain ⟨w, M2, e, e1, e2, _⟩ := o3 (m_sI M 128 0 (nI 0)) hG (hm0 hm)
          obtain ⟨a1, a2⟩ := M_flt hG hm e1
          have hv1 : F_X12_verbOf 128 (nI s.2.2.1.1) M2 = some (iO (some v), M2) := by rw [← hv]; exact S_verbOfM a2.1 a1.1.1 ho (by omega)
          have hd53 : m_I M2 128 53 = nI s.2.2.1.1 := a1.2.2.1.2
          have i1 : m_I M2 161 0 = nI s.2.2.1.2.1.1.1 := a1.2.2.1.1.1.2.1.1
          refine ⟨M2, ?_, a1, a2⟩
          unfold F_X12_say
          rw [x_pI_ok (K128 hG), show (0 : Int32) = nI 0 from rfl, x_cV_ok (show m_K (m_sI M 128 0 (nI 0)) 128 = 10 from K128 hG) e, e2, if_neg (by decide), x_gI_ok (K128 a2.1), hd53, x_cV_ok (K128 a2.1) hv1, if_pos (show nI 0 ≤ iO (some v) from nI_pos' (by omega)), x_gN_ok (K128 a2.1) (show m_R M2 128 51 = some 161 by simp only [gR a2.1]), x_aI_ok (show m_K M2 161 = 12 by simp only [gK a2.1]) (show 0 < m_len M2 161 by simp only [gl a2.1]; omega) (by omega), i1, q12, if_pos (by decide)]
end MTELL
