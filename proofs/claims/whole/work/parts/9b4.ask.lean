/-! ask: both sides -/
def stAsk (s : St) (f : Fm) : St := (s.1, s.2.1, (s.2.2.1.1, s.2.2.1.2.1, some f, s.2.2.1.2.2.2), s.2.2.2)
section ASK
variable {M M' : m_M} {s : St} {D : Nat}
theorem PI_tk (hp : PI s) : PI (stTk s) := by
  obtain ⟨p1, p2, p3, p4, p5⟩ := hp
  exact ⟨p1, ⟨Nat.zero_le _, fun i hi => absurd hi (Nat.not_lt_zero _)⟩, p3, p4, p5⟩
theorem frC_tk (hG : G M) (h : csF (m_sI M 0 1 (nI 0)) M') : frC M M' := ⟨h.g hG, fun a h1 h2 => ⟨by rw [h.2.1 a (by omega) (by omega), sI_ne (by omega)], (h.2.2.1 a (by omega)).1⟩⟩
theorem RefK.sI (hk : RefK M) {a k : Nat} {v : Int32} : RefK (m_sI M a k v) := hk.same rfl rfl
theorem N_tk (h : csF (m_sI M 0 1 (nI 0)) M') : m_N M' = m_N M := by
  unfold m_N
  rw [h.1]
  rfl
theorem C_ask (hG : G M) (hp : PI s) (hc : CI s M) (hk : RefK M) {f : Fm} {M1 : m_M} (hf : f.2 < 1000) (hok : fRok s.2.1 f.1 f.2 0 0) (hN : m_N M < 999000) (e : (x_cV 9 M 0 (F_X11_takeTape 0 M) fun v2 M1 => F_X7_read 31 v2 M1) = some (nI 0, M1)) (fr1 : csF (m_sI M 0 1 (nI 0)) M1) (h12 : m_I M1 31 12 = nI f.2) (hpt : ∀ i, i < f.2 → cPt s.2.1 (f.1 i) (m_I M1 32 i)) : ∃ M', F_X11_ask 0 M = some (nI 0, M') ∧ CI (stAsk (stTk s) f) M' ∧ frC M M' ∧ m_N M' ≤ m_N M + 8 ∧ RefK M' := by
  have hG0 : G (m_sI M 0 1 (nI 0)) := hG
  have hc1 : CI (stTk s) M1 := fr1.ci (hc.tk hG)
  have hG1 := fr1.g hG0
  have hk1 : RefK M1 := fr1.refK hG0 hk.sI
  have n1 := N_tk fr1
  obtain ⟨M2, e2, f2, fm2⟩ := S_formula hG1 (l := s.2.1) (f := f) (by omega) h12 hpt hf hok
  have hG2 := f2.g hG1
  have hc2 := f2.ci hG1 hc1
  have hk2 := f2.refK hG1 hk1
  have K0 : m_K M 0 = 9 := by simp only [gK hG]
  have R5 : m_R M 0 5 = some 31 := by simp only [gR hG]
  have K01 : m_K M1 0 = 9 := by simp only [gK hG1]
  have R91 : m_R M1 0 9 = some 80 := by simp only [gR hG1]
  have R51 : m_R M1 0 5 = some 31 := by simp only [gR hG1]
  have K80 : m_K M2 80 = 1 := by simp only [gK hG2]
  have hR : ∀ a, a ≠ 80 → m_R (m_sR M2 80 5 (some (m_N M1))) a = m_R M2 a := fun a ha => by funext j; rw [mR_sR, if_neg (fun z => ha z.1)]
  have hR80 : ∀ j, j ≠ 5 → m_R (m_sR M2 80 5 (some (m_N M1))) 80 j = m_R M2 80 j := fun j hj => by rw [mR_sR, if_neg (fun z => hj z.2)]
  have hh : hiK M2 (m_sR M2 80 5 (some (m_N M1))) := ⟨Nat.le_refl _, fun a ha _ => ⟨rfl, rfl, rfl, hR a (by omega)⟩⟩
  have hG3 : G (m_sR M2 80 5 (some (m_N M1))) := hG2.sR (by decide +kernel)
  obtain ⟨c0, c1, ⟨b1, b2, _, b4⟩, ⟨c6, c7, c8⟩, c9⟩ := hc2
  refine ⟨m_sR M2 80 5 (some (m_N M1)), ?_, ⟨c0, c1, ⟨b1, b2.hi hh rfl (hR _ (by omega)) (hR _ (by omega)), ⟨m_N M1, by rw [mR_sR, if_pos ⟨rfl, rfl⟩], fun q => (by cases q), fun g hg => ?_⟩, b4⟩, ⟨c6, c7, ?_⟩, fun i hi => ⟨(c9 i hi).1, fun b hb => ((c9 i hi).2 b hb).congr hh (fun _ => ⟨rfl, rfl⟩) rfl (hR _ (by omega)) (hR _ (by omega)) (hR _ (by omega)) rfl⟩⟩, ⟨hG3, fun a h1 h2 => ?_⟩, ?_, ?_⟩
  · have e' : F_X11_takeTape 0 M = some (nI s.1.1, m_sI M 0 1 (nI 0)) := by
      unfold F_X11_takeTape
      rw [x_gI_ok K0, hc.2.1.1, x_pI_ok K0]
      rfl
    rw [x_cV_ok K0 e'] at e
    unfold F_X11_ask
    rw [x_gN_ok K0 R5, x_cV_ok K0 e', x_cV_ok (rd31 hG0).1.1 e, if_pos (by decide), x_gN_ok K01 R91, x_gN_ok K01 R51, x_cV_ok (rd31 hG1).1.1 e2, x_pR_ok K80]
    rfl
  · cases hg
    exact fm2.hi hh
  · rw [hR 87 (by omega)]
    exact fun j hj => (c8 j hj).hi hh
  · have := (frC_tk hG fr1).2 a h1 h2
    have w := (f2.frC hG1).2 a h1 h2
    exact ⟨w.1.trans this.1, w.2.trans this.2⟩
  · show m_N M2 ≤ _
    rw [f2.1]; omega
  · intro a ha hka i x hx
    have hka' : m_K M2 a = 16 := hka
    by_cases q : a = 80
    · rw [q, K80] at hka'
      omega
    · rw [hR a q] at hx
      exact hk2 a ha hka' i x hx
theorem S_ask19 (h : G M) {l : Ld} (ho : lOk l) {f : Fm} (hf : f.2 < 1000) (hok : fRok l f.1 f.2 0 0) {k48 : Nat → m_M → Option (Int32 × m_M)} : ∀ (d v fu : Nat) (A : IA) (B : Nat → Nat → Int64), v + d = lH l 3 → d < fu → LMi l A → A 128 39 = nI f.2 → (∀ i, i < f.2 → A 153 i = nI (f.1 i)) → (∀ u, u < v → Rw (wN l) (fMn l (some u) f.1 f.2) (fun k => B 162 (16 * u + k))) →
    ∃ A' B', F_X12_ask_19 k48 fu 128 (nI v) (m_w2 M A B) = k48 128 (m_w2 M A' B') ∧ (∀ a, ¬ scr a → A' a = A a) ∧ (∀ b, b ≠ 162 → B' b = B b) ∧ (∀ j, 16 * lH l 3 ≤ j → B' 162 j = B 162 j) ∧ ∀ u, u < lH l 3 → Rw (wN l) (fMn l (some u) f.1 f.2) (fun k => B' 162 (16 * u + k)) := by
  have b3 := ho.2.2.2.1
  have K0 : ∀ A B, m_K (m_w2 M A B) 128 = 10 := fun A B => by simp only [w2_K, gK h]
  have R10 : ∀ A B, m_R (m_w2 M A B) 128 10 = some 130 := fun A B => by simp only [w2_R, gR h]
  have R54 : ∀ A B, m_R (m_w2 M A B) 128 54 = some 162 := fun A B => by simp only [w2_R, gR h]
  have K130 : ∀ A B, m_K (m_w2 M A B) 130 = 12 := fun A B => by simp only [w2_K, gK h]
  have L130 : ∀ A B, m_len (m_w2 M A B) 130 = 16 := fun A B => by simp only [w2_n, gl h]
  have K162 : m_K M 162 = 13 := by simp only [gK h]
  have L162 : m_len M 162 = 560 := by simp only [gl h]
  intro d
  induction d with
  | zero =>
    intro v fu A B hv hfu hl h39 hp hr
    obtain ⟨fu, rfl⟩ : ∃ f', fu = f' + 1 := ⟨fu - 1, by omega⟩
    refine ⟨A, B, ?_, fun _ _ => rfl, fun _ _ => rfl, fun _ _ => rfl, fun u hu => hr u (by omega)⟩
    rw [F_X12_ask_19, x_gN_ok (K0 _ _) (R10 _ _), show (3 : Int32) = nI 3 from rfl, x_aI_ok (K130 _ _) (by rw [L130]; omega) (by omega), w2_I, hl.1 3 (by omega), if_pos (nI_le (by omega) (by omega))]
  | succ d ih =>
    intro v fu A B hv hfu hl h39 hp hr
    obtain ⟨fu, rfl⟩ : ∃ f', fu = f' + 1 := ⟨fu - 1, by omega⟩
    obtain ⟨A1, B1, e, e1, e2, e3, e4⟩ := S_laysMeant h ho (A := A) (B := B) (row := 162) (at0 := 16 * v) (v := some v) (fun k hk => by cases hk; omega) (by omega) hl h39 hp hok K162 L162 (by omega) (by omega)
    obtain ⟨A2, B2, g, g1, g2, g3, g4⟩ := ih (v + 1) fu A1 B1 (by omega) (by omega) (hl.fr e1) (by rw [e1 128 (by unfold scr; omega)]; exact h39) (by rw [e1 153 (by unfold scr; omega)]; exact hp) (fun u hu => by
      by_cases z : u = v
      · rw [z]; exact e4
      · exact (hr u (by omega)).of (fun k hk => e3 _ (by omega)))
    refine ⟨A2, B2, ?_, fun a ha => by rw [g1 a ha, e1 a ha], fun b hb => by rw [g2 b hb, e2 b hb], fun j hj => by rw [g3 j hj, e3 j (by omega)], g4⟩
    have e' : F_X12_laysMeant 128 (nI v) 162 (nI (16 * v)) (m_w2 M A B) = some ((), m_w2 M A1 B1) := e
    rw [F_X12_ask_19, x_gN_ok (K0 _ _) (R10 _ _), show (3 : Int32) = nI 3 from rfl, x_aI_ok (K130 _ _) (by rw [L130]; omega) (by omega), w2_I, hl.1 3 (by omega), if_neg (nI_ge (by omega) (by omega)), x_gN_ok (K0 _ _) (R54 _ _), show (16 : Int32) = nI 16 from rfl, nI_mul, x_cV_ok (K0 _ _) e', m_let_eq, nI_1]
    exact g
theorem M_askF (hG : G M) (hp : PI s) (hm : MI s M) {f : Fm} {M2 : m_M} (hf : f.2 < 1000) (hok : fRok s.2.1 f.1 f.2 0 0) (e : F_X12_readsSaying 128 (m_sI M 128 0 (nI 0)) = some (nI 1, M2)) (fr2 : msF (m_sI (m_sI M 128 0 (nI 0)) 128 1 (nI 0)) M2) (h39 : m_I M2 128 39 = nI f.2) (hpt : ∀ i, i < f.2 → m_I M2 153 i = nI (f.1 i)) : ∃ M', F_X12_ask 128 M = some (nI 0, M') ∧ MI (stAsk (stTk s) f) M' ∧ frM M M' := by
  have ho : lOk s.2.1 := hp.1
  have b3 := ho.2.2.2.1
  have hG0 : G (m_sI (m_sI M 128 0 (nI 0)) 128 1 (nI 0)) := hG
  have hG2 := fr2.g hG0
  have hm2 : MI (stTk s) M2 := fr2.mi (hm.o8 (by omega) (by omega) (by omega) (by omega) (by omega)).tk
  have K0 : ∀ A B, m_K (m_w2 M2 A B) 128 = 10 := fun A B => by simp only [w2_K, gK hG2]
  have K0' : m_K M2 128 = 10 := by simp only [gK hG2]
  have R54 : ∀ A B, m_R (m_w2 M2 A B) 128 54 = some 162 := fun A B => by simp only [w2_R, gR hG2]
  have R55 : ∀ A B, m_R (m_w2 M2 A B) 128 55 = some 163 := fun A B => by simp only [w2_R, gR hG2]
  have K163 : ∀ A B, m_K (m_w2 M2 A B) 163 = 14 := fun A B => by simp only [w2_K, gK hG2]
  have L163 : ∀ A B, m_len (m_w2 M2 A B) 163 = 5 := fun A B => by simp only [w2_n, gl hG2]
  have K162 : m_K M2 162 = 13 := by simp only [gK hG2]
  have L162 : m_len M2 162 = 560 := by simp only [gl hG2]
  obtain ⟨A1, B1, e1, a1, a2, a3, a4⟩ := S_ask19 hG2 ho hf hok (k48 := fun (v2 : Nat) (M3 : m_M) =>
    x_gN 10 M3 v2 54 fun v3 =>
    x_cV 10 M3 v2 (F_X12_laysMeant v2 (-1 : Int32) v3 (96 : Int32) M3) fun _ M4 =>
    x_gN 10 M4 v2 55 fun v4 =>
    x_sI 14 M4 v4 (0 : Int32) (vp_nar .boolean (1 : Int32)) fun M5 =>
    some ((0 : Int32), M5)) (lH s.2.1 3) 0 m_FU (m_I M2) (m_L M2) (by omega) (m_FU_lt (by omega)) hm2.1.1 h39 hpt (fun u hu => absurd hu (Nat.not_lt_zero _))
  have hl1 : LMi s.2.1 A1 := hm2.1.1.fr a1
  obtain ⟨A2, B2, e2, c1, c2, c3, c4⟩ := S_laysMeant hG2 ho (A := A1) (B := B1) (row := 162) (at0 := 96) (v := none) (fun k hk => by cases hk) (by omega) hl1 (by rw [a1 128 (by unfold scr; omega)]; exact h39) (by rw [a1 153 (by unfold scr; omega)]; exact hpt) hok K162 L162 (by omega) (by omega)
  have e2' : F_X12_laysMeant 128 (-1 : Int32) 162 (96 : Int32) (m_w2 M2 A1 B1) = _ := e2
  have sA : ∀ a, ¬ scr a → A2 a = m_I M2 a := fun a ha => by rw [c1 a ha, a1 a ha]
  have sA' : ∀ a, (a < 143 ∨ 155 < a) → A2 a = m_I M2 a := fun a ha => sA a (by unfold scr; omega)
  have sB : ∀ b, b ≠ 162 → B2 b = m_L M2 b := fun b hb => by rw [c2 b hb, a2 b hb]
  have s162 : ∀ j, 112 ≤ j → B2 162 j = m_L M2 162 j := fun j hj => by rw [c3 j (by omega), a3 j (by omega)]
  have rows : ∀ v, v < lH s.2.1 3 → Rw (wN s.2.1) (fMn s.2.1 (some v) f.1 f.2) (fun k => B2 162 (112 * 0 + 16 * v + k)) := fun v hv => (a4 v hv).of (fun k hk => by
    rw [c3 _ (by omega), show 112 * 0 + 16 * v + k = 16 * v + k by omega])
  have row6 : Rw (wN s.2.1) (fMn s.2.1 none f.1 f.2) (fun k => B2 162 (112 * 0 + 96 + k)) := c4.of (fun k hk => by rw [show 112 * 0 + 96 + k = 96 + k by omega])
  have f0 : frM M M2 := by
    have h1 : frM M (m_sI (m_sI M 128 0 (nI 0)) 128 1 (nI 0)) := ⟨hG, rfl, rfl, fun a ha => ⟨by rw [sI_ne (by omega), sI_ne (by omega)], rfl⟩⟩
    exact h1.trans (fr2.frM hG0)
  obtain ⟨⟨m0, m1⟩, ⟨m2, m3⟩, ⟨⟨m4, m4', m4''⟩, m5⟩, ⟨m6, m7⟩, m8⟩ := hm2
  have u163 : ∀ a, a ≠ 163 → m_up A2 163 0 1 a = A2 a := fun a ha => up_fr ha
  have tm : ∀ (t : Tl) (r : Nat), TlM s.2.1 t r (m_I M2) (m_L M2) → TlM s.2.1 t r (m_up A2 163 0 1) B2 := fun t r ht => ht.congr (by rw [u163 161 (by omega), sA' 161 (by omega)]) (by rw [u163 157 (by omega), sA' 157 (by omega)]) (by rw [u163 160 (by omega), sA' 160 (by omega)]) (sB 156 (by omega)) (sB 158 (by omega)) (sB 159 (by omega))
  refine ⟨m_w2 M2 (m_up A2 163 0 1) B2, ?_, ⟨⟨m0.cong (fun a h1 h2 => by rw [w2_I, u163 a (by omega), sA' a (by omega)]) (by rw [w2_I, u163 128 (by omega), sA' 128 (by omega)]) (by rw [w2_I, u163 128 (by omega), sA' 128 (by omega)]), ?_⟩, ⟨?_, ?_⟩, ⟨⟨tm _ _ m4, ⟨?_, fun g hg => ?_⟩, ?_⟩, ?_⟩, ⟨?_, fun j hj => tm _ _ (m7 j hj)⟩, fun i hi => ⟨?_, fun b hb => ⟨⟨tm _ _ ((m8 i hi).2 b hb).1.1, ⟨?_, fun g hg => ⟨fun v hv => ?_, ?_⟩⟩, ?_⟩, ?_⟩⟩⟩, f0.trans (frM_w2 hG2 (fun a ha => ⟨by rw [u163 a (by omega), sA' a (by omega)], sB a (by omega)⟩))⟩
  · unfold F_X12_ask
    rw [x_pI_ok (by simp only [gK hG]), show (0 : Int32) = nI 0 from rfl, x_cV_ok (show m_K (m_sI M 128 0 (nI 0)) 128 = 10 from by simp only [mK_sI, gK hG]) e, if_neg (by decide), m_let_eq]
    rw [w2_0] at e1
    refine e1.trans ?_
    rw [x_gN_ok (K0 _ _) (R54 _ _), x_cV_ok (K0 _ _) e2', x_gN_ok (K0 _ _) (R55 _ _), show (0 : Int32) = nI 0 from rfl, x_sI_ok (K163 _ _) (by rw [L163]; omega) (by omega), w2_sI]
    rfl
  · unfold NmM
    rw [w2_L, sB 131 (by omega), sB 132 (by omega)]; exact m1
  · rw [w2_I, u163 128 (by omega), sA' 128 (by omega)]; exact m2
  · rw [w2_I, u163 129 (by omega), sA' 129 (by omega)]; exact m3
  · rw [w2_I, up_at, if_pos ⟨rfl, rfl⟩]; rfl
  · cases hg
    exact ⟨rows, row6⟩
  · rw [w2_I, u163 167 (by omega), u163 164 (by omega), u163 165 (by omega), u163 166 (by omega), sA' 167 (by omega), sA' 164 (by omega), sA' 165 (by omega), sA' 166 (by omega)]; exact m4''
  · rw [w2_I, u163 128 (by omega), sA' 128 (by omega)]; exact m5
  · rw [w2_I, u163 128 (by omega), sA' 128 (by omega)]; exact m6
  · rw [w2_I, u163 169 (by omega), sA' 169 (by omega)]; exact (m8 i hi).1
  · rw [w2_I, up_at, if_neg (by omega), sA' 163 (by omega)]; exact ((m8 i hi).2 b hb).1.2.1.1
  · exact ((((m8 i hi).2 b hb).1.2.1.2 g hg).1 v hv).of (fun k hk => by rw [w2_L, s162 _ (by omega)])
  · exact (((m8 i hi).2 b hb).1.2.1.2 g hg).2.of (fun k hk => by rw [w2_L, s162 _ (by omega)])
  · rw [w2_I, u163 167 (by omega), u163 164 (by omega), u163 165 (by omega), u163 166 (by omega), sA' 167 (by omega), sA' 164 (by omega), sA' 165 (by omega), sA' 166 (by omega)]; exact ((m8 i hi).2 b hb).1.2.2
  · rw [w2_I, u163 168 (by omega), sA' 168 (by omega)]; exact ((m8 i hi).2 b hb).2
/-- a saying that is at fault: the tape is taken, no more -/
theorem C_flt (hG : G M) (hc : CI s M) (hk : RefK M) {M1 : m_M} (fr1 : csF (m_sI M 0 1 (nI 0)) M1) : CI (stTk s) M1 ∧ frC M M1 ∧ m_N M1 ≤ m_N M + 8 ∧ RefK M1 := by
  have hG0 : G (m_sI M 0 1 (nI 0)) := hG
  exact ⟨fr1.ci (hc.tk hG), frC_tk hG fr1, by rw [N_tk fr1]; omega, fr1.refK hG0 hk.sI⟩
theorem M_flt (hG : G M) (hm : MI s M) {M2 : m_M} (fr2 : msF (m_sI (m_sI M 128 0 (nI 0)) 128 1 (nI 0)) M2) : MI (stTk s) M2 ∧ frM M M2 := by
  have hG0 : G (m_sI (m_sI M 128 0 (nI 0)) 128 1 (nI 0)) := hG
  have h1 : frM M (m_sI (m_sI M 128 0 (nI 0)) 128 1 (nI 0)) := ⟨hG, rfl, rfl, fun a ha => ⟨by rw [sI_ne (by omega), sI_ne (by omega)], rfl⟩⟩
  exact ⟨fr2.mi (hm.o8 (by omega) (by omega) (by omega) (by omega) (by omega)).tk, h1.trans (fr2.frM hG0)⟩
theorem take_eq (hG : G M) (hc : CI s M) {v : Int32} {M1 : m_M} (e : (x_cV 9 M 0 (F_X11_takeTape 0 M) fun v2 M1 => F_X7_read 31 v2 M1) = some (v, M1)) : F_X11_takeTape 0 M = some (nI s.1.1, m_sI M 0 1 (nI 0)) ∧ F_X7_read 31 (nI s.1.1) (m_sI M 0 1 (nI 0)) = some (v, M1) := by
  have K0 : m_K M 0 = 9 := by simp only [gK hG]
  have e' : F_X11_takeTape 0 M = some (nI s.1.1, m_sI M 0 1 (nI 0)) := by
    unfold F_X11_takeTape
    rw [x_gI_ok K0, hc.2.1.1, x_pI_ok K0]
    rfl
  rw [x_cV_ok K0 e'] at e
  exact ⟨e', e⟩
theorem dB_tk (hd : dB D s) : dB (D + 1000) (stTk s) := ⟨by have := hd.1; show s.2.2.1.1 ≤ D + 1000; omega, fun i hi b hb => by have := hd.2 i hi b hb; omega⟩
theorem R_ask (hd : dB D s) : RUN D s (F_X11_ask 0) (F_X12_ask 128) := by
  intro M h hk hN
  obtain ⟨hG, hp, hc, hm⟩ := h.split
  obtain ⟨o, o1, o2, o3⟩ := J_saying hp
  cases o with
  | inl k =>
    refine WO.run (s := s) ⟨nI k, stTk s, PI_tk hp, dB_tk hd, fun M hG hp hc hk hN => ?_, fun M hG hp hm => ?_⟩ M h hk hN
    · obtain ⟨v, M1, e, e1, e2⟩ := o2 M hG hc
      obtain ⟨t1, t2⟩ := take_eq hG hc e
      obtain ⟨a1, a2, a3, a4⟩ := C_flt hG hc hk e1
      have hG0 : G (m_sI M 0 1 (nI 0)) := hG
      have e2' : v = nI k := e2
      have hk0 : 0 < k ∧ k < 20000 := o1
      refine ⟨M1, ?_, a1, a2, a3, a4⟩
      unfold F_X11_ask
      rw [x_gN_ok (show m_K M 0 = 9 by simp only [gK hG]) (show m_R M 0 5 = some 31 by simp only [gR hG]), x_cV_ok (show m_K M 0 = 9 by simp only [gK hG]) t1, x_cV_ok (rd31 hG0).1.1 t2, e2', if_neg (nI_ne0 (by omega) (by omega))]
    · obtain ⟨v, M2, e, e1, e2, e3⟩ := o3 (m_sI M 128 0 (nI 0)) hG (hm.o8 (by omega) (by omega) (by omega) (by omega) (by omega))
      obtain ⟨a1, a2⟩ := M_flt hG hm e1
      refine ⟨M2, ?_, a1, a2⟩
      unfold F_X12_ask
      rw [x_pI_ok (by simp only [gK hG]), show (0 : Int32) = nI 0 from rfl, x_cV_ok (show m_K (m_sI M 128 0 (nI 0)) 128 = 10 from by simp only [mK_sI, gK hG]) e, e2, if_pos rfl, x_gI_ok (by simp only [gK a2.1]), e3]
  | inr f =>
    refine WO.run (s := s) ⟨nI 0, stAsk (stTk s) f, ?_, ?_, fun M hG hp hc hk hN => ?_, fun M hG hp hm => ?_⟩ M h hk hN
    · obtain ⟨p1, p2, p3, p4, p5⟩ := PI_tk hp
      exact ⟨p1, p2, p3, p4, p5⟩
    · exact dB_tk hd
    · obtain ⟨v, M1, e, e1, e2, e3, e4⟩ := o2 M hG hc
      rw [e2] at e
      exact C_ask hG hp hc hk o1.1 o1.2 hN e e1 e3 e4
    · obtain ⟨v, M2, e, e1, e2, e3, e4⟩ := o3 (m_sI M 128 0 (nI 0)) hG (hm.o8 (by omega) (by omega) (by omega) (by omega) (by omega))
      rw [e2] at e
      exact M_askF hG hp hm o1.1 o1.2 e e1 e3 e4
end ASK
