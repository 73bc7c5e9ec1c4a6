/-! order: both sides -/
section ORDER
variable {M M' : m_M} {s : St} {D : Nat}
theorem S_order81 (h : G M) {l : Ld} (ho : lOk l) {A : IA} (hl : LMi l A) {x : Int32} {n : Nat} (hn : n < 4) {k116 : Nat → Int32 → Int32 → m_M → Option (Int32 × m_M)} : ∀ (d k f : Nat) (B : Nat → Nat → Int64), k + d = 16 → d < f →
    ∃ B', F_X12_order_81 k116 f 128 x (nI n) NO (nI k) (m_w2 M A B) = k116 128 x (nI n) (m_w2 M A B') ∧ (∀ b, b ≠ 158 → B' b = B b) ∧ (∀ j, (j < 16 * n + k ∨ 16 * n + 16 ≤ j) → B' 158 j = B 158 j) ∧ ∀ j, k ≤ j → j < 16 → B' 158 (16 * n + j) = wlL (wN l) j := by
  have K0 : ∀ A B, m_K (m_w2 M A B) 128 = 10 := fun A B => by simp only [w2_K, gK h]
  have R48 : ∀ A B, m_R (m_w2 M A B) 128 48 = some 158 := fun A B => by simp only [w2_R, gR h]
  have K158 : ∀ A B, m_K (m_w2 M A B) 158 = 13 := fun A B => by simp only [w2_K, gK h]
  have L158 : ∀ A B, m_len (m_w2 M A B) 158 = 1088 := fun A B => by simp only [w2_n, gl h]
  intro d
  induction d with
  | zero =>
    intro k f B hk hf
    obtain ⟨f, rfl⟩ : ∃ f', f = f' + 1 := ⟨f - 1, by omega⟩
    refine ⟨B, ?_, fun _ _ => rfl, fun _ _ => rfl, fun j h1 h2 => absurd h1 (by omega)⟩
    rw [F_X12_order_81, if_pos (show (16 : Int32) ≤ nI k from nI_le (a := 16) (by omega) (by omega))]
  | succ d ih =>
    intro k f B hk hf
    obtain ⟨f, rfl⟩ : ∃ f', f = f' + 1 := ⟨f - 1, by omega⟩
    obtain ⟨B', e, e1, e2, e3⟩ := ih (k + 1) f (upB B 158 (16 * n + k) (wlL (wN l) k)) (by omega) (by omega)
    refine ⟨B', ?_, fun b hb => by rw [e1 b hb, upB_fr hb], fun j hj => ?_, fun j h1 h2 => ?_⟩
    · rw [F_X12_order_81, if_neg (show ¬ (16 : Int32) ≤ nI k from nI_ge (b := 16) (by omega) (by omega)), if_neg (by decide), x_gN_ok (K0 _ _) (R48 _ _), x_cV_ok (K0 _ _) (S_allOf (M := m_w2 M A B) h hl ho (k := k) (by omega)), show (16 : Int32) = nI 16 from rfl, nI_mul, nI_add, x_sL_ok (K158 _ _) (by rw [L158]; omega) (by omega), w2_sL, m_let_eq, nI_1]
      exact e
    · rw [e2 j (by omega), upB_at, if_neg (by omega)]
    · by_cases z : j = k
      · rw [z, e2 _ (by omega), upB_at, if_pos ⟨rfl, rfl⟩]
      · exact e3 j (by omega) h2
theorem M_orderF (hG : G M) (hp : PI s) (hm : MI s M) (hu : s.2.2.2.1.1 ≤ 12) {f : Fm} {M2 : m_M} (hf : f.2 < 1000) (hok : fRok s.2.1 f.1 f.2 0 0) (e : F_X12_readsSaying 128 (m_sI M 128 0 (nI 0)) = some (nI 1, M2)) (fr2 : msF (m_sI (m_sI M 128 0 (nI 0)) 128 1 (nI 0)) M2) (h39 : m_I M2 128 39 = nI f.2) (hpt : ∀ i, i < f.2 → m_I M2 153 i = nI (f.1 i)) {d : Nat} (hd1 : 1 ≤ d) (hd99 : d ≤ 99) (h4 : s.2.2.1.2.1.2.1 < 4) : ∃ M', F_X12_order 128 (nI d) M = some (nI 0, M') ∧ MI (stTell (stTk s) (adO s.2.2.1.2.1 (s.2.2.1.1, s.2.2.1.1 + d, f))) M' ∧ frM M M' := by
  have ho : lOk s.2.1 := hp.1
  have b3 := ho.2.2.2.1
  have hday : s.2.2.1.1 < 900000 := hp.2.2.1.1
  obtain ⟨hm2, f0⟩ := M_flt hG hm fr2
  have hG2 := f0.1
  have K0 : ∀ A B, m_K (m_w2 M2 A B) 128 = 10 := fun A B => by simp only [w2_K, gK hG2]
  have K0' : m_K M2 128 = 10 := by simp only [gK hG2]
  have R48 : ∀ A B, m_R (m_w2 M2 A B) 128 48 = some 158 := fun A B => by simp only [w2_R, gR hG2]
  have R49 : ∀ A B, m_R (m_w2 M2 A B) 128 49 = some 159 := fun A B => by simp only [w2_R, gR hG2]
  have R50 : ∀ A B, m_R (m_w2 M2 A B) 128 50 = some 160 := fun A B => by simp only [w2_R, gR hG2]
  have R51 : ∀ A B, m_R (m_w2 M2 A B) 128 51 = some 161 := fun A B => by simp only [w2_R, gR hG2]
  have R51' : m_R M2 128 51 = some 161 := by simp only [gR hG2]
  have K160 : ∀ A B, m_K (m_w2 M2 A B) 160 = 12 := fun A B => by simp only [w2_K, gK hG2]
  have L160 : ∀ A B, m_len (m_w2 M2 A B) 160 = 68 := fun A B => by simp only [w2_n, gl hG2]
  have K161 : ∀ A B, m_K (m_w2 M2 A B) 161 = 12 := fun A B => by simp only [w2_K, gK hG2]
  have L161 : ∀ A B, m_len (m_w2 M2 A B) 161 = 34 := fun A B => by simp only [w2_n, gl hG2]
  have K161' : m_K M2 161 = 12 := by simp only [gK hG2]
  have L161' : m_len M2 161 = 34 := by simp only [gl hG2]
  have K158 : m_K M2 158 = 13 := by simp only [gK hG2]
  have L158 : m_len M2 158 = 1088 := by simp only [gl hG2]
  have K159 : m_K M2 159 = 13 := by simp only [gK hG2]
  have L159 : m_len M2 159 = 1088 := by simp only [gl hG2]
  have hm2' := hm2
  obtain ⟨⟨m0, m1⟩, ⟨m2, m3⟩, ⟨⟨m4, m4', m4''⟩, m5⟩, ⟨m6, m7⟩, m8⟩ := hm2'
  have m5' : m_I M2 128 53 = nI s.2.2.1.1 := m5
  have m4c : m_I M2 161 1 = nI s.2.2.1.2.1.2.1 := m4.2.1.2
  obtain ⟨A1, B1, k1, k2, k3, k4, k5, k6, k7⟩ := S_keeps hG2 (A := m_I M2) (B := m_L M2) (u := s.2.2.2.1) (now := s.2.2.1.2.1) (l := s.2.1) hu m6 m4 m7
  rw [w2_0] at k1
  have t0 : TlM s.2.1 s.2.2.1.2.1 0 A1 B1 := k4 0 _ (by omega) m4
  have c0 : A1 161 1 = nI s.2.2.1.2.1.2.1 := t0.2.1.2
  have l1 : LMi s.2.1 A1 := m0.cong (fun a h1 h2 => k5 a (by omega) (by omega) (by omega) (by omega)) (k6 42 (by omega)) (k6 43 (by omega))
  have a153 : A1 153 = m_I M2 153 := k5 153 (by omega) (by omega) (by omega) (by omega)
  have d1 : A1 128 53 = nI s.2.2.1.1 := by rw [k6 53 (by omega)]; exact m5'
  obtain ⟨A2, B2, e2, g1, g2, g3, g4⟩ := S_laysMeant hG2 ho (A := A1) (B := B1) (row := 158) (at0 := 16 * s.2.2.1.2.1.2.1) (v := vOf s.2.1 (s.2.2.1.1 + d)) (vOf_in ho _) (by omega) l1 (by rw [k6 39 (by omega)]; exact h39) (by rw [a153]; exact hpt) hok K158 L158 (by omega) (by omega)
  have l2 : LMi s.2.1 A2 := l1.fr g1
  -- the loop that lays all worlds of a silent day
  have loop : ∀ k116 : Nat → Int32 → Int32 → m_M → Option (Int32 × m_M), ∃ B3, F_X12_order_81 k116 m_FU 128 (nI d) (nI s.2.2.1.2.1.2.1) (iO (vOf s.2.1 (s.2.2.1.1 + d))) (nI 0) (m_w2 M2 A2 B2) = k116 128 (nI d) (nI s.2.2.1.2.1.2.1) (m_w2 M2 A2 B3) ∧ (∀ b, b ≠ 158 → B3 b = B1 b) ∧ (∀ j, (j < 16 * s.2.2.1.2.1.2.1 ∨ 16 * s.2.2.1.2.1.2.1 + 16 ≤ j) → B3 158 j = B1 158 j) ∧ Rw (wN s.2.1) (bdS s.2.1 (s.2.2.1.1, s.2.2.1.1 + d, f)) (fun k => B3 158 (16 * s.2.2.1.2.1.2.1 + k)) := by
    intro k116
    cases hv : vOf s.2.1 (s.2.2.1.1 + d) with
    | none =>
      obtain ⟨B3, x1, x2, x3, x4⟩ := S_order81 hG2 ho l2 (x := nI d) h4 (k116 := k116) 16 0 m_FU B2 (by omega) (m_FU_lt (by omega))
      refine ⟨B3, x1, fun b hb => by rw [x2 b hb, g2 b hb], fun j hj => by rw [x3 j (by omega), g3 j (by omega)], ?_⟩
      have e2 : bdS s.2.1 (s.2.2.1.1, s.2.2.1.1 + d, f) = fun _ => true := by
        funext w
        unfold bdS
        dsimp only
        rw [hv]
      rw [e2]
      exact (Rw.whole (wN s.2.1)).of (fun k hk => x4 k (by omega) hk)
    | some v =>
      have hvl := vOf_in ho (s.2.2.1.1 + d) v hv
      refine ⟨B2, ?_, g2, g3, ?_⟩
      · obtain ⟨fu, hfu⟩ : ∃ f', m_FU = f' + 1 := ⟨m_FU - 1, by unfold m_FU; rfl⟩
        rw [hfu, F_X12_order_81, if_neg (by decide), if_pos (show (0 : Int32) ≤ iO (some v) from nI_pos' (by omega))]
      · have e2 : bdS s.2.1 (s.2.2.1.1, s.2.2.1.1 + d, f) = fMn s.2.1 (vOf s.2.1 (s.2.2.1.1 + d)) f.1 f.2 := by
          funext w
          unfold bdS
          dsimp only
          rw [hv]
        rw [e2]
        exact g4
  have ns : ∀ a, (a < 143 ∨ 155 < a) → A2 a = A1 a := fun a ha => g1 a (by unfold scr; omega)
  have key : ∀ B3 : Nat → Nat → Int64, (∀ b, b ≠ 158 → B3 b = B1 b) → (∀ j, (j < 16 * s.2.2.1.2.1.2.1 ∨ 16 * s.2.2.1.2.1.2.1 + 16 ≤ j) → B3 158 j = B1 158 j) → Rw (wN s.2.1) (bdS s.2.1 (s.2.2.1.1, s.2.2.1.1 + d, f)) (fun k => B3 158 (16 * s.2.2.1.2.1.2.1 + k)) → ∃ M', (x_gI 10 (m_w2 M2 A2 B3) 128 53 fun v13 =>
    x_cV 10 (m_w2 M2 A2 B3) 128 (F_X12_verbOf 128 v13 (m_w2 M2 A2 B3)) fun v14 M8 =>
    x_gN 10 M8 128 49 fun v15 =>
    x_cV 10 M8 128 (F_X12_laysMeant 128 v14 v15 ((16 : Int32) * nI s.2.2.1.2.1.2.1) M8) fun _ M9 =>
    x_gN 10 M9 128 50 fun v16 =>
    x_gI 10 M9 128 53 fun v17 =>
    x_sI 12 M9 v16 (nI s.2.2.1.2.1.2.1) (v17 + nI d) fun M10 =>
    x_gN 10 M10 128 51 fun v18 =>
    x_aI 12 M10 v18 (1 : Int32) fun v19 =>
    x_sI 12 M10 v18 (1 : Int32) (v19 + (1 : Int32)) fun M11 =>
    some ((0 : Int32), M11)) = some (nI 0, M') ∧ MI (stTell (stTk s) (adO s.2.2.1.2.1 (s.2.2.1.1, s.2.2.1.1 + d, f))) M' ∧ frM M M' := by
    intro B3 y2 y3 y4
    obtain ⟨A4, B4, e4, z1, z2, z3, z4⟩ := S_laysMeant hG2 ho (A := A2) (B := B3) (row := 159) (at0 := 16 * s.2.2.1.2.1.2.1) (v := vOf s.2.1 s.2.2.1.1) (vOf_in ho _) (by omega) l2 (by rw [ns 128 (by omega), k6 39 (by omega)]; exact h39) (by rw [g1 153 (by unfold scr; omega), a153]; exact hpt) hok K159 L159 (by omega) (by omega)
    have ns4 : ∀ a, (a < 143 ∨ 155 < a) → A4 a = A1 a := fun a ha => by rw [z1 a (by unfold scr; omega), ns a ha]
    have sA : ∀ a, a ≠ 160 → a ≠ 161 → m_up (m_up A4 160 s.2.2.1.2.1.2.1 (nI (s.2.2.1.1 + d))) 161 1 (nI (s.2.2.1.2.1.2.1 + 1)) a = A4 a := fun a h1 h2 => by rw [up_fr h2, up_fr h1]
    have r161 : ∀ j, j ≠ 1 → m_up (m_up A4 160 s.2.2.1.2.1.2.1 (nI (s.2.2.1.1 + d))) 161 1 (nI (s.2.2.1.2.1.2.1 + 1)) 161 j = A1 161 j := fun j hj => by rw [up_at, if_neg (fun z => hj z.2), up_fr (by omega), ns4 161 (by omega)]
    have r160 : ∀ j, j ≠ s.2.2.1.2.1.2.1 → m_up (m_up A4 160 s.2.2.1.2.1.2.1 (nI (s.2.2.1.1 + d))) 161 1 (nI (s.2.2.1.2.1.2.1 + 1)) 160 j = A1 160 j := fun j hj => by rw [up_fr (by omega), up_at, if_neg (fun z => hj z.2), ns4 160 (by omega)]
    have far : ∀ {t : Tl} {r : Nat}, 0 < r → TlM s.2.1 t r A1 B1 → TlM s.2.1 t r (m_up (m_up A4 160 s.2.2.1.2.1.2.1 (nI (s.2.2.1.1 + d))) 161 1 (nI (s.2.2.1.2.1.2.1 + 1))) B4 := fun {t r} hr ht => ht.far hr (fun j hj => r161 j (by omega)) (fun j hj => by rw [sA 157 (by omega) (by omega), ns4 157 (by omega)]) (fun j hj => r160 j (by omega)) (fun j hj => by rw [z2 156 (by omega), y2 156 (by omega)]) (fun j hj => by rw [z2 158 (by omega), y3 j (by omega)]) (fun j hj => by rw [z3 j (by omega), y2 159 (by omega)])
    have near : TlM s.2.1 (adO s.2.2.1.2.1 (s.2.2.1.1, s.2.2.1.1 + d, f)) 0 (m_up (m_up A4 160 s.2.2.1.2.1.2.1 (nI (s.2.2.1.1 + d))) 161 1 (nI (s.2.2.1.2.1.2.1 + 1))) B4 := t0.ado h4 ⟨by rw [up_at, if_pos ⟨rfl, rfl⟩], r161 0 (by omega)⟩ (by rw [sA 157 (by omega) (by omega), ns4 157 (by omega)]) ⟨by rw [up_fr (by omega), up_at, if_pos ⟨rfl, rfl⟩], fun j hj => r160 j (by omega)⟩ (by rw [z2 156 (by omega), y2 156 (by omega)]) ⟨fun j hj => by rw [z2 158 (by omega), y3 j (by omega)], by rw [z2 158 (by omega)]; exact y4⟩ ⟨fun j hj => by rw [z3 j (by omega), y2 159 (by omega)], z4⟩
    refine ⟨m_w2 M2 (m_up (m_up A4 160 s.2.2.1.2.1.2.1 (nI (s.2.2.1.1 + d))) 161 1 (nI (s.2.2.1.2.1.2.1 + 1))) B4, ?_, MI_tell hm2 ?_ (fun j hj => far (by omega) (k3 j hj)) near (fun r t h1 h2 ht => far h1 (k4 r t h2 ht)) (fun a h1 h2 h3 h4 h5 => ?_) (fun j hj => ?_) (fun a h1 h2 h3 h4 h5 => ?_), f0.trans (frM_w2 hG2 (fun a ha => ⟨?_, ?_⟩))⟩
    · have dA2 : A2 128 53 = nI s.2.2.1.1 := by rw [ns 128 (by omega)]; exact d1
      have dA4 : A4 128 53 = nI s.2.2.1.1 := by rw [ns4 128 (by omega)]; exact d1
      have ev1 : F_X12_verbOf 128 (nI s.2.2.1.1) (m_w2 M2 A2 B3) = some (iO (vOf s.2.1 s.2.2.1.1), m_w2 M2 A2 B3) := S_verbOfM (M := m_w2 M2 A2 B3) hG2 l2 ho (by omega)
      have p161 : m_up A4 160 s.2.2.1.2.1.2.1 (nI (s.2.2.1.1 + d)) 161 1 = nI s.2.2.1.2.1.2.1 := by rw [up_fr (by omega), ns4 161 (by omega)]; exact c0
      rw [x_gI_ok (K0 _ _), w2_I, dA2, x_cV_ok (K0 _ _) ev1, x_gN_ok (K0 _ _) (R49 _ _), show (16 : Int32) = nI 16 from rfl, nI_mul, x_cV_ok (K0 _ _) e4, x_gN_ok (K0 _ _) (R50 _ _), x_gI_ok (K0 _ _), w2_I, dA4, nI_add, x_sI_ok (K160 _ _) (by rw [L160]; omega) (by omega), w2_sI, x_gN_ok (K0 _ _) (R51 _ _), show (1 : Int32) = nI 1 from rfl, x_aI_ok (K161 _ _) (by rw [L161]; omega) (by omega), w2_I, p161, nI_add, x_sI_ok (K161 _ _) (by rw [L161]; omega) (by omega), w2_sI]
      rfl
    · rw [sA 128 (by omega) (by omega), ns4 128 (by omega)]; exact k2
    · rw [sA a h3 h4, z1 a h5, g1 a h5]; exact k5 a (by omega) h2 h3 h4
    · rw [sA 128 (by omega) (by omega), ns4 128 (by omega), k6 j (by omega)]
    · rw [z2 a h4, y2 a h3, k7 a h2 h3 h4]
    · by_cases q : a = 128
      · omega
      · rw [sA a (by omega) (by omega), ns4 a (by omega)]; exact k5 a q (by omega) (by omega) (by omega)
    · rw [z2 a (by omega), y2 a (by omega), k7 a (by omega) (by omega) (by omega)]
  obtain ⟨B3, y1, y2, y3, y4⟩ := loop (fun (v10 : Nat) (v11 : Int32) (v12 : Int32) (M7 : m_M) =>
    x_gI 10 M7 v10 53 fun v13 =>
    x_cV 10 M7 v10 (F_X12_verbOf v10 v13 M7) fun v14 M8 =>
    x_gN 10 M8 v10 49 fun v15 =>
    x_cV 10 M8 v10 (F_X12_laysMeant v10 v14 v15 ((16 : Int32) * v12) M8) fun _ M9 =>
    x_gN 10 M9 v10 50 fun v16 =>
    x_gI 10 M9 v10 53 fun v17 =>
    x_sI 12 M9 v16 v12 (v17 + v11) fun M10 =>
    x_gN 10 M10 v10 51 fun v18 =>
    x_aI 12 M10 v18 (1 : Int32) fun v19 =>
    x_sI 12 M10 v18 (1 : Int32) (v19 + (1 : Int32)) fun M11 =>
    some ((0 : Int32), M11))
  obtain ⟨M', q1, q2, q3⟩ := key B3 y2 y3 y4
  refine ⟨M', ?_, q2, q3⟩
  have ev : F_X12_verbOf 128 (nI (s.2.2.1.1 + d)) (m_w2 M2 A1 B1) = some (iO (vOf s.2.1 (s.2.2.1.1 + d)), m_w2 M2 A1 B1) := S_verbOfM (M := m_w2 M2 A1 B1) hG2 l1 ho (by omega)
  have w : F_X12_within (nI d) (1 : Int32) (99 : Int32) M2 = some (nI 1, M2) := by
    have w0 := S_within (M := M2) (k := d) (a := 1) (b := 99) (by omega) (by omega) (by omega)
    rw [decide_eq_true hd1, decide_eq_true hd99] at w0
    exact w0
  unfold F_X12_order
  rw [x_pI_ok (by simp only [gK hG]), show (0 : Int32) = nI 0 from rfl, x_cV_ok (show m_K (m_sI M 128 0 (nI 0)) 128 = 10 from by simp only [mK_sI, gK hG]) e, if_neg (by decide), x_bd_ok w, if_neg (by decide), x_gN_ok K0' R51', show (1 : Int32) = nI 1 from rfl, x_aI_ok K161' (by rw [L161']; omega) (by omega), m4c, if_neg (show ¬ nI s.2.2.1.2.1.2.1 = (4 : Int32) from fun z => by have := (nI_eq (b := 4) (by omega) (by omega)).mp z; omega), x_cV_ok K0' k1, x_gN_ok (K0 _ _) (R51 _ _), x_aI_ok (K161 _ _) (by rw [L161]; omega) (by omega), w2_I, c0, x_gI_ok (K0 _ _), w2_I, d1, nI_add, x_cV_ok (K0 _ _) ev, x_gN_ok (K0 _ _) (R48 _ _), show (16 : Int32) = nI 16 from rfl, nI_mul, x_cV_ok (K0 _ _) e2, m_let_eq]
  exact y1.trans q1
theorem R_order (hd : dB D s) (x : Int32) : RUN D s (F_X11_order 0 x) (F_X12_order 128 x) := by
  intro M h hk hN
  obtain ⟨hG, hp, hc, hm⟩ := h.split
  have hu := hc.2.2.2.1.1
  have hb4 := hm.2.2.1.1.1.1.2
  have ho : lOk s.2.1 := hp.1
  have hday : s.2.2.1.1 < 900000 := hp.2.2.1.1
  obtain ⟨o, o1, o2, o3⟩ := J_saying hp
  have K0 : ∀ {M : m_M}, G M → m_K M 0 = 9 := fun hG => by simp only [gK hG]
  have R5 : ∀ {M : m_M}, G M → m_R M 0 5 = some 31 := fun hG => by simp only [gR hG]
  have R9 : ∀ {M : m_M}, G M → m_R M 0 9 = some 80 := fun hG => by simp only [gR hG]
  have K80 : ∀ {M : m_M}, G M → m_K M 80 = 1 := fun hG => by simp only [gK hG]
  have K128 : ∀ {M : m_M}, G M → m_K M 128 = 10 := fun hG => by simp only [gK hG]
  have hm0 : ∀ {M : m_M}, MI s M → MI s (m_sI M 128 0 (nI 0)) := fun hm => hm.o8 (by omega) (by omega) (by omega) (by omega) (by omega)
  cases o with
  | inl k =>
    have hk0 : 0 < k ∧ k < 20000 := o1
    refine WO.run (s := s) ⟨nI k, stTk s, PI_tk hp, dB_tk hd, fun M hG hp hc hk hN => ?_, fun M hG hp hm => ?_⟩ M h hk hN
    · obtain ⟨v, M1, e, e1, e2⟩ := o2 M hG hc
      obtain ⟨t1, t2⟩ := take_eq hG hc e
      obtain ⟨a1, a2, a3, a4⟩ := C_flt hG hc hk e1
      have hG0 : G (m_sI M 0 1 (nI 0)) := hG
      have e2' : v = nI k := e2
      refine ⟨M1, ?_, a1, a2, a3, a4⟩
      unfold F_X11_order
      rw [x_gN_ok (K0 hG) (R5 hG), x_cV_ok (K0 hG) t1, x_cV_ok (rd31 hG0).1.1 t2, e2', if_neg (nI_ne0 (by omega) (by omega))]
    · obtain ⟨v, M2, e, e1, e2, e3⟩ := o3 (m_sI M 128 0 (nI 0)) hG (hm0 hm)
      obtain ⟨a1, a2⟩ := M_flt hG hm e1
      refine ⟨M2, ?_, a1, a2⟩
      unfold F_X12_order
      rw [x_pI_ok (K128 hG), show (0 : Int32) = nI 0 from rfl, x_cV_ok (show m_K (m_sI M 128 0 (nI 0)) 128 = 10 from K128 hG) e, e2, if_pos rfl, x_gI_ok (K128 a2.1), e3]
  | inr f =>
    obtain ⟨f1, f2⟩ := o1
    -- days that are none
    have bad : ∀ v : Int32, (∀ M2 : m_M, G M2 → MI (stTk s) M2 → ∀ g : Int32 → m_M → Option (Int32 × m_M), x_bd (F_X12_within x (1 : Int32) (99 : Int32) M2) g = g (nI 0) M2) → ((x < (1 : Int32)) ∨ (¬ x < (1 : Int32) ∧ ¬ x ≤ (99 : Int32))) → v = -2 → RUN D s (F_X11_order 0 x) (F_X12_order 128 x) := by
      intro v hw hx hv
      refine WO.run (s := s) ⟨-2, stTk s, PI_tk hp, dB_tk hd, fun M hG hp hc hk hN => ?_, fun M hG hp hm => ?_⟩
      · obtain ⟨v, M1, e, e1, e2, _⟩ := o2 M hG hc
        obtain ⟨t1, t2⟩ := take_eq hG hc e
        obtain ⟨a1, a2, a3, a4⟩ := C_flt hG hc hk e1
        have hG0 : G (m_sI M 0 1 (nI 0)) := hG
        refine ⟨M1, ?_, a1, a2, a3, a4⟩
        unfold F_X11_order
        rw [x_gN_ok (K0 hG) (R5 hG), x_cV_ok (K0 hG) t1, x_cV_ok (rd31 hG0).1.1 t2, e2, if_pos (by decide)]
        rcases hx with hx | ⟨hx1, hx2⟩
        · rw [if_pos hx]
        · rw [if_neg hx1, if_neg hx2]
      · obtain ⟨v, M2, e, e1, e2, _⟩ := o3 (m_sI M 128 0 (nI 0)) hG (hm0 hm)
        obtain ⟨a1, a2⟩ := M_flt hG hm e1
        refine ⟨M2, ?_, a1, a2⟩
        unfold F_X12_order
        rw [x_pI_ok (K128 hG), show (0 : Int32) = nI 0 from rfl, x_cV_ok (show m_K (m_sI M 128 0 (nI 0)) 128 = 10 from K128 hG) e, e2, if_neg (by decide), hw M2 a2.1 a1, if_pos rfl]
    rcases i_cases x with ⟨d, hd2, rfl⟩ | hx
    · by_cases q1 : 1 ≤ d
      · by_cases q99 : d ≤ 99
        · by_cases q : s.2.2.1.2.1.2.1 < 4
          · refine WO.run (s := s) ⟨nI 0, stTell (stTk s) (adO s.2.2.1.2.1 (s.2.2.1.1, s.2.2.1.1 + d, f)), ?_, dB_tk hd, fun M hG hp hc hk hN => ?_, fun M hG hp hm => ?_⟩ M h hk hN
            · refine PI_tell (PI_tk hp) ⟨hp.2.2.1.2.1.1, fun i hi => ?_⟩
              have hi' : i < s.2.2.1.2.1.2.1 + 1 := hi
              show (if i = s.2.2.1.2.1.2.1 then (s.2.2.1.1, s.2.2.1.1 + d, f) else s.2.2.1.2.1.2.2 i).1 < 1000000 ∧ (if i = s.2.2.1.2.1.2.1 then (s.2.2.1.1, s.2.2.1.1 + d, f) else s.2.2.1.2.1.2.2 i).2.1 < 1000000
              by_cases z : i = s.2.2.1.2.1.2.1
              · rw [if_pos z]; exact ⟨by show s.2.2.1.1 < _; omega, by show s.2.2.1.1 + d < _; omega⟩
              · rw [if_neg z]; exact hp.2.2.1.2.1.2 i (by omega)
            · obtain ⟨w, M1, e, e1, e2, e3, e4⟩ := o2 M hG hc
              obtain ⟨t1, t2⟩ := take_eq hG hc e
              obtain ⟨a1, a2, a3, a4⟩ := C_flt hG hc hk e1
              have hG0 : G (m_sI M 0 1 (nI 0)) := hG
              have n1 := N_tk e1
              obtain ⟨M4, g1, g2, g3⟩ := S_sayingFor a2.1 a1 ho (f := f) (by omega) e3 e4 f1 f2 (day := s.2.2.1.1 + d) (by omega)
              have hG4 := g2.g a2.1
              obtain ⟨M5, p1, p2, p3, p4, p5⟩ := C_keep hG4 (g2.ci a2.1 a1) (g2.refK a2.1 a4) g3 q
              have i1 : m_I M1 80 2 = nI s.2.2.1.2.1.2.1 := a1.2.2.1.2.1.2.1.2
              have i0 : m_I M1 80 0 = nI s.2.2.1.1 := a1.2.2.1.1
              refine ⟨M5, ?_, p2, ⟨p3.1, fun a h1 h2 => ?_⟩, ?_, p5⟩
              · unfold F_X11_order
                rw [x_gN_ok (K0 hG) (R5 hG), x_cV_ok (K0 hG) t1, x_cV_ok (rd31 hG0).1.1 t2, e2, if_pos (by decide), if_neg (show ¬ nI d < (1 : Int32) from nI_nlt (b := 1) q1 (by omega)), if_pos (show nI d ≤ (99 : Int32) from nI_le (b := 99) q99 (by omega)), x_gN_ok (K0 a2.1) (R9 a2.1), x_gI_ok (K80 a2.1), i1, if_pos (show nI s.2.2.1.2.1.2.1 < (4 : Int32) from nI_lt (b := 4) q (by omega)), x_gN_ok (K0 a2.1) (R9 a2.1), x_gN_ok (K0 a2.1) (R9 a2.1), x_gI_ok (K80 a2.1), i0, nI_add, x_cV_ok (K0 a2.1) g1, x_cV_ok (K80 hG4) p1]
                rfl
              · have w1 := a2.2 a h1 h2
                have w2 := (g2.frC a2.1).2 a h1 h2
                have w3 := p3.2 a h1 h2
                exact ⟨w3.1.trans (w2.1.trans w1.1), w3.2.trans (w2.2.trans w1.2)⟩
              · rw [p4, g2.1, n1]; omega
            · obtain ⟨w, M2, e, e1, e2, e3, e4⟩ := o3 (m_sI M 128 0 (nI 0)) hG (hm0 hm)
              rw [e2] at e
              exact M_orderF hG hp hm hu f1 f2 e e1 e3 e4 q1 q99 q
          · have q4 : s.2.2.1.2.1.2.1 = 4 := by omega
            refine WO.run (s := s) ⟨-3, stTk s, PI_tk hp, dB_tk hd, fun M hG hp hc hk hN => ?_, fun M hG hp hm => ?_⟩ M h hk hN
            · obtain ⟨w, M1, e, e1, e2, _⟩ := o2 M hG hc
              obtain ⟨t1, t2⟩ := take_eq hG hc e
              obtain ⟨a1, a2, a3, a4⟩ := C_flt hG hc hk e1
              have hG0 : G (m_sI M 0 1 (nI 0)) := hG
              have i1 : m_I M1 80 2 = nI s.2.2.1.2.1.2.1 := a1.2.2.1.2.1.2.1.2
              refine ⟨M1, ?_, a1, a2, a3, a4⟩
              unfold F_X11_order
              rw [x_gN_ok (K0 hG) (R5 hG), x_cV_ok (K0 hG) t1, x_cV_ok (rd31 hG0).1.1 t2, e2, if_pos (by decide), if_neg (show ¬ nI d < (1 : Int32) from nI_nlt (b := 1) q1 (by omega)), if_pos (show nI d ≤ (99 : Int32) from nI_le (b := 99) q99 (by omega)), x_gN_ok (K0 a2.1) (R9 a2.1), x_gI_ok (K80 a2.1), i1, q4, if_neg (by decide)]
            · obtain ⟨w, M2, e, e1, e2, _⟩ := o3 (m_sI M 128 0 (nI 0)) hG (hm0 hm)
              obtain ⟨a1, a2⟩ := M_flt hG hm e1
              have i1 : m_I M2 161 1 = nI s.2.2.1.2.1.2.1 := a1.2.2.1.1.1.2.1.2
              have w0 := S_within (M := M2) (k := d) (a := 1) (b := 99) (by omega) (by omega) (by omega)
              rw [decide_eq_true q1, decide_eq_true q99] at w0
              have w' : F_X12_within (nI d) (1 : Int32) (99 : Int32) M2 = some (nI 1, M2) := w0
              refine ⟨M2, ?_, a1, a2⟩
              unfold F_X12_order
              rw [x_pI_ok (K128 hG), show (0 : Int32) = nI 0 from rfl, x_cV_ok (show m_K (m_sI M 128 0 (nI 0)) 128 = 10 from K128 hG) e, e2, if_neg (by decide), x_bd_ok w', if_neg (by decide), x_gN_ok (K128 a2.1) (show m_R M2 128 51 = some 161 by simp only [gR a2.1]), show x_aI 12 M2 161 (1 : Int32) = x_aI 12 M2 161 (nI 1) from rfl, x_aI_ok (show m_K M2 161 = 12 by simp only [gK a2.1]) (show 1 < m_len M2 161 by simp only [gl a2.1]; omega) (by omega), i1, q4, if_pos (by decide)]
        · refine bad (-2) (fun M2 _ _ g => ?_) (.inr ⟨show ¬ nI d < (1 : Int32) from nI_nlt (b := 1) q1 (by omega), show ¬ nI d ≤ (99 : Int32) from nI_ge (a := 99) (by omega) (by omega)⟩) rfl M h hk hN
          have w0 := S_within (M := M2) (k := d) (a := 1) (b := 99) (by omega) (by omega) (by omega)
          rw [decide_eq_false q99, Bool.and_false] at w0
          have w' : F_X12_within (nI d) (1 : Int32) (99 : Int32) M2 = some (nI 0, M2) := w0
          rw [x_bd_ok w']
      · refine bad (-2) (fun M2 _ _ g => ?_) (.inl (show nI d < (1 : Int32) from nI_lt (b := 1) (by omega) (by omega))) rfl M h hk hN
        have w0 := S_within (M := M2) (k := d) (a := 1) (b := 99) (by omega) (by omega) (by omega)
        rw [decide_eq_false q1, Bool.false_and] at w0
        have w' : F_X12_within (nI d) (1 : Int32) (99 : Int32) M2 = some (nI 0, M2) := w0
        rw [x_bd_ok w']
    · refine bad (-2) (fun M2 _ _ g => ?_) (.inl (Int32.lt_trans hx (by decide))) rfl M h hk hN
      have w' : F_X12_within x (1 : Int32) (99 : Int32) M2 = some (nI 0, M2) := S_within_neg (a := 1) hx (by omega)
      rw [x_bd_ok w']
end ORDER
