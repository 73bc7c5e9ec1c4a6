/-! mark, the model's side -/
section MMARK
variable {M M' : m_M} {s : St} {D : Nat}
theorem S_rest47 (h : G M) {k81 : Nat → Int32 → Int32 → m_M → Option (Unit × m_M)} {r q : Nat} (hr : r < 5) (hq : q < 5) (hne : r ≠ q) {B : Nat → Nat → Int64} : ∀ (d k f : Nat) (A : IA), k + d = 20 → d < f →
    ∃ A', F_X12_laysRest_47 k81 f 128 (nI r) (nI q) (nI k) (m_w2 M A B) = k81 128 (nI r) (nI q) (m_w2 M A' B) ∧ (∀ a, a ≠ 166 → A' a = A a) ∧ (∀ j, (j < 20 * q + k ∨ 20 * q + 20 ≤ j) → A' 166 j = A 166 j) ∧ ∀ j, k ≤ j → j < 20 → A' 166 (20 * q + j) = vp_nar .boolean (A 166 (20 * r + j)) := by
  have K0 : ∀ A B, m_K (m_w2 M A B) 128 = 10 := fun A B => by simp only [w2_K, gK h]
  have R58 : ∀ A B, m_R (m_w2 M A B) 128 58 = some 166 := fun A B => by simp only [w2_R, gR h]
  have K166 : ∀ A B, m_K (m_w2 M A B) 166 = 14 := fun A B => by simp only [w2_K, gK h]
  have L166 : ∀ A B, m_len (m_w2 M A B) 166 = 100 := fun A B => by simp only [w2_n, gl h]
  intro d
  induction d with
  | zero =>
    intro k f A hk hf
    obtain ⟨f, rfl⟩ : ∃ f', f = f' + 1 := ⟨f - 1, by omega⟩
    refine ⟨A, ?_, fun _ _ => rfl, fun _ _ => rfl, fun j h1 h2 => absurd h1 (by omega)⟩
    rw [F_X12_laysRest_47, if_pos (show (20 : Int32) ≤ nI k from nI_le (a := 20) (by omega) (by omega))]
  | succ d ih =>
    intro k f A hk hf
    obtain ⟨f, rfl⟩ : ∃ f', f = f' + 1 := ⟨f - 1, by omega⟩
    obtain ⟨A', e, e1, e2, e3⟩ := ih (k + 1) f (m_up A 166 (20 * q + k) (vp_nar .boolean (A 166 (20 * r + k)))) (by omega) (by omega)
    refine ⟨A', ?_, fun a ha => by rw [e1 a ha, up_fr ha], fun j hj => ?_, fun j h1 h2 => ?_⟩
    · rw [F_X12_laysRest_47, if_neg (show ¬ (20 : Int32) ≤ nI k from nI_ge (b := 20) (by omega) (by omega)), x_gN_ok (K0 _ _) (R58 _ _), x_gN_ok (K0 _ _) (R58 _ _), show (20 : Int32) = nI 20 from rfl, nI_mul, nI_add, x_aI_ok (K166 _ _) (by rw [L166]; omega) (by omega), nI_mul, nI_add, x_sI_ok (K166 _ _) (by rw [L166]; omega) (by omega), w2_I, w2_sI, m_let_eq, nI_1]
      exact e
    · rw [e2 j (by omega), up_at, if_neg (by omega)]
    · by_cases z : j = k
      · rw [z, e2 _ (by omega), up_at, if_pos ⟨rfl, rfl⟩]
      · rw [e3 j (by omega) h2, up_at, if_neg (by omega)]
theorem bI_nar (b : Bool) : vp_nar .boolean (bI b) = bI b := by
  cases b <;> decide
theorem S_laysRest (h : G M) {A : IA} {B : Nat → Nat → Int64} {r q : Nat} (hr : r < 5) (hq : q < 5) (hne : r ≠ q) :
    ∃ A' B', F_X12_laysRest 128 (nI r) (nI q) (m_w2 M A B) = some ((), m_w2 M A' B') ∧ (∀ a, a ≠ 163 → a ≠ 164 → a ≠ 165 → a ≠ 166 → a ≠ 167 → A' a = A a) ∧ (∀ a, a ≠ 162 → B' a = B a) ∧ (∀ j, j < 112 → B' 162 (112 * q + j) = B 162 (112 * r + j)) ∧ (∀ j, (j < 112 * q ∨ 112 * q + 112 ≤ j) → B' 162 j = B 162 j) ∧ (A' 163 q = vp_nar .boolean (A 163 r) ∧ ∀ j, j ≠ q → A' 163 j = A 163 j) ∧ ((∀ j, j < 20 → A' 164 (20 * q + j) = A 164 (20 * r + j) ∧ A' 165 (20 * q + j) = A 165 (20 * r + j) ∧ A' 166 (20 * q + j) = vp_nar .boolean (A 166 (20 * r + j))) ∧ ∀ j, (j < 20 * q ∨ 20 * q + 20 ≤ j) → A' 164 j = A 164 j ∧ A' 165 j = A 165 j ∧ A' 166 j = A 166 j) ∧ (A' 167 q = A 167 r ∧ ∀ j, j ≠ q → A' 167 j = A 167 j) := by
  have K0 : ∀ A B, m_K (m_w2 M A B) 128 = 10 := fun A B => by simp only [w2_K, gK h]
  have R54 : ∀ A B, m_R (m_w2 M A B) 128 54 = some 162 := fun A B => by simp only [w2_R, gR h]
  have R55 : ∀ A B, m_R (m_w2 M A B) 128 55 = some 163 := fun A B => by simp only [w2_R, gR h]
  have R56 : ∀ A B, m_R (m_w2 M A B) 128 56 = some 164 := fun A B => by simp only [w2_R, gR h]
  have R57 : ∀ A B, m_R (m_w2 M A B) 128 57 = some 165 := fun A B => by simp only [w2_R, gR h]
  have R59 : ∀ A B, m_R (m_w2 M A B) 128 59 = some 167 := fun A B => by simp only [w2_R, gR h]
  have K163 : ∀ A B, m_K (m_w2 M A B) 163 = 14 := fun A B => by simp only [w2_K, gK h]
  have L163 : ∀ A B, m_len (m_w2 M A B) 163 = 5 := fun A B => by simp only [w2_n, gl h]
  have K167 : ∀ A B, m_K (m_w2 M A B) 167 = 12 := fun A B => by simp only [w2_K, gK h]
  have L167 : ∀ A B, m_len (m_w2 M A B) 167 = 5 := fun A B => by simp only [w2_n, gl h]
  have a1 : m_K M 162 = 13 := by simp only [gK h]
  have a2 : m_len M 162 = 560 := by simp only [gl h]
  have b1 : m_K M 164 = 12 := by simp only [gK h]
  have b2 : m_len M 164 = 100 := by simp only [gl h]
  have c1 : m_K M 165 = 12 := by simp only [gK h]
  have c2 : m_len M 165 = 100 := by simp only [gl h]
  obtain ⟨A', e, e1, e2, e3⟩ := S_rest47 h (k81 := fun (v7 : Nat) (v8 : Int32) (v9 : Int32) (M5 : m_M) =>
    x_gN 10 M5 v7 59 fun v10 =>
    x_gN 10 M5 v7 59 fun v11 =>
    x_aI 12 M5 v11 v8 fun v12 =>
    x_sI 12 M5 v10 v9 v12 fun M6 =>
    some ((), M6)) hr hq hne (B := mvR B 162 (112 * r) (112 * q) 112) 20 0 m_FU (mvR (mvR (m_up A 163 q (vp_nar .boolean (A 163 r))) 164 (20 * r) (20 * q) 20) 165 (20 * r) (20 * q) 20) (by omega) (m_FU_lt (by omega))
  have e' : F_X12_laysRest_47 _ m_FU 128 (nI r) (nI q) (0 : Int32) _ = _ := e
  refine ⟨m_up A' 167 q (A' 167 r), mvR B 162 (112 * r) (112 * q) 112, ?_, fun a h1 h2 h3 h4 h5 => ?_, fun a ha => mvR_fr ha, fun j hj => mvR_in hj, fun j hj => mvR_out hj, ⟨?_, fun j hj => ?_⟩, ⟨fun j hj => ⟨?_, ?_, ?_⟩, fun j hj => ⟨?_, ?_, ?_⟩⟩, ⟨?_, fun j hj => ?_⟩⟩
  · unfold F_X12_laysRest
    rw [show (112 : Int32) = nI 112 from rfl, show (20 : Int32) = nI 20 from rfl, x_gN_ok (K0 _ _) (R54 _ _), x_bd_ok (S_movesRow a1 a2 (by omega) (by omega) (by omega) (by omega)), x_gN_ok (K0 _ _) (R55 _ _), x_gN_ok (K0 _ _) (R55 _ _), x_aI_ok (K163 _ _) (by rw [L163]; omega) (by omega), w2_I, x_sI_ok (K163 _ _) (by rw [L163]; omega) (by omega), w2_sI, x_gN_ok (K0 _ _) (R56 _ _), x_bd_ok (S_movesInts b1 b2 (by omega) (by omega) (by omega) (by omega)), x_gN_ok (K0 _ _) (R57 _ _), x_bd_ok (S_movesInts c1 c2 (by omega) (by omega) (by omega) (by omega)), m_let_eq, e', x_gN_ok (K0 _ _) (R59 _ _), x_gN_ok (K0 _ _) (R59 _ _), x_aI_ok (K167 _ _) (by rw [L167]; omega) (by omega), w2_I, x_sI_ok (K167 _ _) (by rw [L167]; omega) (by omega), w2_sI]
  · rw [up_fr h5, e1 a h4, mvR_fr h3, mvR_fr h2, up_fr h1]
  · rw [up_fr (by omega), e1 163 (by omega), mvR_fr (by omega), mvR_fr (by omega), up_at, if_pos ⟨rfl, rfl⟩]
  · rw [up_fr (by omega), e1 163 (by omega), mvR_fr (by omega), mvR_fr (by omega), up_at, if_neg (fun z => hj z.2)]
  · rw [up_fr (by omega), e1 164 (by omega), mvR_fr (by omega), mvR_in hj, up_fr (by omega)]
  · rw [up_fr (by omega), e1 165 (by omega), mvR_in hj, mvR_fr (by omega), up_fr (by omega)]
  · rw [up_fr (by omega), e3 j (by omega) hj, mvR_fr (by omega), mvR_fr (by omega), up_fr (by omega)]
  · rw [up_fr (by omega), e1 164 (by omega), mvR_fr (by omega), mvR_out hj, up_fr (by omega)]
  · rw [up_fr (by omega), e1 165 (by omega), mvR_out hj, mvR_fr (by omega), up_fr (by omega)]
  · rw [up_fr (by omega), e2 j (by omega), mvR_fr (by omega), mvR_fr (by omega), up_fr (by omega)]
  · rw [up_at, if_pos ⟨rfl, rfl⟩, e1 167 (by omega), mvR_fr (by omega), mvR_fr (by omega), up_fr (by omega)]
  · rw [up_at, if_neg (fun z => hj z.2), e1 167 (by omega), mvR_fr (by omega), mvR_fr (by omega), up_fr (by omega)]
/-- a book moves from a row to another, the others stay -/
theorem S_book (h : G M) {A : IA} {B : Nat → Nat → Int64} {r q : Nat} (hr : r < 5) (hq : q < 5) (hne : r ≠ q) :
    ∃ A1 B1 A' B', F_X12_laysTold 128 (nI r) (nI q) (m_w2 M A B) = some ((), m_w2 M A1 B1) ∧ F_X12_laysRest 128 (nI r) (nI q) (m_w2 M A1 B1) = some ((), m_w2 M A' B') ∧ (∀ a, a ≠ 157 → a ≠ 160 → a ≠ 161 → a ≠ 163 → a ≠ 164 → a ≠ 165 → a ≠ 166 → a ≠ 167 → A' a = A a) ∧ (∀ a, a ≠ 156 → a ≠ 158 → a ≠ 159 → a ≠ 162 → B' a = B a) ∧ (∀ (l : Ld) (b : Bk), b.2.2.2.1 ≤ 20 → lH l 3 ≤ 6 → BkM l b r A B → BkM l b q A' B') ∧ (∀ (l : Ld) (b : Bk) (p : Nat), p < 5 → p ≠ q → b.2.2.2.1 ≤ 20 → lH l 3 ≤ 6 → BkM l b p A B → BkM l b p A' B') ∧ ∀ (l : Ld) (t : Tl) (p : Nat), p ≠ q → TlM l t p A B → TlM l t p A' B' := by
  obtain ⟨A', B', e, e1, e2, e3, e4, ⟨e5, e5'⟩, ⟨e6, e6'⟩, e7, e7'⟩ := S_laysRest h (A := tA A r q) (B := tB B r q) hr hq hne
  have tl : ∀ {l : Ld} {t : Tl} {p : Nat}, TlM l t p (tA A r q) (tB B r q) → TlM l t p A' B' := fun ht => ht.congr (e1 161 (by omega) (by omega) (by omega) (by omega) (by omega)) (e1 157 (by omega) (by omega) (by omega) (by omega) (by omega)) (e1 160 (by omega) (by omega) (by omega) (by omega) (by omega)) (e2 156 (by omega)) (e2 158 (by omega)) (e2 159 (by omega))
  refine ⟨tA A r q, tB B r q, A', B', S_laysTold h (by omega) (by omega) hne, e, fun a h1 h2 h3 h4 h5 h6 h7 h8 => by rw [e1 a h4 h5 h6 h7 h8, tA_fr h1 h2 h3], fun a h1 h2 h3 h4 => by rw [e2 a h4, tB_fr h1 h2 h3], fun l b hb hl hbk => ?_, fun l b p h5 hp hb hl hbk => ?_, fun l t p hp ht => tl (ht.mvo hp)⟩
  · obtain ⟨b1, ⟨b2, b3⟩, b4, b5⟩ := hbk
    refine ⟨tl b1.mv, ⟨?_, fun f hf => ⟨fun v hv => ?_, ?_⟩⟩, ?_, fun i hi => ?_⟩
    · rw [e5, tA_fr (by omega) (by omega) (by omega), b2, bI_nar]
    · refine ((b3 f hf).1 v hv).of (fun k hk => ?_)
      show B' 162 (112 * q + 16 * v + k) = _
      rw [Nat.add_assoc, e3 (16 * v + k) (by omega), tB_fr (by omega) (by omega) (by omega), Nat.add_assoc]
    · refine (b3 f hf).2.of (fun k hk => ?_)
      show B' 162 (112 * q + 96 + k) = _
      rw [Nat.add_assoc, e3 (96 + k) (by omega), tB_fr (by omega) (by omega) (by omega), Nat.add_assoc]
    · rw [e7, tA_fr (by omega) (by omega) (by omega)]; exact b4
    · obtain ⟨x1, x2, x3⟩ := e6 i (by omega)
      obtain ⟨y1, y2, y3⟩ := b5 i hi
      rw [x1, x2, x3, tA_fr (by omega) (by omega) (by omega), tA_fr (by omega) (by omega) (by omega), tA_fr (by omega) (by omega) (by omega), y3, bI_nar]
      exact ⟨y1, y2, rfl⟩
  · obtain ⟨b1, ⟨b2, b3⟩, b4, b5⟩ := hbk
    refine ⟨tl (b1.mvo hp), ⟨?_, fun f hf => ⟨fun v hv => ?_, ?_⟩⟩, ?_, fun i hi => ?_⟩
    · rw [e5' p hp, tA_fr (by omega) (by omega) (by omega)]; exact b2
    · refine ((b3 f hf).1 v hv).of (fun k hk => ?_)
      show B' 162 (112 * p + 16 * v + k) = _
      rw [e4 _ (by omega), tB_fr (by omega) (by omega) (by omega)]
    · refine (b3 f hf).2.of (fun k hk => ?_)
      show B' 162 (112 * p + 96 + k) = _
      rw [e4 _ (by omega), tB_fr (by omega) (by omega) (by omega)]
    · rw [e7' p hp, tA_fr (by omega) (by omega) (by omega)]; exact b4
    · obtain ⟨x1, x2, x3⟩ := e6' (20 * p + i) (by omega)
      rw [x1, x2, x3, tA_fr (by omega) (by omega) (by omega), tA_fr (by omega) (by omega) (by omega), tA_fr (by omega) (by omega) (by omega)]
      exact b5 i hi
end MMARK
