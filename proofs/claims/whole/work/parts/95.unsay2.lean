/-! unsay: both sides -/
section UNSAY2
variable {M : m_M} {s : St} {D : Nat}
/-- after keeps, the model's told rows are t: all that is asked of the rest -/
theorem MI_tell {t : Tl} (hm : MI s M) {A : IA} {B : Nat → Nat → Int64} (h52 : A 128 52 = nI (unPush s.2.2.2.1 s.2.2.1.2.1).1) (hT : ∀ j, j < (unPush s.2.2.2.1 s.2.2.1.2.1).1 → TlM s.2.1 ((unPush s.2.2.2.1 s.2.2.1.2.1).2 j) (5 + j) A B) (h0 : TlM s.2.1 t 0 A B) (hr : ∀ (r : Nat) (t : Tl), 0 < r → r < 5 → TlM s.2.1 t r (m_I M) (m_L M) → TlM s.2.1 t r A B) (hA : ∀ a, 128 < a → a ≠ 157 → a ≠ 160 → a ≠ 161 → ¬ scr a → A a = m_I M a) (h8 : ∀ j, (j = 1 ∨ j = 42 ∨ j = 43 ∨ j = 53) → A 128 j = m_I M 128 j) (hB : ∀ a, 128 < a → a ≠ 156 → a ≠ 158 → a ≠ 159 → a < 170 → B a = m_L M a) : MI (stTell s t) (m_w2 M A B) := by
  obtain ⟨⟨m0, m1⟩, ⟨m2, m3⟩, ⟨⟨m4, m4', m4''⟩, m5⟩, ⟨m6, m7⟩, m8⟩ := hm
  have ns : ∀ {a : Nat}, 128 < a → (a < 143 ∨ 155 < a) → a ≠ 157 → a ≠ 160 → a ≠ 161 → A a = m_I M a := fun {a} h1 h2 h3 h4 h5 => hA a h1 h3 h4 h5 (by unfold scr; omega)
  refine ⟨⟨m0.cong (fun a h1 h2 => ns (by omega) (by omega) (by omega) (by omega) (by omega)) (h8 42 (by omega)) (h8 43 (by omega)), ?_⟩, ⟨?_, ?_⟩, ⟨⟨h0, ?_, ?_⟩, ?_⟩, ⟨h52, hT⟩, fun i hi => ⟨?_, fun b hb => ⟨⟨hr _ _ (by omega) (by omega) ((m8 i hi).2 b hb).1.1, ?_, ?_⟩, ?_⟩⟩⟩
  · unfold NmM
    rw [w2_L, hB 131 (by omega) (by omega) (by omega) (by omega) (by omega), hB 132 (by omega) (by omega) (by omega) (by omega) (by omega)]; exact m1
  · rw [w2_I, h8 1 (by omega)]; exact m2
  · rw [w2_I, ns (a := 129) (by omega) (by omega) (by omega) (by omega) (by omega)]; exact m3
  · rw [w2_I, w2_L, ns (a := 163) (by omega) (by omega) (by omega) (by omega) (by omega), hB 162 (by omega) (by omega) (by omega) (by omega) (by omega)]; exact m4'
  · rw [w2_I, ns (a := 167) (by omega) (by omega) (by omega) (by omega) (by omega), ns (a := 164) (by omega) (by omega) (by omega) (by omega) (by omega), ns (a := 165) (by omega) (by omega) (by omega) (by omega) (by omega), ns (a := 166) (by omega) (by omega) (by omega) (by omega) (by omega)]; exact m4''
  · rw [w2_I, h8 53 (by omega)]; exact m5
  · rw [w2_I, ns (a := 169) (by omega) (by omega) (by omega) (by omega) (by omega)]; exact (m8 i hi).1
  · rw [w2_I, w2_L, ns (a := 163) (by omega) (by omega) (by omega) (by omega) (by omega), hB 162 (by omega) (by omega) (by omega) (by omega) (by omega)]; exact ((m8 i hi).2 b hb).1.2.1
  · rw [w2_I, ns (a := 167) (by omega) (by omega) (by omega) (by omega) (by omega), ns (a := 164) (by omega) (by omega) (by omega) (by omega) (by omega), ns (a := 165) (by omega) (by omega) (by omega) (by omega) (by omega), ns (a := 166) (by omega) (by omega) (by omega) (by omega) (by omega)]; exact ((m8 i hi).2 b hb).1.2.2
  · rw [w2_I, ns (a := 168) (by omega) (by omega) (by omega) (by omega) (by omega)]; exact ((m8 i hi).2 b hb).2
theorem M_unsay (hG : G M) (hm : MI s M) (hu : s.2.2.2.1.1 ≤ 12) {i : Nat} (hi : i < s.2.2.1.2.1.1.1) : ∃ M', F_X12_unsay 128 (nI i) M = some (nI 1, M') ∧ MI (stTell s (rmT s.2.2.1.2.1 i)) M' ∧ frM M M' := by
  have hm' := hm
  obtain ⟨_, _, ⟨⟨m4, _⟩, _⟩, ⟨m6, m7⟩, m8⟩ := hm'
  have K0 : ∀ A B, m_K (m_w2 M A B) 128 = 10 := fun A B => by simp only [w2_K, gK hG]
  have R51 : ∀ A B, m_R (m_w2 M A B) 128 51 = some 161 := fun A B => by simp only [w2_R, gR hG]
  have K161 : ∀ A B, m_K (m_w2 M A B) 161 = 12 := fun A B => by simp only [w2_K, gK hG]
  have L161 : ∀ A B, m_len (m_w2 M A B) 161 = 34 := fun A B => by simp only [w2_n, gl hG]
  have e0 : m_sI M 128 0 (0 : Int32) = m_w2 M (m_up (m_I M) 128 0 0) (m_L M) := Eq.trans rfl rfl
  have hi12 := m4.1.1
  have tm : ∀ (t : Tl) (r : Nat), TlM s.2.1 t r (m_I M) (m_L M) → TlM s.2.1 t r (m_up (m_I M) 128 0 0) (m_L M) := fun t r ht => ht.congr (up_fr (by omega)) (up_fr (by omega)) (up_fr (by omega)) rfl rfl rfl
  have h0 := tm _ _ m4
  have hc : m_up (m_I M) 128 0 0 161 0 = nI s.2.2.1.2.1.1.1 := h0.2.1.1
  obtain ⟨A', B', k1, k2, k3, k4, k5, k6, k7⟩ := S_keeps hG hu (A := m_up (m_I M) 128 0 0) (B := m_L M) (by rw [up_at, if_neg (by omega)]; exact m6) h0 (fun j hj => tm _ _ (m7 j hj))
  have h0' := k4 0 _ (by omega) h0
  have hc' : A' 161 0 = nI s.2.2.1.2.1.1.1 := h0'.2.1.1
  have sc : ∀ a, a ≠ 128 → a ≠ 157 → a ≠ 160 → a ≠ 161 → uA A' i s.2.2.1.2.1.1.1 a = m_I M a := fun a h1 h2 h3 h4 => by
    unfold uA
    rw [up_fr (by omega), mvR_fr (by omega), k5 a h1 h2 h3 h4, up_fr (by omega)]
  have u128 : ∀ j, uA A' i s.2.2.1.2.1.1.1 128 j = A' 128 j := fun j => by
    unfold uA
    rw [up_fr (by omega), mvR_fr (by omega)]
  have sb : ∀ a, a ≠ 156 → a ≠ 158 → a ≠ 159 → uB B' i a = m_L M a := fun a h1 h2 h3 => by
    unfold uB
    rw [mvR_fr (by omega), k7 a h1 h2 h3]
  refine ⟨m_w2 M (uA A' i s.2.2.1.2.1.1.1) (uB B' i), ?_, MI_tell hm ?_ (fun j hj => (k3 j hj).rmo (by omega) (by omega)) (h0'.rm hi) (fun r t h1 h2 ht => (k4 r t h2 (tm _ _ ht)).rmo (by omega) (by omega)) (fun a h1 h2 h3 h4 _ => sc a (by omega) h2 h3 h4) (fun j hj => ?_) (fun a _ h1 h2 h3 _ => sb a h1 h2 h3), frM_w2 hG (fun a ha => ⟨?_, sb a (by omega) (by omega) (by omega)⟩)⟩
  · unfold F_X12_unsay
    have e30 := S_un30 hG (A := A') (B := B') (v := nI i) (p := 16 * i) (k61 := fun (v4 : Nat) (v5 : Int32) (M3 : m_M) =>
      m_let (fun (v6 : Nat) (M4 : m_M) =>
        x_gN 10 M4 v6 51 fun v7 =>
        x_aI 12 M4 v7 (0 : Int32) fun v8 =>
        x_sI 12 M4 v7 (0 : Int32) (v8 - (1 : Int32)) fun M5 =>
        some ((1 : Int32), M5)
      ) fun (k89 : Nat → m_M → Option (Int32 × m_M)) =>
      F_X12_unsay_63 k89 m_FU v4 v5 M3) (176 - 16 * i) 0 m_FU (by omega) (m_FU_lt (by omega))
    rw [mvR_0, Nat.add_zero] at e30
    rw [x_pI_ok (by simp only [gK hG]), if_neg (nI_pos (by omega)), e0, x_gN_ok (K0 _ _) (R51 _ _), show (0 : Int32) = nI 0 from rfl, x_aI_ok (K161 _ _) (by rw [L161]; omega) (by omega), w2_I, show m_up (m_I M) 128 0 (nI 0) 161 0 = nI s.2.2.1.2.1.1.1 from hc, if_pos (nI_lt hi (by omega)), x_cV_ok (K0 _ _) (show F_X12_keeps 128 (m_w2 M (m_up (m_I M) 128 0 (nI 0)) (m_L M)) = _ from k1), show (16 : Int32) = nI 16 from rfl, nI_mul, m_let_eq, m_let_eq]
    have e63 := S_un63 hG (A := A') (B := uB B' i) (p := i) (k89 := fun (v6 : Nat) (M4 : m_M) =>
        x_gN 10 M4 v6 51 fun v7 =>
        x_aI 12 M4 v7 (0 : Int32) fun v8 =>
        x_sI 12 M4 v7 (0 : Int32) (v8 - (1 : Int32)) fun M5 =>
        some ((1 : Int32), M5)) (11 - i) 0 m_FU (by omega) (m_FU_lt (by omega))
    rw [mvR_0, Nat.add_zero] at e63
    refine e30.trans ?_
    rw [m_let_eq]
    refine e63.trans ?_
    rw [x_gN_ok (K0 _ _) (R51 _ _), show (0 : Int32) = nI 0 from rfl, x_aI_ok (K161 _ _) (by rw [L161]; omega) (by omega), w2_I, mvR_fr (by omega), hc', show nI s.2.2.1.2.1.1.1 - (1 : Int32) = nI (s.2.2.1.2.1.1.1 - 1) from nI_sub' (b := 1) (by omega), x_sI_ok (K161 _ _) (by rw [L161]; omega) (by omega), w2_sI]
    rfl
  · rw [u128]; exact k2
  · rw [u128, k6 j (by omega), up_at, if_neg (by omega)]
  · by_cases q : a = 128
    · omega
    · exact sc a q (by omega) (by omega) (by omega)
theorem TlD.rm {t : Tl} (h : TlD t) {i : Nat} : TlD (rmT t i) := by
  refine ⟨fun j hj => ?_, h.2⟩
  have hj' : j < t.1.1 - 1 := hj
  show (if j < i then t.1.2 j else t.1.2 (j + 1)).1 < _ ∧ (if j < i then t.1.2 j else t.1.2 (j + 1)).2.1 < _
  by_cases z : j < i
  · rw [if_pos z]; exact h.1 j (by omega)
  · rw [if_neg z]; exact h.1 (j + 1) (by omega)
theorem PI_tell (hp : PI s) {t : Tl} (ht : TlD t) : PI (stTell s t) := by
  obtain ⟨p1, p2, ⟨p3, p4, p5⟩, p6, p7⟩ := hp
  refine ⟨p1, p2, ⟨p3, ht, p5⟩, ?_, p7⟩
  show ∀ j, j < (unPush s.2.2.2.1 s.2.2.1.2.1).1 → TlD ((unPush s.2.2.2.1 s.2.2.1.2.1).2 j)
  unfold unPush
  by_cases q : s.2.2.2.1.1 < 12
  · rw [if_pos q]
    intro j hj
    have hj' : j < s.2.2.2.1.1 + 1 := hj
    show TlD (if j = s.2.2.2.1.1 then s.2.2.1.2.1 else s.2.2.2.1.2 j)
    by_cases z : j = s.2.2.2.1.1
    · rw [if_pos z]; exact p4
    · rw [if_neg z]; exact p6 j (by omega)
  · rw [if_neg q]
    intro j hj
    have hj' : j < 12 := hj
    show TlD (if j = 11 then s.2.2.1.2.1 else s.2.2.2.1.2 (j + 1))
    by_cases z : j = 11
    · rw [if_pos z]; exact p4
    · rw [if_neg z]; exact p6 (j + 1) (by omega)
theorem O_unsay0 {x : Int32} (hx : x < 0 ∨ ∃ i, x = nI i ∧ i < 2147483648 ∧ s.2.2.1.2.1.1.1 ≤ i) : RO s (F_X11_unsay 0 x) (F_X12_unsay 128 x) := by
  refine ⟨nI 0, fun M h => ⟨⟨M, ?_, SC.rfl' M⟩, ⟨m_sI M 128 0 0, ?_, SC_thr M 0⟩⟩⟩
  · obtain ⟨hG, _, hc, _⟩ := h.split
    obtain ⟨K0, R9, K80, _⟩ := bk_cells hG
    have c1 : m_I M 80 1 = nI s.2.2.1.2.1.1.1 := hc.2.2.1.2.1.2.1.1
    have e1 : F_X1_saidAt 80 x M = some (none, M) := by
      unfold F_X1_saidAt
      rw [m_let_eq]
      rcases hx with hx | ⟨i, rfl, hi, hle⟩
      · rw [if_pos hx]
      · rw [if_neg (nI_pos hi), x_gI_ok K80, c1, if_pos (nI_le hle hi)]
    have e : F_X1_takeBack 80 x M = some (nI 0, M) := by
      unfold F_X1_takeBack
      rw [x_cV_ok K80 e1]
      rfl
    unfold F_X11_unsay
    rw [x_gN_ok K0 R9, x_cV_ok K80 e]
    rfl
  · obtain ⟨hG, _, _, hm⟩ := h.split
    have h1 := h.thr 0
    have c : m_I (m_sI M 128 0 0) 161 0 = nI s.2.2.1.2.1.1.1 := by rw [sI_ne (by omega)]; exact hm.2.2.1.1.1.2.1.1
    unfold F_X12_unsay
    rw [x_pI_ok h.K0]
    rcases hx with hx | ⟨i, rfl, hi, hle⟩
    · rw [if_pos hx]; rfl
    · have hb := hm.2.2.1.1.1.1.1
      rw [if_neg (nI_pos hi), x_gN_ok h1.K0 (r := 161) (by simp only [gR h1.1]), show x_aI 12 (m_sI M 128 0 0) 161 (0 : Int32) = x_aI 12 (m_sI M 128 0 0) 161 (nI 0) from rfl, x_aI_ok (by simp only [gK h1.1]) (by simp only [gl h1.1]; omega) (by omega), c, if_neg (nI_nlt hle hi)]
      rfl
theorem R_unsay (hd : dB D s) (x : Int32) : RUN D s (F_X11_unsay 0 x) (F_X12_unsay 128 x) := by
  rcases i_cases x with ⟨i, hi, rfl⟩ | hx
  · by_cases q : i < s.2.2.1.2.1.1.1
    · intro M h hk hN
      obtain ⟨hG, hp, hc, hm⟩ := h.split
      have hu := hc.2.2.2.1.1
      refine WO.run (s := s) ⟨nI 1, stTell s (rmT s.2.2.1.2.1 i), PI_tell hp hp.2.2.1.2.1.rm, ⟨by have := hd.1; show s.2.2.1.1 ≤ D + 1000; omega, fun i hi b hb => by have := hd.2 i hi b hb; omega⟩, fun M hG _ hc hk _ => ?_, fun M hG _ hm => M_unsay hG hm hu q⟩ M h hk hN
      obtain ⟨M', e1, e2, e3, e4, e5⟩ := C_unsay hG hc hk q
      exact ⟨M', e1, e2, e3, by omega, e5⟩
    · exact (O_unsay0 (.inr ⟨i, rfl, hi, by omega⟩)).run hd
  · exact (O_unsay0 (.inl hx)).run hd
end UNSAY2
