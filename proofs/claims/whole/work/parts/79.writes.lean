/-! writing calls: dawn -/
section WRITES
variable {M : m_M} {s : St} {D : Nat}
theorem hiK_sI {a k : Nat} {v : Int32} (ha : a < 178) : hiK M (m_sI M a k v) := by
  refine ⟨Nat.le_refl _, fun b hb _ => ⟨rfl, ?_, rfl, rfl⟩⟩
  funext j
  rw [mI_sI, if_neg (by omega)]
theorem sI_ne {a k b : Nat} {v : Int32} (h : b ≠ a) : m_I (m_sI M a k v) b = m_I M b := by
  funext j
  rw [mI_sI, if_neg (fun q => h q.1)]
theorem frC_sI {a k : Nat} {v : Int32} (hG : G M) (ha : a < 128) : frC M (m_sI M a k v) := ⟨hG, fun b h1 h2 => ⟨sI_ne (by omega), rfl⟩⟩
theorem frC.trans {M1 M2 M3 : m_M} (h1 : frC M1 M2) (h2 : frC M2 M3) : frC M1 M3 := ⟨h2.1, fun a ha hb => ⟨((h2.2 a ha hb).1).trans (h1.2 a ha hb).1, ((h2.2 a ha hb).2).trans (h1.2 a ha hb).2⟩⟩
theorem frM_sI {a k : Nat} {v : Int32} (hG : G M) (ha : 128 ≤ a ∧ a < 178) : frM M (m_sI M a k v) := ⟨hG, rfl, rfl, fun b hb => ⟨sI_ne (by omega), rfl⟩⟩
theorem frM.trans {M1 M2 M3 : m_M} (h1 : frM M1 M2) (h2 : frM M2 M3) : frM M1 M3 := ⟨h2.1, h2.2.1.trans h1.2.1, h2.2.2.1.trans h1.2.2.1, fun a ha => ⟨((h2.2.2.2 a ha).1).trans (h1.2.2.2 a ha).1, ((h2.2.2.2 a ha).2).trans (h1.2.2.2 a ha).2⟩⟩
/-- a dawn: the day, nothing to undo -/
def stDay (s : St) (d : Nat) : St := (s.1, s.2.1, (d, s.2.2.1.2), (0, s.2.2.2.1.2), s.2.2.2.2)
theorem O_dawn_neg {x : Int32} (hx : x < (1 : Int32) ∨ ¬ x ≤ (1000 : Int32)) : RO s (F_X11_dawn 0 x) (F_X12_dawn 128 x) := by
  refine ⟨NO, fun M h => ⟨⟨M, ?_, SC.rfl' M⟩, ⟨m_sI M 128 0 0, ?_, SC_thr M 0⟩⟩⟩
  · unfold F_X11_dawn
    rcases hx with hx | hx
    · rw [if_pos hx]; rfl
    · by_cases q : x < (1 : Int32)
      · rw [if_pos q]; rfl
      · rw [if_neg q, if_neg hx]; rfl
  · have e : F_X12_within x (1 : Int32) (1000 : Int32) (m_sI M 128 0 0) = some (nI 0, m_sI M 128 0 0) := by
      unfold F_X12_within
      rw [m_let_eq]
      rcases hx with hx | hx
      · rw [if_pos hx]; rfl
      · by_cases q : x < (1 : Int32)
        · rw [if_pos q]; rfl
        · rw [if_neg q, if_pos (Int32.not_le.mp hx)]; rfl
    unfold F_X12_dawn
    rw [x_pI_ok h.K0, x_bd_ok e, if_pos (by decide)]; rfl
theorem W_dawn {k : Nat} (h1 : 1 ≤ k) (h2 : k ≤ 1000) (hp : PI s) (hd : dB D s) (hD : D < 899000) : WO D s (F_X11_dawn 0 (nI k)) (F_X12_dawn 128 (nI k)) := by
  have hday := hd.1
  refine ⟨nI (s.2.2.1.1 + k), stDay s (s.2.2.1.1 + k), ?_, ⟨by show s.2.2.1.1 + k ≤ _; omega, fun i hi b hb => by have := hd.2 i hi b hb; omega⟩, fun M hG _ hc hk _ => ?_, fun M hG _ hm => ?_⟩
  · obtain ⟨p1, p2, ⟨p3, p4, p5⟩, p6, p7⟩ := hp
    exact ⟨p1, p2, ⟨by show s.2.2.1.1 + k < 900000; omega, p4, p5⟩, fun j hj => absurd hj (Nat.not_lt_zero _), p7⟩
  · obtain ⟨c0, c1, c2, c3, c4⟩ := hc
    have K0 : m_K M 0 = 9 := by simp only [gK hG]
    have R9 : m_R M 0 9 = some 80 := by simp only [gR hG]
    have B80 : m_K M 80 = 1 := by simp only [gK hG]
    refine ⟨m_sI (m_sI M 80 0 (nI (s.2.2.1.1 + k))) 80 4 (nI 0), ?_, ?_, (frC_sI hG (by omega)).trans (frC_sI hG (by omega)), by show m_N M ≤ m_N M + 8; omega, hk.same rfl rfl⟩
    · unfold F_X11_dawn F_X1_passDays
      rw [if_neg (show ¬ nI k < (1 : Int32) from nI_nlt (b := 1) h1 (by omega)), if_pos (show nI k ≤ (1000 : Int32) from nI_le (b := 1000) h2 (by omega)), x_gN_ok K0 R9, x_gI_ok B80, c2.1, nI_add, x_pI_ok B80, x_pI_ok (show m_K (m_sI M 80 0 (nI (s.2.2.1.1 + k))) 80 = 1 from B80), x_cV_ok B80 rfl, x_gN_ok (show m_K (m_sI (m_sI M 80 0 (nI (s.2.2.1.1 + k))) 80 4 0) 0 = 9 from K0) (show m_R (m_sI (m_sI M 80 0 (nI (s.2.2.1.1 + k))) 80 4 0) 0 9 = some 80 from R9), x_gI_ok (show m_K (m_sI (m_sI M 80 0 (nI (s.2.2.1.1 + k))) 80 4 0) 80 = 1 from B80), mI_sI, if_neg (by omega), mI_sI, if_pos ⟨rfl, rfl⟩]
      rfl
    · have hh : hiK M (m_sI (m_sI M 80 0 (nI (s.2.2.1.1 + k))) 80 4 (nI 0)) := (hiK_sI (by omega)).trans (hiK_sI (by omega))
      have f : ∀ a, a ≠ 80 → m_I (m_sI (m_sI M 80 0 (nI (s.2.2.1.1 + k))) 80 4 (nI 0)) a = m_I M a := fun a ha => by rw [sI_ne ha, sI_ne ha]
      have g : ∀ j, j ≠ 0 → j ≠ 4 → m_I (m_sI (m_sI M 80 0 (nI (s.2.2.1.1 + k))) 80 4 (nI 0)) 80 j = m_I M 80 j := fun j h0 h4 => by rw [mI_sI, if_neg (by omega), mI_sI, if_neg (by omega)]
      obtain ⟨b1, ⟨t1, ⟨t2, t2'⟩, t3, t4⟩, ⟨fr, q1, q2, q3⟩, q4, q5⟩ := c2
      refine ⟨⟨c0.1.cong (fun a h1 h2 => f a (by omega)), c0.2.1, c0.2.2⟩, ⟨by rw [f 0 (by omega)]; exact c1.1, by rw [f 1 (by omega)]; exact c1.2⟩, ⟨?_, ⟨t1, ⟨by rw [g 1 (by omega) (by omega)]; exact t2, by rw [g 2 (by omega) (by omega)]; exact t2'⟩, fun i hi => ?_, fun i hi => ?_⟩, ⟨fr, q1, q2, fun fm hfm => (q3 fm hfm).hi hh⟩, by rw [g 3 (by omega) (by omega)]; exact q4, by rw [f (80 + 4) (by omega)]; exact q5⟩, ⟨Nat.zero_le _, ?_, fun j hj => absurd hj (Nat.not_lt_zero _)⟩, fun i hi => ⟨by rw [f 89 (by omega)]; exact (c4 i hi).1, fun b hb => ((c4 i hi).2 b hb).congr hh (fun _ => ⟨rfl, rfl⟩) (f _ (by omega)) rfl rfl rfl (f _ (by omega))⟩⟩
      · rw [mI_sI, if_neg (by omega), mI_sI, if_pos ⟨rfl, rfl⟩]; rfl
      · obtain ⟨r, r1, r2⟩ := t3 i hi
        exact ⟨r, r1, r2.hi hh⟩
      · obtain ⟨r, r1, r2⟩ := t4 i hi
        exact ⟨r, r1, r2.hi hh⟩
      · rw [mI_sI, if_pos ⟨rfl, rfl⟩]; rfl
  · obtain ⟨⟨m0, m1⟩, ⟨m2, m3⟩, ⟨m4, m5⟩, ⟨m6, m7⟩, m8⟩ := hm
    have K0 : ∀ (a b c : Nat) (v : Int32), m_K (m_sI M a b v) 128 = 10 := fun a b c v => by simp only [mK_sI, gK hG]
    have K : m_K M 128 = 10 := by simp only [gK hG]
    have e : F_X12_within (nI k) (1 : Int32) (1000 : Int32) (m_sI M 128 0 0) = some (nI 1, m_sI M 128 0 0) := by
      have := S_within (M := m_sI M 128 0 0) (k := k) (a := 1) (b := 1000) (by omega) (by omega) (by omega)
      rw [decide_eq_true h1, decide_eq_true h2] at this
      exact this
    refine ⟨m_sI (m_sI (m_sI M 128 0 (nI 0)) 128 53 (nI (s.2.2.1.1 + k))) 128 52 (nI 0), ?_, ?_, ((frM_sI hG (by omega)).trans (frM_sI hG (by omega))).trans (frM_sI hG (by omega))⟩
    · unfold F_X12_dawn
      rw [x_pI_ok K, x_bd_ok e, if_neg (by decide), x_gI_ok (by simp only [mK_sI, gK hG]), mI_sI, if_neg (by omega), m5, nI_add, x_pI_ok (by simp only [mK_sI, gK hG]), x_pI_ok (by simp only [mK_sI, gK hG]), x_gI_ok (by simp only [mK_sI, gK hG]), mI_sI, if_neg (by omega), mI_sI, if_pos ⟨rfl, rfl⟩]
      rfl
    · have f : ∀ a, a ≠ 128 → m_I (m_sI (m_sI (m_sI M 128 0 (nI 0)) 128 53 (nI (s.2.2.1.1 + k))) 128 52 (nI 0)) a = m_I M a := fun a ha => by rw [sI_ne ha, sI_ne ha, sI_ne ha]
      have g : ∀ j, j ≠ 0 → j ≠ 52 → j ≠ 53 → m_I (m_sI (m_sI (m_sI M 128 0 (nI 0)) 128 53 (nI (s.2.2.1.1 + k))) 128 52 (nI 0)) 128 j = m_I M 128 j := fun j h0 h4 h5 => by rw [mI_sI, if_neg (by omega), mI_sI, if_neg (by omega), mI_sI, if_neg (by omega)]
      have bm : ∀ (b : Bk) (r : Nat), BkM s.2.1 b r (m_I M) (m_L M) → BkM s.2.1 b r (m_I (m_sI (m_sI (m_sI M 128 0 (nI 0)) 128 53 (nI (s.2.2.1.1 + k))) 128 52 (nI 0))) (m_L M) := by
        intro b r hb
        obtain ⟨b1, b2, b3⟩ := hb
        refine ⟨b1.congr (f _ (by omega)) (f _ (by omega)) (f _ (by omega)) rfl rfl rfl, ?_, ?_⟩
        · rw [f 163 (by omega)]; exact b2
        · rw [f 167 (by omega), f 164 (by omega), f 165 (by omega), f 166 (by omega)]; exact b3
      refine ⟨⟨m0.cong (fun a h1 h2 => f a (by omega)) (g 42 (by omega) (by omega) (by omega)) (g 43 (by omega) (by omega) (by omega)), m1⟩, ⟨by rw [g 1 (by omega) (by omega) (by omega)]; exact m2, by rw [f 129 (by omega)]; exact m3⟩, ⟨bm (s.2.2.1.1 + k, s.2.2.1.2) 0 m4, ?_⟩, ⟨?_, fun j hj => absurd hj (Nat.not_lt_zero _)⟩, fun i hi => ⟨by rw [f 169 (by omega)]; exact (m8 i hi).1, fun b hb => ⟨bm _ _ ((m8 i hi).2 b hb).1, by rw [f 168 (by omega)]; exact ((m8 i hi).2 b hb).2⟩⟩⟩
      · rw [mI_sI, if_neg (by omega), mI_sI, if_pos ⟨rfl, rfl⟩]; rfl
      · rw [mI_sI, if_pos ⟨rfl, rfl⟩]; rfl
theorem R_dawn (x : Int32) (hp : PI s) (hd : dB D s) (hD : D < 899000) : RUN D s (F_X11_dawn 0 x) (F_X12_dawn 128 x) := by
  by_cases hx : x < (1 : Int32) ∨ ¬ x ≤ (1000 : Int32)
  · exact (O_dawn_neg hx).run hd
  · rcases i_cases x with ⟨k, hk, rfl⟩ | h0
    · have h1 : 1 ≤ k := by
        by_cases q : k = 0
        · exact absurd (.inl (by rw [q]; decide)) hx
        · omega
      have h2 : k ≤ 1000 := by
        by_cases q : k ≤ 1000
        · exact q
        · exact absurd (.inr (fun z => by have := (nI_leI (b := 1000) hk (by omega)).mp z; omega)) hx
      exact (W_dawn h1 h2 hp hd hD).run
    · exact absurd (.inl (of_eq_true (neg_lt h0 (n := 1) (by omega)))) hx
end WRITES
