/-! writing calls: see -/
section SEE
variable {M : m_M} {s : St} {D : Nat}
/-- one more thing seen -/
def stSee (s : St) (x : Nat × Nat × Bool) : St := (s.1, s.2.1, (s.2.2.1.1, s.2.2.1.2.1, s.2.2.1.2.2.1, (s.2.2.1.2.2.2.1 + 1, fun i => if i = s.2.2.1.2.2.2.1 then x else s.2.2.1.2.2.2.2 i)), s.2.2.2.1, s.2.2.2.2)
theorem O_see_bad {x y : Int32} {b : Bool} (hq : x < 0 ∨ (∃ c, c < 2147483648 ∧ x = nI c ∧ (ccOk s.2.1 c = false ∨ y < 0 ∨ ∃ w, w < 2147483648 ∧ y = nI w ∧ (wN s.2.1 ≤ w ∨ s.2.2.1.2.2.2.1 = 20)))) : RO s (F_X11_see 0 x y (bI b)) (F_X12_see 128 x y (bI b)) := by
  refine ⟨nI 0, fun M h => ⟨⟨M, ?_, SC.rfl' M⟩, ⟨m_sI M 128 0 0, ?_, SC_thr M 0⟩⟩⟩
  · unfold F_X11_see
    rw [x_gN_ok h.C0 h.R2]
    rcases hq with hx | ⟨c, hc, rfl, hq⟩
    · rw [x_cV_ok h.C2 (S_isClauseC_neg hx), if_pos (by decide)]; rfl
    · rw [x_cV_ok h.C2 (S_isClauseC h.1 h.lc h.lo hc)]
      cases hcc : ccOk s.2.1 c
      · rw [if_pos (show bI false = (0 : Int32) from rfl)]; rfl
      · rw [if_neg (show ¬ bI true = (0 : Int32) from by decide), x_gN_ok h.C0 h.R2]
        rcases hq with hq | hq | ⟨w, hw, rfl, hq⟩
        · rw [hcc] at hq; simp at hq
        · rw [x_cV_ok h.C2 (S_isWorldC_neg hq), if_pos (by decide)]; rfl
        · rw [x_cV_ok h.C2 (S_isWorldC h.1 h.lc (wN_le h.lo) hw)]
          by_cases q : w < wN s.2.1
          · have h20 : s.2.2.1.2.2.2.1 = 20 := by rcases hq with hq | hq <;> omega
            have e : F_X1_noteSeen 80 (nI c) (nI w) (bI b) M = some (nI 0, M) := by
              unfold F_X1_noteSeen
              rw [x_gI_ok h.B80, h.bc.2.2.2.1, h20, if_neg (by decide)]; rfl
            rw [decide_eq_true q, if_neg (by decide), x_gN_ok h.C0 h.R9, x_cV_ok h.B80 e]; rfl
          · rw [decide_eq_false q, if_pos (by decide)]; rfl
  · have h1 := h.thr 0
    unfold F_X12_see
    rw [x_pI_ok h.K0]
    rcases hq with hx | ⟨c, hc, rfl, hq⟩
    · rw [x_cV_ok h1.K0 (S_isClauseM_neg hx), if_pos (by decide)]; rfl
    · rw [x_cV_ok h1.K0 (S_isClauseM h1.1 h1.lm h1.lo hc)]
      cases hcc : ccOk s.2.1 c
      · rw [if_pos (show bI false = (0 : Int32) from rfl)]; rfl
      · rw [if_neg (show ¬ bI true = (0 : Int32) from by decide)]
        rcases hq with hq | hq | ⟨w, hw, rfl, hq⟩
        · rw [hcc] at hq; simp at hq
        · rw [x_cV_ok h1.K0 (S_isWorldM_neg hq), if_pos (by decide)]; rfl
        · rw [x_cV_ok h1.K0 (S_isWorldM h1.1 h1.lm (wN_le h1.lo) hw)]
          by_cases q : w < wN s.2.1
          · have h20 : s.2.2.1.2.2.2.1 = 20 := by rcases hq with hq | hq <;> omega
            rw [decide_eq_true q, if_neg (by decide), x_gN_ok h1.K0 (r := 167) (by simp only [gR h1.1]), aI_lit (x := (0 : Int32)) (n := 0) (by simp only [gK h1.1]) (by rw [show m_len (m_sI M 128 0 0) 167 = 5 from by simp only [gl h1.1]]; omega) rfl (by omega), h1.bm.2.2.1, h20, if_pos (by decide)]; rfl
          · rw [decide_eq_false q, if_pos (by decide)]; rfl
theorem W_see {c w : Nat} {b : Bool} (hcc : ccOk s.2.1 c = true) (hw : w < wN s.2.1) (hn : s.2.2.1.2.2.2.1 < 20) (hp : PI s) (hd : dB D s) : WO D s (F_X11_see 0 (nI c) (nI w) (bI b)) (F_X12_see 128 (nI c) (nI w) (bI b)) := by
  have hlo := hp.1
  have h1024 := wN_le hlo
  obtain ⟨c400, _, _⟩ := ccOk_iff.mp hcc
  refine ⟨nI 1, stSee s (c, w, b), ?_, ⟨by have := hd.1; show s.2.2.1.1 ≤ _; omega, fun i hi b hb => by have := hd.2 i hi b hb; omega⟩, fun M hG _ hc hk _ => ?_, fun M hG _ hm => ?_⟩
  · obtain ⟨p1, p2, ⟨p3, p4, p5, p5'⟩, p6, p7⟩ := hp
    refine ⟨p1, p2, ⟨p3, p4, by show s.2.2.1.2.2.2.1 + 1 ≤ 20; omega, fun i hi => ?_⟩, p6, p7⟩
    show ccOk s.2.1 (if i = s.2.2.1.2.2.2.1 then (c, w, b) else s.2.2.1.2.2.2.2 i).1 = true ∧ (if i = s.2.2.1.2.2.2.1 then (c, w, b) else s.2.2.1.2.2.2.2 i).2.1 < wN s.2.1
    by_cases q : i = s.2.2.1.2.2.2.1
    · rw [if_pos q]; exact ⟨hcc, hw⟩
    · rw [if_neg q]
      have hi' : i < s.2.2.1.2.2.2.1 + 1 := hi
      exact p5' i (by omega)
  · obtain ⟨c0, c1, c2, c3, c4⟩ := hc
    have K0 : m_K M 0 = 9 := by simp only [gK hG]
    have R2 : m_R M 0 2 = some 2 := by simp only [gR hG]
    have K2 : m_K M 2 = 3 := by simp only [gK hG]
    have R9 : m_R M 0 9 = some 80 := by simp only [gR hG]
    have B80 : m_K M 80 = 1 := by simp only [gK hG]
    have R9b : m_R M 80 9 = some 84 := by simp only [gR hG]
    have K84 : m_K M 84 = 12 := by simp only [gK hG]
    have L84 : m_len M 84 = 20 := by simp only [gl hG]
    obtain ⟨b1, b2, ⟨fr, q1, q2, q3⟩, q4, q5⟩ := c2
    have hsum : ((((nI c * (16 : Int32)) * (64 : Int32)) + nI w) * (2 : Int32)) = nI (((c * 16) * 64 + w) * 2) := by
      rw [show (16 : Int32) = nI 16 from rfl, show (64 : Int32) = nI 64 from rfl, show (2 : Int32) = nI 2 from rfl, nI_mul, nI_mul, nI_add, nI_mul]
    have hse : nI (((c * 16) * 64 + w) * 2) + (if bI b = 0 then (0 : Int32) else (1 : Int32)) = nI (seC (c, w, b)) := by
      unfold seC
      cases b
      · rw [if_pos (show bI false = (0 : Int32) from rfl), show (0 : Int32) = nI 0 from rfl, nI_add]; congr 1; show _ = (c * 1024 + w) * 2 + 0; omega
      · rw [if_neg (show ¬ bI true = (0 : Int32) from by decide), show (1 : Int32) = nI 1 from rfl, nI_add]; congr 1; show _ = (c * 1024 + w) * 2 + 1; omega
    refine ⟨m_sI (m_sI M 84 s.2.2.1.2.2.2.1 (nI (seC (c, w, b)))) 80 3 (nI (s.2.2.1.2.2.2.1 + 1)), ?_, ?_, (frC_sI hG (by omega)).trans (frC_sI hG (by omega)), by show m_N M ≤ m_N M + 8; omega, hk.same rfl rfl⟩
    · have e : F_X1_noteSeen 80 (nI c) (nI w) (bI b) M = some (nI 1, m_sI (m_sI M 84 s.2.2.1.2.2.2.1 (nI (seC (c, w, b)))) 80 3 (nI (s.2.2.1.2.2.2.1 + 1))) := by
        unfold F_X1_noteSeen
        rw [x_gI_ok B80, q4, if_pos (show nI s.2.2.1.2.2.2.1 < (20 : Int32) from nI_lt (b := 20) hn (by omega))]
        refine m_let_e ?_
        intro K hK
        have hKK : ∀ z : Int32, K 80 84 (nI s.2.2.1.2.2.2.1) (nI (((c * 16) * 64 + w) * 2)) z M = some (nI 1, m_sI (m_sI M 84 s.2.2.1.2.2.2.1 (nI (((c * 16) * 64 + w) * 2) + z)) 80 3 (nI (s.2.2.1.2.2.2.1 + 1))) := by
          intro z
          rw [hK]
          dsimp only
          rw [x_sI_ok K84 (by rw [L84]; omega) (by omega), x_gI_ok (show m_K (m_sI M 84 s.2.2.1.2.2.2.1 (nI (((c * 16) * 64 + w) * 2) + z)) 80 = 1 from B80), sI_ne (show (80 : Nat) ≠ 84 by omega), q4, nI_1, x_pI_ok (show m_K (m_sI M 84 s.2.2.1.2.2.2.1 (nI (((c * 16) * 64 + w) * 2) + z)) 80 = 1 from B80)]
          rfl
        rw [x_gN_ok B80 R9b, x_gI_ok B80, q4, hsum, hKK, hKK, ← hse]
        split <;> rfl
      unfold F_X11_see
      rw [x_gN_ok K0 R2, x_cV_ok K2 (S_isClauseC hG c0.1 hlo (by omega)), hcc, if_neg (by decide), x_gN_ok K0 R2, x_cV_ok K2 (S_isWorldC hG c0.1 h1024 (by omega)), decide_eq_true hw, if_neg (by decide), x_gN_ok K0 R9, x_cV_ok B80 e]
      rfl
    · have hh : hiK M (m_sI (m_sI M 84 s.2.2.1.2.2.2.1 (nI (seC (c, w, b)))) 80 3 (nI (s.2.2.1.2.2.2.1 + 1))) := (hiK_sI (by omega)).trans (hiK_sI (by omega))
      have f : ∀ a, a ≠ 80 → a ≠ 84 → m_I (m_sI (m_sI M 84 s.2.2.1.2.2.2.1 (nI (seC (c, w, b)))) 80 3 (nI (s.2.2.1.2.2.2.1 + 1))) a = m_I M a := fun a ha hb => by rw [sI_ne ha, sI_ne hb]
      have g : ∀ j, j ≠ 3 → m_I (m_sI (m_sI M 84 s.2.2.1.2.2.2.1 (nI (seC (c, w, b)))) 80 3 (nI (s.2.2.1.2.2.2.1 + 1))) 80 j = m_I M 80 j := fun j h0 => by rw [mI_sI, if_neg (by omega), sI_ne (by omega)]
      obtain ⟨t1, ⟨t2, t2'⟩, t3, t4⟩ := b2
      refine ⟨⟨c0.1.cong (fun a h1 h2 => f a (by omega) (by omega)), c0.2.1, c0.2.2⟩, ⟨by rw [f 0 (by omega) (by omega)]; exact c1.1, by rw [f 1 (by omega) (by omega)]; exact c1.2⟩, ⟨by rw [g 0 (by omega)]; exact b1, ⟨t1, ⟨by rw [g 1 (by omega)]; exact t2, by rw [g 2 (by omega)]; exact t2'⟩, fun i hi => ?_, fun i hi => ?_⟩, ⟨fr, q1, q2, fun fm hfm => (q3 fm hfm).hi hh⟩, ?_, fun i hi => ?_⟩, ⟨c3.1, by rw [g 4 (by omega)]; exact c3.2.1, fun j hj => ?_⟩, fun i hi => ⟨by rw [f 89 (by omega) (by omega)]; exact (c4 i hi).1, fun b hb => ((c4 i hi).2 b hb).congr hh (fun _ => ⟨rfl, rfl⟩) (f _ (by omega) (by omega)) rfl rfl rfl (f _ (by omega) (by omega))⟩⟩
      · obtain ⟨r, r1, r2⟩ := t3 i hi
        exact ⟨r, r1, r2.hi hh⟩
      · obtain ⟨r, r1, r2⟩ := t4 i hi
        exact ⟨r, r1, r2.hi hh⟩
      · rw [mI_sI, if_pos ⟨rfl, rfl⟩]; rfl
      · have hi' : i < s.2.2.1.2.2.2.1 + 1 := hi
        show m_I (m_sI (m_sI M 84 s.2.2.1.2.2.2.1 (nI (seC (c, w, b)))) 80 3 (nI (s.2.2.1.2.2.2.1 + 1))) 84 i = nI (seC (if i = s.2.2.1.2.2.2.1 then (c, w, b) else s.2.2.1.2.2.2.2 i))
        rw [sI_ne (by omega), mI_sI]
        by_cases q : i = s.2.2.1.2.2.2.1
        · rw [if_pos ⟨rfl, q⟩, if_pos q]
        · rw [if_neg (fun z => q z.2), if_neg q]
          exact q5 i (by omega)
      · rw [f 85 (by omega) (by omega), f 86 (by omega) (by omega)]
        exact (c3.2.2 j hj).hi hh
  · obtain ⟨⟨m0, m1⟩, ⟨m2, m3⟩, ⟨⟨m4, m4', m4n, m4s⟩, m5⟩, ⟨m6, m7⟩, m8⟩ := hm
    have K : m_K M 128 = 10 := by simp only [gK hG]
    have hG1 : G (m_sI M 128 0 0) := hG
    have hl1 : LMi s.2.1 (m_I (m_sI M 128 0 0)) := m0.cong (fun a h1 h2 => sI_ne (by omega)) (by rw [mI_sI, if_neg (by omega)]) (by rw [mI_sI, if_neg (by omega)])
    refine ⟨m_sI (m_sI (m_sI (m_sI (m_sI M 128 0 0) 164 s.2.2.1.2.2.2.1 (nI c)) 165 s.2.2.1.2.2.2.1 (nI w)) 166 s.2.2.1.2.2.2.1 (bI b)) 167 0 (nI (s.2.2.1.2.2.2.1 + 1)), ?_, ?_, ((((frM_sI hG (by omega)).trans (frM_sI hG (by omega))).trans (frM_sI hG (by omega))).trans (frM_sI hG (by omega))).trans (frM_sI hG (by omega))⟩
    · have X : ∀ (M' : m_M), m_K M' 167 = 12 → m_len M' 167 = 5 → m_I M' 167 = m_I M 167 → ∀ g : Int32 → Option (Int32 × m_M), x_aI 12 M' 167 (0 : Int32) g = g (nI s.2.2.1.2.2.2.1) := fun M' h1 h2 h3 g => by
        rw [aI_lit (x := (0 : Int32)) (n := 0) h1 (by rw [h2]; omega) rfl (by omega), h3, m4n]
      unfold F_X12_see
      rw [x_pI_ok K, x_cV_ok (by simp only [mK_sI, gK hG]) (S_isClauseM hG1 hl1 hlo (by omega)), hcc, if_neg (by decide), x_cV_ok (by simp only [mK_sI, gK hG]) (S_isWorldM hG1 hl1 h1024 (by omega)), decide_eq_true hw, if_neg (by decide)]
      rw [x_gN_ok (r := 167) (by simp only [mK_sI, gK hG]) (by simp only [mR_sI, gR hG]), X _ (by simp only [mK_sI, gK hG]) (by simp only [mn_sI, gl hG]) (sI_ne (by omega)), if_neg (show ¬ nI s.2.2.1.2.2.2.1 = (20 : Int32) from fun z => by have := (nI_eq (b := 20) (by omega) (by omega)).mp z; omega)]
      rw [x_gN_ok (r := 164) (by simp only [mK_sI, gK hG]) (by simp only [mR_sI, gR hG]), x_gN_ok (r := 167) (by simp only [mK_sI, gK hG]) (by simp only [mR_sI, gR hG]), X _ (by simp only [mK_sI, gK hG]) (by simp only [mn_sI, gl hG]) (sI_ne (by omega)), x_sI_ok (by simp only [mK_sI, gK hG]) (by rw [show m_len (m_sI M 128 0 0) 164 = 100 from by simp only [mn_sI, gl hG]]; omega) (by omega)]
      rw [x_gN_ok (r := 165) (by simp only [mK_sI, gK hG]) (by simp only [mR_sI, gR hG]), x_gN_ok (r := 167) (by simp only [mK_sI, gK hG]) (by simp only [mR_sI, gR hG]), X _ (by simp only [mK_sI, gK hG]) (by simp only [mn_sI, gl hG]) (by rw [sI_ne (by omega), sI_ne (by omega)]), x_sI_ok (by simp only [mK_sI, gK hG]) (by rw [show m_len (m_sI (m_sI M 128 0 0) 164 s.2.2.1.2.2.2.1 (nI c)) 165 = 100 from by simp only [mn_sI, gl hG]]; omega) (by omega)]
      rw [x_gN_ok (r := 166) (by simp only [mK_sI, gK hG]) (by simp only [mR_sI, gR hG]), x_gN_ok (r := 167) (by simp only [mK_sI, gK hG]) (by simp only [mR_sI, gR hG]), X _ (by simp only [mK_sI, gK hG]) (by simp only [mn_sI, gl hG]) (by rw [sI_ne (by omega), sI_ne (by omega), sI_ne (by omega)]), x_sI_ok (by simp only [mK_sI, gK hG]) (by rw [show m_len (m_sI (m_sI (m_sI M 128 0 0) 164 s.2.2.1.2.2.2.1 (nI c)) 165 s.2.2.1.2.2.2.1 (nI w)) 166 = 100 from by simp only [mn_sI, gl hG]]; omega) (by omega), nar_bI]
      rw [x_gN_ok (r := 167) (by simp only [mK_sI, gK hG]) (by simp only [mR_sI, gR hG]), X _ (by simp only [mK_sI, gK hG]) (by simp only [mn_sI, gl hG]) (by rw [sI_ne (by omega), sI_ne (by omega), sI_ne (by omega), sI_ne (by omega)]), nI_1, show (0 : Int32) = nI 0 from rfl, x_sI_ok (by simp only [mK_sI, gK hG]) (by rw [show m_len (m_sI (m_sI (m_sI (m_sI M 128 0 (nI 0)) 164 s.2.2.1.2.2.2.1 (nI c)) 165 s.2.2.1.2.2.2.1 (nI w)) 166 s.2.2.1.2.2.2.1 (bI b)) 167 = 5 from by simp only [mn_sI, gl hG]]; omega) (by omega)]
      rfl
    · generalize hM5 : m_sI (m_sI (m_sI (m_sI (m_sI M 128 0 0) 164 s.2.2.1.2.2.2.1 (nI c)) 165 s.2.2.1.2.2.2.1 (nI w)) 166 s.2.2.1.2.2.2.1 (bI b)) 167 0 (nI (s.2.2.1.2.2.2.1 + 1)) = M5
      have hLeq : m_L M5 = m_L M := by rw [← hM5]; rfl
      have f : ∀ a, a ≠ 128 → a ≠ 164 → a ≠ 165 → a ≠ 166 → a ≠ 167 → m_I M5 a = m_I M a := fun a h1 h2 h3 h4 h5 => by rw [← hM5, sI_ne h5, sI_ne h4, sI_ne h3, sI_ne h2, sI_ne h1]
      have g : ∀ j, j ≠ 0 → m_I M5 128 j = m_I M 128 j := fun j h0 => by rw [← hM5, sI_ne (by omega), sI_ne (by omega), sI_ne (by omega), sI_ne (by omega), mI_sI, if_neg (by omega)]
      have g4 : ∀ j, m_I M5 164 j = if j = s.2.2.1.2.2.2.1 then nI c else m_I M 164 j := fun j => by
        rw [← hM5, sI_ne (by omega), sI_ne (by omega), sI_ne (by omega), mI_sI, sI_ne (show (164 : Nat) ≠ 128 by omega)]
        by_cases q : j = s.2.2.1.2.2.2.1 <;> simp [q]
      have g5 : ∀ j, m_I M5 165 j = if j = s.2.2.1.2.2.2.1 then nI w else m_I M 165 j := fun j => by
        rw [← hM5, sI_ne (by omega), sI_ne (by omega), mI_sI, sI_ne (show (165 : Nat) ≠ 164 by omega), sI_ne (show (165 : Nat) ≠ 128 by omega)]
        by_cases q : j = s.2.2.1.2.2.2.1 <;> simp [q]
      have g6 : ∀ j, m_I M5 166 j = if j = s.2.2.1.2.2.2.1 then bI b else m_I M 166 j := fun j => by
        rw [← hM5, sI_ne (by omega), mI_sI, sI_ne (show (166 : Nat) ≠ 165 by omega), sI_ne (show (166 : Nat) ≠ 164 by omega), sI_ne (show (166 : Nat) ≠ 128 by omega)]
        by_cases q : j = s.2.2.1.2.2.2.1 <;> simp [q]
      have g7 : ∀ j, m_I M5 167 j = if j = 0 then nI (s.2.2.1.2.2.2.1 + 1) else m_I M 167 j := fun j => by
        rw [← hM5, mI_sI, sI_ne (show (167 : Nat) ≠ 166 by omega), sI_ne (show (167 : Nat) ≠ 165 by omega), sI_ne (show (167 : Nat) ≠ 164 by omega), sI_ne (show (167 : Nat) ≠ 128 by omega)]
        by_cases q : j = 0 <;> simp [q]
      have tm : ∀ (t : Tl) (r : Nat), TlM s.2.1 t r (m_I M) (m_L M) → TlM s.2.1 t r (m_I M5) (m_L M5) := fun t r ht => ht.congr (f _ (by omega) (by omega) (by omega) (by omega) (by omega)) (f _ (by omega) (by omega) (by omega) (by omega) (by omega)) (f _ (by omega) (by omega) (by omega) (by omega) (by omega)) (by rw [hLeq]) (by rw [hLeq]) (by rw [hLeq])
      refine ⟨⟨m0.cong (fun a h1 h2 => f a (by omega) (by omega) (by omega) (by omega) (by omega)) (g 42 (by omega)) (g 43 (by omega)), by unfold NmM; rw [hLeq]; exact m1⟩, ⟨by rw [g 1 (by omega)]; exact m2, by rw [f 129 (by omega) (by omega) (by omega) (by omega) (by omega)]; exact m3⟩, ⟨⟨tm _ _ m4, by rw [f 163 (by omega) (by omega) (by omega) (by omega) (by omega), hLeq]; exact m4', by rw [g7, if_pos rfl]; rfl, fun i hi => ?_⟩, by rw [g 53 (by omega)]; exact m5⟩, ⟨by rw [g 52 (by omega)]; exact m6, fun j hj => tm _ _ (m7 j hj)⟩, fun i hi => ⟨by rw [f 169 (by omega) (by omega) (by omega) (by omega) (by omega)]; exact (m8 i hi).1, fun bb hb => ⟨?_, by rw [f 168 (by omega) (by omega) (by omega) (by omega) (by omega)]; exact ((m8 i hi).2 bb hb).2⟩⟩⟩
      · have hi' : i < s.2.2.1.2.2.2.1 + 1 := hi
        show m_I M5 164 (20 * 0 + i) = nI (if i = s.2.2.1.2.2.2.1 then (c, w, b) else s.2.2.1.2.2.2.2 i).1 ∧ m_I M5 165 (20 * 0 + i) = nI (if i = s.2.2.1.2.2.2.1 then (c, w, b) else s.2.2.1.2.2.2.2 i).2.1 ∧ m_I M5 166 (20 * 0 + i) = bI (if i = s.2.2.1.2.2.2.1 then (c, w, b) else s.2.2.1.2.2.2.2 i).2.2
        rw [show 20 * 0 + i = i by omega, g4, g5, g6]
        by_cases q : i = s.2.2.1.2.2.2.1
        · rw [if_pos q, if_pos q, if_pos q, if_pos q]; exact ⟨rfl, rfl, rfl⟩
        · rw [if_neg q, if_neg q, if_neg q, if_neg q]
          have := m4s i (by omega)
          rw [show 20 * 0 + i = i by omega] at this
          exact this
      · have hold := ((m8 i hi).2 bb hb).1
        have hb20 : bb.2.2.2.1 ≤ 20 := (hp.2.2.2.2 i hi bb hb).2.2.1
        obtain ⟨x1, x2, x3, x4⟩ := hold
        refine ⟨tm _ _ x1, by rw [f 163 (by omega) (by omega) (by omega) (by omega) (by omega), hLeq]; exact x2, by rw [g7, if_neg (by omega)]; exact x3, fun j hj => ?_⟩
        rw [g4, g5, g6, if_neg (by omega), if_neg (by omega), if_neg (by omega)]
        exact x4 j hj
theorem R_see (x y : Int32) (b : Bool) (hp : PI s) (hd : dB D s) : RUN D s (F_X11_see 0 x y (bI b)) (F_X12_see 128 x y (bI b)) := by
  rcases i_cases x with ⟨c, hc, rfl⟩ | hx
  · cases hcc : ccOk s.2.1 c
    · exact (O_see_bad (.inr ⟨c, hc, rfl, .inl hcc⟩)).run hd
    · rcases i_cases y with ⟨w, hw, rfl⟩ | hy
      · by_cases q : w < wN s.2.1
        · by_cases q20 : s.2.2.1.2.2.2.1 < 20
          · exact (W_see hcc q q20 hp hd).run
          · have := hp.2.2.1.2.2.1
            exact (O_see_bad (.inr ⟨c, hc, rfl, .inr (.inr ⟨w, hw, rfl, .inr (by omega)⟩)⟩)).run hd
        · exact (O_see_bad (.inr ⟨c, hc, rfl, .inr (.inr ⟨w, hw, rfl, .inl (by omega)⟩)⟩)).run hd
      · exact (O_see_bad (.inr ⟨c, hc, rfl, .inr (.inl hy)⟩)).run hd
  · exact (O_see_bad (.inl hx)).run hd
end SEE
