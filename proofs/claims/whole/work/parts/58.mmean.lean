/-! formulas: the model's side -/
theorem nar_bI (b : Bool) : vp_nar .boolean (bI b) = bI b := by cases b <;> rfl
section MMEAN
variable {M : m_M} {l : Ld}
theorem mm_cells {A : IA} (h : G M) : m_K (m_wA M A) 128 = 10 ∧ m_R (m_wA M A) 128 38 = some 153 ∧ m_R (m_wA M A) 128 45 = some 155 ∧ m_K (m_wA M A) 153 = 12 ∧ m_len (m_wA M A) 153 = 1000 ∧ m_K (m_wA M A) 155 = 14 ∧ m_len (m_wA M A) 155 = 600 := by
  refine ⟨?_, ?_, ?_, ?_, ?_, ?_, ?_⟩ <;> simp only [wA_K, wA_R, wA_n, gK h, gR h, gl h]
theorem S_means_l (h : G M) (ho : lOk l) {m w : Nat} {p : Nat → Nat} {v : Option Nat} (hv : vIn l v) (hm : m ≤ 1000) {K : Nat → m_M → Option (Int32 × m_M)} : ∀ (d k f : Nat) (s : FS) (A : IA), k + d = m → d < f → LMi l A → Wh l w A → A 128 39 = nI m → (∀ i, i < m → A 153 i = nI (p i)) → fRok l p d k s.1 → (∀ j, j < s.1 → A 155 j = bI (s.2 j w)) →
    ∃ B, F_X12_means_4 K f 128 (iO v) (nI s.1) (nI k) (m_wA M A) = K 128 (m_wA M B) ∧ (∀ a, (a < 143 ∨ 152 < a) → a ≠ 155 → B a = A a) ∧ B 155 0 = bI ((fR l v p d k s).2 0 w) := by
  intro d
  induction d with
  | zero =>
    intro k f s A hk hf hl hW hu hp hok hr
    obtain ⟨f, rfl⟩ : ∃ f', f = f' + 1 := ⟨f - 1, by omega⟩
    obtain ⟨K0, _⟩ := mm_cells (A := A) h
    refine ⟨A, ?_, fun _ _ _ => rfl, hr 0 hok⟩
    rw [F_X12_means_4, x_gI_ok K0, wA_I, hu, if_pos (nI_le (by omega) (by omega))]
  | succ d ih =>
    intro k f s A hk hf hl hW hu hp hok hr
    obtain ⟨f, rfl⟩ : ∃ f', f = f' + 1 := ⟨f - 1, by omega⟩
    obtain ⟨⟨t16, hok1⟩, hok2⟩ := hok
    obtain ⟨K0, R38, R45, K153, L153, K155, L155⟩ := mm_cells (A := A) h
    have fin : ∀ (s2 : FS) (A2 : IA), s2 = fSt l v (p k) s → (∀ a, (a < 143 ∨ 152 < a) → a ≠ 155 → A2 a = A a) → (∀ j, j < s2.1 → A2 155 j = bI (s2.2 j w)) → ∃ B, F_X12_means_4 K f 128 (iO v) (nI s2.1) (nI k + 1) (m_wA M A2) = K 128 (m_wA M B) ∧ (∀ a, (a < 143 ∨ 152 < a) → a ≠ 155 → B a = A a) ∧ B 155 0 = bI ((fR l v p (d + 1) k s).2 0 w) := by
      intro s2 A2 hs2 hA2 hr2
      obtain ⟨B, e, e2, e3⟩ := ih (k + 1) f s2 A2 (by omega) (by omega) (hl.sc (fun a ha => hA2 a (by omega) (by omega))) (fun t ht => by rw [hA2 154 (by omega) (by omega)]; exact hW t ht) (by rw [hA2 128 (by omega) (by omega)]; exact hu) (fun i hi => by rw [hA2 153 (by omega) (by omega)]; exact hp i hi) (by rw [hs2, fSt_top]; exact hok2) hr2
      refine ⟨B, ?_, fun a ha ha2 => by rw [e2 a ha ha2, hA2 a ha ha2], ?_⟩
      · rw [nI_1]; exact e
      · rw [fR, ← hs2]; exact e3
    have hpk := hp k (by omega)
    have hmx : p k < 16484 := by rcases hok1 with q | q | q <;> omega
    rw [F_X12_means_4, x_gI_ok K0, wA_I, hu, if_neg (nI_ge (by omega) (by omega))]
    refine m_let_P (fun o => ∃ B, o = K 128 (m_wA M B) ∧ (∀ a, (a < 143 ∨ 152 < a) → a ≠ 155 → B a = A a) ∧ B 155 0 = bI ((fR l v p (d + 1) k s).2 0 w)) ?_
    intro k163 h163
    rw [x_gN_ok K0 R38, x_aI_ok K153 (by rw [L153]; omega) (by omega), wA_I, hpk]
    have sI : ∀ (B : IA) (j : Nat) (x : Bool) (g : m_M → Option (Int32 × m_M)), j < 600 → x_sI 14 (m_wA M B) 155 (nI j) (vp_nar .boolean (bI x)) g = g (m_wA M (m_up B 155 j (bI x))) := fun B j x g hj => by
      obtain ⟨_, _, _, _, _, K155', L155'⟩ := mm_cells (A := B) h
      rw [nar_bI, x_sI_ok K155' (by rw [L155']; exact hj) (by omega)]; rfl
    rcases hok1 with ⟨hx, ht⟩ | ⟨hx, ht⟩ | ⟨hx, hx2, ht, hn1, hn2⟩
    · have hb := hr (s.1 - 1) (by omega)
      rw [hx, if_pos (show nI 0 = (0 : Int32) from rfl)]
      refine m_let_P (fun o => ∃ B, o = K 128 (m_wA M B) ∧ (∀ a, (a < 143 ∨ 152 < a) → a ≠ 155 → B a = A a) ∧ B 155 0 = bI ((fR l v p (d + 1) k s).2 0 w)) ?_
      intro k48 h48
      rw [show nI s.1 - (1 : Int32) = nI (s.1 - 1) from nI_sub' (b := 1) (by omega), x_gN_ok K0 R45, x_gN_ok K0 R45, x_aI_ok K155 (by rw [L155]; omega) (by omega), wA_I, hb]
      have hkk : k48 128 (iO v) (nI s.1) (nI k) 155 (nI (s.1 - 1)) (bI (!s.2 (s.1 - 1) w)) (m_wA M A) = F_X12_means_4 K f 128 (iO v) (nI s.1) (nI k + 1) (m_wA M (m_up A 155 (s.1 - 1) (bI (!s.2 (s.1 - 1) w)))) := by
        rw [h48]
        dsimp only
        rw [sI _ _ _ _ (by omega), h163]
        rfl
      have e1 : s.1 = (fSt l v (p k) s).1 := by rw [fSt_top, hx]; rfl
      have := fin (fSt l v (p k) s) (m_up A 155 (s.1 - 1) (bI (!s.2 (s.1 - 1) w))) rfl (fun a ha ha2 => up_fr ha2) (fun j hj => by
        rw [← e1] at hj
        unfold fSt
        rw [if_pos hx]
        dsimp only
        rw [up_at]
        by_cases q : j = s.1 - 1
        · rw [if_pos ⟨rfl, q⟩, if_pos q]
        · rw [if_neg (fun z => q z.2), if_neg q]
          exact hr j hj)
      rw [← e1] at this
      rw [← hkk] at this
      cases hq : s.2 (s.1 - 1) w
      · rw [hq] at this
        rw [if_pos (show bI false = (0 : Int32) from rfl)]
        exact this
      · rw [hq] at this
        rw [if_neg (show ¬ bI true = (0 : Int32) from by decide)]
        exact this
    · have hb1 := hr (s.1 - 1) (by omega)
      have hb2 := hr (s.1 - 2) (by omega)
      rw [if_neg (show ¬ nI (p k) = (0 : Int32) from nI_ne0 (by omega) (by omega)), if_neg (show ¬ (3 : Int32) ≤ nI (p k) from nI_ge (b := 3) (by omega) (by omega))]
      refine m_let_P (fun o => ∃ B, o = K 128 (m_wA M B) ∧ (∀ a, (a < 143 ∨ 152 < a) → a ≠ 155 → B a = A a) ∧ B 155 0 = bI ((fR l v p (d + 1) k s).2 0 w)) ?_
      intro k127 h127
      rw [m_let_eq, show nI s.1 + (-1 : Int32) = nI (s.1 - 1) from no_dec (by omega), x_gN_ok K0 R45, show nI (s.1 - 1) - (1 : Int32) = nI (s.1 - 2) from nI_sub' (a := s.1 - 1) (b := 1) (by omega)]
      have hkk : ∀ b : Bool, k127 128 (iO v) (nI (s.1 - 1)) (nI k) 155 (nI (s.1 - 2)) (bI b) (m_wA M A) = F_X12_means_4 K f 128 (iO v) (nI (s.1 - 1)) (nI k + 1) (m_wA M (m_up A 155 (s.1 - 2) (bI b))) := by
        intro b
        rw [h127]
        dsimp only
        rw [sI _ _ _ _ (by omega), h163]
        rfl
      have e1 : s.1 - 1 = (fSt l v (p k) s).1 := by
        rw [fSt_top]; unfold fTop
        rcases hx with hx | hx <;> rw [hx] <;> rfl
      have fin2 : ∀ b : Bool, b = (if p k = 1 then s.2 (s.1 - 2) w && s.2 (s.1 - 1) w else s.2 (s.1 - 2) w || s.2 (s.1 - 1) w) → ∃ B, k127 128 (iO v) (nI (s.1 - 1)) (nI k) 155 (nI (s.1 - 2)) (bI b) (m_wA M A) = K 128 (m_wA M B) ∧ (∀ a, (a < 143 ∨ 152 < a) → a ≠ 155 → B a = A a) ∧ B 155 0 = bI ((fR l v p (d + 1) k s).2 0 w) := by
        intro b hb
        have := fin (fSt l v (p k) s) (m_up A 155 (s.1 - 2) (bI b)) rfl (fun a ha ha2 => up_fr ha2) (fun j hj => by
          rw [← e1] at hj
          unfold fSt
          rw [if_neg (by omega)]
          rw [up_at]
          by_cases q : j = s.1 - 2
          · rw [if_pos ⟨rfl, q⟩, hb]
            rcases hx with hx | hx
            · rw [if_pos hx, if_pos hx]
              dsimp only
              rw [if_pos q]
            · rw [if_neg (by omega), if_neg (by omega), if_pos hx]
              dsimp only
              rw [if_pos q]
          · rw [if_neg (fun z => q z.2)]
            rcases hx with hx | hx
            · rw [if_pos hx]
              dsimp only
              rw [if_neg q]
              exact hr j (by omega)
            · rw [if_neg (by omega), if_pos hx]
              dsimp only
              rw [if_neg q]
              exact hr j (by omega))
        rw [← e1] at this
        rw [← hkk] at this
        exact this
      have X0 : ∀ g : Int32 → Option (Int32 × m_M), x_aI 14 (m_wA M A) 155 (nI (s.1 - 2)) g = g (bI (s.2 (s.1 - 2) w)) := fun g => by
        rw [x_aI_ok K155 (by rw [L155]; omega) (by omega), wA_I, hb2]
      have X1 : ∀ g : Int32 → Option (Int32 × m_M), x_aI 14 (m_wA M A) 155 (nI (s.1 - 1)) g = g (bI (s.2 (s.1 - 1) w)) := fun g => by
        rw [x_aI_ok K155 (by rw [L155]; omega) (by omega), wA_I, hb1]
      rcases hx with hx | hx
      · rw [hx] at fin2 ⊢
        rw [if_pos (show nI 1 = (1 : Int32) from rfl), m_let_eq, x_gN_ok K0 R45, X0]
        rw [if_pos rfl] at fin2
        cases hq : s.2 (s.1 - 2) w
        · rw [if_pos (show bI false = (0 : Int32) from rfl)]
          exact fin2 false (by rw [hq]; rfl)
        · rw [if_neg (show ¬ bI true = (0 : Int32) from by decide), x_gN_ok K0 R45, X1]
          cases hq2 : s.2 (s.1 - 1) w
          · rw [if_pos (show bI false = (0 : Int32) from rfl)]
            exact fin2 false (by rw [hq, hq2]; rfl)
          · rw [if_neg (show ¬ bI true = (0 : Int32) from by decide)]
            exact fin2 true (by rw [hq, hq2]; rfl)
      · rw [hx] at fin2 ⊢
        rw [if_neg (show ¬ nI 2 = (1 : Int32) from by decide), m_let_eq, x_gN_ok K0 R45, X0]
        rw [if_neg (by omega)] at fin2
        cases hq : s.2 (s.1 - 2) w
        · rw [if_pos (show bI false = (0 : Int32) from rfl), x_gN_ok K0 R45, X1]
          cases hq2 : s.2 (s.1 - 1) w
          · rw [if_pos (show bI false = (0 : Int32) from rfl)]
            exact fin2 false (by rw [hq, hq2]; rfl)
          · rw [if_neg (show ¬ bI true = (0 : Int32) from by decide)]
            exact fin2 true (by rw [hq, hq2]; rfl)
        · rw [if_neg (show ¬ bI true = (0 : Int32) from by decide)]
          exact fin2 true (by rw [hq]; rfl)
    · obtain ⟨B1, hB1, hf1⟩ := S_holdsBy h hl ho hv hn1 hn2 hW
      obtain ⟨K0', _⟩ := mm_cells (A := B1) h
      rw [if_neg (show ¬ nI (p k) = (0 : Int32) from nI_ne0 (by omega) (by omega)), if_pos (show (3 : Int32) ≤ nI (p k) from nI_le (a := 3) (by omega) (by omega)), x_gN_ok K0 R45, x_nz_eq, if_neg (by decide), x_nz_eq, if_neg (by decide), show nI (p k) - (100 : Int32) = nI (p k - 100) from nI_sub' (b := 100) hx, show nI (p k - 100) / (128 : Int32) = nI ((p k - 100) / 128) from i32_div (b := 128) (by omega) (by omega), show nI (p k - 100) - nI ((p k - 100) / 128) * (128 : Int32) = nI ((p k - 100) % 128) from by rw [show (128 : Int32) = nI 128 from rfl, nI_mul, i32_rem2], x_cV_ok K0 hB1, sI _ _ _ _ (by omega), m_let_eq, nI_1, h163]
      dsimp only
      rw [m_let_eq]
      have e3 : s.1 + 1 = (fSt l v (p k) s).1 := by
        rw [fSt_top]; unfold fTop
        rw [if_neg (by omega), if_neg (by omega), if_neg (by omega)]
      have := fin (fSt l v (p k) s) (m_up B1 155 s.1 (bI (hby l v ((p k - 100) / 128) ((p k - 100) % 128) w))) rfl (fun a ha ha2 => by rw [up_fr ha2, hf1 a ha]) (fun j hj => by
        rw [← e3] at hj
        unfold fSt
        rw [if_neg (by omega), if_neg (by omega), if_neg (by omega)]
        dsimp only
        rw [up_at]
        by_cases q : j = s.1
        · rw [if_pos ⟨rfl, q⟩, if_pos q]
        · rw [if_neg (fun z => q z.2), if_neg q, hf1 155 (by omega)]
          exact hr j (by omega))
      rw [← e3] at this
      exact this
theorem S_means (h : G M) (ho : lOk l) {A : IA} {m w : Nat} {p : Nat → Nat} {v : Option Nat} (hv : vIn l v) (hm : m ≤ 1000) (hl : LMi l A) (hW : Wh l w A) (hu : A 128 39 = nI m) (hp : ∀ i, i < m → A 153 i = nI (p i)) (hok : fRok l p m 0 0) :
    ∃ B, F_X12_means 128 (iO v) (m_wA M A) = some (bI (fMn l v p m w), m_wA M B) ∧ ∀ a, (a < 143 ∨ 152 < a) → a ≠ 155 → B a = A a := by
  unfold F_X12_means
  refine m_let_P (fun o => ∃ B, o = some (bI (fMn l v p m w), m_wA M B) ∧ ∀ a, (a < 143 ∨ 152 < a) → a ≠ 155 → B a = A a) ?_
  intro k h169
  obtain ⟨B, e, e2, e3⟩ := S_means_l h ho hv hm (K := k) m 0 m_FU (0, fun _ _ => false) A (by omega) (m_FU_lt (by omega)) hl hW hu hp hok (fun j hj => absurd hj (Nat.not_lt_zero _))
  obtain ⟨K0, R38, R45, K153, L153, K155, L155⟩ := mm_cells (A := B) h
  refine ⟨B, ?_, e2⟩
  rw [show (0 : Int32) = nI 0 from rfl, e, h169]
  dsimp only
  rw [x_gN_ok K0 R45, show (0 : Int32) = nI 0 from rfl, x_aI_ok K155 (by rw [L155]; omega) (by omega), wA_I, e3]
  exact x_b_bI
end MMEAN
