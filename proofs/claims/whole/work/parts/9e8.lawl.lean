/-! the law's loop -/
section LAWL
variable {L : Nat} {xs : Nat → Int32}
theorem scr_ok {β : Type} {j : Nat} {f : Int32 → Option β} (h : j < L) (hL : L ≤ 3584) : x_scr L xs (nI j) f = f (xs j) := by
  unfold x_scr
  rw [nI_cl (by omega), if_pos ⟨nI_pos' (by omega), h⟩]
theorem law_end {i : Nat} (hL : L ≤ 3584) (hi : i ≤ 512) (h : L < 7 * i + 7) : nI L - (7 : Int32) < nI (7 * i) := by
  by_cases h7 : 7 ≤ L
  · rw [show (7 : Int32) = nI 7 from rfl, nI_sub' h7]
    exact nI_lt (by omega) (by omega)
  · have h0 : nI L - (7 : Int32) < 0 := by
      rcases (show L = 0 ∨ L = 1 ∨ L = 2 ∨ L = 3 ∨ L = 4 ∨ L = 5 ∨ L = 6 by omega) with rfl | rfl | rfl | rfl | rfl | rfl | rfl <;> decide
    exact Int32.lt_of_lt_of_le h0 (nI_pos' (by omega))
theorem cmp_same (x : Int64) : lg_cmp x x = 0 := by
  unfold lg_cmp
  simp
theorem law_l (hL : L ≤ 3584) : ∀ (d i f : Nat) (M : m_M) (s : St), i + d = 512 → d < f → INV s M → RefK M → m_N M ≤ 178 + 8 * i → dB (1000 * i) s → ∃ M', F_L_law_loop L xs f 0 128 177 (nI (7 * i)) M = some ((1 : Int32), M') := by
  intro d
  induction d with
  | zero =>
    intro i f M s hi hf h hk hN hd
    obtain ⟨f, rfl⟩ : ∃ f', f = f' + 1 := ⟨f - 1, by omega⟩
    exact ⟨M, by rw [F_L_law_loop, if_pos (law_end hL (by omega) (by omega))]⟩
  | succ d ih =>
    intro i f M s hi hf h hk hN hd
    obtain ⟨f, rfl⟩ : ∃ f', f = f' + 1 := ⟨f - 1, by omega⟩
    by_cases hend : L < 7 * i + 7
    · exact ⟨M, by rw [F_L_law_loop, if_pos (law_end hL (by omega) hend)]⟩
    have K9 : m_K M 0 = 9 := by have g := h.1; simp only [gK g]
    have hp : PI s := h.split.2.1
    rw [F_L_law_loop, if_neg (show ¬ nI L - (7 : Int32) < nI (7 * i) from by
      rw [show (7 : Int32) = nI 7 from rfl, nI_sub' (by omega)]
      exact nI_nlt (by omega) (by omega))]
    refine m_let_P (fun o => ∃ M', o = some ((1 : Int32), M')) ?_
    intro k1282 hk1282
    -- once a call is done
    have next : ∀ (M1 : m_M) (s1 : St), INV s1 M1 → RefK M1 → m_N M1 ≤ m_N M + 8 → dB (1000 * i + 1000) s1 → ∃ M', k1282 0 128 177 (nI (7 * i)) M1 = some ((1 : Int32), M') := by
      intro M1 s1 h1 hk1 hN1 hd1
      obtain ⟨M', e⟩ := ih (i + 1) f M1 s1 (by omega) (by omega) h1 hk1 (by omega) hd1
      refine ⟨M', ?_⟩
      rw [hk1282]
      dsimp only
      rw [m_let_eq, show (7 : Int32) = nI 7 from rfl, nI_add]
      exact e
    have fin : ∀ {fc fm : m_M → Option (Int32 × m_M)}, RUN (1000 * i) s fc fm → ∃ M', (x_cV 9 M 0 (fc M) fun v M2 => x_cV 10 M2 128 (fm M2) fun v' M3 => if v = v' then k1282 0 128 177 (nI (7 * i)) M3 else some ((0 : Int32), M3)) = some ((1 : Int32), M') := by
      intro fc fm hr
      obtain ⟨v, s', M1, M2, e1, g1, e2, h2, hN2, hd2, hk2⟩ := hr M h hk (by omega)
      obtain ⟨M', e⟩ := next M2 s' h2 hk2 hN2 hd2
      exact ⟨M', by rw [x_cV_ok K9 e1, x_cV_ok (show m_K M1 128 = 10 by simp only [gK g1]) e2, if_pos rfl]; exact e⟩
    have ro : ∀ {fc fm : m_M → Option (Int32 × m_M)}, RO s fc fm → ∃ M', (x_cV 9 M 0 (fc M) fun v M2 => x_cV 10 M2 128 (fm M2) fun v' M3 => if v = v' then k1282 0 128 177 (nI (7 * i)) M3 else some ((0 : Int32), M3)) = some ((1 : Int32), M') := fun hr => fin (hr.run hd)
    have h0 : ∀ (g : Int32 → Option (Int32 × m_M)), x_scr L xs (nI (7 * i)) g = g (xs (7 * i)) := fun g => scr_ok (by omega) hL
    have h1 : ∀ (g : Int32 → Option (Int32 × m_M)), x_scr L xs (nI (7 * i) + (1 : Int32)) g = g (xs (7 * i + 1)) := fun g => by rw [show (1 : Int32) = nI 1 from rfl, nI_add]; exact scr_ok (by omega) hL
    have h2 : ∀ (g : Int32 → Option (Int32 × m_M)), x_scr L xs (nI (7 * i) + (2 : Int32)) g = g (xs (7 * i + 2)) := fun g => by rw [show (2 : Int32) = nI 2 from rfl, nI_add]; exact scr_ok (by omega) hL
    have h3 : ∀ (g : Int32 → Option (Int32 × m_M)), x_scr L xs (nI (7 * i) + (3 : Int32)) g = g (xs (7 * i + 3)) := fun g => by rw [show (3 : Int32) = nI 3 from rfl, nI_add]; exact scr_ok (by omega) hL
    have h4 : ∀ (g : Int32 → Option (Int32 × m_M)), x_scr L xs (nI (7 * i) + (4 : Int32)) g = g (xs (7 * i + 4)) := fun g => by rw [show (4 : Int32) = nI 4 from rfl, nI_add]; exact scr_ok (by omega) hL
    have h5 : ∀ (g : Int32 → Option (Int32 × m_M)), x_scr L xs (nI (7 * i) + (5 : Int32)) g = g (xs (7 * i + 5)) := fun g => by rw [show (5 : Int32) = nI 5 from rfl, nI_add]; exact scr_ok (by omega) hL
    have h6 : ∀ (g : Int32 → Option (Int32 × m_M)), x_scr L xs (nI (7 * i) + (6 : Int32)) g = g (xs (7 * i + 6)) := fun g => by rw [show (6 : Int32) = nI 6 from rfl, nI_add]; exact scr_ok (by omega) hL
    rw [h0, m_let_eq]
    generalize xs (7 * i) &&& (63 : Int32) = c
    by_cases c0 : c = (0 : Int32)
    · rw [if_pos c0]
      simp only [h1, h2, h3, h4, h5, h6]
      exact fin (W_feed _ _ _ hp hd).run
    rw [if_neg c0]
    by_cases c1 : c = (1 : Int32)
    · rw [if_pos c1]
      exact fin (R_land hd)
    rw [if_neg c1]
    by_cases c2 : c = (2 : Int32)
    · rw [if_pos c2]
      exact fin (R_say hd)
    rw [if_neg c2]
    by_cases c3 : c = (3 : Int32)
    · rw [if_pos c3]
      simp only [h1]
      exact fin (R_order hd _)
    rw [if_neg c3]
    by_cases c4 : c = (4 : Int32)
    · rw [if_pos c4]
      exact fin (R_ask hd)
    rw [if_neg c4]
    by_cases c5 : c = (5 : Int32)
    · rw [if_pos c5]
      simp only [h1]
      exact fin (R_unsay hd _)
    rw [if_neg c5]
    by_cases c6 : c = (6 : Int32)
    · rw [if_pos c6]
      exact fin (R_undo hd)
    rw [if_neg c6]
    by_cases c7 : c = (7 : Int32)
    · rw [if_pos c7]
      simp only [h1]
      exact fin (R_dawn _ hp hd (by omega))
    rw [if_neg c7]
    by_cases c8 : c = (8 : Int32)
    · rw [if_pos c8]
      simp only [h1]
      exact ro (O_thing _)
    rw [if_neg c8]
    by_cases c9 : c = (9 : Int32)
    · rw [if_pos c9]
      simp only [h1]
      exact ro (O_verb _)
    rw [if_neg c9]
    by_cases c10 : c = (10 : Int32)
    · rw [if_pos c10]
      simp only [h1, h2]
      exact ro (O_saying _ _)
    rw [if_neg c10]
    by_cases c11 : c = (11 : Int32)
    · rw [if_pos c11]
      simp only [h1, h2]
      exact ro (O_ordered _ _)
    rw [if_neg c11]
    by_cases c12 : c = (12 : Int32)
    · rw [if_pos c12]
      simp only [h1]
      exact ro (O_worlds _)
    rw [if_neg c12]
    by_cases c13 : c = (13 : Int32)
    · rw [if_pos c13]
      simp only [h1]
      exact ro (O_left _)
    rw [if_neg c13]
    by_cases c14 : c = (14 : Int32)
    · rw [if_pos c14]
      simp only [h1, h2, h3]
      exact ro (O_holds _ _ _)
    rw [if_neg c14]
    by_cases c15 : c = (15 : Int32)
    · rw [if_pos c15]
      simp only [h1]
      exact ro (O_meant _)
    rw [if_neg c15]
    by_cases c16 : c = (16 : Int32)
    · rw [if_pos c16]
      simp only [h1, h2]
      exact ro (O_same _ _)
    rw [if_neg c16]
    by_cases c17 : c = (17 : Int32)
    · rw [if_pos c17]
      exact ro O_asked
    rw [if_neg c17]
    by_cases c18 : c = (18 : Int32)
    · rw [if_pos c18]
      simp only [h1, h2]
      exact ro (O_sure _ _)
    rw [if_neg c18]
    by_cases c19 : c = (19 : Int32)
    · rw [if_pos c19]
      exact ro O_clash
    rw [if_neg c19]
    by_cases c20 : c = (20 : Int32)
    · rw [if_pos c20]
      simp only [h1, h2]
      exact ro (O_shortest _ _)
    rw [if_neg c20]
    by_cases c21 : c = (21 : Int32)
    · rw [if_pos c21]
      simp only [h1, h2]
      exact ro (O_two _ _)
    rw [if_neg c21]
    by_cases c22 : c = (22 : Int32)
    · rw [if_pos c22]
      simp only [h1]
      exact ro (O_riddle _)
    rw [if_neg c22]
    by_cases c23 : c = (23 : Int32)
    · rw [if_pos c23]
      simp only [h1]
      obtain ⟨t, v, M1, M2, e1, k1, e2, e3, ht, hv, i2, n2, r2⟩ := O_rings (xs (7 * i + 1)) M h hk (by omega)
      have g2 := i2.1
      have K2 : m_K M2 128 = 10 := by simp only [gK g2]
      have K177 : m_K M2 177 = 13 := by simp only [gK g2]
      have L177 : m_len M2 177 = 1 := by simp only [gl g2]
      obtain ⟨M', e⟩ := next M2 s i2 r2 n2 ⟨by have := hd.1; omega, fun j hj b hb => by have := hd.2 j hj b hb; omega⟩
      refine ⟨M', ?_⟩
      rw [x_bd_ok e1, x_cV_ok k1 e2, x_cV_ok K2 e3, if_pos rfl]
      refine m_let_e ?_
      intro k962 hk962
      have e' : k962 0 128 177 (nI (7 * i)) M2 = some ((1 : Int32), M') := by rw [hk962]; exact e
      by_cases t0 : t = 0
      · rw [if_pos t0, show (0 : Int32) = nI 0 from rfl, x_aL_ok K177 (by rw [L177]; omega) (by omega), hv t0, cmp_same, if_pos (show (0 : Int32) = nI 0 from rfl)]
        exact e'
      · rw [if_neg t0]
        exact e'
    rw [if_neg c23]
    by_cases c24 : c = (24 : Int32)
    · rw [if_pos c24]
      simp only [h1]
      exact ro (O_rests _)
    rw [if_neg c24]
    by_cases c25 : c = (25 : Int32)
    · rw [if_pos c25]
      simp only [h1, h2]
      exact ro (O_sayable _ _)
    rw [if_neg c25]
    by_cases c26 : c = (26 : Int32)
    · rw [if_pos c26]
      simp only [h1]
      exact ro (O_cover _)
    rw [if_neg c26]
    by_cases c27 : c = (27 : Int32)
    · rw [if_pos c27]
      refine m_let_P (fun o => ∃ M', o = some ((1 : Int32), M')) ?_
      intro k1079 hk1079
      have go : ∀ b : Bool, (xs (7 * i + 3) = 0 ↔ b = false) → ∃ M', k1079 0 128 177 (nI (7 * i)) 0 (xs (7 * i + 1)) (xs (7 * i + 2)) (bI b) M = some ((1 : Int32), M') := by
        intro b hb
        obtain ⟨M', e⟩ := fin (R_see (xs (7 * i + 1)) (xs (7 * i + 2)) b hp hd)
        refine ⟨M', ?_⟩
        rw [hk1079]
        dsimp only
        refine m_let_e ?_
        intro k1109 hk1109
        simp only [h1, h2, h3]
        rw [← e]
        congr 1
        funext v M2
        cases b with
        | false => rw [if_pos (hb.mpr rfl), hk1109]; rfl
        | true => rw [if_neg (fun z => by have := hb.mp z; cases this), hk1109]; rfl
      simp only [h1, h2, h3]
      by_cases z : xs (7 * i + 3) = 0
      · rw [if_pos z]
        exact go false ⟨fun _ => rfl, fun _ => z⟩
      · rw [if_neg z]
        exact go true ⟨fun y => absurd y z, fun y => (by cases y)⟩
    rw [if_neg c27]
    by_cases c28 : c = (28 : Int32)
    · rw [if_pos c28]
      exact ro O_knows
    rw [if_neg c28]
    by_cases c29 : c = (29 : Int32)
    · rw [if_pos c29]
      simp only [h1]
      exact ro (O_tells _)
    rw [if_neg c29]
    by_cases c30 : c = (30 : Int32)
    · rw [if_pos c30]
      simp only [h1, h2, h3]
      exact ro (O_year _ _ _)
    rw [if_neg c30]
    by_cases c31 : c = (31 : Int32)
    · rw [if_pos c31]
      refine m_let_P (fun o => ∃ M', o = some ((1 : Int32), M')) ?_
      intro k1225 hk1225
      have go : ∀ b : Bool, (xs (7 * i + 2) = 0 ↔ b = false) → ∃ M', k1225 0 128 177 (nI (7 * i)) 0 (xs (7 * i + 1)) (bI b) M = some ((1 : Int32), M') := by
        intro b hb
        obtain ⟨M', e⟩ := fin (R_mark hd (xs (7 * i + 1)) (bI b))
        refine ⟨M', ?_⟩
        rw [hk1225]
        dsimp only
        refine m_let_e ?_
        intro k1249 hk1249
        simp only [h1, h2]
        rw [← e]
        congr 1
        funext v M2
        cases b with
        | false => rw [if_pos (hb.mpr rfl), hk1249]; rfl
        | true => rw [if_neg (fun z => by have := hb.mp z; cases this), hk1249]; rfl
      simp only [h1, h2]
      by_cases z : xs (7 * i + 2) = 0
      · rw [if_pos z]
        exact go false ⟨fun _ => rfl, fun _ => z⟩
      · rw [if_neg z]
        exact go true ⟨fun y => absurd y z, fun y => (by cases y)⟩
    rw [if_neg c31]
    by_cases c32 : c = (32 : Int32)
    · rw [if_pos c32]
      simp only [h1]
      exact ro (O_count _)
    rw [if_neg c32]
    exact next M s h hk (by omega) ⟨by have := hd.1; omega, fun j hj b hb => by have := hd.2 j hj b hb; omega⟩
end LAWL
