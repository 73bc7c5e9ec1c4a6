/-! formulas: what they mean -/
/-- the longs of a memory replaced -/
def m_wB (M : m_M) (B : Nat → Nat → Int64) : m_M := (M.1, M.2.1, B, M.2.2.2)
section WB
variable {M : m_M} {B : Nat → Nat → Int64}
theorem wB_I : m_I (m_wB M B) = m_I M := Eq.trans rfl rfl
theorem wB_L : m_L (m_wB M B) = B := Eq.trans rfl rfl
theorem wB_R : m_R (m_wB M B) = m_R M := Eq.trans rfl rfl
theorem wB_K : m_K (m_wB M B) = m_K M := Eq.trans rfl rfl
theorem wB_n : m_len (m_wB M B) = m_len M := Eq.trans rfl rfl
theorem wB_N : m_N (m_wB M B) = m_N M := Eq.trans rfl rfl
theorem wB_G : G (m_wB M B) = G M := Eq.trans rfl rfl
theorem wB_w {a : Nat} {f : Nat → Int64} : m_wL (m_wB M B) a f = m_wB M (fun b => if b = a then f else B b) := Eq.trans rfl (by
  show (M.1, M.2.1, (fun b j => if b = a then f j else B b j), M.2.2.2) = (M.1, M.2.1, (fun b => if b = a then f else B b), M.2.2.2)
  congr 3
  funext b j
  split <;> rfl)
theorem wB_0 : m_wB M (m_L M) = M := Eq.trans rfl rfl
end WB
theorem ws_st {M : m_M} (h : G M) {j : Nat} (hj : j < 16) : Ws M (35 + 2 * j) (36 + 2 * j) ∧ m_R M 34 j = some (35 + 2 * j) := by
  have hc : j = 0 ∨ j = 1 ∨ j = 2 ∨ j = 3 ∨ j = 4 ∨ j = 5 ∨ j = 6 ∨ j = 7 ∨ j = 8 ∨ j = 9 ∨ j = 10 ∨ j = 11 ∨ j = 12 ∨ j = 13 ∨ j = 14 ∨ j = 15 := by omega
  rcases hc with rfl | rfl | rfl | rfl | rfl | rfl | rfl | rfl | rfl | rfl | rfl | rfl | rfl | rfl | rfl | rfl
  all_goals
    refine ⟨⟨?_, ?_, ?_, ?_⟩, ?_⟩ <;> simp only [gK h, gR h, gl h]
theorem Ws.wB {M : m_M} {B : Nat → Nat → Int64} {a la : Nat} (h : Ws M a la) : Ws (m_wB M B) a la := h
section SPREAD
variable {M : m_M} {l : Ld}
/-- the worlds of a clause of two nouns -/
theorem S_spread (h : G M) (hl : LCi l (m_I M)) (ho : lOk l) (hs : LCs l (m_L M 13)) {m1 m2 x1 x2 st la : Nat} {v : Option Nat} (hv : vIn l v) (h1 : m1 % 8 < lH l 1) (h2 : m2 % 8 < lH l 1) (hx1 : isN l m1 x1) (hx2 : isN l m2 x2) (hw : Ws M st la) (hla : la ≠ 13) :
    ∃ f, F_X3_spread 2 (nI x1) (nI x2) (iO v) st M = some ((), m_wL M la f) ∧ Rw (wN l) (hby l v m1 m2) f := by
  have hn := wN_le ho
  have K2 : ∀ f, m_K (m_wL M la f) 2 = 3 := fun f => by simp only [mK_wL, gK h]
  have K2' : m_K M 2 = 3 := by simp only [gK h]
  have I24 : m_I M 2 4 = nI ((wN l + 63) / 64) := hl.1.2.2.2.2
  obtain ⟨T, e1, hT, hk⟩ := S_tableOf h hl ho hv h1 h2 hx1 hx2
  have hz : m_wL M la (fun j => if j < 16 then 0 else m_L M la j) = w16 M la (fun _ => 0) := rfl
  unfold F_X3_spread
  rw [x_cV_ok K2' e1, x_cV_ok hw.1 (S_clear hw)]
  by_cases hT0 : T = 0
  · refine ⟨fun j => if j < 16 then 0 else m_L M la j, ?_, ?_⟩
    · rw [hT0, if_pos (by decide)]; rfl
    · intro k hk2 i hi
      show lb (if k < 16 then 0 else m_L M la k) i = _
      rw [if_pos hk2, lb_0, hby_tbl ho, ← hk, hT0, Nat.zero_testBit]; simp
  · rw [if_neg (show ¬ nI T = (0 : Int32) from nI_ne0 (by omega) (by omega))]
    have key := up_l (S := m_M) (fun n k s => ∃ f, F_X3_spread_23 n 2 (nI x1) (nI x2) st (nI T) (nI k) s = some ((), m_wL M la f) ∧ Rw (wN l) (hby l v m1 m2) f) ((wN l + 63) / 64)
      (fun k s => ∃ g, s = m_wL M la g ∧ (∀ i, i < k → ∀ j, j < 64 → lb (g i) j = (decide (64 * i + j < wN l) && hby l v m1 m2 (64 * i + j))) ∧ ∀ i, k ≤ i → i < 16 → g i = 0) ?_ ?_ ((wN l + 63) / 64) 0 m_FU _ (by omega) (m_FU_lt (by omega)) ⟨_, hz.symm, fun i hi => absurd hi (by omega), fun i _ hi => by simp [hi]⟩
    · exact key
    · rintro n k s hkk ⟨g, rfl, g1, g2⟩ ih
      have hGk : G (m_wL M la g) := h
      have hsk : LCs l (m_L (m_wL M la g) 13) := by
        have e : m_L (m_wL M la g) 13 = m_L M 13 := by funext j; rw [mL_wL, if_neg (by omega)]
        rw [e]; exact hs
      obtain ⟨t, e2, ht⟩ := S_longOf hGk hl ho hsk (T := T) h1 h2 (i := k) (by omega) hT
      obtain ⟨f, ef, hf⟩ := ih (m_sL (m_wL M la g) la k t) ⟨fun j => if j = k then t else g j, by rw [m_sL_w, m_wL_wL]; congr 1; funext j; rw [mL_wL, if_pos rfl], fun i hi j hj => by
          dsimp only
          by_cases q : i = k
          · rw [if_pos q, q, ht j hj, hk, hby_tbl ho]
          · rw [if_neg q]; exact g1 i (by omega) j hj, fun i hi1 hi2 => by dsimp only; rw [if_neg (by omega)]; exact g2 i (by omega) hi2⟩
      refine ⟨f, ?_, hf⟩
      have hw2 : Ws (m_wL M la g) st la := hw
      rw [F_X3_spread_23, x_gI_ok (K2 _), mI_wL, I24, if_neg (nI_ge hkk (by omega)), if_neg (show ¬ (16 : Int32) ≤ nI k from nI_ge (b := 16) (by omega) (by omega)), x_gN_ok hw2.1 hw2.2.1, x_bd_ok (S_thingOf ho h1 hx1), x_bd_ok (S_thingOf ho h2 hx2), x_cV_ok (K2 _) e2, x_sL_ok hw2.2.2.1 (by rw [hw2.2.2.2]; omega) (by omega), m_let_eq, nI_1]
      exact ef
    · rintro n s ⟨g, rfl, g1, g2⟩
      refine ⟨g, ?_, ?_⟩
      · rw [F_X3_spread_23, x_gI_ok (K2 _), mI_wL, I24, if_pos (nI_le (Nat.le_refl _) (by omega))]
      · intro k hk2 i hi
        by_cases q : k < (wN l + 63) / 64
        · exact g1 k q i hi
        · rw [g2 k (by omega) hk2, lb_0, decide_eq_false (by omega)]; rfl
/-- a formula's parts as the model has them: 0 not, 1 and, 2 or, else a clause of two nouns; a stack of sets -/
abbrev FS : Type := Nat × (Nat → Nat → Bool)
def fSt (l : Ld) (v : Option Nat) (x : Nat) (s : FS) : FS :=
  if x = 0 then (s.1, fun j => if j = s.1 - 1 then (fun w => !s.2 (s.1 - 1) w) else s.2 j)
  else if x = 1 then (s.1 - 1, fun j => if j = s.1 - 2 then (fun w => s.2 (s.1 - 2) w && s.2 (s.1 - 1) w) else s.2 j)
  else if x = 2 then (s.1 - 1, fun j => if j = s.1 - 2 then (fun w => s.2 (s.1 - 2) w || s.2 (s.1 - 1) w) else s.2 j)
  else (s.1 + 1, fun j => if j = s.1 then hby l v ((x - 100) / 128) ((x - 100) % 128) else s.2 j)
def fOk (l : Ld) (x top : Nat) : Prop := top ≤ 16 ∧ ((x = 0 ∧ 0 < top) ∨ ((x = 1 ∨ x = 2) ∧ 1 < top) ∨ (100 ≤ x ∧ x < 16484 ∧ top < 16 ∧ nOk l ((x - 100) / 128) ∧ nOk l ((x - 100) % 128)))
/-- a run over m parts from the k-th on -/
def fR (l : Ld) (v : Option Nat) (p : Nat → Nat) : Nat → Nat → FS → FS
  | 0, _, s => s
  | m + 1, k, s => fR l v p m (k + 1) (fSt l v (p k) s)
def fTop (x top : Nat) : Nat := if x = 0 then top else if x = 1 then top - 1 else if x = 2 then top - 1 else top + 1
def fRok (l : Ld) (p : Nat → Nat) : Nat → Nat → Nat → Prop
  | 0, _, top => 0 < top
  | m + 1, k, top => fOk l (p k) top ∧ fRok l p m (k + 1) (fTop (p k) top)
theorem fSt_top (l : Ld) (v : Option Nat) (x : Nat) (s : FS) : (fSt l v x s).1 = fTop x s.1 := by
  unfold fSt fTop
  split
  · rfl
  split
  · rfl
  split <;> rfl
/-- what a formula of m parts means by a verb -/
def fMn (l : Ld) (v : Option Nat) (p : Nat → Nat) (m : Nat) (w : Nat) : Bool := (fR l v p m 0 (0, fun _ _ => false)).2 0 w
/-- a part as the class has it -/
def cPt (l : Ld) (x : Nat) (c : Int32) : Prop := (x = 0 ∧ c = -11) ∨ (x = 1 ∧ c = -12) ∨ (x = 2 ∧ c = -13) ∨ (100 ≤ x ∧ ∃ x1 x2, c = nI (x1 * 2048 + x2) ∧ isN l ((x - 100) / 128) x1 ∧ isN l ((x - 100) % 128) x2)
theorem find_cells (h : G M) : m_K M 33 = 5 ∧ m_R M 33 0 = some 2 ∧ m_R M 33 1 = some 34 ∧ m_K M 34 = 17 ∧ m_len M 34 = 16 ∧ m_K M 2 = 3 := by
  refine ⟨?_, ?_, ?_, ?_, ?_, ?_⟩ <;> simp only [gK h, gR h, gl h]
theorem S_join1 (h : G M) {c : Int32} {top : Nat} (ht : 0 < top) (ht2 : top < 16) (hc : c = -12 ∨ c = -13) : F_X5_joinTop 33 c (nI top) M = some ((), w16 M (36 + 2 * (top - 1)) (fun k => if c = -12 then m_L M (36 + 2 * (top - 1)) k &&& m_L M (36 + 2 * top) k else m_L M (36 + 2 * (top - 1)) k ||| m_L M (36 + 2 * top) k)) := by
  obtain ⟨K33, R0, R1, K34, L34, K2⟩ := find_cells h
  obtain ⟨wa, ra⟩ := ws_st h (j := top - 1) (by omega)
  obtain ⟨wb, rb⟩ := ws_st h (j := top) ht2
  unfold F_X5_joinTop
  rcases hc with rfl | rfl
  · rw [if_pos rfl, x_gN_ok K33 R1, show nI top - (1 : Int32) = nI (top - 1) from nI_sub' (b := 1) (by omega), x_aN_ok K34 (by rw [L34]; omega) (by omega) ra, x_gN_ok K33 R1, x_aN_ok K34 (by rw [L34]; omega) (by omega) rb, x_cV_ok wa.1 (S_keep wa wb (by omega))]
    simp only [if_true]
  · rw [if_neg (by decide), x_gN_ok K33 R1, show nI top - (1 : Int32) = nI (top - 1) from nI_sub' (b := 1) (by omega), x_aN_ok K34 (by rw [L34]; omega) (by omega) ra, x_gN_ok K33 R1, x_aN_ok K34 (by rw [L34]; omega) (by omega) rb, x_cV_ok wa.1 (S_join wa wb (by omega))]
    simp only [show ((-13 : Int32) = -12) = False from by decide, if_false]
/-- the class finds what a formula means -/
theorem S_find_l (h : G M) (hl : LCi l (m_I M)) (ho : lOk l) {fr m st : Nat} {p : Nat → Nat} {v : Option Nat} (hv : vIn l v) (hm : m ≤ 1000) (K12 : m_K M fr = 12) (L12 : m_len M fr = m) (hp : ∀ i, i < m → cPt l (p i) (m_I M fr i)) {K : Nat → Nat → m_M → Option (Unit × m_M)} : ∀ (d k f : Nat) (s : FS) (B : Nat → Nat → Int64), k + d = m → d < f → LCs l (B 13) → fRok l p d k s.1 → (∀ j, j < s.1 → Rw (wN l) (s.2 j) (B (36 + 2 * j))) →
    ∃ B', F_X5_find_6 K f 33 fr (iO v) st (nI s.1) (nI k) (m_wB M B) = K 33 st (m_wB M B') ∧ (∀ a, (a < 36 ∨ 66 < a) → B' a = B a) ∧ Rw (wN l) ((fR l v p d k s).2 0) (B' 36) := by
  have hn := wN_le ho
  intro d
  induction d with
  | zero =>
    intro k f s B hk hf hB hok hr
    obtain ⟨f, rfl⟩ : ∃ f', f = f' + 1 := ⟨f - 1, by omega⟩
    refine ⟨B, ?_, fun _ _ => rfl, hr 0 hok⟩
    rw [F_X5_find_6, x_len_ok (show m_K (m_wB M B) fr = 12 from K12), show m_len (m_wB M B) fr = m from L12, if_pos (nI_le (by omega) (by omega))]
  | succ d ih =>
    intro k f s B hk hf hB hok hr
    obtain ⟨f, rfl⟩ : ∃ f', f = f' + 1 := ⟨f - 1, by omega⟩
    obtain ⟨⟨t16, hok1⟩, hok2⟩ := hok
    have hG : G (m_wB M B) := h
    have hlB : LCi l (m_I (m_wB M B)) := hl
    obtain ⟨K33, R0, R1, K34, L34, K2⟩ := find_cells hG
    have hI : m_I (m_wB M B) fr k = m_I M fr k := rfl
    have hpk := hp k (by omega)
    -- what is left to show once the part is done
    have fin : ∀ (s2 : FS) (B2 : Nat → Nat → Int64), s2 = fSt l v (p k) s → (∀ a, (a < 36 ∨ 66 < a) → B2 a = B a) → (∀ j, j < s2.1 → Rw (wN l) (s2.2 j) (B2 (36 + 2 * j))) → ∃ B', F_X5_find_6 K f 33 fr (iO v) st (nI s2.1) (nI k + 1) (m_wB M B2) = K 33 st (m_wB M B') ∧ (∀ a, (a < 36 ∨ 66 < a) → B' a = B a) ∧ Rw (wN l) ((fR l v p (d + 1) k s).2 0) (B' 36) := by
      intro s2 B2 hs2 hB2 hr2
      obtain ⟨B', e, e2, e3⟩ := ih (k + 1) f s2 B2 (by omega) (by omega) (by rw [hB2 13 (by omega)]; exact hB) (by rw [hs2, fSt_top]; exact hok2) hr2
      refine ⟨B', ?_, fun a ha => by rw [e2 a ha, hB2 a ha], ?_⟩
      · rw [nI_1]; exact e
      · rw [fR, ← hs2]; exact e3
    rw [F_X5_find_6, x_len_ok (show m_K (m_wB M B) fr = 12 from K12), show m_len (m_wB M B) fr = m from L12, if_neg (nI_ge (by omega) (by omega))]
    refine m_let_P (fun o => ∃ B', o = K 33 st (m_wB M B') ∧ (∀ a, (a < 36 ∨ 66 < a) → B' a = B a) ∧ Rw (wN l) ((fR l v p (d + 1) k s).2 0) (B' 36)) ?_
    intro k128 h128
    refine m_let_P (fun o => ∃ B', o = K 33 st (m_wB M B') ∧ (∀ a, (a < 36 ∨ 66 < a) → B' a = B a) ∧ Rw (wN l) ((fR l v p (d + 1) k s).2 0) (B' 36)) ?_
    intro k53 h53
    rw [x_aI_ok (show m_K (m_wB M B) fr = 12 from K12) (show k < m_len (m_wB M B) fr from by rw [show m_len (m_wB M B) fr = m from L12]; omega) (by omega), hI]
    have hW : ∀ (a : Nat) (g : Nat → Int64), w16 (m_wB M B) a g = m_wB M (fun b => if b = a then (fun j => if j < 16 then g j else B a j) else B b) := fun a g => by
      unfold w16
      rw [wB_w]; rfl
    rcases hok1 with ⟨hx, ht⟩ | ⟨hx, ht⟩ | ⟨hx, hx2, ht, hn1, hn2⟩
    · rcases hpk with ⟨_, hc⟩ | ⟨q, _⟩ | ⟨q, _⟩ | ⟨q, _⟩
      · obtain ⟨wa, ra⟩ := ws_st hG (j := s.1 - 1) (by omega)
        have I3 : m_I (m_wB M B) 2 3 = nI (wN l) := hl.1.2.2.2.1
        rw [hc, if_pos rfl, if_neg (nI_nle (by omega) (by omega)), x_gN_ok K33 R1, show nI s.1 - (1 : Int32) = nI (s.1 - 1) from nI_sub' (b := 1) (by omega), x_aN_ok K34 (by rw [L34]; omega) (by omega) ra, x_gN_ok K33 R0, x_gI_ok K2, I3, x_cV_ok wa.1 (S_turn hn wa), h128, hW]
        dsimp only
        rw [m_let_eq]
        have e1 : s.1 = (fSt l v (p k) s).1 := by rw [fSt_top, hx]; rfl
        have := fin (fSt l v (p k) s) (fun b => if b = 36 + 2 * (s.1 - 1) then (fun j => if j < 16 then ~~~(m_L (m_wB M B) (36 + 2 * (s.1 - 1)) j) &&& wlL (wN l) j else B (36 + 2 * (s.1 - 1)) j) else B b) rfl (fun a ha => by rw [if_neg (by omega)]) ?_
        · rw [← e1] at this; exact this
        · intro j hj
          rw [← e1] at hj
          unfold fSt
          rw [if_pos hx]
          dsimp only
          by_cases q : j = s.1 - 1
          · rw [if_pos q, if_pos (by omega)]
            refine (((hr (s.1 - 1) (by omega)).not (Rw.whole (wN l))).of (fun k hk => ?_)).cong (fun w _ => by simp)
            rw [if_pos hk]; rfl
          · rw [if_neg q, if_neg (by omega)]
            exact hr j hj
      all_goals omega
    · have hc : m_I M fr k = -12 ∧ p k = 1 ∨ m_I M fr k = -13 ∧ p k = 2 := by
        rcases hpk with ⟨q, _⟩ | ⟨q, hc⟩ | ⟨q, hc⟩ | ⟨q, _⟩
        · omega
        · exact .inl ⟨hc, q⟩
        · exact .inr ⟨hc, q⟩
        · omega
      have c1 : ¬ m_I M fr k = (-11 : Int32) := by rcases hc with ⟨hc, _⟩ | ⟨hc, _⟩ <;> rw [hc] <;> decide
      have c2 : ¬ (-11 : Int32) ≤ m_I M fr k := by rcases hc with ⟨hc, _⟩ | ⟨hc, _⟩ <;> rw [hc] <;> decide
      have c3 : m_I M fr k = -12 ∨ m_I M fr k = -13 := by rcases hc with ⟨hc, _⟩ | ⟨hc, _⟩ <;> simp [hc]
      rw [if_neg c1, h53]
      refine m_let_P (fun o => ∃ B', o = K 33 st (m_wB M B') ∧ (∀ a, (a < 36 ∨ 66 < a) → B' a = B a) ∧ Rw (wN l) ((fR l v p (d + 1) k s).2 0) (B' 36)) ?_
      intro k80 h80
      rw [if_neg c2, if_neg (show ¬ nI s.1 ≤ (1 : Int32) from nI_ge (a := 1) ht (by omega)), m_let_eq, show nI s.1 + (-1 : Int32) = nI (s.1 - 1) from no_dec (by omega), x_cV_ok K33 (S_join1 hG (top := s.1 - 1) (by omega) (by omega) c3), h128, hW]
      dsimp only
      rw [m_let_eq]
      have e1 : s.1 - 1 = (fSt l v (p k) s).1 := by
        rw [fSt_top]; unfold fTop
        rcases hx with hx | hx <;> rw [hx] <;> rfl
      have e2 : s.1 - 1 - 1 = s.1 - 2 := by omega
      have := fin (fSt l v (p k) s) (fun b => if b = 36 + 2 * (s.1 - 1 - 1) then (fun j => if j < 16 then (if m_I M fr k = -12 then m_L (m_wB M B) (36 + 2 * (s.1 - 1 - 1)) j &&& m_L (m_wB M B) (36 + 2 * (s.1 - 1)) j else m_L (m_wB M B) (36 + 2 * (s.1 - 1 - 1)) j ||| m_L (m_wB M B) (36 + 2 * (s.1 - 1)) j) else B (36 + 2 * (s.1 - 1 - 1)) j) else B b) rfl (fun a ha => by rw [if_neg (by omega)]) ?_
      · rw [← e1] at this; exact this
      · intro j hj
        rw [← e1] at hj
        rw [e2]
        unfold fSt
        rcases hc with ⟨hc, hx⟩ | ⟨hc, hx⟩
        · rw [if_neg (by omega), if_pos hx]
          dsimp only
          by_cases q : j = s.1 - 2
          · rw [if_pos q, if_pos (by omega)]
            refine ((hr (s.1 - 2) (by omega)).and (hr (s.1 - 1) (by omega))).of (fun k hk => ?_)
            rw [if_pos hk, if_pos hc]; rfl
          · rw [if_neg q, if_neg (by omega)]
            exact hr j (by omega)
        · rw [if_neg (by omega), if_neg (by omega), if_pos hx]
          dsimp only
          by_cases q : j = s.1 - 2
          · rw [if_pos q, if_pos (by omega)]
            refine ((hr (s.1 - 2) (by omega)).or (hr (s.1 - 1) (by omega))).of (fun k hk => ?_)
            rw [if_pos hk, if_neg (by rw [hc]; decide)]; rfl
          · rw [if_neg q, if_neg (by omega)]
            exact hr j (by omega)
    · rcases hpk with ⟨q, _⟩ | ⟨q, _⟩ | ⟨q, _⟩ | ⟨_, x1, x2, hc, n1, n2⟩
      · omega
      · omega
      · omega
      have b1 := n1.1
      have b2 := n2.1
      have c1 : ¬ nI (x1 * 2048 + x2) = (-11 : Int32) := fun e => by
        have hp := nI_pos' (n := x1 * 2048 + x2) (by omega)
        rw [e] at hp; exact absurd hp (by decide)
      have c2 : (-11 : Int32) ≤ nI (x1 * 2048 + x2) := Int32.le_trans (by decide) (nI_pos' (by omega))
      obtain ⟨wa, ra⟩ := ws_st hG (j := s.1) (by omega)
      obtain ⟨f1, e1, hf1⟩ := S_spread hG hlB ho (by show LCs l (B 13); exact hB) (st := 35 + 2 * s.1) (la := 36 + 2 * s.1) hv hn1.1 hn2.1 n1 n2 wa (by omega)
      rw [hc, if_neg c1, h53]
      refine m_let_P (fun o => ∃ B', o = K 33 st (m_wB M B') ∧ (∀ a, (a < 36 ∨ 66 < a) → B' a = B a) ∧ Rw (wN l) ((fR l v p (d + 1) k s).2 0) (B' 36)) ?_
      intro k80 h80
      rw [if_pos c2, h80]
      dsimp only
      have f1o : F_X3_firstOf 2 (nI (x1 * 2048 + x2)) (m_wB M B) = some (nI x1, m_wB M B) := by
        unfold F_X3_firstOf
        rw [show (11 : Int32) = nI 11 from rfl, nI_shr (by omega) (by omega), show (x1 * 2048 + x2) / 2 ^ 11 = x1 by omega]
      have f2o : F_X3_secondOf 2 (nI (x1 * 2048 + x2)) (m_wB M B) = some (nI x2, m_wB M B) := by
        unfold F_X3_secondOf
        rw [show (2047 : Int32) = nI 2047 from rfl, nI_m2047, show (x1 * 2048 + x2) % 2048 = x2 by omega]
      rw [if_neg (nI_pos (by omega)), if_neg (show ¬ (16 : Int32) ≤ nI s.1 from nI_ge (b := 16) ht (by omega)), x_gN_ok K33 R0, x_gN_ok K33 R0, x_cV_ok K2 f1o, x_gN_ok K33 R0, x_cV_ok K2 f2o, x_gN_ok K33 R1, x_aN_ok K34 (by rw [L34]; omega) (by omega) ra, x_cV_ok K2 e1, m_let_eq, h128, wB_w, nI_1]
      dsimp only
      rw [m_let_eq]
      have e3 : s.1 + 1 = (fSt l v (p k) s).1 := by
        rw [fSt_top]; unfold fTop
        rw [if_neg (by omega), if_neg (by omega), if_neg (by omega)]
      have := fin (fSt l v (p k) s) (fun b => if b = 36 + 2 * s.1 then f1 else B b) rfl (fun a ha => by rw [if_neg (by omega)]) ?_
      · rw [← e3] at this; exact this
      · intro j hj
        rw [← e3] at hj
        unfold fSt
        rw [if_neg (by omega), if_neg (by omega), if_neg (by omega)]
        dsimp only
        by_cases q : j = s.1
        · rw [if_pos q, if_pos (by omega)]
          exact hf1
        · rw [if_neg q, if_neg (by omega)]
          exact hr j (by omega)
theorem S_find (h : G M) (hl : LCi l (m_I M)) (ho : lOk l) (hs : LCs l (m_L M 13)) {fr m st la : Nat} {p : Nat → Nat} {v : Option Nat} (hv : vIn l v) (hm : m ≤ 1000) (K12 : m_K M fr = 12) (L12 : m_len M fr = m) (hp : ∀ i, i < m → cPt l (p i) (m_I M fr i)) (hok : fRok l p m 0 0) (hw : Ws M st la) (hla : la < 36 ∨ 66 < la) :
    ∃ B', F_X5_find 33 fr (iO v) st M = some ((), m_wB M B') ∧ (∀ a, (a < 36 ∨ 66 < a) → a ≠ la → B' a = m_L M a) ∧ Rw (wN l) (fMn l v p m) (B' la) := by
  unfold F_X5_find
  refine m_let_P (fun o => ∃ B', o = some ((), m_wB M B') ∧ (∀ a, (a < 36 ∨ 66 < a) → a ≠ la → B' a = m_L M a) ∧ Rw (wN l) (fMn l v p m) (B' la)) ?_
  intro k134 h134
  obtain ⟨B, e, e2, e3⟩ := S_find_l h hl ho (st := st) hv hm K12 L12 hp (K := k134) m 0 m_FU (0, fun _ _ => false) (m_L M) (by omega) (m_FU_lt (by omega)) hs hok (fun j hj => absurd hj (Nat.not_lt_zero _))
  have hG : G (m_wB M B) := h
  obtain ⟨K33, R0, R1, K34, L34, K2⟩ := find_cells hG
  obtain ⟨wa, ra⟩ := ws_st hG (j := 0) (by omega)
  have hw2 : Ws (m_wB M B) st la := hw
  refine ⟨fun b => if b = la then (fun j => if j < 16 then B 36 j else B la j) else B b, ?_, fun a ha hal => ?_, ?_⟩
  · rw [wB_0] at e
    rw [show (0 : Int32) = nI 0 from rfl, e, h134]
    dsimp only
    rw [x_gN_ok K33 R1, show (0 : Int32) = nI 0 from rfl, x_aN_ok K34 (by rw [L34]; omega) (by omega) ra, x_cV_ok hw2.1 (S_take hw2 wa)]
    unfold w16
    rw [wB_w]
    rfl
  · dsimp only
    rw [if_neg hal, e2 a ha]
  · dsimp only
    rw [if_pos rfl]
    exact e3.of (fun k hk => by rw [if_pos hk])
end SPREAD
