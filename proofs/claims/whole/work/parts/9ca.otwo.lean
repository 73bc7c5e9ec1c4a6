/-! two, both sides -/
def twD (l : Ld) (P : Nat → Bool) (v : Option Nat) (day d : Nat) : Option (Nat × (Nat × Nat)) := match vOf l (day + d) with
  | none => none
  | some v' => (twR l P v (some v')).map (fun ab => (d, ab))
def twN (l : Ld) (P : Nat → Bool) (v : Option Nat) (day : Nat) : Option (Nat × (Nat × Nat)) := fS (twD l P v day) 6 1
def twA0 : Option (Nat × (Nat × Nat)) → Int32
  | none => NO
  | some x => nI x.1
def twV (wh : Nat) : Option (Nat × (Nat × Nat)) → Int32
  | none => NO
  | some x => if wh = 0 then nI x.1 else if wh = 1 then nI x.2.1 else nI x.2.2
section OTWO
variable {M M' : m_M} {l : Ld} {v : Option Nat} {P : Nat → Bool} {s : St}
theorem S_ft42 (h : G M) (ho : lOk l) {day st la n : Nat} (hd : day < 1000000) (hw : Ws M st la) (hla : la = 93) (hn : n = (abvL l P v 0 800).length) : ∀ (e k f tried : Nat) (A : IA) (B : Nat → Nat → Int64), k + e = 7 → e < f → tried < 64 → (∀ x, tried.testBit x = true → tgR l P v (some x) = none) → LCi l A → LCs l (B 13) → RwL (wN l) P (B la) → LsA (A 71) 0 (abvL l P v 0 800) → LitC l v 69 B → RwL (wN l) (fun w => !P w) (B 74) →
    ∃ A' B', F_X2_findTwoDays_42 f 67 st (nI day) (nI n) (nI tried) (nI k) (m_w2 M A B) = some (twA0 (fS (twD l P v day) e k), m_w2 M A' B') ∧ (∀ a, a ≠ 67 → a ≠ 72 → A' a = A a) ∧ (∀ b, b ≠ 70 → b ≠ 76 → B' b = B b) ∧ ∀ x, fS (twD l P v day) e k = some x → A' 67 2 = nI x.2.1 ∧ A' 67 3 = nI x.2.2 := by
  have h6 := ho.2.2.2.1
  have K67 : ∀ A B, m_K (m_w2 M A B) 67 = 2 := fun A B => by simp only [w2_K, gK h]
  have R5 : ∀ A B, m_R (m_w2 M A B) 67 5 = some 2 := fun A B => by simp only [w2_R, gR h]
  have R7 : ∀ A B, m_R (m_w2 M A B) 67 7 = some 70 := fun A B => by simp only [w2_R, gR h]
  have R9 : ∀ A B, m_R (m_w2 M A B) 67 9 = some 72 := fun A B => by simp only [w2_R, gR h]
  have K2 : ∀ A B, m_K (m_w2 M A B) 2 = 3 := fun A B => by simp only [w2_K, gK h]
  intro e
  induction e with
  | zero =>
    intro k f tried A B hk hf _ _ _ _ _ _ _ _
    obtain ⟨f, rfl⟩ : ∃ f', f = f' + 1 := ⟨f - 1, by omega⟩
    obtain rfl : k = 7 := by omega
    refine ⟨A, B, ?_, fun _ _ _ => rfl, fun _ _ _ => rfl, fun x hx => by cases hx⟩
    rw [F_X2_findTwoDays_42, if_pos (by decide)]
    rfl
  | succ e ih =>
    intro k f tried A B hk hf ht htr hl hs hP h71 hL hO
    obtain ⟨f, rfl⟩ : ∃ f', f = f' + 1 := ⟨f - 1, by omega⟩
    have hv := vOf_in (l := l) ho (day + k)
    rw [F_X2_findTwoDays_42, if_neg (show ¬ (6 : Int32) < nI k from nI_nlt (a := 6) (by omega) (by omega))]
    refine m_let_P (fun o => ∃ A' B', o = some (twA0 (fS (twD l P v day) (e + 1) k), m_w2 M A' B') ∧ (∀ a, a ≠ 67 → a ≠ 72 → A' a = A a) ∧ (∀ b, b ≠ 70 → b ≠ 76 → B' b = B b) ∧ ∀ x, fS (twD l P v day) (e + 1) k = some x → A' 67 2 = nI x.2.1 ∧ A' 67 3 = nI x.2.2) ?_
    intro K1 hK1
    rw [nI_add, x_gN_ok (K67 _ _) (R5 _ _), x_cV_ok (K2 _ _) (S_verbOfC (M := m_w2 M A B) h hl ho (by omega))]
    have skip : twD l P v day k = none → ∀ (tr : Nat) (A1 : IA) (B1 : Nat → Nat → Int64), tr < 64 → (∀ x, tr.testBit x = true → tgR l P v (some x) = none) → (∀ a, a ≠ 67 → a ≠ 72 → A1 a = A a) → (∀ b, b ≠ 70 → b ≠ 76 → B1 b = B b) → ∃ A' B', K1 67 st (nI day) (nI n) (nI tr) (nI k) (m_w2 M A1 B1) = some (twA0 (fS (twD l P v day) (e + 1) k), m_w2 M A' B') ∧ (∀ a, a ≠ 67 → a ≠ 72 → A' a = A a) ∧ (∀ b, b ≠ 70 → b ≠ 76 → B' b = B b) ∧ ∀ x, fS (twD l P v day) (e + 1) k = some x → A' 67 2 = nI x.2.1 ∧ A' 67 3 = nI x.2.2 := by
      intro hnone tr A1 B1 h1 h2 h3 h4
      obtain ⟨A', B', g, g1, g2, g3⟩ := ih (k + 1) f tr A1 B1 (by omega) (by omega) h1 h2 (hl.cong (fun a _ ha => h3 a (by omega) (by omega))) (by rw [h4 13 (by omega) (by omega)]; exact hs) (hP.of (fun k => by rw [h4 la (by omega) (by omega)])) (by rw [h3 71 (by omega) (by omega)]; exact h71) (hL.of (h4 69 (by omega) (by omega))) (hO.of (fun k => by rw [h4 74 (by omega) (by omega)]))
      rw [fS_none hnone, hK1]
      dsimp only
      rw [m_let_eq, nI_1]
      exact ⟨A', B', g, fun a b c => by rw [g1 a b c, h3 a b c], fun a b c => by rw [g2 a b c, h4 a b c], g3⟩
    cases hvo : vOf l (day + k) with
    | none =>
      rw [if_pos (iO_none rfl)]
      exact skip (by unfold twD; rw [hvo]) tried A B ht htr (fun _ _ _ => rfl) (fun _ _ _ => rfl)
    | some v' =>
      have hv' := hv v' hvo
      have hB2 : tried / 2 ^ v' < 2147483648 := Nat.lt_of_le_of_lt (Nat.div_le_self _ _) (by omega)
      have hD : twD l P v day k = (tgR l P v (some v')).map (fun ab => (k, ab)) := by unfold twD; rw [hvo, tw_tg]
      rw [if_neg (show ¬ iO (some v') = (-1 : Int32) from by
        have := iO_no (o := some v') (fun j hj => by cases hj; omega)
        intro z
        have := this.mp z
        cases this), show iO (some v') = nI v' from rfl, nI_shr (by omega) (by omega), show (1 : Int32) = nI 1 from rfl, nI_m1]
      by_cases q : tried.testBit v' = true
      · have hq : tried / 2 ^ v' % 2 = 1 := by rw [tb_div] at q; simpa using q
        rw [hq, if_neg (by decide)]
        exact skip (by rw [hD, htr v' q]; rfl) tried A B ht htr (fun _ _ _ => rfl) (fun _ _ _ => rfl)
      · have hq : tried / 2 ^ v' % 2 = 0 := by
          rw [tb_div] at q
          have : ¬ tried / 2 ^ v' % 2 = 1 := by simpa using q
          omega
        obtain ⟨B1, s0, s1, s2⟩ := S_spreadAll (v := some v') h ho (fun j hj => by cases hj; exact hv') hl (r := 70) (by simp only [gK h]) (by simp only [gl h]) (by omega) (B := B) hs
        have s0' : F_X2_spreadAll 67 (nI v') 70 (m_w2 M A B) = _ := s0
        obtain ⟨A2, u0, u1, u2⟩ := S_listAbove h ho (B := B1) (r := 70) (v := some v') (P := P) (by simp only [gK h]) (by simp only [gl h]) s2 hw (hP.of (fun k => by rw [s1 la (by omega)])) (t := 0) (by omega) (into := 72) (by omega) (by simp only [gK h]) (by simp only [gl h]) hl
        have u0' : F_X2_listAbove 67 st 70 (0 : Int32) 72 (m_w2 M A B1) = _ := u0
        have hl2 : LCi l A2 := hl.cong (fun a _ ha => u1 a (by omega))
        obtain ⟨A3, B3, w0, w1, w2, w3⟩ := S_findTogether h ho (A := A2) (B := B1) (v := v) (v' := some v') (P := P) hl2 (by rw [u1 71 (by omega)]; exact h71) u2 (hL.of (s1 69 (by omega))) s2 (hO.of (fun k => by rw [s1 74 (by omega)]))
        rw [← hn] at w0
        rw [hq, if_pos (by decide), nI_shl (by omega), Nat.one_mul, nI_or, m_let_eq, x_gN_ok (K67 _ _) (R7 _ _), x_cV_ok (K67 _ _) s0', x_gN_ok (K67 _ _) (R7 _ _), x_gN_ok (K67 _ _) (R9 _ _), x_cV_ok (K67 _ _) u0', x_cV_ok (K67 _ _) w0]
        cases hr : tgR l P v (some v') with
        | none =>
          rw [show bI (none : Option (Nat × Nat)).isSome = 0 from rfl, if_pos rfl]
          have hp2 : 2 ^ v' ≤ 2 ^ 5 := Nat.pow_le_pow_right (by omega) (by omega)
          refine skip (by rw [hD, hr]; rfl) (tried ||| 2 ^ v') A3 B3 (Nat.or_lt_two_pow (n := 6) ht (by omega)) (fun x hx => ?_) (fun a b c => by rw [w1 a b, u1 a c]) (fun a b c => by rw [w2 a c, s1 a b])
          rw [Nat.testBit_or, Nat.testBit_two_pow, Bool.or_eq_true, decide_eq_true_iff] at hx
          rcases hx with hx | hx
          · exact htr x hx
          · rw [← hx]; exact hr
        | some ab =>
          rw [show bI (some ab).isSome = 1 from rfl, if_neg (by decide)]
          have hf : fS (twD l P v day) (e + 1) k = some (k, ab) := fS_some (by rw [hD, hr]; rfl)
          rw [hf]
          exact ⟨A3, B3, rfl, fun a b c => by rw [w1 a b, u1 a c], fun a b c => by rw [w2 a c, s1 a b], fun x hx => by cases hx; exact w3 ab hr⟩
theorem S_findTwoDays (h : G M) (ho : lOk l) {day st la : Nat} (hd : day < 1000000) (hw : Ws M st la) (hla : la = 93) {A : IA} {B : Nat → Nat → Int64} (hl : LCi l A) (hs : LCs l (B 13)) (hP : Rw (wN l) P (B la)) :
    ∃ A' B', F_X2_findTwoDays 67 st (nI day) (m_w2 M A B) = some (twA0 (twN l P (vOf l day) day), m_w2 M A' B') ∧ (∀ a, a ≠ 67 → a ≠ 71 → a ≠ 72 → A' a = A a) ∧ (∀ b, b ≠ 69 → b ≠ 70 → b ≠ 74 → b ≠ 76 → B' b = B b) ∧ ∀ x, twN l P (vOf l day) day = some x → A' 67 2 = nI x.2.1 ∧ A' 67 3 = nI x.2.2 := by
  have h6 := ho.2.2.2.1
  have hn := wN_le ho
  have K67 : ∀ A B, m_K (m_w2 M A B) 67 = 2 := fun A B => by simp only [w2_K, gK h]
  have R5 : ∀ A B, m_R (m_w2 M A B) 67 5 = some 2 := fun A B => by simp only [w2_R, gR h]
  have R6 : ∀ A B, m_R (m_w2 M A B) 67 6 = some 69 := fun A B => by simp only [w2_R, gR h]
  have R8 : ∀ A B, m_R (m_w2 M A B) 67 8 = some 71 := fun A B => by simp only [w2_R, gR h]
  have K2 : ∀ A B, m_K (m_w2 M A B) 2 = 3 := fun A B => by simp only [w2_K, gK h]
  have hv := vOf_in (l := l) ho day
  obtain ⟨B1, s0, s1, s2⟩ := S_spreadAll h ho hv hl (r := 69) (by simp only [gK h]) (by simp only [gl h]) (by omega) (B := B) hs
  have hP1 : Rw (wN l) P (B1 la) := hP.of (fun k _ => by rw [s1 la (by omega)])
  obtain ⟨B2, o0, o1, o2⟩ := S_findOutside h ho (A := A) hl hw hP1
  have hP2 : RwL (wN l) P (B2 la) := (hP1.RwL hn).of (fun k => by rw [o1 la (by omega)])
  obtain ⟨A2, u0, u1, u2⟩ := S_listAbove h ho (B := B2) (r := 69) (v := vOf l day) (P := P) (by simp only [gK h]) (by simp only [gl h]) (s2.of (o1 69 (by omega))) hw hP2 (t := 0) (by omega) (into := 71) (by omega) (by simp only [gK h]) (by simp only [gl h]) hl
  have u0' : F_X2_listAbove 67 st 69 (0 : Int32) 71 (m_w2 M A B2) = _ := u0
  have hl2 : LCi l A2 := hl.cong (fun a _ ha => u1 a (by omega))
  obtain ⟨A3, B3, g, g1, g2, g3⟩ := S_ft42 h ho hd hw hla rfl 6 1 m_FU 0 A2 B2 (by omega) (m_FU_lt (by omega)) (by omega) (fun x hx => by rw [Nat.zero_testBit] at hx; cases hx) hl2 (by rw [o1 13 (by omega), s1 13 (by omega)]; exact hs) hP2 u2 (s2.of (o1 69 (by omega))) (o2.RwL hn)
  have g' : F_X2_findTwoDays_42 m_FU 67 st (nI day) (nI (abvL l P (vOf l day) 0 800).length) (0 : Int32) (1 : Int32) (m_w2 M A2 B2) = _ := g
  refine ⟨A3, B3, ?_, fun a x y z => by rw [g1 a x z, u1 a y], fun b x y z w => by rw [g2 b y w, o1 b z, s1 b x], g3⟩
  unfold F_X2_findTwoDays
  rw [x_gN_ok (K67 _ _) (R5 _ _), x_cV_ok (K2 _ _) (S_verbOfC (M := m_w2 M A B) h hl ho (by omega)), x_gN_ok (K67 _ _) (R6 _ _), x_cV_ok (K67 _ _) s0, x_cV_ok (K67 _ _) o0, x_gN_ok (K67 _ _) (R6 _ _), x_gN_ok (K67 _ _) (R8 _ _), x_cV_ok (K67 _ _) u0', g']
  rfl
theorem M_tw68 (h : G M) (ho : lOk l) {day at0 wh : Nat} (hd : day < 1000000) (hat : at0 ≤ 96) (hwh : wh < 3) {K : Int32 → Int32 → Int32 → Int32 → m_M → Option (Int32 × m_M)} (hK : ∀ d a b M, K (nI wh) (nI d) (nI a) (nI b) M = some (twV wh (some (d, (a, b))), M)) : ∀ (e k f : Nat) (A : IA) (B : Nat → Nat → Int64), k + e = 7 → e < f → LMi l A → A 128 53 = nI day → LitM l v 172 B → Rw (wN l) P (fun k => B 162 (at0 + k)) →
    ∃ A' B', F_X12_two_68 K f 128 (nI wh) (nI at0) (nI k) (m_w2 M A B) = some (twV wh (fS (twD l P v day) e k), m_w2 M A' B') ∧ (∀ a, ¬ scr a → A' a = A a) ∧ (∀ b, b ≠ 173 → B' b = B b) := by
  have h6 := ho.2.2.2.1
  have K0 : ∀ A B, m_K (m_w2 M A B) 128 = 10 := fun A B => by simp only [w2_K, gK h]
  have R65 : ∀ A B, m_R (m_w2 M A B) 128 65 = some 173 := fun A B => by simp only [w2_R, gR h]
  intro e
  induction e with
  | zero =>
    intro k f A B hk hf _ _ _ _
    obtain ⟨f, rfl⟩ : ∃ f', f = f' + 1 := ⟨f - 1, by omega⟩
    obtain rfl : k = 7 := by omega
    refine ⟨A, B, ?_, fun _ _ => rfl, fun _ _ => rfl⟩
    rw [F_X12_two_68, if_pos (by decide)]
    rfl
  | succ e ih =>
    intro k f A B hk hf hl hA hL hP
    obtain ⟨f, rfl⟩ : ∃ f', f = f' + 1 := ⟨f - 1, by omega⟩
    have hv := vOf_in (l := l) ho (day + k)
    have ev : F_X12_verbOf 128 (nI day + nI k) (m_w2 M A B) = some (iO (vOf l (day + k)), m_w2 M A B) := by
      rw [nI_add]
      exact S_verbOfM (M := m_w2 M A B) h hl ho (by omega)
    rw [F_X12_two_68, if_neg (show ¬ (7 : Int32) ≤ nI k from nI_ge (b := 7) (by omega) (by omega))]
    refine m_let_P (fun o => ∃ A' B', o = some (twV wh (fS (twD l P v day) (e + 1) k), m_w2 M A' B') ∧ (∀ a, ¬ scr a → A' a = A a) ∧ (∀ b, b ≠ 173 → B' b = B b)) ?_
    intro K1 hK1
    rw [x_gI_ok (K0 _ _), w2_I, hA, x_cV_ok (K0 _ _) ev]
    have skip : twD l P v day k = none → ∀ (A1 : IA) (B1 : Nat → Nat → Int64), (∀ a, ¬ scr a → A1 a = A a) → (∀ b, b ≠ 173 → B1 b = B b) → ∃ A' B', K1 128 (nI wh) (nI at0) (nI k) (m_w2 M A1 B1) = some (twV wh (fS (twD l P v day) (e + 1) k), m_w2 M A' B') ∧ (∀ a, ¬ scr a → A' a = A a) ∧ (∀ b, b ≠ 173 → B' b = B b) := by
      intro hnone A1 B1 h3 h4
      obtain ⟨A', B', g, g1, g2⟩ := ih (k + 1) f A1 B1 (by omega) (by omega) (hl.fr h3) (by rw [h3 128 (by unfold scr; omega)]; exact hA) (fun a ha hc => (hL a ha hc).of (fun k _ => by rw [h4 172 (by omega)])) (hP.of (fun k _ => by rw [h4 162 (by omega)]))
      rw [fS_none hnone, hK1]
      dsimp only
      rw [m_let_eq, nI_1]
      exact ⟨A', B', g, fun a b => by rw [g1 a b, h3 a b], fun a b => by rw [g2 a b, h4 a b]⟩
    cases hvo : vOf l (day + k) with
    | none =>
      rw [if_neg (show ¬ (0 : Int32) ≤ iO none from by decide)]
      exact skip (by unfold twD; rw [hvo]) A B (fun _ _ => rfl) (fun _ _ => rfl)
    | some v' =>
      have hv' := hv v' hvo
      have hD : twD l P v day k = (twR l P v (some v')).map (fun ab => (k, ab)) := by unfold twD; rw [hvo]
      obtain ⟨A1, B1, u0, u1, u2, u3⟩ := M_lits h ho (r := 173) (by simp only [gK h]) (by simp only [gl h]) (v := some v') (fun j hj => by cases hj; exact hv') hl (B := B)
      rw [hvo] at ev
      have e1 : F_X12_two_114 K K1 m_FU 128 (nI wh) (nI at0) (nI k) (0 : Int32) (m_w2 M A1 B1) = _ := M_tw114 h ho (A := A1) (B := B1) (v := v) (v' := some v') (P := P) (hl.fr u1) (fun a ha hc => (hL a ha hc).of (fun k _ => by rw [u2 172 (by omega)])) u3 hat (hP.of (fun k _ => by rw [u2 162 (by omega)])) (wh := nI wh) (dd := nI k) (K1 := K) (K2 := K1) 800 0 m_FU (by omega) (m_FU_lt (by omega))
      rw [if_pos (show (0 : Int32) ≤ iO (some v') from nI_pos' (by omega)), x_gI_ok (K0 _ _), w2_I, hA, x_cV_ok (K0 _ _) ev, x_gN_ok (K0 _ _) (R65 _ _), x_cV_ok (K0 _ _) u0, e1]
      cases hr : twR l P v (some v') with
      | none =>
        have hr' : fS (twA l P v (some v')) 800 0 = none := hr
        rw [hr']
        exact skip (by rw [hD, hr]; rfl) A1 B1 u1 u2
      | some ab =>
        have hr' : fS (twA l P v (some v')) 800 0 = some ab := hr
        have hf : fS (twD l P v day) (e + 1) k = some (k, ab) := fS_some (by rw [hD, hr]; rfl)
        rw [hr', hf]
        exact ⟨A1, B1, hK _ _ _ _, u1, u2⟩
theorem O_two (x y : Int32) : RO s (F_X11_two 0 x y) (F_X12_two 128 x y) := by
  have thr : ∀ {M : m_M}, INV s M → F_X12_two 128 x y M = _ := fun {M} h => by
    unfold F_X12_two
    rw [x_pI_ok h.K0, M_ask (h.thr 0), if_bI]
  cases ha : s.2.2.1.2.2.1 with
  | none =>
    refine ⟨NO, fun M h => ⟨⟨M, ?_, SC.rfl' M⟩, ⟨m_sI M 128 0 0, ?_, SC_thr M 0⟩⟩⟩
    · unfold F_X11_two
      by_cases hx : x < 0
      · rw [if_pos hx]; rfl
      rw [if_neg hx]
      by_cases hy : y < 0
      · rw [if_pos hy]; rfl
      rw [if_neg hy]
      by_cases h2 : (2 : Int32) < y
      · rw [if_pos h2]; rfl
      rw [if_neg h2, C_askn h ha, if_pos (by decide)]; rfl
    · rw [thr h, ha]; rfl
  | some f =>
    by_cases hx : x < 0
    · refine ⟨NO, fun M h => ⟨⟨M, ?_, SC.rfl' M⟩, ⟨m_sI M 128 0 0, ?_, SC_thr M 0⟩⟩⟩
      · unfold F_X11_two; rw [if_pos hx]; rfl
      · rw [thr h, ha, show (some f).isSome = true from rfl, if_pos rfl, if_pos hx]; rfl
    obtain ⟨d, hd2, rfl⟩ := nI_of hx
    by_cases hy : y < 0
    · refine ⟨NO, fun M h => ⟨⟨M, ?_, SC.rfl' M⟩, ⟨m_sI M 128 0 0, ?_, SC_thr M 0⟩⟩⟩
      · unfold F_X11_two; rw [if_neg hx, if_pos hy]; rfl
      · rw [thr h, ha, show (some f).isSome = true from rfl, if_pos rfl, if_neg hx, x_bd_ok (show F_X12_within y (0 : Int32) (2 : Int32) (m_sI M 128 0 0) = some (nI 0, m_sI M 128 0 0) from S_within_neg (a := 0) hy (by omega)), if_pos (by decide)]; rfl
    obtain ⟨wh, hwh, rfl⟩ := nI_of hy
    have hw : ∀ M : m_M, F_X12_within (nI wh) (0 : Int32) (2 : Int32) M = some (bI (decide (wh ≤ 2)), M) := fun M => by
      have := S_within (M := M) (k := wh) (a := 0) (b := 2) hwh (by omega) (by omega)
      rw [decide_eq_true (p := 0 ≤ wh) (by omega), Bool.true_and] at this
      exact this
    by_cases h2 : wh ≤ 2
    · refine ⟨if vOf s.2.1 s.2.2.1.1 = none then NO else twV wh (twN s.2.1 (fMn s.2.1 (vOf s.2.1 d) f.1 f.2) (vOf s.2.1 s.2.2.1.1) s.2.2.1.1), fun M h => ⟨?_, ?_⟩⟩
      · obtain ⟨fr, r1, r2, r3⟩ := C_has1 h ha
        have hday := h.bd.1
        have hv6 : ∀ j, vOf s.2.1 s.2.2.1.1 = some j → j < 2147483648 := fun j hj => by have := vOf_in h.lo s.2.2.1.1 j hj; have := h.lo.2.2.2.1; omega
        unfold F_X11_two
        rw [if_neg hx, if_neg hy, if_neg (show ¬ (2 : Int32) < nI wh from nI_nlt (a := 2) (by omega) (by omega)), x_gN_ok h.C0 h.R9, x_cV_ok h.B80 r3, if_neg (by decide), x_cV_ok h.C0 (C_today h)]
        by_cases q : vOf s.2.1 s.2.2.1.1 = none
        · rw [if_pos (iO_none q), if_pos q]
          exact ⟨M, rfl, SC.rfl' M⟩
        rw [if_neg (by rw [iO_no hv6]; exact q), if_neg q]
        obtain ⟨B, e, e1, _, e2⟩ := C_find h r2 (vOf_in h.lo d) h.W92 (by omega)
        have h2 := e1.INV h
        have K67 : ∀ A B, m_K (m_w2 M A B) 67 = 2 := fun A B => by simp only [w2_K, gK h.1]
        have R7 : ∀ A B, m_R (m_w2 M A B) 0 7 = some 67 := fun A B => by simp only [w2_R, gR h.1]
        have K0 : ∀ A B, m_K (m_w2 M A B) 0 = 9 := fun A B => by simp only [w2_K, gK h.1]
        have R7' : m_R (m_wB M B) 0 7 = some 67 := by simp only [gR h2.1]
        have K67' : m_K (m_wB M B) 67 = 2 := by simp only [gK h2.1]
        have I0 : m_I (m_wB M B) 80 0 = nI s.2.2.1.1 := h2.bc.1
        obtain ⟨A', B', g, g1, g2, g3⟩ := S_findTwoDays (M := M) h.1 h.lo (day := s.2.2.1.1) (by omega) h.W92 rfl (A := m_I M) (B := B) h.lc (by have := h2.ls; exact this) e2
        have g' : F_X2_findTwoDays 67 92 (nI s.2.2.1.1) (m_wB M B) = _ := g
        have sc : SC M (m_w2 M A' B') := e1.trans (SC_x2 (M := m_wB M B) (A := A') (B := B') (fun a ha => g1 a (fun z => ha (by unfold scI; omega)) (fun z => ha (by unfold scI; omega)) (fun z => ha (by unfold scI; omega))) (fun b hb => g2 b (fun z => hb (by unfold scL; omega)) (fun z => hb (by unfold scL; omega)) (fun z => hb (by unfold scL; omega)) (fun z => hb (by unfold scL; omega))))
        refine ⟨m_w2 M A' B', ?_, sc⟩
        rw [x_gN_ok h.C0 h.R6, x_gN_ok h.C0 h.R9, x_gN_ok h.B80 r1, x_gN_ok h.C0 h.R2, x_cV_ok h.C2 (S_verbOfC h.1 h.lc h.lo hd2), x_gN_ok h.C0 h.R13, x_cV_ok h.B33 e, x_gN_ok h2.C0 R7', x_gN_ok h2.C0 h2.R13, x_gN_ok h2.C0 h2.R9, x_gI_ok h2.B80, I0, x_cV_ok K67' g']
        cases hr : twN s.2.1 (fMn s.2.1 (vOf s.2.1 d) f.1 f.2) (vOf s.2.1 s.2.2.1.1) s.2.2.1.1 with
        | none => rw [if_pos (show twA0 none = (-1 : Int32) from rfl)]; rfl
        | some z =>
          obtain ⟨i, _, hi, hz⟩ := fS_in 6 1 hr
          have hz1 : z.1 < 7 := by
            unfold twD at hz
            cases hvv : vOf s.2.1 (s.2.2.1.1 + i) with
            | none => rw [hvv] at hz; cases hz
            | some v' =>
              rw [hvv] at hz
              dsimp only at hz
              cases hq : twR s.2.1 (fMn s.2.1 (vOf s.2.1 d) f.1 f.2) (vOf s.2.1 s.2.2.1.1) (some v') with
              | none => rw [hq] at hz; cases hz
              | some ab => rw [hq] at hz; cases hz; omega
          obtain ⟨y1, y2⟩ := g3 z hr
          rw [if_neg (show ¬ twA0 (some z) = (-1 : Int32) from fun y => absurd (show nI z.1 < (0 : Int32) from by rw [show nI z.1 = (-1 : Int32) from y]; decide) (nI_pos (by omega)))]
          unfold twV
          by_cases z0 : wh = 0
          · rw [if_pos (show nI wh = (0 : Int32) from by rw [z0]; rfl)]
            dsimp only
            rw [if_pos z0]
            rfl
          rw [if_neg (nI_nz z0 hwh)]
          dsimp only
          rw [if_neg z0]
          by_cases z1 : wh = 1
          · rw [if_pos (show nI wh = (1 : Int32) from by rw [z1]; rfl), if_pos z1, x_gN_ok (K0 _ _) (R7 _ _), x_gI_ok (K67 _ _), w2_I, y1]
          · rw [if_neg (show ¬ nI wh = (1 : Int32) from fun z => z1 ((nI_eq (b := 1) hwh (by omega)).mp z)), if_neg z1, x_gN_ok (K0 _ _) (R7 _ _), x_gI_ok (K67 _ _), w2_I, y2]
      · have h1 := h.thr 0
        have hday := h1.bd.1
        have v1 := vOf_in h1.lo d
        have v2 := vOf_in h1.lo s.2.2.1.1
        have l1 := aAt_le h1 v1
        have e53 := h1.md
        have R64 : m_R (m_sI M 128 0 0) 128 64 = some 172 := by simp only [gR h1.1]
        have ev : F_X12_verbOf 128 (nI s.2.2.1.1) (m_sI M 128 0 0) = some (iO (vOf s.2.1 s.2.2.1.1), m_sI M 128 0 0) := S_verbOfM h1.1 h1.lm h1.lo (by omega)
        rw [thr h, ha, show (some f).isSome = true from rfl, if_pos rfl, if_neg hx, x_bd_ok (hw _), decide_eq_true h2, if_neg (by decide), x_gI_ok h1.K0, e53, x_cV_ok h1.K0 ev]
        by_cases q : vOf s.2.1 s.2.2.1.1 = none
        · rw [if_neg (by rw [iO_none q]; decide), if_pos q]
          exact ⟨_, rfl, SC_thr M 0⟩
        have hpos : 0 ≤ iO (vOf s.2.1 s.2.2.1.1) := by
          cases hq : vOf s.2.1 s.2.2.1.1 with
          | none => exact absurd hq q
          | some j => exact nI_pos' (by have := v2 j hq; have := h1.lo.2.2.2.1; omega)
        rw [if_pos hpos, if_neg q, x_cV_ok h1.K0 (S_verbOfM h1.1 h1.lm h1.lo hd2), x_bd_ok (S_askedAt h1 v1), x_gI_ok h1.K0, e53, x_cV_ok h1.K0 ev, x_gN_ok h1.K0 R64]
        obtain ⟨A1, B1, u0, u1, u2, u3⟩ := M_lits (M := m_sI M 128 0 0) h1.1 h1.lo (r := 172) (by simp only [gK h1.1]) (by simp only [gl h1.1]) v2 (A := m_I (m_sI M 128 0 0)) (B := m_L (m_sI M 128 0 0)) h1.lm
        have u0' : F_X12_laysLiterals 128 (iO (vOf s.2.1 s.2.2.1.1)) 172 (m_sI M 128 0 0) = _ := u0
        rw [x_cV_ok h1.K0 u0']
        refine m_let_P (fun o => ∃ M', o = some (twV wh (twN s.2.1 (fMn s.2.1 (vOf s.2.1 d) f.1 f.2) (vOf s.2.1 s.2.2.1.1) s.2.2.1.1), M') ∧ SC M M') ?_
        intro K hK
        obtain ⟨A2, B2, g, g1, g2⟩ := M_tw68 (M := m_sI M 128 0 0) h1.1 h1.lo (v := vOf s.2.1 s.2.2.1.1) (P := fMn s.2.1 (vOf s.2.1 d) f.1 f.2) (day := s.2.2.1.1) (at0 := aAt (vOf s.2.1 d)) (wh := wh) (by omega) l1 (by omega) (K := K) (fun dd a b M => by
          rw [hK]
          dsimp only
          unfold twV
          dsimp only
          by_cases z0 : wh = 0
          · rw [if_pos (show nI wh = (0 : Int32) from by rw [z0]; rfl), if_pos z0]
          rw [if_neg (nI_nz z0 hwh), if_neg z0]
          by_cases z1 : wh = 1
          · rw [if_pos (show nI wh = (1 : Int32) from by rw [z1]; rfl), if_pos z1]
          · rw [if_neg (show ¬ nI wh = (1 : Int32) from fun z => z1 ((nI_eq (b := 1) hwh (by omega)).mp z)), if_neg z1]) 6 1 m_FU A1 B1 (by omega) (m_FU_lt (by omega)) (h1.lm.fr u1) (by rw [u1 128 (by unfold scr; omega)]; exact e53) u3 ((M_row h1 ha v1).of (fun k _ => by rw [u2 162 (by omega)]))
        have g' : F_X12_two_68 K m_FU 128 (nI wh) (nI (aAt (vOf s.2.1 d))) (1 : Int32) (m_w2 (m_sI M 128 0 0) A1 B1) = _ := g
        rw [g']
        refine ⟨_, rfl, (SC_thr M 0).trans (SC_x2 (fun a ha => ?_) (fun b hb => ?_))⟩
        · have hns : ¬ scr a := fun z => ha (by unfold scr at z; unfold scI; omega)
          rw [g1 a hns, u1 a hns]
        · rw [g2 b (fun z => hb (by unfold scL; omega)), u2 b (fun z => hb (by unfold scL; omega))]
    · refine ⟨NO, fun M h => ⟨⟨M, ?_, SC.rfl' M⟩, ⟨m_sI M 128 0 0, ?_, SC_thr M 0⟩⟩⟩
      · unfold F_X11_two
        rw [if_neg hx, if_neg hy, if_pos (show (2 : Int32) < nI wh from nI_lt (a := 2) (by omega) hwh)]; rfl
      · rw [thr h, ha, show (some f).isSome = true from rfl, if_pos rfl, if_neg hx, x_bd_ok (hw _), decide_eq_false h2, if_pos (by decide)]; rfl
end OTWO
