/-! the class's books: what is said and ordered there, what it leaves -/
/-- a formula of the class's, in a cell of its own -/
def FmC (l : Ld) (f : Fm) (fr : Nat) (M : m_M) : Prop := 178 ≤ fr ∧ m_K M fr = 12 ∧ m_len M fr = f.2 ∧ f.2 ≤ 1000 ∧ (∀ i, i < f.2 → cPt l (f.1 i) (m_I M fr i)) ∧ fRok l f.1 f.2 0 0
def SyC (l : Ld) (s : Sy) (r : Nat) (M : m_M) : Prop := 178 ≤ r ∧ m_K M r = 6 ∧ ∃ fr st la, (m_R M r 0 = some fr ∧ FmC l s.2.2 fr M) ∧ (m_I M r 1 = nI s.1 ∧ m_I M r 2 = nI s.2.1) ∧ m_R M r 3 = some st ∧ Ws M st la ∧ 178 ≤ st ∧ 178 ≤ la ∧ Rw (wN l) (bdS l s) (m_L M la)
/-- what was laid stays -/
def hiK (M M' : m_M) : Prop := m_N M ≤ m_N M' ∧ ∀ a, 178 ≤ a → a < m_N M → m_T M' a = m_T M a ∧ m_I M' a = m_I M a ∧ m_L M' a = m_L M a ∧ m_R M' a = m_R M a
theorem hiK.rfl' (M : m_M) : hiK M M := ⟨Nat.le_refl _, fun _ _ _ => ⟨rfl, rfl, rfl, rfl⟩⟩
theorem hiK.trans {M1 M2 M3 : m_M} (h1 : hiK M1 M2) (h2 : hiK M2 M3) : hiK M1 M3 := by
  refine ⟨Nat.le_trans h1.1 h2.1, fun a ha hb => ?_⟩
  obtain ⟨a1, a2, a3, a4⟩ := h1.2 a ha hb
  obtain ⟨b1, b2, b3, b4⟩ := h2.2 a ha (Nat.lt_of_lt_of_le hb h1.1)
  exact ⟨b1.trans a1, b2.trans a2, b3.trans a3, b4.trans a4⟩
theorem m_K_lt {M : m_M} {a k : Nat} (h : m_K M a = k) (hk : k < 99) : a < m_N M := by
  unfold m_K at h
  split at h
  · assumption
  · omega
theorem hiK.K {M M' : m_M} (h : hiK M M') {a k : Nat} (ha : 178 ≤ a) (hK : m_K M a = k) (hk : k < 99) : m_K M' a = k ∧ m_len M' a = m_len M a := by
  have hl := m_K_lt hK hk
  obtain ⟨a1, _⟩ := h.2 a ha hl
  unfold m_K at hK ⊢
  unfold m_len
  rw [if_pos hl] at hK
  rw [if_pos (Nat.lt_of_lt_of_le hl h.1), a1]
  exact ⟨hK, rfl⟩
theorem FmC.hi {l : Ld} {f : Fm} {fr : Nat} {M M' : m_M} (h : FmC l f fr M) (hh : hiK M M') : FmC l f fr M' := by
  obtain ⟨h1, h2, h3, h4, h5, h6⟩ := h
  obtain ⟨k1, k2⟩ := hh.K h1 h2 (by omega)
  obtain ⟨_, e2, _, _⟩ := hh.2 fr h1 (m_K_lt h2 (by omega))
  exact ⟨h1, k1, by rw [k2]; exact h3, h4, by rw [e2]; exact h5, h6⟩
theorem SyC.hi {l : Ld} {s : Sy} {r : Nat} {M M' : m_M} (h : SyC l s r M) (hh : hiK M M') : SyC l s r M' := by
  obtain ⟨h1, h2, fr, st, la, ⟨f1, f2⟩, ⟨i1, i2⟩, r3, ⟨w1, w2, w3, w4⟩, s1, s2, rw⟩ := h
  obtain ⟨k1, _⟩ := hh.K h1 h2 (by omega)
  obtain ⟨_, e2, _, e4⟩ := hh.2 r h1 (m_K_lt h2 (by omega))
  obtain ⟨ks, _⟩ := hh.K s1 w1 (by omega)
  obtain ⟨_, _, _, es⟩ := hh.2 st s1 (m_K_lt w1 (by omega))
  obtain ⟨kl, kn⟩ := hh.K s2 w3 (by omega)
  obtain ⟨_, _, el, _⟩ := hh.2 la s2 (m_K_lt w3 (by omega))
  exact ⟨h1, k1, fr, st, la, ⟨by rw [e4]; exact f1, f2.hi hh⟩, by rw [e2]; exact ⟨i1, i2⟩, by rw [e4]; exact r3, ⟨ks, by rw [es]; exact w2, kl, by rw [kn]; exact w4⟩, s1, s2, by rw [el]; exact rw⟩
theorem hiK_wL {M : m_M} {a : Nat} {f : Nat → Int64} (ha : a < 178) : hiK M (m_wL M a f) := by
  refine ⟨Nat.le_refl _, fun b hb _ => ⟨rfl, rfl, ?_, rfl⟩⟩
  funext j
  rw [mL_wL, if_neg (by omega)]
theorem hiK_wB {M : m_M} {B : Nat → Nat → Int64} (h : ∀ a, 178 ≤ a → B a = m_L M a) : hiK M (m_wB M B) := ⟨Nat.le_refl _, fun b hb _ => ⟨rfl, rfl, h b hb, rfl⟩⟩
/-- what is told, in the book at b -/
def TlC (l : Ld) (t : Tl) (b : Nat) (M : m_M) : Prop := (t.1.1 ≤ 12 ∧ t.2.1 ≤ 4) ∧ (m_I M b 1 = nI t.1.1 ∧ m_I M b 2 = nI t.2.1)
  ∧ (∀ i, i < t.1.1 → ∃ r, m_R M (b + 2) i = some r ∧ SyC l (t.1.2 i) r M) ∧ ∀ i, i < t.2.1 → ∃ r, m_R M (b + 3) i = some r ∧ SyC l (t.2.2 i) r M
theorem TlC.hi {l : Ld} {t : Tl} {b : Nat} {M M' : m_M} (h : TlC l t b M) (hh : hiK M M') (h1 : m_I M' b = m_I M b) (h2 : m_R M' (b + 2) = m_R M (b + 2)) (h3 : m_R M' (b + 3) = m_R M (b + 3)) : TlC l t b M' := by
  obtain ⟨a1, a2, a3, a4⟩ := h
  refine ⟨a1, by rw [h1]; exact a2, fun i hi => ?_, fun i hi => ?_⟩
  · obtain ⟨r, r1, r2⟩ := a3 i hi
    exact ⟨r, by rw [h2]; exact r1, r2.hi hh⟩
  · obtain ⟨r, r1, r2⟩ := a4 i hi
    exact ⟨r, by rw [h3]; exact r1, r2.hi hh⟩
theorem x_nul_some {β : Type} {r : Nat} {A : Option β} {f : Nat → Option β} : x_nul (some r) A f = f r := rfl
section CBOOK
variable {M : m_M} {l : Ld} {t : Tl}
theorem bk_cells (h : G M) : m_K M 0 = 9 ∧ m_R M 0 9 = some 80 ∧ m_K M 80 = 1 ∧ m_R M 80 7 = some 82 ∧ m_R M 80 8 = some 83 ∧ m_K M 82 = 16 ∧ m_len M 82 = 12 ∧ m_K M 83 = 16 ∧ m_len M 83 = 4 ∧ m_R M 0 12 = some 90 ∧ m_R M 0 2 = some 2 ∧ m_K M 2 = 3 ∧ Ws M 90 91 := by
  refine ⟨?_, ?_, ?_, ?_, ?_, ?_, ?_, ?_, ?_, ?_, ?_, ?_, ⟨?_, ?_, ?_, ?_⟩⟩ <;> simp only [gK h, gR h, gl h]
theorem S_orderAt (h : G M) (ht : TlC l t 80 M) {i : Nat} (hi : i < t.2.1) : ∃ r, F_X1_orderAt 80 (nI i) M = some (some r, M) ∧ SyC l (t.2.2 i) r M ∧ m_R M 83 i = some r := by
  obtain ⟨_, _, K80, _, R8, _, _, K83, L83, _⟩ := bk_cells h
  obtain ⟨⟨_, b2⟩, ⟨_, i2⟩, _, h4⟩ := ht
  obtain ⟨r, r1, r2⟩ := h4 i hi
  refine ⟨r, ?_, r2, r1⟩
  unfold F_X1_orderAt
  rw [m_let_eq, if_neg (nI_pos (by omega)), x_gI_ok K80, i2, if_neg (nI_ge hi (by omega)), x_gN_ok K80 R8, x_aO_ok K83 (by rw [L83]; omega) (by omega), show m_R M 83 i = some r from r1]
theorem S_saidAt (h : G M) (ht : TlC l t 80 M) {i : Nat} (hi : i < t.1.1) : ∃ r, F_X1_saidAt 80 (nI i) M = some (some r, M) ∧ SyC l (t.1.2 i) r M ∧ m_R M 82 i = some r := by
  obtain ⟨_, _, K80, R7, _, K82, L82, _⟩ := bk_cells h
  obtain ⟨⟨b1, _⟩, ⟨i1, _⟩, h3, _⟩ := ht
  obtain ⟨r, r1, r2⟩ := h3 i hi
  refine ⟨r, ?_, r2, r1⟩
  unfold F_X1_saidAt
  rw [m_let_eq, if_neg (nI_pos (by omega)), x_gI_ok K80, i1, if_neg (nI_ge hi (by omega)), x_gN_ok K80 R7, x_aO_ok K82 (by rw [L82]; omega) (by omega), show m_R M 82 i = some r from r1]
theorem TlC.wL (ht : TlC l t 80 M) {a : Nat} {f : Nat → Int64} (ha : a < 178) : TlC l t 80 (m_wL M a f) := ht.hi (hiK_wL ha) rfl rfl rfl
theorem S_fol_l (h : G M) (ho : lOk l) {day : Nat} (hday : day < 2147483648) (hA : m_I M 80 0 = nI day) (hd : TlD t) (ht : TlC l t 80 M) : ∀ (d o f : Nat) (g : Nat → Int64), o + d = t.2.1 → d < f → Rw (wN l) (lefO l t day o) g →
    ∃ g', F_X11_findOrdersLeave_16 f 0 (nI o) (m_wL M 91 g) = some ((), m_wL M 91 g') ∧ Rw (wN l) (lefO l t day t.2.1) g' := by
  intro d
  induction d with
  | zero =>
    intro o f g hk hf hP
    obtain ⟨f, rfl⟩ : ∃ f', f = f' + 1 := ⟨f - 1, by omega⟩
    have hG : G (m_wL M 91 g) := h
    obtain ⟨K0, R9, K80, _⟩ := bk_cells hG
    have hb := ht.1.2
    refine ⟨g, ?_, by rw [← show o = t.2.1 by omega]; exact hP⟩
    rw [F_X11_findOrdersLeave_16, x_gN_ok K0 R9, x_gI_ok K80, mI_wL, ht.2.1.2, if_pos (nI_le (by omega) (by omega))]
  | succ d ih =>
    intro o f g hk hf hP
    obtain ⟨f, rfl⟩ : ∃ f', f = f' + 1 := ⟨f - 1, by omega⟩
    have hG : G (m_wL M 91 g) := h
    obtain ⟨K0, R9, K80, R7, R8, K82, L82, K83, L83, R12, R2, K2, W90⟩ := bk_cells hG
    have hb := ht.1.2
    have htg := ht.wL (a := 91) (f := g) (by omega)
    obtain ⟨r, e1, ⟨r178, Kr, fr, st, la, hf1, ⟨_, hd2⟩, hr3, hws, s178, l178, hrow⟩, _⟩ := S_orderAt hG htg (i := o) (by omega)
    have hdy := (hd.2 o (by omega)).2
    have hrow2 : Rw (wN l) (bdS l (t.2.2 o)) (m_L M la) := by
      refine hrow.of (fun k hk => ?_)
      rw [mL_wL, if_neg (by omega)]
    rw [F_X11_findOrdersLeave_16, x_gN_ok K0 R9, x_gI_ok K80, mI_wL, ht.2.1.2, if_neg (nI_ge (by omega) (by omega))]
    refine m_let_P (fun z => ∃ g', z = some ((), m_wL M 91 g') ∧ Rw (wN l) (lefO l t day t.2.1) g') ?_
    intro k65 h65
    have hdr : m_I M r 2 = nI (t.2.2 o).2.1 := hd2
    rw [x_gN_ok K0 R9, x_cV_ok K80 e1]
    rw [x_nul_some, x_gI_ok Kr, mI_wL, hdr, x_gN_ok K0 R9, x_gI_ok K80, mI_wL, hA]
    by_cases q : (t.2.2 o).2.1 ≤ day
    · rw [if_neg (nI_nlt q (by omega)), x_gN_ok K0 R12, x_gN_ok Kr hr3, x_cV_ok W90.1 (S_keep W90 hws (by omega)), h65]
      unfold w16
      rw [m_wL_wL]
      dsimp only
      rw [m_let_eq, nI_1]
      refine ih (o + 1) f _ (by omega) (by omega) ?_
      refine ((hP.and hrow2).of (fun k hk => ?_)).cong (fun w _ => ?_)
      · rw [if_pos hk, mL_wL, if_pos rfl, mL_wL, if_neg (by omega)]
      · show _ = (lefO l t day o w && (decide (day < (t.2.2 o).2.1) || bdS l (t.2.2 o) w))
        rw [decide_eq_false (by omega)]; rfl
    · rw [if_pos (nI_lt (by omega) (by omega)), h65]
      dsimp only
      rw [m_let_eq, nI_1]
      refine ih (o + 1) f _ (by omega) (by omega) (hP.cong (fun w _ => ?_))
      show _ = (lefO l t day o w && (decide (day < (t.2.2 o).2.1) || bdS l (t.2.2 o) w))
      rw [decide_eq_true (by omega)]; simp
theorem S_fol (h : G M) (hl : LCi l (m_I M)) (ho : lOk l) {day : Nat} (hday : day < 2147483648) (hA : m_I M 80 0 = nI day) (hd : TlD t) (ht : TlC l t 80 M) :
    ∃ g, F_X11_findOrdersLeave 0 M = some ((), m_wL M 91 g) ∧ Rw (wN l) (lefO l t day t.2.1) g := by
  have hn := wN_le ho
  obtain ⟨K0, R9, K80, R7, R8, K82, L82, K83, L83, R12, R2, K2, W90⟩ := bk_cells h
  have I3 : m_I M 2 3 = nI (wN l) := hl.1.2.2.2.1
  have hb := ht.1.2
  obtain ⟨g, e, e2⟩ := S_fol_l h ho hday hA hd ht t.2.1 0 m_FU (fun j => if j < 16 then wlL (wN l) j else m_L M 91 j) (by omega) (m_FU_lt (by omega)) ((Rw.whole (wN l)).of (fun k hk => by rw [if_pos hk]))
  refine ⟨g, ?_, e2⟩
  unfold F_X11_findOrdersLeave
  rw [x_gN_ok K0 R12, x_gN_ok K0 R2, x_gI_ok K2, I3, x_cV_ok W90.1 (S_fill hn W90)]
  exact e
theorem S_fl_l (h : G M) (ho : lOk l) {P : Nat → Bool} (ht : TlC l t 80 M) : ∀ (d i f : Nat) (g : Nat → Int64), i + d = t.1.1 → d < f → Rw (wN l) (fun w => P w && anN i (fun i => !(4095 : Nat).testBit i || bdS l (t.1.2 i) w)) g →
    ∃ g', F_X11_findLeft_6 f 0 (nI i) (m_wL M 91 g) = some ((), m_wL M 91 g') ∧ Rw (wN l) (fun w => P w && anN t.1.1 (fun i => !(4095 : Nat).testBit i || bdS l (t.1.2 i) w)) g' := by
  intro d
  induction d with
  | zero =>
    intro o f g hk hf hP
    obtain ⟨f, rfl⟩ : ∃ f', f = f' + 1 := ⟨f - 1, by omega⟩
    have hG : G (m_wL M 91 g) := h
    obtain ⟨K0, R9, K80, _⟩ := bk_cells hG
    have hb := ht.1.1
    refine ⟨g, ?_, by rw [← show o = t.1.1 by omega]; exact hP⟩
    rw [F_X11_findLeft_6, x_gN_ok K0 R9, x_gI_ok K80, mI_wL, ht.2.1.1, if_pos (nI_le (by omega) (by omega))]
  | succ d ih =>
    intro o f g hk hf hP
    obtain ⟨f, rfl⟩ : ∃ f', f = f' + 1 := ⟨f - 1, by omega⟩
    have hG : G (m_wL M 91 g) := h
    obtain ⟨K0, R9, K80, R7, R8, K82, L82, K83, L83, R12, R2, K2, W90⟩ := bk_cells hG
    have hb := ht.1.1
    have htg := ht.wL (a := 91) (f := g) (by omega)
    obtain ⟨r, e1, ⟨r178, Kr, fr, st, la, hf1, ⟨_, hd2⟩, hr3, hws, s178, l178, hrow⟩, _⟩ := S_saidAt hG htg (i := o) (by omega)
    have hrow2 : Rw (wN l) (bdS l (t.1.2 o)) (m_L M la) := by
      refine hrow.of (fun k hk => ?_)
      rw [mL_wL, if_neg (by omega)]
    rw [F_X11_findLeft_6, x_gN_ok K0 R9, x_gI_ok K80, mI_wL, ht.2.1.1, if_neg (nI_ge (by omega) (by omega))]
    refine m_let_P (fun z => ∃ g', z = some ((), m_wL M 91 g') ∧ Rw (wN l) (fun w => P w && anN t.1.1 (fun i => !(4095 : Nat).testBit i || bdS l (t.1.2 i) w)) g') ?_
    intro k65 h65
    rw [x_gN_ok K0 R9, x_cV_ok K80 e1]
    rw [x_nul_some, x_gN_ok K0 R12, x_gN_ok Kr hr3, x_cV_ok W90.1 (S_keep W90 hws (by omega)), h65]
    unfold w16
    rw [m_wL_wL]
    dsimp only
    rw [m_let_eq, nI_1]
    refine ih (o + 1) f _ (by omega) (by omega) ?_
    refine ((hP.and hrow2).of (fun k hk => ?_)).cong (fun w _ => ?_)
    · rw [if_pos hk, mL_wL, if_pos rfl, mL_wL, if_neg (by omega)]
    · show _ = (P w && (anN o (fun i => !(4095 : Nat).testBit i || bdS l (t.1.2 i) w) && (!(4095 : Nat).testBit o || bdS l (t.1.2 o) w)))
      have h4095 : ∀ i, i < 12 → (4095 : Nat).testBit i = true := by decide
      rw [h4095 o (by omega), Bool.and_assoc]; rfl
theorem S_findLeft (h : G M) (hl : LCi l (m_I M)) (ho : lOk l) {day : Nat} (hday : day < 2147483648) (hA : m_I M 80 0 = nI day) (hd : TlD t) (ht : TlC l t 80 M) :
    ∃ g, F_X11_findLeft 0 M = some ((), m_wL M 91 g) ∧ Rw (wN l) (lefP l t day 4095) g := by
  have hb := ht.1.1
  obtain ⟨K0, _⟩ := bk_cells h
  obtain ⟨g, e, e2⟩ := S_fol h hl ho hday hA hd ht
  obtain ⟨g', f1, f2⟩ := S_fl_l (t := t) (P := lefO l t day t.2.1) h ho ht t.1.1 0 m_FU g (by omega) (m_FU_lt (by omega)) (e2.cong (fun w _ => by show _ = (_ && true); rw [Bool.and_true]))
  refine ⟨g', ?_, f2⟩
  unfold F_X11_findLeft
  rw [x_cV_ok K0 e]
  exact f1
end CBOOK
