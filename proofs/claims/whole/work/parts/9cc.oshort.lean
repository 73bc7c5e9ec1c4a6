/-! shortest: the class's whole; the model; both sides -/
theorem fF_inv {S : Type} {g : Nat → S → S} {I : S → Prop} (hg : ∀ k s, I s → I (g k s)) : ∀ (d k : Nat) (s : S), I s → I (fF g d k s) := by
  intro d
  induction d with
  | zero => intro k s h; exact h
  | succ d ih => intro k s h; exact ih (k + 1) _ (hg k s h)
theorem fF_21 {S : Type} {g : Nat → S → S} {s : S} : fF g 2 1 s = g 2 (g 1 s) := rfl
theorem stp_or {s c : Nat × (Nat × (Nat × Int32))} : stp s c = s ∨ stp s c = c := by
  unfold stp
  split
  · exact .inr rfl
  · exact .inl rfl
theorem sh1_5 {l : Ld} {P : Nat → Bool} {v : Option Nat} (h : (sh1 l P v).1 ≠ 99) : (sh1 l P v).1 ≤ 5 := by
  have : (sh1 l P v).1 = 99 ∨ (sh1 l P v).1 ≤ 5 := by
    unfold sh1
    refine fF_inv (I := fun s : Nat × (Nat × (Nat × Int32)) => s.1 = 99 ∨ s.1 ≤ 5) (fun k s hs => ?_) 800 0 _ (.inl rfl)
    unfold shAs
    split
    · rcases stp_or (s := s) (c := (wdN k, 0, k, NO)) with z | z
      · rw [z]; exact hs
      · rw [z]; exact .inr (wdN_le k)
    · exact hs
  rcases this with z | z
  · exact absurd z h
  · exact z
def shV (wh : Nat) (s : Nat × (Nat × (Nat × Int32))) : Int32 := if s.1 = 99 then NO else if wh = 0 then nI s.1 else if wh = 1 then nI s.2.1 else if wh = 2 then nI s.2.2.1 else s.2.2.2
def MSs (s : Nat × (Nat × (Nat × Int32))) (A : IA) : Prop := A 128 66 = (if s.1 = 99 then NO else nI s.1) ∧ s.1 ≤ 99 ∧ (s.1 ≠ 99 → A 128 67 = nI s.2.1 ∧ A 128 68 = nI s.2.2.1 ∧ A 128 69 = s.2.2.2)
def frS (A A' : IA) : Prop := (∀ x, x ≠ 128 → A' x = A x) ∧ ∀ k, (k < 66 ∨ 69 < k) → A' 128 k = A 128 k
theorem frS.rfl' (A : IA) : frS A A := ⟨fun _ _ => rfl, fun _ _ => rfl⟩
theorem frS.trans {A B C : IA} (h : frS A B) (g : frS B C) : frS A C := ⟨fun x hx => (g.1 x hx).trans (h.1 x hx), fun k hk => (g.2 k hk).trans (h.2 k hk)⟩
theorem frS.LM {l : Ld} {A A' : IA} (h : frS A A') (hl : LMi l A) : LMi l A' := hl.cong (fun a _ _ => h.1 a (by omega)) (h.2 42 (by omega)) (h.2 43 (by omega))
def HI (how : Nat) (s : Nat × (Nat × (Nat × Int32))) : Prop := s.1 ≠ 99 → s.2.1 ≤ how
section OSHORT
variable {M M' : m_M} {l : Ld} {v : Option Nat} {P : Nat → Bool} {s : St}
theorem S_findShortest (h : G M) (ho : lOk l) (hv : vIn l v) {st la : Nat} (hw : Ws M st la) (hla : la = 93) {A : IA} {B : Nat → Nat → Int64} (hl : LCi l A) (hs : LCs l (B 13)) (hP : Rw (wN l) P (B la)) :
    ∃ A' B', F_X2_findShortest 67 st (iO v) (m_w2 M A B) = some (bI (!decide ((shN l P v).1 = 99)), m_w2 M A' B') ∧ (∀ a, a ≠ 67 → a ≠ 71 → A' a = A a) ∧ (∀ b, b ≠ 69 → b ≠ 74 → b ≠ 76 → B' b = B b) ∧ CSs (shN l P v) A' := by
  have hn := wN_le ho
  have K67 : ∀ A B, m_K (m_w2 M A B) 67 = 2 := fun A B => by simp only [w2_K, gK h]
  have R6 : ∀ A B, m_R (m_w2 M A B) 67 6 = some 69 := fun A B => by simp only [w2_R, gR h]
  have R10 : ∀ A B, m_R (m_w2 M A B) 67 10 = some 73 := fun A B => by simp only [w2_R, gR h]
  have W73 : Ws M 73 74 := ⟨by simp only [gK h], by simp only [gR h], by simp only [gK h], by simp only [gl h]⟩
  unfold F_X2_findShortest
  refine m_let_P (fun o => ∃ A' B', o = some (bI (!decide ((shN l P v).1 = 99)), m_w2 M A' B') ∧ (∀ a, a ≠ 67 → a ≠ 71 → A' a = A a) ∧ (∀ b, b ≠ 69 → b ≠ 74 → b ≠ 76 → B' b = B b) ∧ CSs (shN l P v) A') ?_
  intro K hK
  have hKK : ∀ A B, CSs (shN l P v) A → K 67 (m_w2 M A B) = some (bI (!decide ((shN l P v).1 = 99)), m_w2 M A B) := by
    intro A B hc
    rw [hK]
    dsimp only
    rw [x_gI_ok (K67 _ _), w2_I, hc.1]
    by_cases q : (shN l P v).1 = 99
    · rw [if_pos (show nI (shN l P v).1 = (99 : Int32) from by rw [q]; rfl), decide_eq_true q]; rfl
    · rw [if_neg (show ¬ nI (shN l P v).1 = (99 : Int32) from fun z => q ((nI_eq (b := 99) (by have := hc.2.1; omega) (by omega)).mp z)), decide_eq_false q]; rfl
  have hl0 : LCi l (m_up A 67 0 (nI 99)) := hl.cong (fun a _ ha => by funext j; rw [up_at, if_neg (by omega)])
  obtain ⟨B1, s0, s1, s2⟩ := S_spreadAll h ho hv hl0 (r := 69) (by simp only [gK h]) (by simp only [gl h]) (by omega) (B := B) hs
  have hP1 : Rw (wN l) P (B1 la) := hP.of (fun k _ => by rw [s1 la (by omega)])
  obtain ⟨B2, o0, o1, o2⟩ := S_findOutside h ho (A := m_up A 67 0 (nI 99)) hl0 hw hP1
  have hP2 : RwL (wN l) P (B2 la) := (hP1.RwL hn).of (fun k => by rw [o1 la (by omega)])
  have hL2 : LitC l v 69 B2 := s2.of (o1 69 (by omega))
  have hO2 : RwL (wN l) (fun w => !P w) (B2 74) := o2.RwL hn
  obtain ⟨A1, f0, f1, f2⟩ := S_findAlone h ho hL2 hw hP2 hO2 800 0 m_FU (m_up A 67 0 (nI 99)) (99, 0, 0, 0) (by omega) (m_FU_lt (by omega)) hl0 ⟨by rw [up_at, if_pos ⟨rfl, rfl⟩], Nat.le_refl 99, fun z => absurd rfl z⟩
  have f0' : F_X2_findAlone 67 st (m_w2 M (m_up A 67 0 (nI 99)) B2) = some ((), m_w2 M A1 B2) := f0
  have f2' : CSs (sh1 l P v) A1 := f2
  have fr1 : ∀ a, a ≠ 67 → A1 a = A a := fun a ha => by
    rw [f1 a ha]
    funext j
    rw [up_at, if_neg (fun y => ha y.1)]
  have frB : ∀ b, b ≠ 69 → b ≠ 74 → B2 b = B b := fun b x y => by rw [o1 b y, s1 b x]
  rw [x_pI_ok (K67 _ _), w2_sI, show (99 : Int32) = nI 99 from rfl, x_gN_ok (K67 _ _) (R6 _ _), x_cV_ok (K67 _ _) s0, x_cV_ok (K67 _ _) o0, x_cV_ok (K67 _ _) f0', x_gI_ok (K67 _ _), w2_I, f2'.1]
  by_cases q : (sh1 l P v).1 = 99
  · have hl1 : LCi l A1 := hl.cong (fun a _ ha => fr1 a (by omega))
    obtain ⟨A2, B3, g0, g1, g2, g3⟩ := S_findJoined h ho (P := P) (v := v) (W := P) (U := fun w => !P w) (t := 0) (by omega) hw W73 (by omega) (fun w => rfl) (fun w => rfl) hl1 f2' hL2 hP2 hO2
    have hl2 : LCi l A2 := hl1.cong (fun a _ ha => g1 a (by omega) (by omega))
    obtain ⟨A3, B4, e0, e1, e2, e3⟩ := S_findJoined h ho (P := P) (v := v) (W := fun w => !P w) (U := P) (t := 1) (by omega) W73 hw (by omega) (fun w => rfl) (fun w => by cases P w <;> rfl) hl2 g3 (hL2.of (g2 69 (by omega))) (hO2.of (fun k => by rw [g2 74 (by omega)])) (hP2.of (fun k => by rw [g2 la (by omega)]))
    have g0' : F_X2_findJoined 67 st 73 (1 : Int32) (m_w2 M A1 B2) = _ := g0
    have e0' : F_X2_findJoined 67 73 st (2 : Int32) (m_w2 M A2 B3) = _ := e0
    have e3' : CSs (shN l P v) A3 := e3
    rw [if_pos (show nI (sh1 l P v).1 = nI 99 from by rw [q]), x_gN_ok (K67 _ _) (R10 _ _), x_cV_ok (K67 _ _) g0', x_gN_ok (K67 _ _) (R10 _ _), x_cV_ok (K67 _ _) e0', hKK A3 B4 e3']
    exact ⟨A3, B4, rfl, fun a x y => by rw [e1 a x y, g1 a x y, fr1 a x], fun b x y z => by rw [e2 b z, g2 b z, frB b x y], e3'⟩
  · have h5 := sh1_5 q
    have hN : shN l P v = sh1 l P v := by
      unfold shN
      rw [allJ_le (s := sh1 l P v) h5, allJ_le h5]
    have hc : CSs (shN l P v) A1 := by rw [hN]; exact f2'
    rw [if_neg (show ¬ nI (sh1 l P v).1 = nI 99 from fun z => q ((nI_eq (by omega) (by omega)).mp z)), hKK A1 B2 hc]
    exact ⟨A1, B2, rfl, fun a x _ => fr1 a x, fun b x y _ => frB b x y, hc⟩
theorem M_offers (h : G M) {A : IA} {B : Nat → Nat → Int64} {s : Nat × (Nat × (Nat × Int32))} {w how a : Nat} {b : Int32} (hs : MSs s A) (hh : HI how s) (hw : w < 99) (hhow : how < 3) :
    ∃ A', F_X12_offers 128 (nI w) (nI how) (nI a) b (m_w2 M A B) = some ((), m_w2 M A' B) ∧ frS A A' ∧ MSs (stp s (w, how, a, b)) A' ∧ HI how (stp s (w, how, a, b)) := by
  have K0 : ∀ A, m_K (m_w2 M A B) 128 = 10 := fun A => by simp only [w2_K, gK h]
  have hHI : HI how (stp s (w, how, a, b)) := by
    rcases stp_or (s := s) (c := (w, how, a, b)) with z | z
    · rw [z]; exact hh
    · rw [z]; exact fun _ => Nat.le_refl how
  have hs99 := hs.2.1
  have put : ∀ A, ∃ A', (x_pI 10 (m_w2 M A B) 128 66 (nI w) fun M3 => x_pI 10 M3 128 67 (nI how) fun M4 => x_pI 10 M4 128 68 (nI a) fun M5 => x_pI 10 M5 128 69 b fun M6 => some ((), M6)) = some ((), m_w2 M A' B) ∧ frS A A' ∧ MSs (w, how, a, b) A' := by
    intro A
    refine ⟨m_up (m_up (m_up (m_up A 128 66 (nI w)) 128 67 (nI how)) 128 68 (nI a)) 128 69 b, ?_, ⟨fun x hx => ?_, fun k hk => ?_⟩, ?_, by show w ≤ 99; omega, fun _ => ⟨?_, ?_, ?_⟩⟩
    · rw [x_pI_ok (K0 _), w2_sI, x_pI_ok (K0 _), w2_sI, x_pI_ok (K0 _), w2_sI, x_pI_ok (K0 _), w2_sI]
    · funext j
      rw [up_at, if_neg (fun y => hx y.1), up_at, if_neg (fun y => hx y.1), up_at, if_neg (fun y => hx y.1), up_at, if_neg (fun y => hx y.1)]
    · rw [up_at, if_neg (by omega), up_at, if_neg (by omega), up_at, if_neg (by omega), up_at, if_neg (by omega)]
    · rw [up_at, if_neg (by omega), up_at, if_neg (by omega), up_at, if_neg (by omega), up_at, if_pos ⟨rfl, rfl⟩, if_neg (show ¬ w = 99 by omega)]
    · rw [up_at, if_neg (by omega), up_at, if_neg (by omega), up_at, if_pos ⟨rfl, rfl⟩]
    · rw [up_at, if_neg (by omega), up_at, if_pos ⟨rfl, rfl⟩]
    · rw [up_at, if_pos ⟨rfl, rfl⟩]
  obtain ⟨A', p0, p1, p2⟩ := put A
  have yes : w < s.1 → ∃ A', F_X12_offers 128 (nI w) (nI how) (nI a) b (m_w2 M A B) = some ((), m_w2 M A' B) ∧ frS A A' ∧ MSs (stp s (w, how, a, b)) A' ∧ HI how (stp s (w, how, a, b)) := by
    intro hws
    have hst : stp s (w, how, a, b) = (w, how, a, b) := if_pos hws
    refine ⟨A', ?_, p1, by rw [hst]; exact p2, hHI⟩
    unfold F_X12_offers
    refine m_let_e ?_
    intro K1 hK1
    have hk1 : K1 128 (nI w) (nI how) (nI a) b (m_w2 M A B) = some ((), m_w2 M A' B) := by
      rw [hK1]
      dsimp only
      refine m_let_e ?_
      intro K2 hK2
      have hk2 : K2 128 (nI w) (nI how) (nI a) b (m_w2 M A B) = some ((), m_w2 M A' B) := by
        rw [hK2]
        exact p0
      rw [x_gI_ok (K0 _), w2_I, hs.1]
      by_cases q : s.1 = 99
      · rw [if_pos q, if_pos (show (NO : Int32) < 0 by decide)]
        exact hk2
      · rw [if_neg q, if_neg (nI_pos (by omega)), x_gI_ok (K0 _), w2_I, hs.1, if_neg q, if_neg (fun z => by have := (nI_eq (by omega) (by omega)).mp z; omega)]
        exact hk2
    rw [x_gI_ok (K0 _), w2_I, hs.1]
    by_cases q : s.1 = 99
    · rw [if_pos q, if_pos (show (NO : Int32) < 0 by decide)]
      exact hk1
    · rw [if_neg q, if_neg (nI_pos (by omega)), x_gI_ok (K0 _), w2_I, hs.1, if_neg q, if_pos (nI_le (by omega) (by omega))]
      exact hk1
  by_cases hws : w < s.1
  · exact yes hws
  · have hst : stp s (w, how, a, b) = s := if_neg hws
    have q : s.1 ≠ 99 := by omega
    obtain ⟨y1, y2, y3⟩ := hs.2.2 q
    have hle := hh q
    refine ⟨A, ?_, frS.rfl' A, by rw [hst]; exact hs, hHI⟩
    unfold F_X12_offers
    refine m_let_e ?_
    intro K1 hK1
    rw [x_gI_ok (K0 _), w2_I, hs.1, if_neg q, if_neg (nI_pos (by omega)), x_gI_ok (K0 _), w2_I, hs.1, if_neg q]
    by_cases z : w ≤ s.1
    · rw [if_pos (nI_le z (by omega)), hK1]
      dsimp only
      refine m_let_e ?_
      intro K2 hK2
      rw [x_gI_ok (K0 _), w2_I, hs.1, if_neg q, if_neg (nI_pos (by omega)), x_gI_ok (K0 _), w2_I, hs.1, if_neg q, if_pos (show nI w = nI s.1 by rw [show w = s.1 by omega]), x_gI_ok (K0 _), w2_I, y1, if_neg (nI_nlt hle (by omega))]
    · rw [if_neg (nI_ge (by omega) (by omega))]
theorem M_ss7 (h : G M) (ho : lOk l) {B : Nat → Nat → Int64} (hL : LitM l v 172 B) {at0 : Nat} (hat : at0 ≤ 96) (hP : Rw (wN l) P (fun k => B 162 (at0 + k))) {K : Nat → Int32 → m_M → Option (Unit × m_M)} : ∀ (d k f : Nat) (A : IA) (s : Nat × (Nat × (Nat × Int32))), k + d = 800 → d < f → LMi l A → MSs s A → HI 0 s →
    ∃ A', F_X12_seeksShortest_7 K f 128 (nI at0) (nI k) (m_w2 M A B) = K 128 (nI at0) (m_w2 M A' B) ∧ frS A A' ∧ MSs (fF (shAs l P v) d k s) A' ∧ HI 0 (fF (shAs l P v) d k s) := by
  have K0 : ∀ A, m_K (m_w2 M A B) 128 = 10 := fun A => by simp only [w2_K, gK h]
  have R54 : ∀ A, m_R (m_w2 M A B) 128 54 = some 162 := fun A => by simp only [w2_R, gR h]
  have R64 : ∀ A, m_R (m_w2 M A B) 128 64 = some 172 := fun A => by simp only [w2_R, gR h]
  intro d
  induction d with
  | zero =>
    intro k f A s hk hf _ hs hh
    obtain ⟨f, rfl⟩ : ∃ f', f = f' + 1 := ⟨f - 1, by omega⟩
    obtain rfl : k = 800 := by omega
    refine ⟨A, ?_, frS.rfl' A, hs, hh⟩
    rw [F_X12_seeksShortest_7, if_pos (by decide)]
  | succ d ih =>
    intro k f A s hk hf hl hs hh
    obtain ⟨f, rfl⟩ : ∃ f', f = f' + 1 := ⟨f - 1, by omega⟩
    have hk8 : k < 800 := by omega
    have ic : F_X12_isClause 128 (nI (k / 2)) (m_w2 M A B) = some (bI (ccOk l (k / 2)), m_w2 M A B) := S_isClauseM (M := m_w2 M A B) h hl ho (by omega)
    rw [F_X12_seeksShortest_7, if_neg (show ¬ (800 : Int32) ≤ nI k from nI_ge (b := 800) (by omega) (by omega))]
    refine m_let_P (fun o => ∃ A', o = K 128 (nI at0) (m_w2 M A' B) ∧ frS A A' ∧ MSs (fF (shAs l P v) (d + 1) k s) A' ∧ HI 0 (fF (shAs l P v) (d + 1) k s)) ?_
    intro K1 hK1
    have nxt : ∀ A1, frS A A1 → MSs (shAs l P v k s) A1 → HI 0 (shAs l P v k s) → ∃ A', K1 128 (nI at0) (nI k) (m_w2 M A1 B) = K 128 (nI at0) (m_w2 M A' B) ∧ frS A A' ∧ MSs (fF (shAs l P v) (d + 1) k s) A' ∧ HI 0 (fF (shAs l P v) (d + 1) k s) := by
      intro A1 h1 h2 h3
      obtain ⟨A', g, g1, g2⟩ := ih (k + 1) f A1 _ (by omega) (by omega) (h1.LM hl) h2 h3
      rw [hK1]
      dsimp only
      rw [m_let_eq, nI_1]
      exact ⟨A', g, h1.trans g1, g2⟩
    rw [x_nz_eq, if_neg (by decide), show nI k / (2 : Int32) = nI (k / 2) from i32_div (b := 2) (by omega) (by omega), x_cV_ok (K0 _) ic]
    cases q : ccOk l (k / 2)
    · have hz : shAs l P v k s = s := by unfold shAs; rw [q]; rfl
      rw [if_pos (by decide)]
      exact nxt A (frS.rfl' A) (by rw [hz]; exact hs) (by rw [hz]; exact hh)
    have al := S_areAlike (M := m_w2 M A B) h hl ho (row1 := 172) (row2 := 162) (len1 := 12800) (len2 := 560) (by simp only [w2_K, gK h]) (by simp only [w2_n, gl h]) (at1 := 16 * k) (by omega) (by omega) (by simp only [w2_K, gK h]) (by simp only [w2_n, gl h]) (at2 := at0) (by omega) (by omega) (P := lT l v k) (Q := P) (by rw [w2_L]; exact hL k hk8 q) (by rw [w2_L]; exact hP)
    rw [if_neg (by decide), x_gN_ok (K0 _) (R64 _), x_gN_ok (K0 _) (R54 _), show (16 : Int32) = nI 16 from rfl, nI_mul, x_cV_ok (K0 _) al]
    by_cases q2 : ∀ w, w < wN l → lT l v k w = P w
    · obtain ⟨A1, u, u1, u2, u3⟩ := M_offers h (A := A) (B := B) (w := wdN k) (how := 0) (a := k) (b := (-1 : Int32)) hs hh (by have := wdN_le k; omega) (by omega)
      have u' : F_X12_offers 128 (nI (wdN k)) (0 : Int32) (nI k) (-1 : Int32) (m_w2 M A B) = _ := u
      have hz : shAs l P v k s = stp s (wdN k, 0, k, (-1 : Int32)) := by
        unfold shAs eqB
        rw [q, decide_eq_true q2]
        rfl
      rw [if_pos q2, if_neg (by decide), x_bd_ok (M_words hk8), x_cV_ok (K0 _) u']
      exact nxt A1 u1 (by rw [hz]; exact u2) (by rw [hz]; exact u3)
    · have hz : shAs l P v k s = s := by
        unfold shAs eqB
        rw [decide_eq_false q2, Bool.and_false]; rfl
      rw [if_neg q2, if_pos (by decide)]
      exact nxt A (frS.rfl' A) (by rw [hz]; exact hs) (by rw [hz]; exact hh)
theorem M_ss82 (h : G M) (ho : lOk l) {B : Nat → Nat → Int64} (hL : LitM l v 172 B) {at0 how a : Nat} (hhow : how < 3) (ha : a < 800) (hat : at0 ≤ 96) (hP : Rw (wN l) P (fun k => B 162 (at0 + k))) {K : Nat → Int32 → Int32 → Int32 → m_M → Option (Unit × m_M)} : ∀ (d k f : Nat) (A : IA) (s : Nat × (Nat × (Nat × Int32))), k + d = 800 → d < f → LMi l A → MSs s A → HI how s →
    ∃ A', F_X12_seeksShortest_82 K f 128 (nI at0) (nI how) (nI a) (nI k) (m_w2 M A B) = K 128 (nI at0) (nI how) (nI a) (m_w2 M A' B) ∧ frS A A' ∧ MSs (fF (gJ2 l P v how a) d k s) A' ∧ HI how (fF (gJ2 l P v how a) d k s) := by
  have K0 : ∀ A, m_K (m_w2 M A B) 128 = 10 := fun A => by simp only [w2_K, gK h]
  have wa := wdN_le a
  intro d
  induction d with
  | zero =>
    intro k f A s hk hf _ hs hh
    obtain ⟨f, rfl⟩ : ∃ f', f = f' + 1 := ⟨f - 1, by omega⟩
    obtain rfl : k = 800 := by omega
    refine ⟨A, ?_, frS.rfl' A, hs, hh⟩
    rw [F_X12_seeksShortest_82, if_pos (by decide)]
  | succ d ih =>
    intro k f A s hk hf hl hs hh
    obtain ⟨f, rfl⟩ : ∃ f', f = f' + 1 := ⟨f - 1, by omega⟩
    have hk8 : k < 800 := by omega
    have wk := wdN_le k
    have hs99 := hs.2.1
    have ica : F_X12_isClause 128 (nI (a / 2)) (m_w2 M A B) = some (bI (ccOk l (a / 2)), m_w2 M A B) := S_isClauseM (M := m_w2 M A B) h hl ho (by omega)
    have ic : F_X12_isClause 128 (nI (k / 2)) (m_w2 M A B) = some (bI (ccOk l (k / 2)), m_w2 M A B) := S_isClauseM (M := m_w2 M A B) h hl ho (by omega)
    rw [F_X12_seeksShortest_82, if_neg (show ¬ (800 : Int32) ≤ nI k from nI_ge (b := 800) (by omega) (by omega)), x_nz_eq, if_neg (by decide), show nI a / (2 : Int32) = nI (a / 2) from i32_div (b := 2) (by omega) (by omega), x_cV_ok (K0 _) ica]
    cases qa : ccOk l (a / 2)
    · have hz : fF (gJ2 l P v how a) (d + 1) k s = s := fF_id (d + 1) k (fun i _ _ => by unfold gJ2; rw [qa]; rfl)
      refine ⟨A, ?_, frS.rfl' A, by rw [hz]; exact hs, by rw [hz]; exact hh⟩
      rw [if_pos (by decide)]
    rw [if_neg (by decide)]
    refine m_let_P (fun o => ∃ A', o = K 128 (nI at0) (nI how) (nI a) (m_w2 M A' B) ∧ frS A A' ∧ MSs (fF (gJ2 l P v how a) (d + 1) k s) A' ∧ HI how (fF (gJ2 l P v how a) (d + 1) k s)) ?_
    intro K1 hK1
    have nxt : ∀ A1, frS A A1 → MSs (gJ2 l P v how a k s) A1 → HI how (gJ2 l P v how a k s) → ∃ A', K1 128 (nI at0) (nI how) (nI a) (nI k) (m_w2 M A1 B) = K 128 (nI at0) (nI how) (nI a) (m_w2 M A' B) ∧ frS A A' ∧ MSs (fF (gJ2 l P v how a) (d + 1) k s) A' ∧ HI how (fF (gJ2 l P v how a) (d + 1) k s) := by
      intro A1 h1 h2 h3
      obtain ⟨A', g, g1, g2⟩ := ih (k + 1) f A1 _ (by omega) (by omega) (h1.LM hl) h2 h3
      rw [hK1]
      dsimp only
      rw [m_let_eq, nI_1]
      exact ⟨A', g, h1.trans g1, g2⟩
    refine m_let_P (fun o => ∃ A', o = K 128 (nI at0) (nI how) (nI a) (m_w2 M A' B) ∧ frS A A' ∧ MSs (fF (gJ2 l P v how a) (d + 1) k s) A' ∧ HI how (fF (gJ2 l P v how a) (d + 1) k s)) ?_
    intro K2 hK2
    have try1 : ∃ A', K2 128 (nI at0) (nI how) (nI a) (nI k) (nI (wdN a + wdN k + 1)) (m_w2 M A B) = K 128 (nI at0) (nI how) (nI a) (m_w2 M A' B) ∧ frS A A' ∧ MSs (fF (gJ2 l P v how a) (d + 1) k s) A' ∧ HI how (fF (gJ2 l P v how a) (d + 1) k s) := by
      rw [hK2]
      dsimp only
      rw [x_nz_eq, if_neg (by decide), show nI k / (2 : Int32) = nI (k / 2) from i32_div (b := 2) (by omega) (by omega), x_cV_ok (K0 _) ic]
      cases q : ccOk l (k / 2)
      · have hz : gJ2 l P v how a k s = s := by unfold gJ2; rw [qa, q]; rfl
        rw [if_pos (by decide)]
        exact nxt A (frS.rfl' A) (by rw [hz]; exact hs) (by rw [hz]; exact hh)
      rw [if_neg (by decide), x_cV_ok (K0 _) (M_joins h ho hl hL (how := how) (by omega) ha qa hk8 q hat hP)]
      cases q2 : jnB l P v how a k
      · have hz : gJ2 l P v how a k s = s := by unfold gJ2; rw [qa, q, q2]; rfl
        rw [if_pos (by decide)]
        exact nxt A (frS.rfl' A) (by rw [hz]; exact hs) (by rw [hz]; exact hh)
      obtain ⟨A1, u, u1, u2, u3⟩ := M_offers h (A := A) (B := B) (w := wdN a + wdN k + 1) (how := how) (a := a) (b := nI k) hs hh (by omega) hhow
      have hz : gJ2 l P v how a k s = stp s (wdN a + wdN k + 1, how, a, nI k) := by unfold gJ2; rw [qa, q, q2]; rfl
      rw [if_neg (by decide), x_cV_ok (K0 _) u]
      exact nxt A1 u1 (by rw [hz]; exact u2) (by rw [hz]; exact u3)
    have skip : s.1 ≤ wdN a + wdN k + 1 → ∃ A', K1 128 (nI at0) (nI how) (nI a) (nI k) (m_w2 M A B) = K 128 (nI at0) (nI how) (nI a) (m_w2 M A' B) ∧ frS A A' ∧ MSs (fF (gJ2 l P v how a) (d + 1) k s) A' ∧ HI how (fF (gJ2 l P v how a) (d + 1) k s) := by
      intro z
      have hz : gJ2 l P v how a k s = s := by
        unfold gJ2
        rw [stp_le (by show s.1 ≤ wdN a + wdN k + 1; exact z)]
        split <;> rfl
      exact nxt A (frS.rfl' A) (by rw [hz]; exact hs) (by rw [hz]; exact hh)
    rw [x_bd_ok (M_words ha), x_bd_ok (M_words hk8), nI_add, nI_1, m_let_eq, x_gI_ok (K0 _), w2_I, hs.1]
    by_cases q : s.1 = 99
    · rw [if_pos q, if_pos (show (NO : Int32) < 0 by decide)]
      exact try1
    obtain ⟨y1, y2, y3⟩ := hs.2.2 q
    have hle := hh q
    rw [if_neg q, if_neg (nI_pos (by omega)), x_gI_ok (K0 _), w2_I, hs.1, if_neg q]
    by_cases z : wdN a + wdN k + 1 < s.1
    · rw [if_pos (nI_lt z (by omega))]
      exact try1
    rw [if_neg (nI_nlt (by omega) (by omega)), x_gI_ok (K0 _), w2_I, hs.1, if_neg q]
    by_cases z2 : s.1 < wdN a + wdN k + 1
    · rw [if_pos (nI_lt z2 (by omega))]
      exact skip (by omega)
    rw [if_neg (nI_nlt (by omega) (by omega)), x_gI_ok (K0 _), w2_I, y1, if_neg (nI_nlt hle (by omega))]
    exact skip (by omega)
theorem M_ss70 (h : G M) (ho : lOk l) {B : Nat → Nat → Int64} (hL : LitM l v 172 B) {at0 how : Nat} (hhow : how < 3) (hat : at0 ≤ 96) (hP : Rw (wN l) P (fun k => B 162 (at0 + k))) {K : Nat → Int32 → Int32 → m_M → Option (Unit × m_M)} : ∀ (d k f : Nat) (A : IA) (s : Nat × (Nat × (Nat × Int32))), k + d = 800 → d < f → LMi l A → MSs s A → HI how s →
    ∃ A', F_X12_seeksShortest_70 K f 128 (nI at0) (nI how) (nI k) (m_w2 M A B) = K 128 (nI at0) (nI how) (m_w2 M A' B) ∧ frS A A' ∧ MSs (fF (rowJ l P v how) d k s) A' ∧ HI how (fF (rowJ l P v how) d k s) := by
  intro d
  induction d with
  | zero =>
    intro k f A s hk hf _ hs hh
    obtain ⟨f, rfl⟩ : ∃ f', f = f' + 1 := ⟨f - 1, by omega⟩
    obtain rfl : k = 800 := by omega
    refine ⟨A, ?_, frS.rfl' A, hs, hh⟩
    rw [F_X12_seeksShortest_70, if_pos (by decide)]
  | succ d ih =>
    intro k f A s hk hf hl hs hh
    obtain ⟨f, rfl⟩ : ∃ f', f = f' + 1 := ⟨f - 1, by omega⟩
    rw [F_X12_seeksShortest_70, if_neg (show ¬ (800 : Int32) ≤ nI k from nI_ge (b := 800) (by omega) (by omega)), nI_1, m_let_eq]
    refine m_let_P (fun o => ∃ A', o = K 128 (nI at0) (nI how) (m_w2 M A' B) ∧ frS A A' ∧ MSs (fF (rowJ l P v how) (d + 1) k s) A' ∧ HI how (fF (rowJ l P v how) (d + 1) k s)) ?_
    intro K1 hK1
    obtain ⟨A1, u, u1, u2, u3⟩ := M_ss82 h ho hL hhow (a := k) (by omega) hat hP (K := K1) (799 - k) (k + 1) m_FU A s (by omega) (m_FU_lt (by omega)) hl hs hh
    obtain ⟨A', g, g1, g2⟩ := ih (k + 1) f A1 _ (by omega) (by omega) (u1.LM hl) u2 u3
    rw [u, hK1]
    dsimp only
    rw [m_let_eq, nI_1]
    exact ⟨A', g, u1.trans g1, g2⟩
theorem M_seeksShort (h : G M) (ho : lOk l) {A : IA} {B : Nat → Nat → Int64} (hl : LMi l A) (hL : LitM l v 172 B) {at0 : Nat} (hat : at0 ≤ 96) (hP : Rw (wN l) P (fun k => B 162 (at0 + k))) :
    ∃ A', F_X12_seeksShortest 128 (nI at0) (m_w2 M A B) = some ((), m_w2 M A' B) ∧ frS A A' ∧ MSs (shN l P v) A' := by
  have K0 : ∀ A, m_K (m_w2 M A B) 128 = 10 := fun A => by simp only [w2_K, gK h]
  have hf0 : frS A (m_up A 128 66 (-1 : Int32)) := ⟨fun x hx => by funext j; rw [up_at, if_neg (fun y => hx y.1)], fun k hk => by rw [up_at, if_neg (by omega)]⟩
  unfold F_X12_seeksShortest
  rw [x_pI_ok (K0 _), w2_sI]
  refine m_let_P (fun o => ∃ A', o = some ((), m_w2 M A' B) ∧ frS A A' ∧ MSs (shN l P v) A') ?_
  intro K hK
  obtain ⟨A1, u, u1, u2, u3⟩ := M_ss7 h ho hL hat hP (K := K) 800 0 m_FU (m_up A 128 66 (-1 : Int32)) (99, 0, 0, 0) (by omega) (m_FU_lt (by omega)) (hf0.LM hl) ⟨by rw [up_at, if_pos ⟨rfl, rfl⟩]; rfl, Nat.le_refl 99, fun z => absurd rfl z⟩ (fun z => absurd rfl z)
  have u' : F_X12_seeksShortest_7 K m_FU 128 (nI at0) (0 : Int32) (m_w2 M (m_up A 128 66 (-1 : Int32)) B) = _ := u
  have key : ∀ (d k f : Nat) (A : IA) (s : Nat × (Nat × (Nat × Int32))), k + d = 3 → d < f → LMi l A → MSs s A → HI k s →
      ∃ A', F_X12_seeksShortest_63 f 128 (nI at0) (nI k) (m_w2 M A B) = some ((), m_w2 M A' B) ∧ frS A A' ∧ MSs (fF (allJ l P v) d k s) A' := by
    intro d
    induction d with
    | zero =>
      intro k f A s hk hf _ hs hh
      obtain ⟨f, rfl⟩ : ∃ f', f = f' + 1 := ⟨f - 1, by omega⟩
      obtain rfl : k = 3 := by omega
      refine ⟨A, ?_, frS.rfl' A, hs⟩
      rw [F_X12_seeksShortest_63, if_pos (by decide)]
    | succ d ih =>
      intro k f A s hk hf hl hs hh
      obtain ⟨f, rfl⟩ : ∃ f', f = f' + 1 := ⟨f - 1, by omega⟩
      rw [F_X12_seeksShortest_63, if_neg (show ¬ (3 : Int32) ≤ nI k from nI_ge (b := 3) (by omega) (by omega))]
      refine m_let_P (fun o => ∃ A', o = some ((), m_w2 M A' B) ∧ frS A A' ∧ MSs (fF (allJ l P v) (d + 1) k s) A') ?_
      intro K1 hK1
      obtain ⟨A1, g, g1, g2, g3⟩ := M_ss70 h ho hL (how := k) (by omega) hat hP (K := K1) 800 0 m_FU A s (by omega) (m_FU_lt (by omega)) hl hs hh
      have g' : F_X12_seeksShortest_70 K1 m_FU 128 (nI at0) (nI k) (0 : Int32) (m_w2 M A B) = _ := g
      obtain ⟨A', e, e1, e2⟩ := ih (k + 1) f A1 _ (by omega) (by omega) (g1.LM hl) g2 (fun q => by have := g3 q; omega)
      rw [g', hK1]
      dsimp only
      rw [m_let_eq, nI_1]
      exact ⟨A', e, g1.trans e1, e2⟩
  have u2' : MSs (sh1 l P v) A1 := u2
  have u3' : HI 0 (sh1 l P v) := u3
  obtain ⟨A', e, e1, e2⟩ := key 2 1 m_FU A1 (sh1 l P v) (by omega) (m_FU_lt (by omega)) (u1.LM (hf0.LM hl)) u2' (fun q => by have := u3' q; omega)
  rw [fF_21] at e2
  have e2' : MSs (shN l P v) A' := by unfold shN; exact e2
  have e' : F_X12_seeksShortest_63 m_FU 128 (nI at0) (1 : Int32) (m_w2 M A1 B) = _ := e
  rw [u', hK]
  dsimp only
  exact ⟨A', e', (hf0.trans u1).trans e1, e2'⟩
theorem SC_y2 {M : m_M} {A : IA} {B : Nat → Nat → Int64} (h : ∀ a, ¬ scI a → a ≠ 128 → A a = m_I M a) (h2 : ∀ k, 0 < k → (k < 66 ∨ 69 < k) → A 128 k = m_I M 128 k) (g : ∀ a, ¬ scL a → B a = m_L M a) : SC M (m_w2 M A B) := ⟨rfl, rfl, h, h2, g⟩
theorem O_shortest (x y : Int32) : RO s (F_X11_shortest 0 x y) (F_X12_shortest 128 x y) := by
  have thr : ∀ {M : m_M}, INV s M → F_X12_shortest 128 x y M = _ := fun {M} h => by
    unfold F_X12_shortest
    rw [x_pI_ok h.K0, M_ask (h.thr 0), if_bI]
  cases ha : s.2.2.1.2.2.1 with
  | none =>
    refine ⟨NO, fun M h => ⟨⟨M, ?_, SC.rfl' M⟩, ⟨m_sI M 128 0 0, ?_, SC_thr M 0⟩⟩⟩
    · unfold F_X11_shortest
      rw [x_cV_ok h.C0 (C_today h)]
      by_cases hx : x < 0
      · rw [if_pos hx]; rfl
      rw [if_neg hx]
      by_cases hy : y < 0
      · rw [if_pos hy]; rfl
      rw [if_neg hy]
      by_cases h2 : (3 : Int32) < y
      · rw [if_pos h2]; rfl
      rw [if_neg h2, C_askn h ha, if_pos (by decide)]; rfl
    · rw [thr h, ha]; rfl
  | some f =>
    by_cases hx : x < 0
    · refine ⟨NO, fun M h => ⟨⟨M, ?_, SC.rfl' M⟩, ⟨m_sI M 128 0 0, ?_, SC_thr M 0⟩⟩⟩
      · unfold F_X11_shortest; rw [x_cV_ok h.C0 (C_today h), if_pos hx]; rfl
      · rw [thr h, ha, show (some f).isSome = true from rfl, if_pos rfl, if_pos hx]; rfl
    obtain ⟨d, hd2, rfl⟩ := nI_of hx
    by_cases hy : y < 0
    · refine ⟨NO, fun M h => ⟨⟨M, ?_, SC.rfl' M⟩, ⟨m_sI M 128 0 0, ?_, SC_thr M 0⟩⟩⟩
      · unfold F_X11_shortest; rw [x_cV_ok h.C0 (C_today h), if_neg hx, if_pos hy]; rfl
      · rw [thr h, ha, show (some f).isSome = true from rfl, if_pos rfl, if_neg hx, x_bd_ok (show F_X12_within y (0 : Int32) (3 : Int32) (m_sI M 128 0 0) = some (nI 0, m_sI M 128 0 0) from S_within_neg (a := 0) hy (by omega)), if_pos (by decide)]; rfl
    obtain ⟨wh, hwh, rfl⟩ := nI_of hy
    have hw : ∀ M : m_M, F_X12_within (nI wh) (0 : Int32) (3 : Int32) M = some (bI (decide (wh ≤ 3)), M) := fun M => by
      have := S_within (M := M) (k := wh) (a := 0) (b := 3) hwh (by omega) (by omega)
      rw [decide_eq_true (p := 0 ≤ wh) (by omega), Bool.true_and] at this
      exact this
    have n1 : ¬ wh = 1 → ¬ nI wh = (1 : Int32) := fun z1 z => z1 ((nI_eq (b := 1) hwh (by omega)).mp z)
    have n2 : ¬ wh = 2 → ¬ nI wh = (2 : Int32) := fun z1 z => z1 ((nI_eq (b := 2) hwh (by omega)).mp z)
    by_cases h2 : wh ≤ 3
    · refine ⟨if vOf s.2.1 s.2.2.1.1 = none then NO else shV wh (shN s.2.1 (fMn s.2.1 (vOf s.2.1 d) f.1 f.2) (vOf s.2.1 s.2.2.1.1)), fun M h => ⟨?_, ?_⟩⟩
      · obtain ⟨fr, r1, r2, r3⟩ := C_has1 h ha
        have hday := h.bd.1
        have hv6 : ∀ j, vOf s.2.1 s.2.2.1.1 = some j → j < 2147483648 := fun j hj => by have := vOf_in h.lo s.2.2.1.1 j hj; have := h.lo.2.2.2.1; omega
        unfold F_X11_shortest
        rw [x_cV_ok h.C0 (C_today h), if_neg hx, if_neg hy, if_neg (show ¬ (3 : Int32) < nI wh from nI_nlt (a := 3) (by omega) (by omega)), x_gN_ok h.C0 h.R9, x_cV_ok h.B80 r3, if_neg (by decide)]
        by_cases q : vOf s.2.1 s.2.2.1.1 = none
        · rw [if_pos (iO_none q), if_pos q]
          exact ⟨M, rfl, SC.rfl' M⟩
        rw [if_neg (by rw [iO_no hv6]; exact q), if_neg q]
        obtain ⟨B, e, e1, _, e2⟩ := C_find h r2 (vOf_in h.lo d) h.W92 (by omega)
        have h2 := e1.INV h
        have K67 : ∀ A B, m_K (m_w2 M A B) 67 = 2 := fun A B => by simp only [w2_K, gK h.1]
        have R7 : ∀ A B, m_R (m_w2 M A B) 0 7 = some 67 := fun A B => by simp only [w2_R, gR h.1]
        have K0 : ∀ A B, m_K (m_w2 M A B) 0 = 9 := fun A B => by simp only [w2_K, gK h.1]
        have R7' : m_R (m_wB M B) 0 7 = some 67 := by simp only [gR h2.1]
        have K67' : m_K (m_wB M B) 67 = 2 := by simp only [gK h2.1]
        obtain ⟨A', B', g, g1, g2, g3⟩ := S_findShortest (M := M) h.1 h.lo (vOf_in h.lo s.2.2.1.1) h.W92 rfl (A := m_I M) (B := B) h.lc (by have := h2.ls; exact this) e2
        have g' : F_X2_findShortest 67 92 (iO (vOf s.2.1 s.2.2.1.1)) (m_wB M B) = _ := g
        have sc : SC M (m_w2 M A' B') := e1.trans (SC_x2 (M := m_wB M B) (A := A') (B := B') (fun a ha => g1 a (fun z => ha (by unfold scI; omega)) (fun z => ha (by unfold scI; omega))) (fun b hb => g2 b (fun z => hb (by unfold scL; omega)) (fun z => hb (by unfold scL; omega)) (fun z => hb (by unfold scL; omega))))
        refine ⟨m_w2 M A' B', ?_, sc⟩
        rw [x_gN_ok h.C0 h.R6, x_gN_ok h.C0 h.R9, x_gN_ok h.B80 r1, x_gN_ok h.C0 h.R2, x_cV_ok h.C2 (S_verbOfC h.1 h.lc h.lo hd2), x_gN_ok h.C0 h.R13, x_cV_ok h.B33 e, x_gN_ok h2.C0 R7', x_gN_ok h2.C0 h2.R13, x_cV_ok K67' g']
        unfold shV
        by_cases z9 : (shN s.2.1 (fMn s.2.1 (vOf s.2.1 d) f.1 f.2) (vOf s.2.1 s.2.2.1.1)).1 = 99
        · rw [decide_eq_true z9, if_pos (by decide), if_pos z9]; rfl
        obtain ⟨y1, y2, y3⟩ := g3.2.2 z9
        rw [decide_eq_false z9, if_neg (by decide), if_neg z9]
        by_cases z0 : wh = 0
        · rw [if_pos (show nI wh = (0 : Int32) from by rw [z0]; rfl), if_pos z0, x_gN_ok (K0 _ _) (R7 _ _), x_gI_ok (K67 _ _), w2_I, g3.1]
        rw [if_neg (nI_nz z0 hwh), if_neg z0]
        by_cases z1 : wh = 1
        · rw [if_pos (show nI wh = (1 : Int32) from by rw [z1]; rfl), if_pos z1, x_gN_ok (K0 _ _) (R7 _ _), x_gI_ok (K67 _ _), w2_I, y1]
        rw [if_neg (n1 z1), if_neg z1]
        by_cases z2 : wh = 2
        · rw [if_pos (show nI wh = (2 : Int32) from by rw [z2]; rfl), if_pos z2, x_gN_ok (K0 _ _) (R7 _ _), x_gI_ok (K67 _ _), w2_I, y2]
        rw [if_neg (n2 z2), if_neg z2, x_gN_ok (K0 _ _) (R7 _ _), x_gI_ok (K67 _ _), w2_I, y3]
      · have h1 := h.thr 0
        have hday := h1.bd.1
        have v1 := vOf_in h1.lo d
        have v2 := vOf_in h1.lo s.2.2.1.1
        have l1 := aAt_le h1 v1
        have e53 := h1.md
        have R64 : m_R (m_sI M 128 0 0) 128 64 = some 172 := by simp only [gR h1.1]
        have ev : F_X12_verbOf 128 (nI s.2.2.1.1) (m_sI M 128 0 0) = some (iO (vOf s.2.1 s.2.2.1.1), m_sI M 128 0 0) := S_verbOfM h1.1 h1.lm h1.lo (by omega)
        rw [thr h, ha, show (some f).isSome = true from rfl, if_pos rfl, if_neg hx, x_bd_ok (hw _), decide_eq_true h2, if_neg (by decide), x_gI_ok h1.K0, e53, x_cV_ok h1.K0 ev]
        by_cases q : vOf s.2.1 s.2.2.1.1 = none
        · rw [if_neg (by rw [iO_none q]; decide), if_pos q]
          exact ⟨_, rfl, SC_thr M 0⟩
        have hpos : 0 ≤ iO (vOf s.2.1 s.2.2.1.1) := by
          cases hq : vOf s.2.1 s.2.2.1.1 with
          | none => exact absurd hq q
          | some j => exact nI_pos' (by have := v2 j hq; have := h1.lo.2.2.2.1; omega)
        obtain ⟨A1, B1, u0, u1, u2, u3⟩ := M_lits (M := m_sI M 128 0 0) h1.1 h1.lo (r := 172) (by simp only [gK h1.1]) (by simp only [gl h1.1]) v2 (A := m_I (m_sI M 128 0 0)) (B := m_L (m_sI M 128 0 0)) h1.lm
        have u0' : F_X12_laysLiterals 128 (iO (vOf s.2.1 s.2.2.1.1)) 172 (m_sI M 128 0 0) = _ := u0
        have K0 : ∀ A B, m_K (m_w2 (m_sI M 128 0 0) A B) 128 = 10 := fun A B => by simp only [w2_K, gK h1.1]
        have hl1 : LMi s.2.1 A1 := h1.lm.fr u1
        have ed : F_X12_verbOf 128 (nI d) (m_w2 (m_sI M 128 0 0) A1 B1) = some (iO (vOf s.2.1 d), m_w2 (m_sI M 128 0 0) A1 B1) := S_verbOfM (M := m_w2 (m_sI M 128 0 0) A1 B1) h1.1 hl1 h1.lo hd2
        obtain ⟨A2, g, g1, g2⟩ := M_seeksShort (M := m_sI M 128 0 0) h1.1 h1.lo (A := A1) (B := B1) (v := vOf s.2.1 s.2.2.1.1) (P := fMn s.2.1 (vOf s.2.1 d) f.1 f.2) (at0 := aAt (vOf s.2.1 d)) hl1 u3 l1 ((M_row h1 ha v1).of (fun k _ => by rw [u2 162 (by omega)]))
        refine ⟨m_w2 (m_sI M 128 0 0) A2 B1, ?_, (SC_thr M 0).trans (SC_y2 (fun a ha ha2 => ?_) (fun k _ hk => ?_) (fun b hb => ?_))⟩
        · rw [if_pos hpos, if_neg q, x_gI_ok h1.K0, e53, x_cV_ok h1.K0 ev, x_gN_ok h1.K0 R64, x_cV_ok h1.K0 u0', x_cV_ok (K0 _ _) ed, x_bd_ok (S_askedAt h1 v1), x_cV_ok (K0 _ _) g, x_gI_ok (K0 _ _), w2_I, g2.1]
          unfold shV
          have h99 := g2.2.1
          by_cases z9 : (shN s.2.1 (fMn s.2.1 (vOf s.2.1 d) f.1 f.2) (vOf s.2.1 s.2.2.1.1)).1 = 99
          · rw [if_pos z9, if_neg (by decide), if_pos z9]; rfl
          obtain ⟨y1, y2, y3⟩ := g2.2.2 z9
          rw [if_neg z9, if_pos (nI_pos' (by omega)), if_neg z9]
          by_cases z0 : wh = 0
          · rw [if_pos (show nI wh = (0 : Int32) from by rw [z0]; rfl), if_pos z0, x_gI_ok (K0 _ _), w2_I, g2.1, if_neg z9]
          rw [if_neg (nI_nz z0 hwh), if_neg z0]
          by_cases z1 : wh = 1
          · rw [if_pos (show nI wh = (1 : Int32) from by rw [z1]; rfl), if_pos z1, x_gI_ok (K0 _ _), w2_I, y1]
          rw [if_neg (n1 z1), if_neg z1]
          by_cases z2 : wh = 2
          · rw [if_pos (show nI wh = (2 : Int32) from by rw [z2]; rfl), if_pos z2, x_gI_ok (K0 _ _), w2_I, y2]
          rw [if_neg (n2 z2), if_neg z2, x_gI_ok (K0 _ _), w2_I, y3]
        · rw [g1.1 a ha2, u1 a (fun z => ha (by unfold scr at z; unfold scI; omega))]
        · rw [g1.2 k hk, u1 128 (by unfold scr; omega)]
        · rw [u2 b (fun z => hb (by unfold scL; omega))]
    · refine ⟨NO, fun M h => ⟨⟨M, ?_, SC.rfl' M⟩, ⟨m_sI M 128 0 0, ?_, SC_thr M 0⟩⟩⟩
      · unfold F_X11_shortest
        rw [x_cV_ok h.C0 (C_today h), if_neg hx, if_neg hy, if_pos (show (3 : Int32) < nI wh from nI_lt (a := 3) (by omega) hwh)]; rfl
      · rw [thr h, ha, show (some f).isSome = true from rfl, if_pos rfl, if_neg hx, x_bd_ok (hw _), decide_eq_false h2, if_pos (by decide)]; rfl
end OSHORT
