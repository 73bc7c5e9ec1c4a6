/-! a land told: the class -/
def sy0 : Sy := (0, 0, ((fun _ => 0), 0))
def tl0 : Tl := ((0, fun _ => sy0), (0, fun _ => sy0))
def bk0 : Bk := (0, tl0, none, (0, fun _ => (0, 0, false)))
def stLd (s : St) (l : Ld) : St := ((0, s.1.2), l, bk0, (0, fun _ => tl0), fun _ => none)
def ldO (o : Nat ⊕ Ld) : Int32 := match o with
  | .inl f => nI f
  | .inr _ => nI 0
def ldT (s : St) (o : Nat ⊕ Ld) : St := match o with
  | .inl _ => stTk s
  | .inr l => stLd s l
section RLAND
variable {M M' : m_M} {s : St} {T : Nat → Nat} {n q : Nat} {l : Ld} {bt : Bool} {D : Nat}
theorem up_frR {R : Nat → Nat → Option Nat} {a b k : Nat} {v : Option Nat} (h : a ≠ b) : m_up R b k v a = R a := by
  funext j
  exact if_neg (fun z => h z.1)
theorem TlD_0 : TlD tl0 := ⟨fun i hi => absurd hi (Nat.not_lt_zero _), fun i hi => absurd hi (Nat.not_lt_zero _)⟩
theorem PI_ld (ho : lOk l) : PI (stLd s l) := ⟨ho, ⟨Nat.zero_le _, fun i hi => absurd hi (Nat.not_lt_zero _)⟩, ⟨by show 0 < 900000; omega, TlD_0, Nat.zero_le _, fun i hi => absurd hi (Nat.not_lt_zero _)⟩, fun j hj => absurd hj (Nat.not_lt_zero _), fun i _ b hb => (by cases hb)⟩
theorem dB_ld : dB D (stLd s l) := ⟨Nat.zero_le _, fun i _ b hb => (by cases hb)⟩
theorem dcF.K (h : dcF M M') (a : Nat) : m_K M' a = m_K M a ∧ m_len M' a = m_len M a := by
  unfold m_K m_len m_N m_T
  rw [h.1]
  exact ⟨rfl, rfl⟩
theorem dcF.hi (h : dcF M M') : hiK M M' := by
  obtain ⟨h1, h2, h3, h4, h5⟩ := h
  exact ⟨by unfold m_N; rw [h1]; exact Nat.le_refl _, fun a ha _ => ⟨by unfold m_T; rw [h1], h2 a (by omega), h3 a (by omega) (by omega), h4 a (by omega)⟩⟩
theorem dcF.ci (h : dcF M M') (hc : CI s M) : CI s M' := by
  have hh := h.hi
  have hI : ∀ a, (a < 16 ∨ (24 < a ∧ a ≠ 30)) → m_I M' a = m_I M a := h.2.1
  have hR : ∀ a, a ≠ 30 → m_R M' a = m_R M a := h.2.2.2.1
  have hL : ∀ a, a ≠ 21 → a ≠ 30 → m_L M' a = m_L M a := h.2.2.1
  obtain ⟨⟨c0, c1, c2⟩, ⟨c3, c4⟩, c5, ⟨c6, c7, c8⟩, c9⟩ := hc
  refine ⟨⟨c0.cong (fun a _ h2 => hI a (by omega)), by rw [hL 13 (by omega) (by omega)]; exact c1, by unfold NmC; rw [hL 7 (by omega) (by omega)]; exact c2⟩, ⟨by rw [hI 0 (by omega)]; exact c3, by rw [hI 1 (by omega)]; exact c4⟩, c5.congr hh h.K (hI _ (by omega)) (hR _ (by omega)) (hR _ (by omega)) (hR _ (by omega)) (hI _ (by omega)), ⟨c6, by rw [hI 80 (by omega)]; exact c7, ?_⟩, fun i hi => ⟨by rw [hI 89 (by omega)]; exact (c9 i hi).1, fun b hb => ((c9 i hi).2 b hb).congr hh h.K (hI _ (by omega)) (hR _ (by omega)) (hR _ (by omega)) (hR _ (by omega)) (hI _ (by omega))⟩⟩
  rw [hI 85 (by omega), hI 86 (by omega), hR 87 (by omega)]
  exact fun j hj => (c8 j hj).hi hh
theorem dcF.refK (h : dcF M M') (hG : G M) (hk : RefK M) : RefK M' := by
  intro a ha hka i x hx
  rw [(h.K a).1] at hka
  rw [(h.K x).1]
  by_cases q : a = 30
  · rw [q, (rd30 hG).1.1] at hka
    omega
  · rw [h.2.2.2.1 a q] at hx
    exact hk a ha hka i x hx
theorem dcF.frC (h : dcF M M') (hG : G M) : frC M M' := ⟨h.g hG, fun a h1 h2 => ⟨h.2.1 a (by omega), h.2.2.1 a (by omega) (by omega)⟩⟩
theorem dcF.N (h : dcF M M') : m_N M' = m_N M := by unfold m_N; rw [h.1]
/-- the draft of the class becomes its land -/
theorem C_takes (h : DS T n q l none bt M) (hn : n ≤ 1000) : ∃ A B, F_X3_copyFrom 2 16 M = some ((), m_w2 M A B) ∧ LCi l A ∧ LCs l (B 13) ∧ ((∀ t, t < lH l 1 → B 7 t = lM l t) ∧ ∀ j, j < lH l 2 → B 7 (8 + j) = lM l (8 + j)) ∧ (∀ b, b ≠ 7 → b ≠ 13 → B b = m_L M b) ∧ ∀ b, (b < 2 ∨ 15 < b) → A b = m_I M b := by
  obtain ⟨hq, ho, cc, hcc, hE, hD, hb⟩ := h
  obtain ⟨⟨d1, d1', d1''⟩, d2, d3, d4, d5, d6, d7, d8, d9⟩ := hD
  have hG := hE.1
  have b1 := ho.2.1
  have b2 := ho.2.2.1
  have b3 := ho.2.2.2.1
  have b4 := ho.2.2.2.2.1
  have b5 := ho.2.2.2.2.2.1
  obtain ⟨A, B, e, f1, f2, ⟨g0, g1, g2, g5⟩, g3, g4, g6, g7, g8, g9, g10, g11⟩ := C_copy hG
  have m17 : ∀ kd, kd < 4 → m_I M 17 kd = nI (lH l (kd + 1)) := fun kd hk => by rw [d2 kd hk]; rfl
  have hlw : ∀ {isB : Bool} {i : Nat} {E : (Nat → Int32) → Int32}, i < 32 → CLw isB cc (m_I M) i E → RkL isB A i E := by
    intro isB i E hi hC
    exact RkL_of (A := A) hC (g9 i hi) (g10 i hi) (by rw [g5]; exact hE.2.2.2.1) (by omega) (fun j hj => by rw [g8 j (by omega)]; exact hE.2.2.2.2 j hj)
  have hL : LC0 l A := ⟨⟨by rw [g0]; exact d1, by rw [g3 0 (by omega)]; exact m17 0 (by omega), by rw [g3 1 (by omega)]; exact m17 1 (by omega), by rw [g3 2 (by omega)]; exact m17 2 (by omega)⟩, fun t ht => by rw [g4 t (by omega)]; exact d3 t ht, fun j hj => hlw (by omega) (d8 j hj), fun v hv => hlw (by omega) (d9 v hv)⟩
  obtain ⟨A', B', u1, u2, u3, u4, u5⟩ := S_settle (A := A) (B := B) hG ho hL (by rw [g1]; exact d1') (by rw [g2]; exact d1'') (by rw [g3 3 (by omega)]; exact m17 3 (by omega)) (fun d hd => by rw [g6 d (by omega)]; exact d4 d hd) (fun k hk => by rw [g7 k (by omega)]; exact d5 k (by omega))
  have K2 : m_K (m_w2 M A B) 2 = 3 := by simp only [w2_K, gK hG]
  refine ⟨A', B', by rw [e, x_cV_ok K2 u1], u2, u3, ⟨fun t ht => ?_, fun j hj => ?_⟩, fun b x y => by rw [u4 b y, f2 b x], fun b hb => by rw [u5 b (by omega) (by omega) (by omega) (by omega) (by omega), f1 b (by omega)]⟩
  · rw [u4 7 (by omega), g11 t (by omega)]
    have := d6 0 (by omega) t ht
    rw [show 8 * 0 + t = t by omega] at this
    exact this
  · rw [u4 7 (by omega), g11 (8 + j) (by omega)]
    exact d6 1 (by omega) j hj
theorem C_laid (hG : G M) : ∀ (d i f : Nat) (A : IA), i + d = 4 → d < f → (∀ j, j < i → A 89 j = bI false) → ∃ A', F_X11_land_38 f 0 (nI i) (m_wA M A) = some (nI 0, m_wA M A') ∧ (∀ b, b ≠ 89 → A' b = A b) ∧ ∀ j, j < 4 → A' 89 j = bI false := by
  have K0 : ∀ A, m_K (m_wA M A) 0 = 9 := fun A => by simp only [wA_K, gK hG]
  have R11 : ∀ A, m_R (m_wA M A) 0 11 = some 89 := fun A => by simp only [wA_R, gR hG]
  have K89 : ∀ A, m_K (m_wA M A) 89 = 14 := fun A => by simp only [wA_K, gK hG]
  have L89 : ∀ A, m_len (m_wA M A) 89 = 4 := fun A => by simp only [wA_n, gl hG]
  intro d
  induction d with
  | zero =>
    intro i f A hi hf hA
    obtain ⟨f, rfl⟩ : ∃ f', f = f' + 1 := ⟨f - 1, by omega⟩
    obtain rfl : i = 4 := by omega
    exact ⟨A, by rw [F_X11_land_38, if_pos (by decide)]; rfl, fun _ _ => rfl, hA⟩
  | succ d ih =>
    intro i f A hi hf hA
    obtain ⟨f, rfl⟩ : ∃ f', f = f' + 1 := ⟨f - 1, by omega⟩
    obtain ⟨A', u1, u2, u3⟩ := ih (i + 1) f (m_up A 89 i (bI false)) (by omega) (by omega) (fun j hj => by
      rw [up_at]
      by_cases z : j = i
      · rw [if_pos ⟨rfl, z⟩]
      · rw [if_neg (fun w => z w.2)]; exact hA j (by omega))
    refine ⟨A', ?_, fun b hb => by rw [u2 b hb, up_fr hb], u3⟩
    rw [F_X11_land_38, if_neg (show ¬ (4 : Int32) ≤ nI i from nI_ge (b := 4) (by omega) (by omega)), x_gN_ok (K0 _) (R11 _), x_sI_ok (K89 _) (by rw [L89]; omega) (by omega), nar0, m_let_eq, nI_1]
    exact u1
theorem C_land (hG : G M) (hp : PI s) (hc : CI s M) (hk : RefK M) {o : Nat ⊕ Ld} (ho : okE o) (hr : ∀ M, G M → TX s.1.2 s.1.1 (m_I M 1) → ∃ v M', F_X4_read 30 (nI s.1.1) M = some (v, M') ∧ dcF M M' ∧ CEnd s.1.2 s.1.1 o v M') : ∃ M', F_X11_land 0 M = some (ldO o, M') ∧ CI (ldT s o) M' ∧ frC M M' ∧ m_N M' ≤ m_N M + 8 ∧ RefK M' := by
  have hn : s.1.1 ≤ 1000 := hp.2.1.1
  have K0 : ∀ {M : m_M}, G M → m_K M 0 = 9 := fun hG => by simp only [gK hG]
  have R4 : m_R M 0 4 = some 30 := by simp only [gR hG]
  have K30 : ∀ {M : m_M}, G M → m_K M 30 = 4 := fun hG => (rd30 hG).1.1
  have e' : F_X11_takeTape 0 M = some (nI s.1.1, m_sI M 0 1 (nI 0)) := by
    unfold F_X11_takeTape
    rw [x_gI_ok (K0 hG), hc.2.1.1, x_pI_ok (K0 hG)]
    rfl
  have hG0 : G (m_sI M 0 1 (nI 0)) := hG
  have hx : TX s.1.2 s.1.1 (m_I (m_sI M 0 1 (nI 0)) 1) := fun j hj => ⟨by rw [sI_ne (by omega)]; exact hc.2.1.2 j hj, hp.2.1.2 j hj⟩
  obtain ⟨v, M2, a1, a2, a3⟩ := hr _ hG0 hx
  have hc0 := hc.tk hG
  have hc2 := a2.ci hc0
  have hk0 : RefK (m_sI M 0 1 (nI 0)) := hk.sI
  have hk2 := a2.refK hG0 hk0
  have hG2 := a2.g hG0
  have fr2 : frC M M2 := ⟨hG2, fun a h1 h2 => ⟨by rw [((a2.frC hG0).2 a h1 h2).1, sI_ne (by omega)], ((a2.frC hG0).2 a h1 h2).2⟩⟩
  have hN2 : m_N M2 = m_N M := a2.N
  unfold F_X11_land
  rw [x_gN_ok (K0 hG) R4, x_cV_ok (K0 hG) e', x_cV_ok (K30 hG0) a1]
  cases o with
  | inl f =>
    have a3 : v = nI f := a3
    have ho : 0 < f ∧ f < 20000 := ho
    refine ⟨M2, ?_, hc2, fr2, by omega, hk2⟩
    rw [a3, if_neg (nI_ne0 (by omega) (by omega))]
    rfl
  | inr l =>
    obtain ⟨hv, q', bt, hD⟩ := a3
    obtain ⟨A, B, b1, b2, b3, b4, b5, b6⟩ := C_takes hD hn
    rw [hv, if_pos (by decide), x_gN_ok (K0 hG2) (show m_R M2 0 2 = some 2 by simp only [gR hG2]), x_gN_ok (K0 hG2) (show m_R M2 0 3 = some 16 by simp only [gR hG2]), x_cV_ok (show m_K M2 2 = 3 by simp only [gK hG2]) b1]
    have hG3 : G (m_w2 M2 A B) := hG2
    have K80 : ∀ A B R, m_K (m_x4 M2 A B R) 80 = 1 := fun A B R => by rw [x4_K]; simp only [gK hG2]
    obtain ⟨A1, hA1⟩ : ∃ A1, A1 = m_up (m_up (m_up (m_up (m_up A 80 0 0) 80 1 0) 80 2 0) 80 3 0) 80 4 0 := ⟨_, rfl⟩
    have fA1 : ∀ b, b ≠ 80 → A1 b = A b := fun b hb => by rw [hA1, up_fr hb, up_fr hb, up_fr hb, up_fr hb, up_fr hb]
    have ef : F_X1_forget 80 (m_w2 M2 A B) = some ((), m_x4 M2 A1 B (m_up (m_R M2) 80 5 (some 81))) := by
      have R6 : ∀ A, m_R (m_x4 M2 A B (m_R M2)) 80 6 = some 81 := fun A => by rw [x4_R]; simp only [gR hG2]
      unfold F_X1_forget
      rw [show m_w2 M2 A B = m_x4 M2 A B (m_R M2) from rfl, x_pI_ok (K80 _ _ _), x4_sI, x_pI_ok (K80 _ _ _), x4_sI, x_pI_ok (K80 _ _ _), x4_sI, x_pI_ok (K80 _ _ _), x4_sI, x_pI_ok (K80 _ _ _), x4_sI, x_gN_ok (K80 _ _ _) (R6 _), x_pR_ok (K80 _ _ _), x4_sR, ← hA1]
    have hG4 : G (m_x4 M2 A1 B (m_up (m_R M2) 80 5 (some 81))) := (show G (m_x4 M2 A1 B (m_R M2)) from hG2).sR (a := 80) (k := 5) (v := some 81) (by decide +kernel)
    rw [x_gN_ok (K0 hG3) (show m_R (m_w2 M2 A B) 0 9 = some 80 by simp only [gR hG3]), x_cV_ok (show m_K (m_w2 M2 A B) 80 = 1 by simp only [gK hG3]) ef]
    obtain ⟨A2, u1, u2, u3⟩ := C_laid hG4 4 0 m_FU A1 (by omega) (m_FU_lt (by omega)) (fun j hj => absurd hj (Nat.not_lt_zero _))
    have u1' : F_X11_land_38 m_FU 0 (0 : Int32) (m_x4 M2 A1 B (m_up (m_R M2) 80 5 (some 81))) = _ := u1
    have fA : ∀ b, (b < 2 ∨ 15 < b) → b ≠ 80 → b ≠ 89 → A2 b = m_I M2 b := fun b h1 h2 h3 => by rw [u2 b h3, fA1 b h2, b6 b h1]
    have fA' : ∀ b, b < 16 → A2 b = A b := fun b h1 => by rw [u2 b (by omega), fA1 b (by omega)]
    refine ⟨_, u1', ?_, ⟨hG4, fun a h1 h2 => ⟨?_, ?_⟩⟩, ?_, ?_⟩
    · show CI (stLd s l) _
      have e80 : A2 80 = A1 80 := u2 80 (by omega)
      refine ⟨⟨b2.cong (fun a _ h2 => fA' a (by omega)), b3, b4⟩, ⟨?_, fun i hi => absurd hi (Nat.not_lt_zero _)⟩, ⟨?_, ⟨⟨Nat.zero_le _, Nat.zero_le _⟩, ⟨?_, ?_⟩, fun i hi => absurd hi (Nat.not_lt_zero _), fun i hi => absurd hi (Nat.not_lt_zero _)⟩, ⟨81, rfl, fun _ => ⟨?_, ?_, .inl (by omega)⟩, fun f hf => (by cases hf)⟩, ?_, fun i hi => absurd hi (Nat.not_lt_zero _)⟩, ⟨Nat.zero_le _, ?_, fun j hj => absurd hj (Nat.not_lt_zero _)⟩, fun i hi => ⟨u3 i hi, fun b hb => (by cases hb)⟩⟩
      · show A2 0 1 = nI 0
        rw [fA 0 (by omega) (by omega) (by omega), a2.2.1 0 (by omega), mI_sI, if_pos ⟨rfl, rfl⟩]
      · show A2 80 0 = nI 0
        rw [e80, hA1]; rfl
      · show A2 80 1 = nI 0
        rw [e80, hA1]; rfl
      · show A2 80 2 = nI 0
        rw [e80, hA1]; rfl
      · show m_K M2 81 = 12
        simp only [gK hG2]
      · show m_len M2 81 = 0
        simp only [gl hG2]
      · show A2 80 3 = nI 0
        rw [e80, hA1]; rfl
      · show A2 80 4 = nI 0
        rw [e80, hA1]; rfl
    · show A2 a = m_I M a
      rw [fA a (by omega) (by omega) (by omega), (fr2.2 a h1 h2).1]
    · show B a = m_L M a
      rw [b5 a (by omega) (by omega), (fr2.2 a h1 h2).2]
    · show m_N M2 ≤ m_N M + 8
      omega
    · intro a ha hka i x hx
      have hka' : m_K M2 a = 16 := hka
      have hx' : m_up (m_R M2) 80 5 (some 81) a i = some x := hx
      have : a ≠ 80 := fun z => by
        rw [z] at hka'
        have : m_K M2 80 = 1 := by simp only [gK hG2]
        omega
      rw [up_frR this] at hx'
      exact hk2 a ha hka' i x hx'
end RLAND
