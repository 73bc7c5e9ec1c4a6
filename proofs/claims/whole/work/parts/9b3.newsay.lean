/-! the class lays a saying -/
/-- new cells, and the scratch sets: the rest stays -/
def nwS (k : Nat) (M M' : m_M) : Prop := m_N M' = m_N M + k ∧ ∀ a, a < m_N M → m_T M' a = m_T M a ∧ m_I M' a = m_I M a ∧ m_R M' a = m_R M a ∧ (a < 36 ∨ 66 < a → m_L M' a = m_L M a)
section NEWSAY
variable {M M' : m_M} {s : St} {k : Nat}
theorem nwS.rfl' : nwS 0 M M := ⟨rfl, fun _ _ => ⟨rfl, rfl, rfl, fun _ => rfl⟩⟩
theorem nwS.trans {M1 M2 M3 : m_M} {k1 k2 : Nat} (h1 : nwS k1 M1 M2) (h2 : nwS k2 M2 M3) : nwS (k1 + k2) M1 M3 := by
  refine ⟨by rw [h2.1, h1.1]; omega, fun a ha => ?_⟩
  obtain ⟨a1, a2, a3, a4⟩ := h1.2 a ha
  obtain ⟨b1, b2, b3, b4⟩ := h2.2 a (by rw [h1.1]; omega)
  exact ⟨b1.trans a1, b2.trans a2, b3.trans a3, fun q => (b4 q).trans (a4 q)⟩
theorem nwS_new {kd len : Nat} : nwS 1 M (m_new M kd len) := ⟨rfl, fun a ha => ⟨new_T ha, new_I ha, new_R ha, fun _ => new_L ha⟩⟩
/-- writes to what is new -/
theorem nwS.w (h : nwS k M M') {M2 : m_M} (hT : M2.1 = M'.1) (hI : ∀ a, a < m_N M → m_I M2 a = m_I M' a) (hR : ∀ a, a < m_N M → m_R M2 a = m_R M' a) (hL : ∀ a, a < m_N M → (a < 36 ∨ 66 < a) → m_L M2 a = m_L M' a) : nwS k M M2 := by
  refine ⟨by rw [← h.1]; unfold m_N; rw [hT], fun a ha => ?_⟩
  obtain ⟨a1, a2, a3, a4⟩ := h.2 a ha
  exact ⟨by rw [← a1]; unfold m_T; rw [hT], (hI a ha).trans a2, (hR a ha).trans a3, fun q => (hL a ha q).trans (a4 q)⟩
theorem nwS.K (h : nwS k M M') {a : Nat} (ha : a < m_N M) : m_K M' a = m_K M a ∧ m_len M' a = m_len M a := by
  unfold m_K m_len
  rw [(h.2 a ha).1, if_pos (show a < m_N M' by rw [h.1]; omega), if_pos ha]
  exact ⟨rfl, rfl⟩
theorem nwS.g (h : nwS k M M') (hG : G M) : G M' := by
  have hN := hG.1
  have hlt := g_Rl_bk
  refine ⟨by rw [h.1]; omega, fun i hi => by rw [(h.2 i (by omega)).1]; exact hG.2.1 i hi, fun x hx => ?_⟩
  rw [(h.2 x.1 (by have := (hlt x hx).1; omega)).2.2.1]
  exact hG.2.2 x hx
theorem nwS.hi (h : nwS k M M') : hiK M M' := ⟨by rw [h.1]; omega, fun a h1 h2 => by
  obtain ⟨a1, a2, a3, a4⟩ := h.2 a h2
  exact ⟨a1, a2, a4 (by omega), a3⟩⟩
theorem nwS.bk {l : Ld} {b : Bk} {base : Nat} (h : nwS k M M') (hG : G M) (hb : BkC l b base M) (h1 : base < 174) : BkC l b base M' := by
  have hN := hG.1
  obtain ⟨a1, a2, ⟨fr, a3, a4, a5⟩, a6, a7⟩ := hb
  have i := fun a (ha : a < 178) => (h.2 a (by omega)).2.1
  have r := fun a (ha : a < 178) => (h.2 a (by omega)).2.2.1
  refine ⟨by rw [i _ (by omega)]; exact a1, a2.hi h.hi (i _ (by omega)) (r _ (by omega)) (r _ (by omega)), ⟨fr, by rw [r _ (by omega)]; exact a3, fun q => ?_, fun f hf => (a5 f hf).hi h.hi⟩, by rw [i _ (by omega)]; exact a6, by rw [i _ (by omega)]; exact a7⟩
  obtain ⟨k1, k2, k3⟩ := a4 q
  have hfr := m_K_lt k1 (by omega)
  rw [(h.K hfr).1, (h.K hfr).2]
  exact ⟨k1, k2, k3⟩
theorem nwS.ci (h : nwS k M M') (hG : G M) (hc : CI s M) : CI s M' := by
  have hN := hG.1
  have i := fun a (ha : a < 178) => (h.2 a (by omega)).2.1
  have r := fun a (ha : a < 178) => (h.2 a (by omega)).2.2.1
  have g := fun a (ha : a < 178) (hb : a < 36 ∨ 66 < a) => (h.2 a (by omega)).2.2.2 hb
  obtain ⟨⟨c0, c1, c2⟩, ⟨c3, c4⟩, c5, ⟨c6, c7, c8⟩, c9⟩ := hc
  refine ⟨⟨c0.cong (fun a _ ha => i a (by omega)), by rw [g 13 (by omega) (by omega)]; exact c1, by unfold NmC; rw [g 7 (by omega) (by omega)]; exact c2⟩, ⟨by rw [i 0 (by omega)]; exact c3, by rw [i 1 (by omega)]; exact c4⟩, h.bk hG c5 (by omega), ⟨c6, by rw [i 80 (by omega)]; exact c7, ?_⟩, fun j hj => ⟨by rw [i 89 (by omega)]; exact (c9 j hj).1, fun b hb => h.bk hG ((c9 j hj).2 b hb) (by omega)⟩⟩
  rw [i 85 (by omega), i 86 (by omega), r 87 (by omega)]
  exact fun j hj => (c8 j hj).hi h.hi
theorem nwS.refK (h : nwS k M M') (hG : G M) (hk : RefK M) : RefK M' := by
  have hN := hG.1
  intro a ha hka j x hx
  rw [(h.K (by omega)).1] at hka
  rw [(h.2 a (by omega)).2.2.1] at hx
  obtain ⟨h1, h2⟩ := hk a ha hka j x hx
  refine ⟨h1, ?_⟩
  rw [(h.K (m_K_lt h2 (by omega))).1]
  exact h2
theorem nwS.frC (h : nwS k M M') (hG : G M) : frC M M' := ⟨h.g hG, fun a h1 h2 => ⟨(h.2 a (by have := hG.1; omega)).2.1, (h.2 a (by have := hG.1; omega)).2.2.2 (by omega)⟩⟩
theorem x_new_ok {β : Type} {kd : Nat} {f : Nat → m_M → Option β} (h : m_N M < 1000000) : x_new kd M f = f (m_N M) (m_new M kd 0) := by
  unfold x_new
  rw [if_pos h]
theorem x_newA_ok {β : Type} {kd cap n : Nat} {f : Nat → m_M → Option β} (h : m_N M < 1000000) (h2 : n ≤ cap) (h3 : n < 2147483648) : x_newA kd cap M (nI n) f = f (m_N M) (m_new M kd n) := by
  unfold x_newA
  rw [nI_cl h3, if_pos ⟨⟨nI_pos' h3, h2⟩, h⟩]
theorem new_Kn {kd len : Nat} : m_K (m_new M kd len) (m_N M) = kd ∧ m_len (m_new M kd len) (m_N M) = len := by
  have e : m_T (m_new M kd len) (m_N M) = (kd, len) := if_pos rfl
  unfold m_K m_len
  rw [e, if_pos (show m_N M < m_N (m_new M kd len) from Nat.lt_succ_self _)]
  exact ⟨rfl, rfl⟩
/-- the formula that was read, laid -/
theorem S_formula (hG : G M) {l : Ld} {f : Fm} (hN : m_N M < 999950) (h12 : m_I M 31 12 = nI f.2) (hp : ∀ i, i < f.2 → cPt l (f.1 i) (m_I M 32 i)) (hf : f.2 < 1000) (hok : fRok l f.1 f.2 0 0) : ∃ M', F_X7_formula 31 M = some (m_N M, M') ∧ nwS 1 M M' ∧ FmC l f (m_N M) M' := by
  have hN1 := hG.1
  obtain ⟨⟨K31, _⟩, _, R11, _, K32, L32⟩ := rd31 hG
  obtain ⟨kn, ln⟩ := new_Kn (M := M) (kd := 12) (len := f.2)
  have k32 : m_K (m_new M 12 f.2) 32 = 12 := by rw [(new_K (by omega)).1]; exact K32
  have l32 : m_len (m_new M 12 f.2) 32 = 1000 := by rw [(new_K (by omega)).2]; exact L32
  have em : F_J9_min_7cf53 (nI 1000) (nI f.2) (m_new M 12 f.2) = some (nI f.2, m_new M 12 f.2) := by
    unfold F_J9_min_7cf53
    rw [if_pos (nI_lt hf (by omega))]
  refine ⟨m_wI (m_new M 12 f.2) (m_N M) (va_cpy (m_I (m_new M 12 f.2) 32) (m_I (m_new M 12 f.2) (m_N M)) 0 0 f.2), ?_, nwS_new.w rfl (fun a ha => ?_) (fun _ _ => rfl) (fun _ _ _ => rfl), by omega, ?_, ?_, by omega, fun i hi => ?_, hok⟩
  · have e : F_J7_copyOf_59c91 32 (nI f.2) M = some (m_N M, m_wI (m_new M 12 f.2) (m_N M) (va_cpy (m_I (m_new M 12 f.2) 32) (m_I (m_new M 12 f.2) (m_N M)) 0 0 f.2)) := by
      unfold F_J7_copyOf_59c91
      rw [x_len_ok K32, L32, if_neg (fun z => by have := (nI_eq (by omega) (by omega)).mp z; omega), x_newA_ok (by omega) (by omega) (by omega), x_len_ok k32, l32, x_bd_ok em, show (0 : Int32) = nI 0 from rfl, x_cpI_ok k32 kn (by rw [l32]; omega) (by rw [ln]; omega) (by omega) (by omega) (by omega)]
    unfold F_X7_formula
    rw [x_gN_ok K31 R11, x_gI_ok K31, h12, x_bd_ok e]
  · funext j
    rw [mI_wI, if_neg (by omega)]
  · rw [mK_wI]; exact kn
  · rw [mn_wI]; exact ln
  · rw [mI_wI, if_pos rfl]
    unfold va_cpy
    rw [if_pos ⟨by omega, by omega⟩, new_I (by omega), show 0 + (i - 0) = i by omega]
    exact hp i hi
/-- the saying that binds from a day on -/
theorem S_sayingFor (hG : G M) (hc : CI s M) (ho : lOk s.2.1) {f : Fm} (hN : m_N M < 999900) (h12 : m_I M 31 12 = nI f.2) (hp : ∀ i, i < f.2 → cPt s.2.1 (f.1 i) (m_I M 32 i)) (hf : f.2 < 1000) (hok : fRok s.2.1 f.1 f.2 0 0) {day : Nat} (hd : day < 2147483648) : ∃ M', F_X11_sayingFor 0 (nI day) M = some (m_N M, M') ∧ nwS 4 M M' ∧ SyC s.2.1 (s.2.2.1.1, day, f) (m_N M) M' := by
  have hN1 := hG.1
  have g1 := (nwS_new (M := M) (kd := 6) (len := 0)).g hG
  have n1 : m_N (m_new M 6 0) = m_N M + 1 := rfl
  obtain ⟨k6, _⟩ := new_Kn (M := M) (kd := 6) (len := 0)
  -- the formula
  obtain ⟨M2, e2, f2, fm2⟩ := S_formula (M := m_new M 6 0) g1 (l := s.2.1) (f := f) (by rw [n1]; omega) (by rw [new_I (show 31 < m_N M by omega)]; exact h12) (by rw [new_I (show 32 < m_N M by omega)]; exact hp) hf hok
  rw [n1] at e2 fm2
  have g2 := f2.g g1
  have n2 : m_N M2 = m_N M + 2 := by rw [f2.1, n1]
  have k6' : m_K M2 (m_N M) = 6 := by rw [(f2.K (by rw [n1]; omega)).1]; exact k6
  -- the set
  have g3 := (nwS_new (M := M2) (kd := 8) (len := 0)).g g2
  have n3 : m_N (m_new M2 8 0) = m_N M + 3 := by show m_N M2 + 1 = _; rw [n2]
  obtain ⟨k8, _⟩ := new_Kn (M := M2) (kd := 8) (len := 0)
  rw [n2] at k8
  have g4 := (nwS_new (M := m_new M2 8 0) (kd := 13) (len := 16)).g g3
  have n4 : m_N (m_new (m_new M2 8 0) 13 16) = m_N M + 4 := by show m_N (m_new M2 8 0) + 1 = _; rw [n3]
  obtain ⟨k13, l13⟩ := new_Kn (M := m_new M2 8 0) (kd := 13) (len := 16)
  rw [n3] at k13 l13
  have k8' : m_K (m_new (m_new M2 8 0) 13 16) (m_N M + 2) = 8 := by rw [(new_K (by rw [n3]; omega)).1]; exact k8
  have e10 : F_X10_init (m_N M + 2) (m_new M2 8 0) = some ((), m_sR (m_new (m_new M2 8 0) 13 16) (m_N M + 2) 0 (some (m_N M + 3))) := by
    unfold F_X10_init
    rw [show (16 : Int32) = nI 16 from rfl, x_newA_ok (by rw [n3]; omega) (by omega) (by omega), n3, x_pR_ok k8']
  have f34 : nwS 2 M2 (m_new (m_new M2 8 0) 13 16) := nwS_new.trans nwS_new
  have k6'' : m_K (m_new (m_new M2 8 0) 13 16) (m_N M) = 6 := by rw [(f34.K (by rw [n2]; omega)).1]; exact k6'
  -- M5 : all of it but the set's longs
  have e6 : F_X6_init (m_N M) (m_N M + 1) (nI s.2.2.1.1) (nI day) M2 = some ((), m_sI (m_sI (m_sR (m_sR (m_sR (m_new (m_new M2 8 0) 13 16) (m_N M + 2) 0 (some (m_N M + 3))) (m_N M) 3 (some (m_N M + 2))) (m_N M) 0 (some (m_N M + 1))) (m_N M) 1 (nI s.2.2.1.1)) (m_N M) 2 (nI day)) := by
    unfold F_X6_init
    rw [x_new_ok (by rw [n2]; omega), n2, x_bd_ok e10, x_pR_ok (by rw [mK_sR]; exact k6''), x_pR_ok (by rw [mK_sR, mK_sR]; exact k6''), x_pI_ok (by rw [mK_sR, mK_sR, mK_sR]; exact k6''), x_pI_ok (by rw [mK_sI, mK_sR, mK_sR, mK_sR]; exact k6'')]
  have f12 : nwS 2 M M2 := nwS_new.trans f2
  generalize hM5 : m_sI (m_sI (m_sR (m_sR (m_sR (m_new (m_new M2 8 0) 13 16) (m_N M + 2) 0 (some (m_N M + 3))) (m_N M) 3 (some (m_N M + 2))) (m_N M) 0 (some (m_N M + 1))) (m_N M) 1 (nI s.2.2.1.1)) (m_N M) 2 (nI day) = M5 at e6
  have f5 : nwS 4 M M5 := by
    refine (f12.trans f34).w (by rw [← hM5]; rfl) (fun a ha => ?_) (fun a ha => ?_) (fun a ha _ => by rw [← hM5]; rfl)
    · rw [← hM5, sI_ne (by omega), sI_ne (by omega)]; rfl
    · rw [← hM5]
      funext j
      rw [mR_sI, mR_sI, mR_sR, if_neg (by omega), mR_sR, if_neg (by omega), mR_sR, if_neg (by omega)]
  have K5 : ∀ a, m_K M5 a = m_K (m_new (m_new M2 8 0) 13 16) a := fun a => by rw [← hM5, mK_sI, mK_sI, mK_sR, mK_sR, mK_sR]
  have l5 : ∀ a, m_len M5 a = m_len (m_new (m_new M2 8 0) 13 16) a := fun a => by rw [← hM5]; rfl
  have r53 : m_R M5 (m_N M) 3 = some (m_N M + 2) := by rw [← hM5, mR_sI, mR_sI, mR_sR, if_neg (by omega), mR_sR, if_pos ⟨rfl, rfl⟩]
  have r50 : m_R M5 (m_N M) 0 = some (m_N M + 1) := by rw [← hM5, mR_sI, mR_sI, mR_sR, if_pos ⟨rfl, rfl⟩]
  have r5w : m_R M5 (m_N M + 2) 0 = some (m_N M + 3) := by rw [← hM5, mR_sI, mR_sI, mR_sR, if_neg (by omega), mR_sR, if_neg (by omega), mR_sR, if_pos ⟨rfl, rfl⟩]
  have i51 : m_I M5 (m_N M) 1 = nI s.2.2.1.1 := by rw [← hM5, mI_sI, if_neg (by omega), mI_sI, if_pos ⟨rfl, rfl⟩]
  have i52 : m_I M5 (m_N M) 2 = nI day := by rw [← hM5, mI_sI, if_pos ⟨rfl, rfl⟩]
  have w5 : Ws M5 (m_N M + 2) (m_N M + 3) := ⟨by rw [K5]; exact k8', r5w, by rw [K5]; exact k13, by rw [l5]; exact l13⟩
  have g5 := f5.g hG
  have fm5 : FmC s.2.1 f (m_N M + 1) M5 := by
    obtain ⟨a1, a2, a3, a4, a5, a6⟩ := fm2
    have hh := f34.K (a := m_N M + 1) (by rw [n2]; omega)
    refine ⟨a1, by rw [K5, hh.1]; exact a2, by rw [l5, hh.2]; exact a3, a4, ?_, a6⟩
    rw [← hM5, sI_ne (by omega), sI_ne (by omega)]
    show ∀ i, i < f.2 → cPt s.2.1 (f.1 i) (m_I (m_new (m_new M2 8 0) 13 16) (m_N M + 1) i)
    rw [(f34.2 (m_N M + 1) (by rw [n2]; omega)).2.1]
    exact a5
  have c5 := f5.ci hG hc
  have K0 : m_K M 0 = 9 := by simp only [gK hG]
  have R5 : m_R M 0 5 = some 31 := by simp only [gR hG]
  have R9 : m_R M 0 9 = some 80 := by simp only [gR hG]
  have K1 : m_K (m_new M 6 0) 0 = 9 := by simp only [gK g1]
  have R51 : m_R (m_new M 6 0) 0 5 = some 31 := by simp only [gR g1]
  have K2 : m_K M2 0 = 9 := by simp only [gK g2]
  have R92 : m_R M2 0 9 = some 80 := by simp only [gR g2]
  have K802 : m_K M2 80 = 1 := by simp only [gK g2]
  have K50 : m_K M5 0 = 9 := by simp only [gK g5]
  have R52 : m_R M5 0 2 = some 2 := by simp only [gR g5]
  have R56 : m_R M5 0 6 = some 33 := by simp only [gR g5]
  have K52 : m_K M5 2 = 3 := by simp only [gK g5]
  have K533 : m_K M5 33 = 5 := by simp only [gK g5]
  have k65 : m_K M5 (m_N M) = 6 := by rw [K5]; exact k6''
  have d80 : m_I M2 80 0 = nI s.2.2.1.1 := (f12.ci hG hc).2.2.1.1
  have ev := S_verbOfC g5 c5.1.1 ho hd
  have hM0 : m_N M < 1000000 := by omega
  have pre : F_X11_sayingFor 0 (nI day) M = (if iO (vOf s.2.1 day) = (-1 : Int32) then (
      x_gN 6 M5 (m_N M) 3 fun v11 =>
      x_gN 9 M5 0 2 fun v12 =>
      x_gI 3 M5 v12 3 fun v13 =>
      x_cV 8 M5 v11 (F_X10_fill v11 v13 M5) fun _ M6 =>
      some (m_N M, M6)
    ) else
    x_gN 9 M5 0 6 fun v8 =>
    x_gN 6 M5 (m_N M) 0 fun v9 =>
    x_gN 6 M5 (m_N M) 3 fun v10 =>
    x_cV 5 M5 v8 (F_X5_find v8 v9 (iO (vOf s.2.1 day)) v10 M5) fun _ M5 =>
    some (m_N M, M5)) := by
    unfold F_X11_sayingFor
    rw [x_new_ok hM0, x_gN_ok K1 R51, x_cV_ok (rd31 g1).1.1 e2, x_gN_ok K2 R92, x_gI_ok K802, d80, x_bd_ok e6, x_gN_ok K50 R52, x_cV_ok K52 ev]
  rw [pre]
  have fin : ∀ (B : Nat → Nat → Int64), (∀ a, (a < 36 ∨ 66 < a) → a ≠ m_N M + 3 → B a = m_L M5 a) → Rw (wN s.2.1) (bdS s.2.1 (s.2.2.1.1, day, f)) (B (m_N M + 3)) → nwS 4 M (m_wB M5 B) ∧ SyC s.2.1 (s.2.2.1.1, day, f) (m_N M) (m_wB M5 B) := by
    intro B hB hR
    refine ⟨f5.w rfl (fun _ _ => rfl) (fun _ _ => rfl) (fun a ha hq => hB a hq (by omega)), by omega, k65, m_N M + 1, m_N M + 2, m_N M + 3, ⟨r50, ?_⟩, ⟨i51, i52⟩, r53, w5, by omega, by omega, hR⟩
    exact fm5
  have hn := wN_le ho
  cases hv : vOf s.2.1 day with
  | none =>
    have e := S_fill (n := wN s.2.1) hn w5
    obtain ⟨h1, h2⟩ := fin (fun b => if b = m_N M + 3 then (fun j => if j < 16 then wlL (wN s.2.1) j else m_L M5 (m_N M + 3) j) else m_L M5 b) (fun a _ h => if_neg h) (by
      rw [if_pos rfl]
      have e2 : bdS s.2.1 (s.2.2.1.1, day, f) = fun _ => true := by
        funext w
        unfold bdS
        dsimp only
        rw [hv]
      rw [e2]
      exact (Rw.whole (wN s.2.1)).of (fun k hk => by rw [if_pos hk]))
    refine ⟨_, ?_, h1, h2⟩
    rw [if_pos (by decide), x_gN_ok k65 r53, x_gN_ok K50 R52, x_gI_ok K52, c5.1.1.1.2.2.2.1, x_cV_ok w5.1 e]
    congr 2
    unfold w16
    show m_wL (m_wB M5 (m_L M5)) _ _ = _
    rw [wB_w]
  | some v =>
    have hv2 : vIn s.2.1 (some v) := by rw [← hv]; exact vOf_in ho day
    have hvl := hv2 v rfl
    have b3 := ho.2.2.2.1
    obtain ⟨B, e, e1, e2⟩ := S_find g5 c5.1.1 ho c5.1.2.1 (st := m_N M + 2) (la := m_N M + 3) hv2 fm5.2.2.2.1 fm5.2.1 fm5.2.2.1 fm5.2.2.2.2.1 fm5.2.2.2.2.2 w5 (by omega)
    obtain ⟨h1, h2⟩ := fin B (fun a h1 h2 => e1 a h1 h2) (by
      have e3 : bdS s.2.1 (s.2.2.1.1, day, f) = fMn s.2.1 (some v) f.1 f.2 := by
        funext w
        unfold bdS
        dsimp only
        rw [hv]
      rw [e3]
      exact e2)
    refine ⟨_, ?_, h1, h2⟩
    rw [if_neg (show ¬ iO (some v) = (-1 : Int32) from nI_nm1 (by omega)), x_gN_ok K50 R56, x_gN_ok k65 r50, x_gN_ok k65 r53, x_cV_ok K533 e]
end NEWSAY
