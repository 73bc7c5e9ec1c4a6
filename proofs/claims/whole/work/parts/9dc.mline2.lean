/-! a land read: week and speakers of the model -/
section MLINE2
variable {M M' : m_M} {T : Nat → Nat} {n q : Nat} {l l' : Ld} {bt bt' : Bool × Bool}
theorem vbO_cg {l li : Ld} (hM : lM li = lM l) (hH : lH li 3 = lH l 3) : vbO T n li q = vbO T n l q := by unfold vbO; rw [hM, hH]
theorem clO_t (s : tkS T 59 (tokAt T n q) = true) {α : Type} {g : Nat → Nat ⊕ α} : sB (clO T n q) g = g (tokAt T n q).2.1 := by unfold clO; rw [if_pos s]; rfl
theorem tnF.MT (f : tnF M M') (h : MT T n q l bt M) (e : M' = m_sI M 128 37 (m_I M' 128 37)) : MT T n q l bt M' := by rw [e]; exact h.sI (.inl rfl)
theorem M_week_l (hn : n ≤ 1000) {k64 : Nat → m_M → Option (Int32 × m_M)} {k101 : Nat → Int32 → m_M → Option (Int32 × m_M)} (h64 : ∀ M, k64 128 M = x_cV 10 M 128 (F_X12_fails 128 (5 : Int32) M) fun v3 M4 => x_b v3 <| some (v3, M4)) (h101 : ∀ v M, k101 128 v M = x_gN 10 M 128 10 fun v6 => x_sI 12 M v6 (13 : Int32) v fun M6 => x_cV 10 M6 128 (F_X12_closes 128 M6) fun v7 M7 => x_b v7 <| some (v7, M7)) {l : Ld} (h5 : lH l 5 = 0) : ∀ (e i f q : Nat) (li : Ld) (M : m_M), i + e = 9 → i ≤ 7 → e < f → lM li = lM l → (∀ j, j ≠ 5 → lH li j = lH l j) → lH li 5 = i → lW li = lW l → lV li = lV l → lE li = lE l → lOk li → (∀ d, d < i → m_I M 136 (7 + d) = iO (lD li d)) → MT T n q l (bt.1, true) M → MRes T n (bt.1, true) (wkO T n e li i q) (F_X12_readsWeek_24 k64 k101 f 128 (nI i) M) M := by
  intro e
  induction e with
  | zero => intro i f q li M h1 h2; omega
  | succ e ih =>
    intro i f q li M hi hi7 hf hM hH hH5 hW hV hE hok hd h
    obtain ⟨f, rfl⟩ : ∃ x, f = x + 1 := ⟨f - 1, by omega⟩
    have R16 : m_R M 128 16 = some 136 := by have g := h.g; simp only [gR g]
    have K136 : m_K M 136 = 12 := by have g := h.g; simp only [gK g]
    have L136 : m_len M 136 = 14 := by have g := h.g; simp only [gl g]
    rw [F_X12_readsWeek_24]
    refine m_let_P (fun o => MRes T n (bt.1, true) (wkO T n (e + 1) li i q) o M) ?_
    intro k37 h37
    have day : ¬ (0 < i ∧ tkS T 59 (tokAt T n q) = true) → MRes T n (bt.1, true) (wkO T n (e + 1) li i q) (k37 128 (nI i) M) M := by
      intro hno
      rw [h37]
      dsimp only
      unfold wkO
      rw [if_neg hno]
      obtain ⟨W, hW'⟩ : ∃ W : Nat ⊕ (Nat × Ld), W = sB (if tkW 277652441 (tokAt T n q) = true then (.inr none : Nat ⊕ Option Nat) else sB (vbO T n li q) fun v => .inr (some v)) fun v => if 7 ≤ i then .inl (flt T n q 5) else wkO T n e (ldH (ldD li i v) 5 (i + 1)) (i + 1) (tokAt T n q).2.1 := ⟨_, rfl⟩
      rw [← hW']
      refine m_let_P (fun o => MRes T n (bt.1, true) W o M) ?_
      intro k58 h58
      -- a day's verb is known
      have put : ∀ (vo : Option Nat) (s : Int32) (M1 : m_M), (∀ x, vo = some x → x < lH l 3) → MT T n q l (bt.1, true) M1 → tnF M M1 → (if s = 0 then m_I M1 128 37 = iO vo else vo = none) → W = (if 7 ≤ i then .inl (flt T n q 5) else wkO T n e (ldH (ldD li i vo) 5 (i + 1)) (i + 1) (tokAt T n q).2.1) → MRes T n (bt.1, true) W (k58 128 (nI i) s M1) M := by
        intro vo s M1 hvo h1 f1 hs hWW
        rw [h58, hWW]
        dsimp only
        by_cases c : 7 ≤ i
        · rw [if_pos c, if_pos (show nI i = (7 : Int32) from by rw [show i = 7 by omega]; rfl), h64]
          exact (h1.failR (k := 5)).tr f1.dm
        · have fI : ∀ a, a ≠ 128 → m_I M1 a = m_I M a := fun a ha => (f1.2.2.1 a ha).1
          have R16' : m_R M1 128 16 = some 136 := by rw [f1.2.1]; exact R16
          have K136' : m_K M1 136 = 12 := by have g := h1.g; simp only [gK g]
          have L136' : m_len M1 136 = 14 := by have g := h1.g; simp only [gl g]
          rw [if_neg c, if_neg (show ¬ nI i = (7 : Int32) from fun z => by have := (nI_eq (b := 7) (by omega) (by omega)).mp z; omega)]
          refine m_let_P (fun o => MRes T n (bt.1, true) (wkO T n e (ldH (ldD li i vo) 5 (i + 1)) (i + 1) (tokAt T n q).2.1) o M) ?_
          intro k90 h90
          have fin : k90 128 (nI i) 136 ((7 : Int32) + nI i) (iO vo) M1 = k90 128 (nI i) 136 (nI (7 + i)) (iO vo) M1 := by rw [show (7 : Int32) = nI 7 from rfl, nI_add]
          have go : MRes T n (bt.1, true) (wkO T n e (ldH (ldD li i vo) 5 (i + 1)) (i + 1) (tokAt T n q).2.1) (k90 128 (nI i) 136 ((7 : Int32) + nI i) (iO vo) M1) M := by
            rw [fin, h90]
            dsimp only
            have sI : ∀ a, a ≠ 136 → m_I (m_sI M1 136 (7 + i) (iO vo)) a = m_I M1 a := fun a ha => sI_ne ha
            have h2 : MT T n q l (bt.1, true) (m_sI M1 136 (7 + i) (iO vo)) := by
              refine h1.mk' rfl rfl (sI 129 (by omega)) (fun k _ => by rw [sI 128 (by omega)]) rfl h1.2.1.1 h1.2.1.2 (fun c hD => ?_) (by rw [sI 128 (by omega)]; exact h1.f23) (by rw [sI 128 (by omega)]; exact h1.f24)
              obtain ⟨t1, t2, t3, t4, t5, t9⟩ := hD
              refine ⟨by rw [sI 130 (by omega)]; exact t1, by rw [sI 135 (by omega)]; exact t2, fun d hd => by rw [h5] at hd; omega, by rw [sI 137 (by omega)]; exact t4, t5, ?_⟩
              unfold MLw
              rw [sI 138 (by omega), sI 139 (by omega), sI 140 (by omega)]
              exact t9
            obtain ⟨M3, b1, b2, b3⟩ := h2.nextT hn
            rw [x_sI_ok K136' (by rw [L136']; omega) (by omega), nI_1, m_let_eq, x_cV_ok h2.K b1]
            refine MRes.tr ?_ ((f1.dm.trans (dmF_I (a := 136) (k := 7 + i) (v := iO vo) (by omega))).trans b3.dm)
            refine ih (i + 1) f _ (ldH (ldD li i vo) 5 (i + 1)) M3 (by omega) (by omega) (by omega) hM (fun j hj => ?_) rfl hW hV hE (lOk_d hok (by omega) (fun x hx => by rw [hH 3 (by omega)]; exact hvo x hx)) (fun d hd2 => ?_) b2
            · show (if j = 5 then i + 1 else lH li j) = _
              rw [if_neg hj]; exact hH j hj
            · rw [(b3.2.2.1 136 (by omega)).1, mI_sI]
              show _ = iO (if d = i then vo else lD li d)
              by_cases z : d = i
              · rw [if_pos ⟨rfl, by omega⟩, if_pos z]
              · rw [if_neg (fun y => z (by omega)), if_neg z, fI 136 (by omega)]
                exact hd d (by omega)
          rw [x_gN_ok h1.K R16']
          by_cases s0 : s = 0
          · rw [if_pos s0] at hs
            rw [if_pos s0, x_gI_ok h1.K, hs]
            exact go
          · rw [if_neg s0] at hs
            rw [if_neg s0]
            rw [hs] at go ⊢
            exact go
      rw [x_cV_ok h.K h.W]
      by_cases w6 : tkW 277652441 (tokAt T n q) = true
      · rw [if_pos w6, sB_r] at hW'
        rw [bI_tr w6, if_neg (by decide)]
        exact put none 1 M (fun x hx => by cases hx) h tnF.rfl' (by rw [if_neg (by decide)]) hW'
      · rw [if_neg w6, vbO_cg hM (hH 3 (by omega))] at hW'
        obtain ⟨v, M1, a1, a2, a3⟩ := h.needsV
        rw [bI_fa w6, if_pos rfl, x_cV_ok h.K a1]
        cases hv : vbO T n l q with
        | inl fl =>
          rw [hv] at a3 hW'
          rw [sB_l, sB_l] at hW'
          rw [a3.1, if_pos (by decide), hW']
          exact ⟨0, M1, rfl, a2.dm, rfl, a3.2⟩
        | inr x =>
          rw [hv] at a3 hW'
          rw [sB_r, sB_r] at hW'
          obtain ⟨rfl, hx, hM1⟩ := a3
          rw [if_neg (by decide)]
          exact put (some x) 0 M1 (fun y hy => by cases hy; exact hx) (by rw [hM1]; exact h.sI (.inl rfl)) a2 (by rw [if_pos rfl, hM1, s37]; rfl) hW'
    by_cases i0 : i = 0
    · rw [if_pos (show nI i = 0 from by rw [i0]; rfl)]
      exact day (fun z => by omega)
    rw [if_neg (nI_nz i0 (by omega)), x_cV_ok h.K (show F_X12_isSign 128 (59 : Int32) M = _ from h.S hn (c := 59) (by omega))]
    by_cases s : tkS T 59 (tokAt T n q) = true
    · obtain ⟨S10, SK, SL⟩ := h.c130
      have sI : ∀ a, a ≠ 130 → m_I (m_sI M 130 13 (nI i)) a = m_I M a := fun a ha => sI_ne ha
      have hl' : MT T n q li (bt.1, true) (m_sI M 130 13 (nI i)) := by
        refine h.mk' rfl rfl (sI 129 (by omega)) (fun k _ => by rw [sI 128 (by omega)]) rfl hok (fun k hk => by rw [hH 4 (by omega)] at hk; rw [hV]; exact h.2.1.2 k hk) (fun c hD => ?_) (by rw [sI 128 (by omega)]; exact h.f23) (by rw [sI 128 (by omega)]; exact h.f24)
        obtain ⟨t1, t2, t3, t4, t5, t9⟩ := hD
        refine ⟨fun k hk => ?_, by rw [sI 135 (by omega), hH 1 (by omega), hW]; exact t2, fun d hd2 => by rw [sI 136 (by omega)]; exact hd d (by omega), by rw [sI 137 (by omega), hH 4 (by omega), hV]; exact t4, by rw [hH 1 (by omega), hH 2 (by omega), hH 3 (by omega), hH 4 (by omega), hM]; exact t5, ?_⟩
        · rw [mI_sI]
          by_cases z : k = 5
          · rw [if_pos ⟨rfl, by omega⟩, z, hH5]
          · rw [if_neg (fun y => z (by omega)), hH k z]; exact t1 k hk
        · unfold lnOk MLw
          rw [sI 138 (by omega), sI 139 (by omega), sI 140 (by omega), hH 2 (by omega), hH 3 (by omega), hE]
          exact t9
      have := hl'.closeX hn
      rw [clO_t s] at this
      unfold wkO
      rw [if_pos (show 0 < i ∧ tkS T 59 (tokAt T n q) = true from ⟨by omega, s⟩), bI_tr s, if_neg (by decide), h101, x_gN_ok h.K S10, show (13 : Int32) = nI 13 from rfl, x_sI_ok SK (by rw [SL]; omega) (by omega)]
      exact this.tr (dmF_I (by omega))
    · rw [bI_fa s, if_pos rfl]
      exact day (fun z => s z.2)
theorem M_week (h : MT T n q l bt M) (hn : n ≤ 1000) (hb : bt.2 = decide (0 < lH l 5)) : MRes T n (bt.1, true) (weO T n l q) (F_X12_readsWeek 128 M) M := by
  unfold F_X12_readsWeek weO
  rw [x_gI_ok h.K, h.f23, hb]
  by_cases c : 0 < lH l 5
  · rw [if_pos c, decide_eq_true c, if_neg (by decide)]
    exact h.failR (k := 3)
  · have h1 : MT T n q l (bt.1, true) (m_sI M 128 23 (1 : Int32)) := by
      refine h.mk' rfl rfl (sI_ne (by omega)) (fun k hk => by rw [mI_sI, if_neg (by omega)]) rfl h.2.1.1 h.2.1.2 (fun c hD => ?_) (by rw [mI_sI, if_pos ⟨rfl, rfl⟩]; rfl) (by rw [mI_sI, if_neg (by omega)]; exact h.f24)
      obtain ⟨t1, t2, t3, t4, t5, t9⟩ := hD
      have s : ∀ a, a ≠ 128 → m_I (m_sI M 128 23 (1 : Int32)) a = m_I M a := fun a ha => sI_ne ha
      refine ⟨by rw [s 130 (by omega)]; exact t1, by rw [s 135 (by omega)]; exact t2, by rw [s 136 (by omega)]; exact t3, by rw [s 137 (by omega)]; exact t4, t5, ?_⟩
      unfold MLw
      rw [s 138 (by omega), s 139 (by omega), s 140 (by omega)]
      exact t9
    obtain ⟨M2, b1, b2, b3⟩ := h1.next hn
    rw [if_neg c, decide_eq_false c, if_pos (show bI false = 0 from rfl), x_pI_ok h.K, x_cV_ok h1.K b1]
    refine MRes.tr ?_ ((dmF_9 (by omega)).trans b3)
    refine m_let_P (fun o => MRes T n (bt.1, true) (wkO T n 9 l 0 (tokAt T n q).2.1) o M2) ?_
    intro k64 h64
    refine m_let_P (fun o => MRes T n (bt.1, true) (wkO T n 9 l 0 (tokAt T n q).2.1) o M2) ?_
    intro k101 h101
    exact M_week_l (bt := bt) hn (fun M => by rw [h64]) (fun v M => by rw [h101]) (l := l) (by omega) 9 0 m_FU _ l M2 (by omega) (by omega) (m_FU_lt (by omega)) rfl (fun _ _ => rfl) (by omega) rfl rfl rfl h.2.1.1 (fun d hd => absurd hd (by omega)) b2
end MLINE2
