/-! sayings are read: the whole saying, both sides -/
def stTk (s : St) : St := ((0, s.1.2), s.2)
def sgO (l : Ld) (o : Nat ⊕ Fm) : Prop := match o with
  | .inl k => 0 < k ∧ k < 20000
  | .inr f => f.2 < 1000 ∧ fRok l f.1 f.2 0 0
section SAYING
variable {M M' : m_M} {s : St}
theorem csF.sI {M M' : m_M} {k : Nat} {v : Int32} (h : csF (m_sI M 31 k v) M') : csF M M' := csF.trans (M1 := M) (M2 := m_sI M 31 k v) (M3 := M') ⟨rfl, fun a h1 _ => sI_ne h1, fun _ _ => ⟨rfl, rfl⟩, fun _ _ => rfl⟩ h
theorem csF.hi (h : csF M M') : hiK M M' := ⟨by unfold m_N; rw [h.1]; exact Nat.le_refl _, fun a ha _ => ⟨by unfold m_T; rw [h.1], h.2.1 a (by omega) (by omega), (h.2.2.1 a (by omega)).1, (h.2.2.1 a (by omega)).2⟩⟩
theorem csF.K (h : csF M M') (a : Nat) : m_K M' a = m_K M a ∧ m_len M' a = m_len M a := by
  have e := h.1
  unfold m_K m_len m_N m_T
  rw [e]
  exact ⟨rfl, rfl⟩
theorem csF.ci (h : csF M M') (hc : CI s M) : CI s M' := by
  have hh := h.hi
  have hI : ∀ a, a ≠ 31 → a ≠ 32 → m_I M' a = m_I M a := h.2.1
  have hR : ∀ a, a ≠ 31 → m_R M' a = m_R M a := fun a ha => (h.2.2.1 a ha).2
  have hL : ∀ a, a ≠ 31 → m_L M' a = m_L M a := fun a ha => (h.2.2.1 a ha).1
  obtain ⟨⟨c0, c1, c2⟩, ⟨c3, c4⟩, c5, ⟨c6, c7, c8⟩, c9⟩ := hc
  refine ⟨⟨c0.cong (fun a _ h2 => hI a (by omega) (by omega)), by rw [hL 13 (by omega)]; exact c1, by unfold NmC; rw [hL 7 (by omega)]; exact c2⟩, ⟨by rw [hI 0 (by omega) (by omega)]; exact c3, by rw [hI 1 (by omega) (by omega)]; exact c4⟩, c5.congr hh h.K (hI _ (by omega) (by omega)) (hR _ (by omega)) (hR _ (by omega)) (hR _ (by omega)) (hI _ (by omega) (by omega)), ⟨c6, by rw [hI 80 (by omega) (by omega)]; exact c7, ?_⟩, fun i hi => ⟨by rw [hI 89 (by omega) (by omega)]; exact (c9 i hi).1, fun b hb => ((c9 i hi).2 b hb).congr hh h.K (hI _ (by omega) (by omega)) (hR _ (by omega)) (hR _ (by omega)) (hR _ (by omega)) (hI _ (by omega) (by omega))⟩⟩
  rw [hI 85 (by omega) (by omega), hI 86 (by omega) (by omega), hR 87 (by omega)]
  exact fun j hj => (c8 j hj).hi hh
theorem csF.refK (h : csF M M') (hG : G M) (hk : RefK M) : RefK M' := by
  intro a ha hka i x hx
  rw [(h.K a).1] at hka
  rw [(h.K x).1]
  by_cases q : a = 31
  · rw [q, (rd31 hG).1.1] at hka
    omega
  · rw [(h.2.2.1 a q).2] at hx
    exact hk a ha hka i x hx
theorem CI.tk (hG : G M) (hc : CI s M) : CI (stTk s) (m_sI M 0 1 (nI 0)) := by
  have hh : hiK M (m_sI M 0 1 (nI 0)) := ⟨Nat.le_refl _, fun a ha _ => ⟨rfl, sI_ne (by omega), rfl, rfl⟩⟩
  have hI : ∀ a, a ≠ 0 → m_I (m_sI M 0 1 (nI 0)) a = m_I M a := fun a ha => sI_ne ha
  obtain ⟨⟨c0, c1, c2⟩, ⟨c3, c4⟩, c5, ⟨c6, c7, c8⟩, c9⟩ := hc
  refine ⟨⟨c0.cong (fun a _ h2 => hI a (by omega)), c1, c2⟩, ⟨by rw [mI_sI, if_pos ⟨rfl, rfl⟩]; rfl, fun i hi => absurd hi (Nat.not_lt_zero _)⟩, c5.congr hh (fun _ => ⟨rfl, rfl⟩) (hI _ (by omega)) rfl rfl rfl (hI _ (by omega)), ⟨c6, by rw [hI 80 (by omega)]; exact c7, ?_⟩, fun i hi => ⟨by rw [hI 89 (by omega)]; exact (c9 i hi).1, fun b hb => ((c9 i hi).2 b hb).congr hh (fun _ => ⟨rfl, rfl⟩) (hI _ (by omega)) rfl rfl rfl (hI _ (by omega))⟩⟩
  rw [hI 85 (by omega), hI 86 (by omega)]
  exact fun j hj => (c8 j hj).hi hh
theorem msF.frM (h : msF M M') (hG : G M) : frM M M' := ⟨h.g hG, h.1, h.2.1, fun a ha => ⟨h.2.2.1 a (by omega) (by omega), h.2.2.2.1 a (by omega)⟩⟩
theorem msF.mi (h : msF M M') (hm : MI s M) : MI s M' := by
  have hI : ∀ a, a ≠ 128 → a ≠ 153 → m_I M' a = m_I M a := h.2.2.1
  have hL : ∀ a, a ≠ 128 → m_L M' a = m_L M a := h.2.2.2.1
  have h8 := h.2.2.2.2
  have tm : ∀ (t : Tl) (r : Nat), TlM s.2.1 t r (m_I M) (m_L M) → TlM s.2.1 t r (m_I M') (m_L M') := fun t r ht => ht.congr (hI 161 (by omega) (by omega)) (hI 157 (by omega) (by omega)) (hI 160 (by omega) (by omega)) (hL 156 (by omega)) (hL 158 (by omega)) (hL 159 (by omega))
  have bm : ∀ (b : Bk) (r : Nat), BkM s.2.1 b r (m_I M) (m_L M) → BkM s.2.1 b r (m_I M') (m_L M') := by
    intro b r hb
    obtain ⟨b1, b2, b3⟩ := hb
    refine ⟨tm _ _ b1, ?_, ?_⟩
    · rw [hI 163 (by omega) (by omega), hL 162 (by omega)]; exact b2
    · rw [hI 167 (by omega) (by omega), hI 164 (by omega) (by omega), hI 165 (by omega) (by omega), hI 166 (by omega) (by omega)]; exact b3
  obtain ⟨⟨m0, m1⟩, ⟨m2, m3⟩, ⟨m4, m5⟩, ⟨m6, m7⟩, m8⟩ := hm
  refine ⟨⟨m0.cong (fun a h1 h2 => hI a (by omega) (by omega)) (by rw [h8 42 (by omega)]) (by rw [h8 43 (by omega)]), ?_⟩, ⟨?_, ?_⟩, ⟨bm _ _ m4, ?_⟩, ⟨?_, fun j hj => tm _ _ (m7 j hj)⟩, fun i hi => ⟨?_, fun b hb => ⟨bm _ _ ((m8 i hi).2 b hb).1, ?_⟩⟩⟩
  · unfold NmM; rw [hL 131 (by omega), hL 132 (by omega)]; exact m1
  · rw [h8 1 (by omega)]; exact m2
  · rw [hI 129 (by omega) (by omega)]; exact m3
  · rw [h8 53 (by omega)]; exact m5
  · rw [h8 52 (by omega)]; exact m6
  · rw [hI 169 (by omega) (by omega)]; exact (m8 i hi).1
  · rw [hI 168 (by omega) (by omega)]; exact ((m8 i hi).2 b hb).2
/-- fields of the model's object that are of no matter -/
theorem MI.o8 (hm : MI s M) {k : Nat} {v : Int32} (h1 : k ≠ 1) (h42 : k ≠ 42) (h43 : k ≠ 43) (h52 : k ≠ 52) (h53 : k ≠ 53) : MI s (m_sI M 128 k v) := by
  have f : ∀ a, a ≠ 128 → m_I (m_sI M 128 k v) a = m_I M a := fun a ha => sI_ne ha
  have g : ∀ j, j ≠ k → m_I (m_sI M 128 k v) 128 j = m_I M 128 j := fun j hj => by rw [mI_sI, if_neg (fun z => hj z.2)]
  have tm : ∀ (t : Tl) (r : Nat), TlM s.2.1 t r (m_I M) (m_L M) → TlM s.2.1 t r (m_I (m_sI M 128 k v)) (m_L M) := fun t r ht => ht.congr (f 161 (by omega)) (f 157 (by omega)) (f 160 (by omega)) rfl rfl rfl
  have bm : ∀ (b : Bk) (r : Nat), BkM s.2.1 b r (m_I M) (m_L M) → BkM s.2.1 b r (m_I (m_sI M 128 k v)) (m_L M) := by
    intro b r hb
    obtain ⟨b1, b2, b3⟩ := hb
    refine ⟨tm _ _ b1, ?_, ?_⟩
    · rw [f 163 (by omega)]; exact b2
    · rw [f 167 (by omega), f 164 (by omega), f 165 (by omega), f 166 (by omega)]; exact b3
  obtain ⟨⟨m0, m1⟩, ⟨m2, m3⟩, ⟨m4, m5⟩, ⟨m6, m7⟩, m8⟩ := hm
  exact ⟨⟨m0.cong (fun a h1 h2 => f a (by omega)) (g 42 (by omega)) (g 43 (by omega)), m1⟩, ⟨by rw [g 1 (by omega)]; exact m2, by rw [f 129 (by omega)]; exact m3⟩, ⟨bm _ _ m4, by rw [g 53 (by omega)]; exact m5⟩, ⟨by rw [g 52 (by omega)]; exact m6, fun j hj => tm _ _ (m7 j hj)⟩, fun i hi => ⟨by rw [f 169 (by omega)]; exact (m8 i hi).1, fun b hb => ⟨bm _ _ ((m8 i hi).2 b hb).1, by rw [f 168 (by omega)]; exact ((m8 i hi).2 b hb).2⟩⟩⟩
theorem MI.tk (hm : MI s M) : MI (stTk s) (m_sI M 128 1 (nI 0)) := by
  have f : ∀ a, a ≠ 128 → m_I (m_sI M 128 1 (nI 0)) a = m_I M a := fun a ha => sI_ne ha
  have g : ∀ j, j ≠ 1 → m_I (m_sI M 128 1 (nI 0)) 128 j = m_I M 128 j := fun j hj => by rw [mI_sI, if_neg (fun z => hj z.2)]
  have tm : ∀ (t : Tl) (r : Nat), TlM s.2.1 t r (m_I M) (m_L M) → TlM s.2.1 t r (m_I (m_sI M 128 1 (nI 0))) (m_L M) := fun t r ht => ht.congr (f 161 (by omega)) (f 157 (by omega)) (f 160 (by omega)) rfl rfl rfl
  have bm : ∀ (b : Bk) (r : Nat), BkM s.2.1 b r (m_I M) (m_L M) → BkM s.2.1 b r (m_I (m_sI M 128 1 (nI 0))) (m_L M) := by
    intro b r hb
    obtain ⟨b1, b2, b3⟩ := hb
    refine ⟨tm _ _ b1, ?_, ?_⟩
    · rw [f 163 (by omega)]; exact b2
    · rw [f 167 (by omega), f 164 (by omega), f 165 (by omega), f 166 (by omega)]; exact b3
  obtain ⟨⟨m0, m1⟩, ⟨m2, m3⟩, ⟨m4, m5⟩, ⟨m6, m7⟩, m8⟩ := hm
  exact ⟨⟨m0.cong (fun a h1 h2 => f a (by omega)) (g 42 (by omega)) (g 43 (by omega)), m1⟩, ⟨by rw [mI_sI, if_pos ⟨rfl, rfl⟩]; rfl, fun i hi => absurd hi (Nat.not_lt_zero _)⟩, ⟨bm _ _ m4, by rw [g 53 (by omega)]; exact m5⟩, ⟨by rw [g 52 (by omega)]; exact m6, fun j hj => tm _ _ (m7 j hj)⟩, fun i hi => ⟨by rw [f 169 (by omega)]; exact (m8 i hi).1, fun b hb => ⟨bm _ _ ((m8 i hi).2 b hb).1, by rw [f 168 (by omega)]; exact ((m8 i hi).2 b hb).2⟩⟩⟩
/-- what reading a saying comes to -/
def rdC (l : Ld) (o : Nat ⊕ Fm) (M' : m_M) (v : Int32) : Prop := match o with
  | .inl k => v = nI k
  | .inr f => v = nI 0 ∧ m_I M' 31 12 = nI f.2 ∧ ∀ i, i < f.2 → cPt l (f.1 i) (m_I M' 32 i)
def rdM (l : Ld) (o : Nat ⊕ Fm) (M' : m_M) (v : Int32) : Prop := match o with
  | .inl k => v = nI 0 ∧ m_I M' 128 9 = nI k
  | .inr f => v = nI 1 ∧ m_I M' 128 39 = nI f.2 ∧ ∀ i, i < f.2 → m_I M' 153 i = nI (f.1 i)
theorem J_saying (hp : PI s) : ∃ o, sgO s.2.1 o
    ∧ (∀ M, G M → CI s M → ∃ v M', (x_cV 9 M 0 (F_X11_takeTape 0 M) fun v2 M1 => F_X7_read 31 v2 M1) = some (v, M') ∧ csF (m_sI M 0 1 (nI 0)) M' ∧ rdC s.2.1 o M' v)
    ∧ ∀ M, G M → MI s M → ∃ v M', F_X12_readsSaying 128 M = some (v, M') ∧ msF (m_sI M 128 1 (nI 0)) M' ∧ rdM s.2.1 o M' v := by
  obtain ⟨ho, ⟨hn, htx⟩, _⟩ := hp
  have txC : ∀ M, CI s M → TX s.1.2 s.1.1 (m_I M 1) := fun M hc j hj => ⟨hc.2.1.2 j hj, htx j hj⟩
  have txM : ∀ M, MI s M → TX s.1.2 s.1.1 (m_I M 129) := fun M hm j hj => ⟨hm.2.1.2 j hj, htx j hj⟩
  obtain ⟨_, o1, a1, a2, a3⟩ := J_all (T := s.1.2) ho hn 5 0 (by omega) (0, (fun _ => 0), 0) (Nat.zero_le _) (Nat.zero_le _)
  -- the class up to the formula's end
  have cpre : ∀ M, G M → CI s M → ∃ v M1, COk s.2.1 s.1.2 s.1.1 o1 (m_sI M 0 1 (nI 0)) M1 v ∧ (x_cV 9 M 0 (F_X11_takeTape 0 M) fun v2 M1 => F_X7_read 31 v2 M1) = if v = 0 then (x_gI 7 M1 31 9 fun v2 => some (v2, M1)) else x_cV 7 M1 31 (F_X8_pass_ 7 31 (59 : Int32) M1) fun v3 M4 => if v3 = 0 then (x_gI 7 M4 31 9 fun v8 => some (v8, M4)) else x_gI 7 M4 31 4 fun v4 => if v4 = 0 then (x_gI 7 M4 31 9 fun v5 => some (v5, M4)) else x_cV 7 M4 31 (F_X8_fail 7 31 (1 : Int32) M4) fun v6 M5 => x_gI 7 M5 31 9 fun v7 => some (v7, M5) := by
    intro M hG hc
    have K0 : m_K M 0 = 9 := by simp only [gK hG]
    obtain ⟨hr, R10, R11, K2, K32, L32⟩ := rd31 (M := m_sI (m_sI M 0 1 (nI 0)) 31 12 (nI 0)) hG
    have hc1 := hc.tk hG
    have hx : TX s.1.2 s.1.1 (m_I (m_sI (m_sI M 0 1 (nI 0)) 31 12 (nI 0)) 1) := by rw [sI_ne (by omega), sI_ne (by omega)]; exact txC M hc
    obtain ⟨M1, e1, e2, e3, e4⟩ := S_open hr hn hx
    have f1 : csF (m_sI M 0 1 (nI 0)) M1 := csF.sI e3.cs
    have hG1 : G (m_sI M 0 1 (nI 0)) := hG
    obtain ⟨hl1, hm1⟩ := f1.land hc1.1.1 hc1.1.2.2
    have cs : CS s.2.1 s.1.2 s.1.1 (0, (fun _ => 0), 0) M1 := ⟨⟨f1.g hG1, hl1, hm1⟩, e3.X (by omega) hx, e2, ⟨by rw [e3.2.2.1 12 (by omega), mI_sI, if_pos ⟨rfl, rfl⟩], e4⟩, fun i hi => absurd hi (Nat.not_lt_zero _)⟩
    obtain ⟨v, M2, e5, e6, e7⟩ := a2 64 M1 (by omega) cs
    have e5' : FG_X7_readFormula 31 (nI 0) M1 = some (v, M2) := e5
    have et : F_X11_takeTape 0 M = some (nI s.1.1, m_sI M 0 1 (nI 0)) := by
      unfold F_X11_takeTape
      rw [x_gI_ok K0, hc.2.1.1, x_pI_ok K0]
      rfl
    refine ⟨v, M2, ⟨f1.trans e6, e7⟩, ?_⟩
    rw [x_cV_ok K0 et]
    unfold F_X7_read
    rw [x_pI_ok (rd31 hG1).1.1, show (0 : Int32) = nI 0 from rfl, x_cV_ok hr.1 e1]
    rw [x_cV_ok cs.K e5']
  have mpre : ∀ M, G M → MI s M → ∃ v M1, MOk s.2.1 s.1.2 s.1.1 0 o1 (m_sI M 128 1 (nI 0)) M1 v ∧ F_X12_readsSaying 128 M = if v = 0 then some ((0 : Int32), M1) else x_cV 10 M1 128 (F_X12_closes 128 M1) fun v2 M5 => if v2 = 0 then some ((0 : Int32), M5) else (x_gI 10 M5 128 6 fun v3 => if v3 = 0 then some ((1 : Int32), M5) else x_cV 10 M5 128 (F_X12_fails 128 (1 : Int32) M5) fun v4 M7 => if v4 = 0 then some ((0 : Int32), M7) else some ((1 : Int32), M7)) := by
    intro M hG hm
    have K0 : ∀ A B, m_K (m_w2 M A B) 128 = 10 := fun A B => by simp only [w2_K, gK hG]
    have p1 : m_up (m_up (m_I M) 128 39 (nI 0)) 128 40 (nI 0) 128 1 = nI s.1.1 := by rw [up_at, if_neg (by omega), up_at, if_neg (by omega)]; exact hm.2.1.1
    have gI : ∀ j, j ≠ 39 → j ≠ 40 → j ≠ 3 → j ≠ 1 → j ≠ 4 → m_up (m_up (m_up (m_up (m_up (m_I M) 128 39 (nI 0)) 128 40 (nI 0)) 128 3 (nI s.1.1)) 128 1 (nI 0)) 128 4 (nI 0) 128 j = m_I M 128 j := fun j h1 h2 h3 h4 h5 => by
      rw [up_at, if_neg (fun z => h5 z.2), up_at, if_neg (fun z => h4 z.2), up_at, if_neg (fun z => h3 z.2), up_at, if_neg (fun z => h2 z.2), up_at, if_neg (fun z => h1 z.2)]
    have fI : ∀ a, a ≠ 128 → m_up (m_up (m_up (m_up (m_up (m_I M) 128 39 (nI 0)) 128 40 (nI 0)) 128 3 (nI s.1.1)) 128 1 (nI 0)) 128 4 (nI 0) a = m_I M a := fun a ha => by rw [up_fr ha, up_fr ha, up_fr ha, up_fr ha, up_fr ha]
    have f0 : msF (m_sI M 128 1 (nI 0)) (m_w2 M (m_up (m_up (m_up (m_up (m_up (m_I M) 128 39 (nI 0)) 128 40 (nI 0)) 128 3 (nI s.1.1)) 128 1 (nI 0)) 128 4 (nI 0)) (m_L M)) := by
      refine ⟨rfl, rfl, fun a h1 _ => by rw [w2_I, fI a h1, sI_ne h1], fun _ _ => rfl, fun k hk => ?_⟩
      rw [w2_I]
      by_cases z : k = 1
      · rw [z, up_at, if_neg (by omega), up_at, if_pos ⟨rfl, rfl⟩, mI_sI, if_pos ⟨rfl, rfl⟩]
      · rw [gI k (by omega) (by omega) (by omega) z (by omega), mI_sI, if_neg (fun w => z w.2)]
    have hG1 : G (m_w2 M (m_up (m_up (m_up (m_up (m_up (m_I M) 128 39 (nI 0)) 128 40 (nI 0)) 128 3 (nI s.1.1)) 128 1 (nI 0)) 128 4 (nI 0)) (m_L M)) := hG
    have hx : TX s.1.2 s.1.1 (m_I (m_w2 M (m_up (m_up (m_up (m_up (m_up (m_I M) 128 39 (nI 0)) 128 40 (nI 0)) 128 3 (nI s.1.1)) 128 1 (nI 0)) 128 4 (nI 0)) (m_L M)) 129) := by rw [w2_I, fI 129 (by omega)]; exact txM M hm
    obtain ⟨M1, e1, e2, e3, e4⟩ := S_next hG1 hn hx (q := 0) (Nat.zero_le _) (by rw [w2_I, up_at, if_neg (by omega), up_at, if_neg (by omega), up_at, if_pos ⟨rfl, rfl⟩]) (by rw [w2_I, up_at, if_pos ⟨rfl, rfl⟩])
    have f1 : msF (m_sI M 128 1 (nI 0)) M1 := f0.trans e3.ms
    have hm1 := hm.tk
    obtain ⟨hl2, hm2⟩ := f1.land hm1.1.1 hm1.1.2
    have ms : MS s.2.1 s.1.2 s.1.1 0 (0, (fun _ => 0), 0) M1 := ⟨⟨f1.g hG, hl2, hm2⟩, by rw [(e3.2.2.1 129 (by omega)).1]; exact hx, e2, ⟨by rw [e3.2.2.2.1 39 (by omega), w2_I, up_at, if_neg (by omega), up_at, if_neg (by omega), up_at, if_neg (by omega), up_at, if_neg (by omega), up_at, if_pos ⟨rfl, rfl⟩], by rw [e3.2.2.2.1 40 (by omega), w2_I, up_at, if_neg (by omega), up_at, if_neg (by omega), up_at, if_neg (by omega), up_at, if_pos ⟨rfl, rfl⟩]⟩, fun i hi => absurd hi (Nat.not_lt_zero _)⟩
    obtain ⟨v, M2, e5, e6, e7⟩ := a3 64 M1 (by omega) ms
    have e5' : FG_X12_readsFormula 128 M1 = some (v, M2) := e5
    refine ⟨v, M2, ⟨f1.trans e6, e7⟩, ?_⟩
    have es : F_X12_starts 128 (m_w2 M (m_up (m_up (m_I M) 128 39 (nI 0)) 128 40 (nI 0)) (m_L M)) = some ((), M1) := by
      unfold F_X12_starts
      rw [x_gI_ok (K0 _ _), w2_I, p1, x_pI_ok (K0 _ _), w2_sI, x_pI_ok (K0 _ _), w2_sI, x_pI_ok (K0 _ _), w2_sI, show (0 : Int32) = nI 0 from rfl, x_cV_ok (K0 _ _) e1]
    unfold F_X12_readsSaying
    rw [x_pI_ok (by simp only [gK hG]), show ∀ v, m_sI M 128 39 v = m_w2 M (m_up (m_I M) 128 39 v) (m_L M) from fun _ => rfl, x_pI_ok (K0 _ _), w2_sI, show (0 : Int32) = nI 0 from rfl, x_cV_ok (K0 _ _) es, x_cV_ok ms.K e5']
    simp only [m_let_eq]
  cases o1 with
  | inl k =>
    refine ⟨.inl k, a1, fun M hG hc => ?_, fun M hG hm => ?_⟩
    · obtain ⟨v, M1, ⟨e1, e2, e3⟩, e4⟩ := cpre M hG hc
      refine ⟨nI k, M1, ?_, e1, rfl⟩
      have hG1 : G (m_sI M 0 1 (nI 0)) := hG
      rw [e4, e2, if_pos (by decide), x_gI_ok (rd31 (e1.g hG1)).1.1, e3]
    · obtain ⟨v, M1, ⟨e1, e2, e3⟩, e4⟩ := mpre M hG hm
      refine ⟨nI 0, M1, ?_, e1, rfl, e3⟩
      rw [e4, e2, if_pos (by decide)]
      rfl
  | inr s1 =>
    obtain ⟨g1, g2, g3, g4, g5, g6⟩ := a1
    have g1' : 0 < s1.1 := g1
    have g4' : s1.2.2 + 0 ≤ s1.1 + 0 := g4
    obtain ⟨u1, u2, u3, u4, u5, u6, u7, u8⟩ := tok_ok (T := s.1.2) (n := s.1.1) s1.1 g2
    by_cases j3 : tkS s.1.2 59 (tokAt s.1.2 s.1.1 s1.1) = true
    · have hk3 : (tokAt s.1.2 s.1.1 s1.1).2.2.1 = 4 := by
        unfold tkS at j3
        rw [Bool.and_eq_true, decide_eq_true_eq] at j3
        exact j3.1
      have u8' := u8 (by omega)
      have rok : fRok s.2.1 s1.2.1 s1.2.2 0 0 := fSg_rok _ _ _ 1 (by omega) (g6 0 (by omega))
      have cadv : ∀ M, G M → CI s M → ∃ M4, CS s.2.1 s.1.2 s.1.1 ((tokAt s.1.2 s.1.1 s1.1).2.1, s1.2) M4 ∧ csF (m_sI M 0 1 (nI 0)) M4 ∧ (x_cV 9 M 0 (F_X11_takeTape 0 M) fun v2 M1 => F_X7_read 31 v2 M1) = x_gI 7 M4 31 4 fun v4 => if v4 = 0 then (x_gI 7 M4 31 9 fun v5 => some (v5, M4)) else x_cV 7 M4 31 (F_X8_fail 7 31 (1 : Int32) M4) fun v6 M5 => x_gI 7 M5 31 9 fun v7 => some (v7, M5) := by
        intro M hG hc
        obtain ⟨v, M1, ⟨e1, e2, e3⟩, e4⟩ := cpre M hG hc
        obtain ⟨M4, k1, k2, k3⟩ := e3.adv hn g2
        have hS : F_X8_isAt_ 7 31 (59 : Int32) M1 = _ := e3.S g2 (c := 59) (by omega)
        have hp : F_X8_pass_ 7 31 (59 : Int32) M1 = some (1, M4) := by
          unfold F_X8_pass_
          rw [x_cV_ok e3.K hS, j3, if_neg (by decide), x_cV_ok e3.K k1]
        refine ⟨M4, k2, e1.trans k3, ?_⟩
        rw [e4, e2, if_neg (by decide), x_cV_ok e3.K hp, if_neg (by decide)]
      have madv : ∀ M, G M → MI s M → ∃ M5, MS s.2.1 s.1.2 s.1.1 0 ((tokAt s.1.2 s.1.1 s1.1).2.1, s1.2) M5 ∧ msF (m_sI M 128 1 (nI 0)) M5 ∧ F_X12_readsSaying 128 M = (x_gI 10 M5 128 6 fun v3 => if v3 = 0 then some ((1 : Int32), M5) else x_cV 10 M5 128 (F_X12_fails 128 (1 : Int32) M5) fun v4 M7 => if v4 = 0 then some ((0 : Int32), M7) else some ((1 : Int32), M7)) := by
        intro M hG hm
        obtain ⟨v, M1, ⟨e1, e2, e3⟩, e4⟩ := mpre M hG hm
        obtain ⟨M5, k1, k2, k3, _⟩ := e3.next hn g2
        have hS : F_X12_isSign 128 (59 : Int32) M1 = _ := e3.S hn g2 (c := 59) (by omega)
        have hp : F_X12_closes 128 M1 = some (1, M5) := by
          unfold F_X12_closes
          rw [x_cV_ok e3.K hS, j3, if_neg (by decide), x_cV_ok e3.K k1]
        refine ⟨M5, k2, e1.trans k3, ?_⟩
        rw [e4, e2, if_neg (by decide), x_cV_ok e3.K hp, if_neg (by decide)]
      obtain ⟨w1, w2, w3, w4, w5, w6, w7, w8⟩ := tok_ok (T := s.1.2) (n := s.1.1) (tokAt s.1.2 s.1.1 s1.1).2.1 u4
      by_cases z : (tokAt s.1.2 s.1.1 (tokAt s.1.2 s.1.1 s1.1).2.1).2.2.1 = 0
      · refine ⟨.inr s1.2, ⟨by omega, rok⟩, fun M hG hc => ?_, fun M hG hm => ?_⟩
        · obtain ⟨M4, e1, e2, e3⟩ := cadv M hG hc
          refine ⟨nI 0, M4, ?_, e2, rfl, e1.2.2.2.1.1, e1.2.2.2.2⟩
          rw [e3, x_gI_ok e1.K, e1.2.2.1.1.2.2.2, z, if_pos (by decide), x_gI_ok e1.K, e1.2.2.2.1.2]
        · obtain ⟨M5, e1, e2, e3⟩ := madv M hG hm
          refine ⟨nI 1, M5, ?_, e2, rfl, e1.2.2.2.1.1, e1.2.2.2.2⟩
          rw [e3, x_gI_ok e1.K, e1.2.2.1.1.2.2.2, z, if_pos (by decide)]
          rfl
      · have hz := w8 z
        refine ⟨.inl (1 + 16 * (tokAt s.1.2 s.1.1 (tokAt s.1.2 s.1.1 s1.1).2.1).1), ⟨by omega, by omega⟩, fun M hG hc => ?_, fun M hG hm => ?_⟩
        · obtain ⟨M4, e1, e2, e3⟩ := cadv M hG hc
          obtain ⟨M5, k1, k2, k3⟩ := e1.fail (k := 1)
          have k1' : F_X8_fail 7 31 (1 : Int32) M4 = _ := k1
          refine ⟨_, M5, ?_, e2.trans k3, rfl⟩
          have hne : ¬ nI (tokAt s.1.2 s.1.1 (tokAt s.1.2 s.1.1 s1.1).2.1).2.2.1 = (0 : Int32) := nI_ne0 (by omega) (by omega)
          rw [e3, x_gI_ok e1.K, e1.2.2.1.1.2.2.2, if_neg hne, x_cV_ok e1.K k1', x_gI_ok (rd31 (k3.g e1.1.1)).1.1, k2]
        · obtain ⟨M5, e1, e2, e3⟩ := madv M hG hm
          obtain ⟨M6, k1, k2, k3⟩ := e1.fail (k := 1)
          have k1' : F_X12_fails 128 (1 : Int32) M5 = _ := k1
          have tn := tkM_n w6
          refine ⟨nI 0, M6, ?_, e2.trans k3, rfl, k2⟩
          have hne : ¬ nI (tkM (tokAt s.1.2 s.1.1 (tokAt s.1.2 s.1.1 s1.1).2.1).2.2.1) = (0 : Int32) := nI_ne0 (by omega) (by omega)
          rw [e3, x_gI_ok e1.K, e1.2.2.1.1.2.2.2, if_neg hne, x_cV_ok e1.K k1', if_pos (by decide)]
          rfl
    · refine ⟨.inl (1 + 16 * (tokAt s.1.2 s.1.1 s1.1).1), ⟨by omega, by omega⟩, fun M hG hc => ?_, fun M hG hm => ?_⟩
      · obtain ⟨v, M1, ⟨e1, e2, e3⟩, e4⟩ := cpre M hG hc
        obtain ⟨M4, k1, k2, k3⟩ := e3.fail (k := 1)
        have k1' : F_X8_fail 7 31 (1 : Int32) M1 = _ := k1
        have hS : F_X8_isAt_ 7 31 (59 : Int32) M1 = _ := e3.S g2 (c := 59) (by omega)
        have hp : F_X8_pass_ 7 31 (59 : Int32) M1 = some (nI 0, M4) := by
          unfold F_X8_pass_
          rw [x_cV_ok e3.K hS, Bool.eq_false_iff.mpr j3, if_pos (by decide), x_cV_ok e3.K k1']
          rfl
        refine ⟨_, M4, ?_, e1.trans k3, rfl⟩
        rw [e4, e2, if_neg (by decide), x_cV_ok e3.K hp, if_pos (by decide), x_gI_ok (rd31 (k3.g e3.1.1)).1.1, k2]
      · obtain ⟨v, M1, ⟨e1, e2, e3⟩, e4⟩ := mpre M hG hm
        obtain ⟨M5, k1, k2, k3⟩ := e3.fail (k := 1)
        have k1' : F_X12_fails 128 (1 : Int32) M1 = _ := k1
        have hS : F_X12_isSign 128 (59 : Int32) M1 = _ := e3.S hn g2 (c := 59) (by omega)
        have hp : F_X12_closes 128 M1 = some (nI 0, M5) := by
          unfold F_X12_closes
          rw [x_cV_ok e3.K hS, Bool.eq_false_iff.mpr j3, if_pos (by decide), x_cV_ok e3.K k1']
          rfl
        refine ⟨nI 0, M5, ?_, e1.trans k3, rfl, k2⟩
        rw [e4, e2, if_neg (by decide), x_cV_ok e3.K hp, if_pos (by decide)]
        rfl
end SAYING
