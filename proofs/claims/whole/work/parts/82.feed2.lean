/-! feed, the model's side -/
def gW (a b c : Int64) (k : Nat) : Int64 := if k < 8 then a else if k < 16 then b else c
def fdG (a b c : Int64) : Nat → Nat → Tp → Tp
  | 0, _, t => t
  | m + 1, k, t => fdG a b c m (k + 1) (apT t (byN (gW a b c k) (k % 8)))
theorem fdG_a (a b c : Int64) : ∀ (m j : Nat) (t : Tp), j + m = 8 → fdG a b c (m + 16) j t = fdG a b c 16 8 (fdT a m j t) := by
  intro m
  induction m with
  | zero => intro j t h; rw [show j = 8 by omega]; rfl
  | succ m ih =>
    intro j t h
    rw [show m + 1 + 16 = (m + 16) + 1 by omega]
    show fdG a b c (m + 16) (j + 1) (apT t (byN (gW a b c j) (j % 8))) = fdG a b c 16 8 (fdT a m (j + 1) (apT t (byN a j)))
    rw [show gW a b c j = a from if_pos (by omega), show j % 8 = j by omega]
    exact ih (j + 1) _ (by omega)
theorem fdG_b (a b c : Int64) : ∀ (m j : Nat) (t : Tp), j + m = 8 → fdG a b c (m + 8) (8 + j) t = fdG a b c 8 16 (fdT b m j t) := by
  intro m
  induction m with
  | zero => intro j t h; rw [show j = 8 by omega]; rfl
  | succ m ih =>
    intro j t h
    rw [show m + 1 + 8 = (m + 8) + 1 by omega]
    show fdG a b c (m + 8) (8 + j + 1) (apT t (byN (gW a b c (8 + j)) ((8 + j) % 8))) = fdG a b c 8 16 (fdT b m (j + 1) (apT t (byN b j)))
    rw [show gW a b c (8 + j) = b from by unfold gW; rw [if_neg (by omega), if_pos (by omega)], show (8 + j) % 8 = j by omega]
    exact ih (j + 1) _ (by omega)
theorem fdG_c (a b c : Int64) : ∀ (m j : Nat) (t : Tp), j + m = 8 → fdG a b c m (16 + j) t = fdT c m j t := by
  intro m
  induction m with
  | zero => intro j t h; rfl
  | succ m ih =>
    intro j t h
    show fdG a b c m (16 + j + 1) (apT t (byN (gW a b c (16 + j)) ((16 + j) % 8))) = fdT c m (j + 1) (apT t (byN c j))
    rw [show gW a b c (16 + j) = c from by unfold gW; rw [if_neg (by omega), if_neg (by omega)], show (16 + j) % 8 = j by omega]
    exact ih (j + 1) _ (by omega)
theorem fdG_all (a b c : Int64) (t : Tp) : fdG a b c 24 0 t = fd3 a b c t := by
  have h1 := fdG_a a b c 8 0 t (by omega)
  have h2 := fdG_b a b c 8 0 (fdT a 8 0 t) (by omega)
  have h3 := fdG_c a b c 8 0 (fdT b 8 0 (fdT a 8 0 t)) (by omega)
  exact h1.trans (h2.trans h3)
theorem and7 : ∀ k, k < 24 → (56 : Int32) - ((8 : Int32) * (nI k &&& (7 : Int32))) = nI (56 - 8 * (k % 8)) := by decide +kernel
section FEED2
variable {M : m_M} {s : St} {D : Nat}
theorem M_feed_l (h : G M) (a b c : Int64) : ∀ (m k f : Nat) (A : IA) (t : Tp), k + m = 24 → m < f → tpOk t → tpM t (m_wA M A) → (∀ x, x ≠ 128 → x ≠ 129 → A x = m_I M x) → (∀ j, j ≠ 0 → j ≠ 1 → A 128 j = m_I M 128 j) →
    ∃ A', F_X12_feed_8 f 128 a b c (nI k) (m_wA M A) = some (nI (fdG a b c m k t).1, m_wA M A') ∧ tpM (fdG a b c m k t) (m_wA M A') ∧ (∀ x, x ≠ 128 → x ≠ 129 → A' x = m_I M x) ∧ ∀ j, j ≠ 0 → j ≠ 1 → A' 128 j = m_I M 128 j := by
  have K0 : ∀ A, m_K (m_wA M A) 128 = 10 := fun A => by simp only [wA_K, gK h]
  have R2 : ∀ A, m_R (m_wA M A) 128 2 = some 129 := fun A => by simp only [wA_R, gR h]
  have K129 : ∀ A, m_K (m_wA M A) 129 = 12 := fun A => by simp only [wA_K, gK h]
  have L129 : ∀ A, m_len (m_wA M A) 129 = 1000 := fun A => by simp only [wA_n, gl h]
  intro m
  induction m with
  | zero =>
    intro k f A t hk hf ht hc hA hA0
    obtain ⟨f, rfl⟩ : ∃ f', f = f' + 1 := ⟨f - 1, by omega⟩
    refine ⟨A, ?_, hc, hA, hA0⟩
    rw [F_X12_feed_8, if_pos (show (24 : Int32) ≤ nI k from nI_le (a := 24) (by omega) (by omega)), x_gI_ok (K0 _), hc.1]
    rfl
  | succ m ih =>
    intro k f A t hk hf ht hc hA hA0
    obtain ⟨f, rfl⟩ : ∃ f', f = f' + 1 := ⟨f - 1, by omega⟩
    have hby := byN_lt (gW a b c k) (k % 8)
    rw [F_X12_feed_8, if_neg (show ¬ (24 : Int32) ≤ nI k from nI_ge (b := 24) (by omega) (by omega))]
    refine m_let_P (fun o => ∃ A', o = some (nI (fdG a b c (m + 1) k t).1, m_wA M A') ∧ tpM (fdG a b c (m + 1) k t) (m_wA M A') ∧ (∀ x, x ≠ 128 → x ≠ 129 → A' x = m_I M x) ∧ ∀ j, j ≠ 0 → j ≠ 1 → A' 128 j = m_I M 128 j) ?_
    intro k39 h39
    have go : ∀ (A2 : IA) (t2 : Tp), t2 = apT t (byN (gW a b c k) (k % 8)) → tpM t2 (m_wA M A2) → (∀ x, x ≠ 128 → x ≠ 129 → A2 x = m_I M x) → (∀ j, j ≠ 0 → j ≠ 1 → A2 128 j = m_I M 128 j) → ∃ A', F_X12_feed_8 f 128 a b c (nI k + 1) (m_wA M A2) = some (nI (fdG a b c (m + 1) k t).1, m_wA M A') ∧ tpM (fdG a b c (m + 1) k t) (m_wA M A') ∧ (∀ x, x ≠ 128 → x ≠ 129 → A' x = m_I M x) ∧ ∀ j, j ≠ 0 → j ≠ 1 → A' 128 j = m_I M 128 j := by
      intro A2 t2 ht2 hc2 hA2 hA20
      rw [nI_1]
      show ∃ A', _ = some (nI (fdG a b c m (k + 1) (apT t (byN (gW a b c k) (k % 8)))).1, m_wA M A') ∧ tpM (fdG a b c m (k + 1) (apT t (byN (gW a b c k) (k % 8)))) (m_wA M A') ∧ _
      rw [← ht2]
      exact ih (k + 1) f A2 t2 (by omega) (by omega) (by rw [ht2]; exact apT_ok ht) hc2 hA2 hA20
    have k1 : ∃ A', k39 128 a b c (nI k) (gW a b c k) (m_wA M A) = some (nI (fdG a b c (m + 1) k t).1, m_wA M A') ∧ tpM (fdG a b c (m + 1) k t) (m_wA M A') ∧ (∀ x, x ≠ 128 → x ≠ 129 → A' x = m_I M x) ∧ ∀ j, j ≠ 0 → j ≠ 1 → A' 128 j = m_I M 128 j := by
      rw [h39]
      dsimp only
      refine m_let_P (fun o => ∃ A', o = some (nI (fdG a b c (m + 1) k t).1, m_wA M A') ∧ tpM (fdG a b c (m + 1) k t) (m_wA M A') ∧ (∀ x, x ≠ 128 → x ≠ 129 → A' x = m_I M x) ∧ ∀ j, j ≠ 0 → j ≠ 1 → A' 128 j = m_I M 128 j) ?_
      intro k114 h114
      have ht1 := ht.1
      rw [and7 k (by omega), byM _ (by omega), m_let_eq, x_gI_ok (K0 _), hc.1]
      by_cases q : t.1 < 1000
      · rw [if_neg (show ¬ (1000 : Int32) ≤ nI t.1 from nI_ge (b := 1000) q (by omega))]
        refine m_let_P (fun o => ∃ A', o = some (nI (fdG a b c (m + 1) k t).1, m_wA M A') ∧ tpM (fdG a b c (m + 1) k t) (m_wA M A') ∧ (∀ x, x ≠ 128 → x ≠ 129 → A' x = m_I M x) ∧ ∀ j, j ≠ 0 → j ≠ 1 → A' 128 j = m_I M 128 j) ?_
        intro k93 h93
        have put : fit (byN (gW a b c k) (k % 8)) = true → ∃ A', k93 128 a b c (nI k) (nI (byN (gW a b c k) (k % 8))) (m_wA M A) = some (nI (fdG a b c (m + 1) k t).1, m_wA M A') ∧ tpM (fdG a b c (m + 1) k t) (m_wA M A') ∧ (∀ x, x ≠ 128 → x ≠ 129 → A' x = m_I M x) ∧ ∀ j, j ≠ 0 → j ≠ 1 → A' 128 j = m_I M 128 j := by
          intro hfit
          have hc1 : A 128 1 = nI t.1 := hc.1
          rw [h93]
          dsimp only
          rw [x_gN_ok (K0 _) (R2 _), x_gI_ok (K0 _), hc.1, x_sI_ok (K129 _) (by rw [L129]; omega) (by omega), wA_s, x_gI_ok (K0 _), wA_I, up_at, if_neg (by omega), hc1, nI_1, x_pI_ok (K0 _), wA_s, h114]
          dsimp only
          rw [m_let_eq]
          refine go _ (t.1 + 1, fun i => if i = t.1 then byN (gW a b c k) (k % 8) else t.2 i) (by unfold apT; rw [if_pos ⟨q, hfit⟩]) ⟨?_, fun i hi => ?_⟩ (fun x h0 h1 => by rw [up_fr h0, up_fr h1]; exact hA x h0 h1) (fun j h0 h1 => by rw [up_at, if_neg (fun z => h1 z.2), up_at, if_neg (by omega)]; exact hA0 j h0 h1)
          · rw [wA_I, up_at, if_pos ⟨rfl, rfl⟩]
          · have hi' : i < t.1 + 1 := hi
            rw [wA_I, up_at, if_neg (by omega), up_at]
            dsimp only
            by_cases e : i = t.1
            · rw [if_pos ⟨rfl, e⟩, if_pos e]
            · rw [if_neg (fun z => e z.2), if_neg e]
              exact hc.2 i (by omega)
        have skip : fit (byN (gW a b c k) (k % 8)) = false → ∃ A', k114 128 a b c (nI k) (m_wA M A) = some (nI (fdG a b c (m + 1) k t).1, m_wA M A') ∧ tpM (fdG a b c (m + 1) k t) (m_wA M A') ∧ (∀ x, x ≠ 128 → x ≠ 129 → A' x = m_I M x) ∧ ∀ j, j ≠ 0 → j ≠ 1 → A' 128 j = m_I M 128 j := by
          intro hfit
          rw [h114]
          dsimp only
          rw [m_let_eq]
          exact go A t (by unfold apT; rw [if_neg (fun z => by rw [hfit] at z; simp at z)]) hc hA hA0
        by_cases q10 : byN (gW a b c k) (k % 8) = 10
        · rw [if_pos (show nI (byN (gW a b c k) (k % 8)) = (10 : Int32) from by rw [q10]; rfl)]
          exact put (by unfold fit; rw [decide_eq_true q10]; rfl)
        · rw [if_neg (show ¬ nI (byN (gW a b c k) (k % 8)) = (10 : Int32) from fun z => q10 ((nI_eq (b := 10) (by omega) (by omega)).mp z))]
          by_cases q32 : byN (gW a b c k) (k % 8) < 32
          · rw [if_pos (show nI (byN (gW a b c k) (k % 8)) < (32 : Int32) from nI_lt (b := 32) q32 (by omega))]
            exact skip (by unfold fit; rw [decide_eq_false q10, decide_eq_false (p := 32 ≤ byN (gW a b c k) (k % 8)) (by omega)]; rfl)
          · rw [if_neg (show ¬ nI (byN (gW a b c k) (k % 8)) < (32 : Int32) from nI_nlt (b := 32) (by omega) (by omega))]
            by_cases q126 : 126 < byN (gW a b c k) (k % 8)
            · rw [if_pos (show (126 : Int32) < nI (byN (gW a b c k) (k % 8)) from nI_lt (a := 126) q126 (by omega))]
              exact skip (by unfold fit; rw [decide_eq_false q10, decide_eq_false (p := byN (gW a b c k) (k % 8) ≤ 126) (by omega), Bool.and_false]; rfl)
            · rw [if_neg (show ¬ (126 : Int32) < nI (byN (gW a b c k) (k % 8)) from nI_nlt (a := 126) (by omega) (by omega))]
              exact put (by unfold fit; rw [decide_eq_true (p := 32 ≤ byN (gW a b c k) (k % 8)) (by omega), decide_eq_true (p := byN (gW a b c k) (k % 8) ≤ 126) (by omega)]; simp)
      · rw [if_pos (show (1000 : Int32) ≤ nI t.1 from nI_le (a := 1000) (by omega) (by omega)), h114]
        dsimp only
        rw [m_let_eq]
        exact go A t (by unfold apT; rw [if_neg (fun z => q z.1)]) hc hA hA0
    by_cases q8 : k < 8
    · rw [show gW a b c k = a from if_pos q8] at k1
      rw [if_neg (show ¬ (8 : Int32) ≤ nI k from nI_ge (b := 8) q8 (by omega))]
      exact k1
    · rw [if_pos (show (8 : Int32) ≤ nI k from nI_le (a := 8) (by omega) (by omega))]
      by_cases q16 : k < 16
      · rw [show gW a b c k = b from by unfold gW; rw [if_neg q8, if_pos q16]] at k1
        rw [if_neg (show ¬ (16 : Int32) ≤ nI k from nI_ge (b := 16) q16 (by omega))]
        exact k1
      · rw [show gW a b c k = c from by unfold gW; rw [if_neg q8, if_neg q16]] at k1
        rw [if_pos (show (16 : Int32) ≤ nI k from nI_le (a := 16) (by omega) (by omega))]
        exact k1
theorem hiK_wA {A : IA} (hA : ∀ x, 178 ≤ x → A x = m_I M x) : hiK M (m_wA M A) := ⟨Nat.le_refl _, fun b hb _ => ⟨rfl, hA b hb, rfl, rfl⟩⟩
/-- another tape -/
def stTp (s : St) (t : Tp) : St := (t, s.2.1, s.2.2.1, s.2.2.2.1, s.2.2.2.2)
theorem CI.tape {A : IA} {t : Tp} (hc : CI s M) (ht : tpC t (m_wA M A)) (hA : ∀ a, a ≠ 0 → a ≠ 1 → A a = m_I M a) : CI (stTp s t) (m_wA M A) := by
  obtain ⟨c0, c1, c2, c3, c4⟩ := hc
  have hh : hiK M (m_wA M A) := hiK_wA (fun x hx => hA x (by omega) (by omega))
  refine ⟨⟨c0.1.cong (fun a h1 h2 => hA a (by omega) (by omega)), c0.2.1, c0.2.2⟩, ht, c2.congr hh (fun _ => ⟨rfl, rfl⟩) (hA _ (by omega) (by omega)) rfl rfl rfl (hA _ (by omega) (by omega)), ⟨c3.1, by rw [wA_I, hA 80 (by omega) (by omega)]; exact c3.2.1, fun j hj => ?_⟩, fun i hi => ⟨by rw [wA_I, hA 89 (by omega) (by omega)]; exact (c4 i hi).1, fun b hb => ((c4 i hi).2 b hb).congr hh (fun _ => ⟨rfl, rfl⟩) (hA _ (by omega) (by omega)) rfl rfl rfl (hA _ (by omega) (by omega))⟩⟩
  rw [wA_I, hA 85 (by omega) (by omega), hA 86 (by omega) (by omega)]
  exact (c3.2.2 j hj).hi hh
theorem BkM.cgr {l : Ld} {b : Bk} {r : Nat} {A A' : IA} {B B' : Nat → Nat → Int64} (h : BkM l b r A B) (f : ∀ a, 156 ≤ a → a < 168 → A' a = A a) (g : ∀ a, 156 ≤ a → a < 168 → B' a = B a) : BkM l b r A' B' := by
  obtain ⟨b1, b2, b3⟩ := h
  refine ⟨b1.congr (f _ (by omega) (by omega)) (f _ (by omega) (by omega)) (f _ (by omega) (by omega)) (g _ (by omega) (by omega)) (g _ (by omega) (by omega)) (g _ (by omega) (by omega)), ?_, ?_⟩
  · rw [f 163 (by omega) (by omega), g 162 (by omega) (by omega)]; exact b2
  · rw [f 167 (by omega) (by omega), f 164 (by omega) (by omega), f 165 (by omega) (by omega), f 166 (by omega) (by omega)]; exact b3
theorem MI.tape {A : IA} {t : Tp} (hm : MI s M) (ht : tpM t (m_wA M A)) (hA : ∀ a, 130 ≤ a → a < 143 ∨ 155 < a → A a = m_I M a) (hA0 : ∀ k, k = 42 ∨ k = 43 ∨ k = 52 ∨ k = 53 → A 128 k = m_I M 128 k) : MI (stTp s t) (m_wA M A) := by
  obtain ⟨⟨m0, m1⟩, _, ⟨m4, m5⟩, ⟨m6, m7⟩, m8⟩ := hm
  have f : ∀ a, 156 ≤ a → a < 168 → A a = m_I M a := fun a h1 h2 => hA a (by omega) (by omega)
  refine ⟨⟨m0.cong (fun a h1 h2 => hA a (by omega) (by omega)) (hA0 42 (by omega)) (hA0 43 (by omega)), m1⟩, ht, ⟨m4.cgr f (fun _ _ _ => rfl), by rw [wA_I, hA0 53 (by omega)]; exact m5⟩, ⟨by rw [wA_I, hA0 52 (by omega)]; exact m6, fun j hj => (m7 j hj).congr (f _ (by omega) (by omega)) (f _ (by omega) (by omega)) (f _ (by omega) (by omega)) rfl rfl rfl⟩, fun i hi => ⟨by rw [wA_I, hA 169 (by omega) (by omega)]; exact (m8 i hi).1, fun b hb => ⟨((m8 i hi).2 b hb).1.cgr f (fun _ _ _ => rfl), by rw [wA_I, hA 168 (by omega) (by omega)]; exact ((m8 i hi).2 b hb).2⟩⟩⟩
theorem W_feed (a b c : Int64) (hp : PI s) (hd : dB D s) : WO D s (F_X11_feed 0 a b c) (F_X12_feed 128 a b c) := by
  have ht : tpOk s.1 := hp.2.1
  have ht3 : tpOk (fd3 a b c s.1) := fdT_ok _ _ _ _ (fdT_ok _ _ _ _ (fdT_ok _ _ _ _ ht))
  obtain ⟨t3, h3⟩ : ∃ t3, fd3 a b c s.1 = t3 := ⟨_, rfl⟩
  rw [h3] at ht3
  refine ⟨nI t3.1, stTp s t3, ⟨hp.1, ht3, hp.2.2⟩, ⟨by have := hd.1; show s.2.2.1.1 ≤ _; omega, fun i hi b hb => by have := hd.2 i hi b hb; omega⟩, fun M hG _ hc hk _ => ?_, fun M hG _ hm => ?_⟩
  · obtain ⟨A', e, e1, e2, e3⟩ := C_feed hG a b c ht hc.2.1
    rw [h3] at e e1
    exact ⟨_, e, hc.tape e1 e2, ⟨hG, fun x h1 h2 => ⟨e2 x (by omega) (by omega), rfl⟩⟩, by show m_N M ≤ m_N M + 8; omega, hk.same rfl rfl⟩
  · have K : m_K M 128 = 10 := by simp only [gK hG]
    obtain ⟨A0, hA0, hA1⟩ : ∃ A0, m_sI M 128 0 (0 : Int32) = m_wA M A0 ∧ A0 = m_up (m_I M) 128 0 0 := ⟨_, rfl, rfl⟩
    have f1 : ∀ x, x ≠ 128 → A0 x = m_I M x := fun x h1 => by rw [hA1]; exact up_fr h1
    have f2 : ∀ j, j ≠ 0 → A0 128 j = m_I M 128 j := fun j h0 => by rw [hA1, up_at, if_neg (fun z => h0 z.2)]
    clear hA1
    have ht0 : tpM s.1 (m_wA M A0) := ⟨by rw [wA_I, f2 1 (by omega)]; exact hm.2.1.1, fun i hi => by rw [wA_I, f1 129 (by omega)]; exact hm.2.1.2 i hi⟩
    obtain ⟨A', e, e1, e2, e3⟩ := M_feed_l hG a b c 24 0 m_FU A0 s.1 (by omega) (m_FU_lt (by omega)) ht ht0 (fun x h1 h2 => f1 x h1) (fun j h0 h1 => f2 j h0)
    rw [fdG_all, h3] at e e1
    refine ⟨_, ?_, hm.tape e1 (fun x h1 h2 => e2 x (by omega) (by omega)) (fun k hk => e3 k (by omega) (by omega)), ⟨hG, rfl, rfl, fun x hx => ⟨e2 x (by omega) (by omega), rfl⟩⟩⟩
    unfold F_X12_feed
    rw [x_pI_ok K, hA0]
    exact e
end FEED2
