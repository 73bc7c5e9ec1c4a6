/-! a land read: all its lines, both sides -/
def CEnd (T : Nat → Nat) (n : Nat) (o : Nat ⊕ Ld) (v : Int32) (M' : m_M) : Prop := match o with
  | .inl f => v = nI f
  | .inr l' => v = nI 0 ∧ ∃ q' bt, DS T n q' l' none bt M'
def MEnd (T : Nat → Nat) (n : Nat) (o : Nat ⊕ Ld) (v : Int32) (M' : m_M) : Prop := match o with
  | .inl f => v = nI 0 ∧ m_I M' 128 9 = nI f
  | .inr l' => v = nI 1 ∧ ∃ q' bt, MT T n q' l' bt M'
def okE (o : Nat ⊕ Ld) : Prop := match o with
  | .inl f => 0 < f ∧ f < 20000
  | .inr _ => True
def ld0 : Ld := ((fun k => if k = 0 then 2 else if k = 6 then 1 else 0), (fun _ => 0), (fun _ => none), (fun _ => 0), (fun _ => 0), fun _ _ => 0)
/-- the model's ints at a row of lands change alone -/
def plF (M M' : m_M) : Prop := M'.1 = M.1 ∧ m_R M' = m_R M ∧ m_L M' = m_L M ∧ ∀ a, a ≠ 130 → m_I M' a = m_I M a
section JREAD
variable {M M' : m_M} {T : Nat → Nat} {n q : Nat} {l : Ld} {bt : Bool}
theorem J_rest (hn : n ≤ 1000) : ∀ (d q : Nat) (l : Ld) (bt : Bool), q ≤ n → n - q ≤ d → ∃ o : Nat ⊕ Ld, okE o ∧ (∀ i f M, i ≤ q → n - q < f → DS T n q l none bt M → ∃ v M', F_X4_read_31 f 30 (nI i) M = some (v, M') ∧ dcF M M' ∧ CEnd T n o v M') ∧ ∀ f M, n - q < f → MT T n q l (bt, decide (0 < lH l 5)) M → ∃ v M', F_X12_readsAll_67 f 128 M = some (v, M') ∧ dmF M M' ∧ MEnd T n o v M' := by
  intro d
  induction d with
  | zero =>
    intro q l bt hq hd
    have hk : (tokAt T n q).2.2.1 = 0 := by
      obtain ⟨o1, o2, o3, o4, o5, o6, o7, o8⟩ := tok_ok (T := T) q hq
      by_cases z : (tokAt T n q).2.2.1 = 0
      · exact z
      · have := o8 z; omega
    refine ⟨.inr l, trivial, fun i f M hi hf h => ?_, fun f M hf h => ?_⟩
    · obtain ⟨f, rfl⟩ : ∃ f', f = f' + 1 := ⟨f - 1, by omega⟩
      have e4 : m_I M 30 4 = nI (tokAt T n q).2.2.1 := by obtain ⟨_, _, cc, _, h2, _⟩ := h; exact h2.2.2.1.1.2.2.2
      refine ⟨0, M, ?_, dcF.rfl', rfl, q, bt, h⟩
      rw [F_X4_read_31]
      by_cases c : (1000 : Int32) ≤ nI i
      · rw [if_pos c]
      · rw [if_neg c, x_gI_ok h.K, e4, hk, if_pos (show nI 0 = (0 : Int32) from rfl)]
    · obtain ⟨f, rfl⟩ : ∃ f', f = f' + 1 := ⟨f - 1, by omega⟩
      have e6 : m_I M 128 6 = nI (tkM (tokAt T n q).2.2.1) := by obtain ⟨_, _, c, _, g, hx, ht, _⟩ := h; exact ht.1.2.2.2
      refine ⟨1, M, ?_, dmF.rfl', rfl, q, _, h⟩
      rw [F_X12_readsAll_67, x_gI_ok h.K, e6, hk, if_pos (show nI (tkM 0) = (0 : Int32) from rfl)]
  | succ d ih =>
    intro q l bt hq hd
    by_cases hk : (tokAt T n q).2.2.1 = 0
    · refine ⟨.inr l, trivial, fun i f M hi hf h => ?_, fun f M hf h => ?_⟩
      · obtain ⟨f, rfl⟩ : ∃ f', f = f' + 1 := ⟨f - 1, by omega⟩
        have e4 : m_I M 30 4 = nI (tokAt T n q).2.2.1 := by obtain ⟨_, _, cc, _, h2, _⟩ := h; exact h2.2.2.1.1.2.2.2
        refine ⟨0, M, ?_, dcF.rfl', rfl, q, bt, h⟩
        rw [F_X4_read_31]
        by_cases c : (1000 : Int32) ≤ nI i
        · rw [if_pos c]
        · rw [if_neg c, x_gI_ok h.K, e4, hk, if_pos (show nI 0 = (0 : Int32) from rfl)]
      · obtain ⟨f, rfl⟩ : ∃ f', f = f' + 1 := ⟨f - 1, by omega⟩
        have e6 : m_I M 128 6 = nI (tkM (tokAt T n q).2.2.1) := by obtain ⟨_, _, c, _, g, hx, ht, _⟩ := h; exact ht.1.2.2.2
        refine ⟨1, M, ?_, dmF.rfl', rfl, q, _, h⟩
        rw [F_X12_readsAll_67, x_gI_ok h.K, e6, hk, if_pos (show nI (tkM 0) = (0 : Int32) from rfl)]
    · obtain ⟨t1, t2, t3⟩ := tok_lt hq hk
      have h4 := tok_4 (T := T) hq
      obtain ⟨o, bt', g, hc, hm⟩ := J_line hn hq hk l bt
      have pc : ∀ i f M, i ≤ q → DS T n q l none bt M → F_X4_read_31 (f + 1) 30 (nI i) M = x_cV 4 M 30 (F_X4_readLine 30 M) fun v4 M1 => if v4 = 0 then (x_gI 4 M1 30 9 fun v6 => some (v6, M1)) else m_let (nI i + (1 : Int32)) fun v5 => F_X4_read_31 f 30 v5 M1 := by
        intro i f M hi h
        have e4 : m_I M 30 4 = nI (tokAt T n q).2.2.1 := by obtain ⟨_, _, cc, _, h2, _⟩ := h; exact h2.2.2.1.1.2.2.2
        rw [F_X4_read_31, if_neg (show ¬ (1000 : Int32) ≤ nI i from nI_ge (b := 1000) (by omega) (by omega)), x_gI_ok h.K, e4, if_neg (show ¬ nI (tokAt T n q).2.2.1 = (0 : Int32) from fun z => hk ((nI_eq (b := 0) (by omega) (by omega)).mp z))]
      obtain ⟨tk1, tk2, tk3, tk4, tk5⟩ := tkM_n h4
      have pm : ∀ f M, MT T n q l (bt, decide (0 < lH l 5)) M → ∃ v M1, lnM T n bt' o M ∧ dmF M M1 ∧ (F_X12_readsAll_67 (f + 1) 128 M = if v = 0 then some ((0 : Int32), M1) else F_X12_readsAll_67 f 128 M1) ∧ match o with | .inl f => v = nI 0 ∧ m_I M1 128 9 = nI f | .inr (q', l') => v = nI 1 ∧ MT T n q' l' (bt', decide (0 < lH l' 5)) M1 := by
        intro f M h
        have e6 : m_I M 128 6 = nI (tkM (tokAt T n q).2.2.1) := by obtain ⟨_, _, c, _, g, hx, ht, _⟩ := h; exact ht.1.2.2.2
        have hl := hm M h
        obtain ⟨v, M1, a1, a2, a3⟩ := hl
        refine ⟨v, M1, hm M h, a2, ?_, ?_⟩
        · rw [F_X12_readsAll_67, x_gI_ok h.K, e6, if_neg (show ¬ nI (tkM (tokAt T n q).2.2.1) = (0 : Int32) from fun z => hk (tk4.mp ((nI_eq (b := 0) (by omega) (by omega)).mp z)))]
          refine m_let_e ?_
          intro K hK
          refine (a1 K).trans ?_
          rw [hK]
        · cases o <;> exact a3
      cases o with
      | inl fl =>
        refine ⟨.inl fl, g, fun i f M hi hf h => ?_, fun f M hf h => ?_⟩
        · obtain ⟨f, rfl⟩ : ∃ f', f = f' + 1 := ⟨f - 1, by omega⟩
          obtain ⟨v, M1, a1, a2, a3, a4⟩ := hc M h
          refine ⟨nI fl, M1, ?_, a2, rfl⟩
          have K1 : m_K M1 30 = 4 := by rw [show m_K M1 30 = m_K M 30 by unfold m_K m_N m_T; rw [a2.1]]; exact h.K
          rw [pc i f M hi h, x_cV_ok h.K a1, a3, if_pos (by decide), x_gI_ok K1, a4]
        · obtain ⟨f, rfl⟩ : ∃ f', f = f' + 1 := ⟨f - 1, by omega⟩
          obtain ⟨v, M1, _, a2, a3, a4, a5⟩ := pm f M h
          exact ⟨0, M1, by rw [a3, a4, if_pos (by decide)], a2, rfl, a5⟩
      | inr a =>
        obtain ⟨q', l'⟩ := a
        obtain ⟨⟨g1, g2⟩, _⟩ := g
        have g1 : q + 1 ≤ q' := g1
        have g2 : q' ≤ n := g2
        obtain ⟨o', u1, u2, u3⟩ := ih q' l' bt' g2 (by omega)
        refine ⟨o', u1, fun i f M hi hf h => ?_, fun f M hf h => ?_⟩
        · obtain ⟨f, rfl⟩ : ∃ f', f = f' + 1 := ⟨f - 1, by omega⟩
          obtain ⟨v, M1, a1, a2, a3, a4⟩ := hc M h
          obtain ⟨w, M2, b1, b2, b3⟩ := u2 (i + 1) f M1 (by omega) (by omega) a4
          refine ⟨w, M2, ?_, a2.trans b2, b3⟩
          rw [pc i f M hi h, x_cV_ok h.K a1, a3, if_neg (by decide), m_let_eq, nI_1]
          exact b1
        · obtain ⟨f, rfl⟩ : ∃ f', f = f' + 1 := ⟨f - 1, by omega⟩
          obtain ⟨v, M1, _, a2, a3, a4, a5⟩ := pm f M h
          obtain ⟨w, M2, b1, b2, b3⟩ := u3 f M1 (by omega) a5
          exact ⟨w, M2, by rw [a3, a4, if_neg (by decide)]; exact b1, a2.trans b2, b3⟩
theorem lOk_0 : lOk ld0 := by
  refine ⟨⟨by decide, by decide⟩, by decide, by decide, by decide, by decide, by decide, by decide, fun _ => by show 0 ≤ 99; omega, fun _ => by show 0 ≤ 99; omega, fun _ _ z => (by cases z), fun _ _ _ _ _ _ => rfl, fun _ _ _ _ _ => rfl⟩
theorem S_empty (h : G M) : ∃ M', F_X3_empty 16 M = some ((), M') ∧ m_R M' = m_R M ∧ dcF M M' ∧ (m_I M' 16 0 = nI 2 ∧ m_I M' 16 1 = nI 1 ∧ m_I M' 16 2 = nI 0 ∧ m_I M' 16 5 = nI 0) ∧ (∀ k, k < 4 → m_I M' 17 k = nI 0) ∧ ∀ k, k < 18 → m_I M' 20 k = nI 0 := by
  have K16 : ∀ A, m_K (m_wA M A) 16 = 3 := fun A => by simp only [wA_K, gK h]
  have R6 : ∀ A, m_R (m_wA M A) 16 6 = some 17 := fun A => by simp only [wA_R, gR h]
  have K17 : ∀ A, m_K (m_wA M A) 17 = 12 := fun A => by simp only [wA_K, gK h]
  have L17 : ∀ A, m_len (m_wA M A) 17 = 4 := fun A => by simp only [wA_n, gl h]
  have wA_sI : ∀ (A : IA) (a k : Nat) (v : Int32), m_sI (m_wA M A) a k v = m_wA M (m_up A a k v) := fun _ _ _ _ => rfl
  unfold F_X3_empty
  rw [x_pI_ok (by simp only [gK h]), show ∀ v, m_sI M 16 0 v = m_wA M (m_up (m_I M) 16 0 v) from fun _ => rfl, x_pI_ok (K16 _), wA_sI, x_pI_ok (K16 _), wA_sI, x_pI_ok (K16 _), wA_sI, x_gN_ok (K16 _) (R6 _), x_bd_ok (S_fillI (N := 4) (by omega) 0 (K17 _) (L17 _))]
  obtain ⟨A, hA⟩ : ∃ A, A = (fun b j => if b = 17 then (if j < 4 then (0 : Int32) else m_up (m_up (m_up (m_up (m_I M) 16 0 2) 16 1 1) 16 2 0) 16 5 0 17 j) else m_up (m_up (m_up (m_up (m_I M) 16 0 2) 16 1 1) 16 2 0) 16 5 0 b j) := ⟨_, rfl⟩
  have eA : m_wI (m_wA M (m_up (m_up (m_up (m_up (m_I M) 16 0 2) 16 1 1) 16 2 0) 16 5 0)) 17 (fun j => if j < 4 then (0 : Int32) else m_I (m_wA M (m_up (m_up (m_up (m_up (m_I M) 16 0 2) 16 1 1) 16 2 0) 16 5 0)) 17 j) = m_wA M A := by rw [hA]; rfl
  rw [eA, x_gN_ok (K16 _) (show m_R (m_wA M A) 16 9 = some 20 by simp only [wA_R, gR h]), x_bd_ok (S_fillI (N := 18) (by omega) 0 (show m_K (m_wA M A) 20 = 12 by simp only [wA_K, gK h]) (by simp only [wA_n, gl h]))]
  refine ⟨_, rfl, rfl, ⟨rfl, fun a ha => ?_, fun _ _ _ => rfl, fun _ _ => rfl, fun _ _ => rfl⟩, ?_, ?_, ?_⟩
  · funext j
    rw [mI_wI, if_neg (by omega), wA_I, hA]
    dsimp only
    rw [if_neg (by omega), up_fr (by omega), up_fr (by omega), up_fr (by omega), up_fr (by omega)]
  · have e : ∀ k, m_I (m_wI (m_wA M A) 20 (fun j => if j < 18 then (0 : Int32) else m_I (m_wA M A) 20 j)) 16 k = m_up (m_up (m_up (m_up (m_I M) 16 0 2) 16 1 1) 16 2 0) 16 5 0 16 k := fun k => by
      rw [mI_wI, if_neg (by omega), wA_I, hA]
      dsimp only
      rw [if_neg (by omega)]
    refine ⟨?_, ?_, ?_, ?_⟩
    · rw [e]; rfl
    · rw [e]; rfl
    · rw [e]; rfl
    · rw [e]; rfl
  · intro k hk
    rw [mI_wI, if_neg (by omega), wA_I, hA]
    dsimp only
    rw [if_pos rfl, if_pos hk]
    rfl
  · intro k hk
    rw [mI_wI, if_pos rfl, if_pos hk]
    rfl
theorem nuO_lo {lo hi x q' : Nat} (h : nuO T n lo hi q = .inr (x, q')) : lo ≤ x ∧ x ≤ hi := by
  unfold nuO at h
  split at h
  · split at h
    · rename_i c; cases h; exact c
    · cases h
  · cases h
/-- places, and the lines after them -/
def plO (T : Nat → Nat) (n : Nat) : Nat ⊕ (Nat × Ld) := sB (wdO T n 235981828 0) fun q1 => sB (nuO T n 2 4 q1) fun b => sB (clO T n b.2) fun q5 => .inr (q5, ldH ld0 0 b.1)
theorem C_places (h : DS T n 0 ld0 none false M) (hn : n ≤ 1000) : CRes T n none false (plO T n) (F_X4_readPlaces 30 M) M := by
  unfold F_X4_readPlaces plO
  obtain ⟨v, M1, a1, a2, a3⟩ := h.passW hn (j := 0) (by omega)
  have ek : k_wl.getD 0 0 = 235981828 := rfl
  rw [ek] at a3
  rw [x_cV_ok h.K a1]
  cases hw : wdO T n 235981828 0 with
  | inl f =>
    rw [hw] at a3
    rw [a3.1, if_pos (by decide), sB_l]
    exact ⟨0, M1, rfl, a2, rfl, a3.2⟩
  | inr q1 =>
    rw [hw] at a3
    obtain ⟨hv, hD⟩ := a3
    rw [hv, if_neg (by decide), sB_r]
    refine CRes.tr ?_ a2
    obtain ⟨w, M2, b1, b2, b3⟩ := hD.num hn (lo := 2) (hi := 4) (by omega) (by omega)
    rw [x_cV_ok hD.K (show F_X8_passNumber 4 30 (2 : Int32) (4 : Int32) M1 = _ from b1)]
    cases hw2 : nuO T n 2 4 q1 with
    | inl f =>
      rw [hw2] at b3
      rw [b3.1, if_pos (by decide), sB_l]
      exact ⟨0, M2, rfl, b2, rfl, b3.2⟩
    | inr b =>
      obtain ⟨x, q2⟩ := b
      rw [hw2] at b3
      obtain ⟨hx, hx4, hD2⟩ := b3
      have hx2 := (nuO_lo hw2).1
      obtain ⟨R10, K16, _⟩ := dr_cells hD2.g
      rw [hx, if_neg (show ¬ nI x = (-1 : Int32) from fun z => by rw [no_1, nat_no (by omega)] at z; exact z), sB_r, x_gN_ok hD2.K R10, x_pI_ok K16]
      have hD3 : DS T n q2 (ldH ld0 0 x) none false (m_sI M2 16 0 (nI x)) := by
        obtain ⟨hq, ho, cc, hcc, hE, hD, hb⟩ := hD2
        refine ⟨hq, lOk_p lOk_0 hx2 hx4, cc, hcc, hE.wI (by omega) (by omega) (by omega) (by omega), ?_, by rw [sI_ne (by omega)]; exact hb⟩
        obtain ⟨⟨d1, d1', d1''⟩, d2, d3, d4, d5, d6, d7, d8, d9⟩ := hD
        have s : ∀ a, a ≠ 16 → m_I (m_sI M2 16 0 (nI x)) a = m_I M2 a := fun a ha => sI_ne ha
        have s16 : ∀ k, k ≠ 0 → m_I (m_sI M2 16 0 (nI x)) 16 k = m_I M2 16 k := fun k hk => by rw [mI_sI, if_neg (fun z => hk z.2)]
        refine ⟨⟨by rw [mI_sI, if_pos ⟨rfl, rfl⟩]; rfl, by rw [s16 1 (by omega)]; exact d1', by rw [s16 2 (by omega)]; exact d1''⟩, by rw [s 17 (by omega)]; exact d2, fun t ht => absurd ht (Nat.not_lt_zero _), fun t ht => absurd ht (Nat.not_lt_zero _), by rw [s 20 (by omega)]; exact d5, fun kd hkd i hi => ?_, fun kd w z => (by cases z), fun t ht => absurd ht (Nat.not_lt_zero _), fun t ht => absurd ht (Nat.not_lt_zero _)⟩
        rcases (show kd = 0 ∨ kd = 1 ∨ kd = 2 ∨ kd = 3 by omega) with rfl | rfl | rfl | rfl <;> exact absurd hi (Nat.not_lt_zero _)
      obtain ⟨u, M3, c1, c2, c3⟩ := hD3.passS hn (c := 59) (by omega)
      have f0 : dcF M2 (m_sI M2 16 0 (nI x)) := dcF_wI (by omega)
      rw [x_cV_ok (show m_K (m_sI M2 16 0 (nI x)) 30 = 4 from hD2.K) (show F_X8_pass_ 4 30 (59 : Int32) _ = _ from c1)]
      show CRes T n none false (sB (clO T n q2) fun q5 => .inr (q5, ldH ld0 0 x)) _ M1
      unfold clO
      by_cases s : tkS T 59 (tokAt T n q2) = true
      · rw [if_pos s] at c3
        rw [if_pos s, sB_r, c3.1, x_b1]
        exact ⟨_, M3, rfl, b2.trans (f0.trans c2), rfl, c3.2⟩
      · rw [if_neg s] at c3
        rw [if_neg s, sB_l, c3.1, x_b0]
        exact ⟨_, M3, rfl, b2.trans (f0.trans c2), rfl, c3.2⟩
theorem dcF.g (h : dcF M M') (hG : G M) : G M' := by
  obtain ⟨h1, _, _, h4, h5⟩ := h
  refine ⟨?_, ?_, ?_⟩
  · unfold m_N; rw [h1]; exact hG.1
  · intro i hi; unfold m_T; rw [h1]; exact hG.2.1 i hi
  · intro x hx
    have := hG.2.2 x hx
    by_cases z : x.1 = 30
    · rw [z] at this ⊢
      rw [h5 x.2.1 (by
        have hall : ∀ y ∈ g_Rl, y.1 = 30 → y.2.1 ≠ 8 := by decide +kernel
        exact hall x hx z)]
      exact this
    · rw [h4 x.1 z]; exact this
theorem C_read (hG : G M) (hx : TX T n (m_I M 1)) (hn : n ≤ 1000) : ∃ M', dcF M M' ∧ DS T n 0 ld0 none false M' ∧ F_X4_read 30 (nI n) M = x_cV 4 M' 30 (F_X4_readPlaces 30 M') fun v2 M4 => if v2 = 0 then (x_gI 4 M4 30 9 fun v3 => some (v3, M4)) else F_X4_read_31 m_FU 30 (0 : Int32) M4 := by
  obtain ⟨M1, a1, aR, a2, ⟨a3, a4, a5, a6⟩, a7, a8⟩ := S_empty hG
  have hG1 : G M1 := by
    unfold G m_N m_T
    rw [a2.1, aR]
    exact hG
  have hG2 : G (m_sI M1 30 11 0) := hG1
  have s : ∀ a, a ≠ 30 → m_I (m_sI M1 30 11 0) a = m_I M1 a := fun a ha => sI_ne ha
  have hx2 : TX T n (m_I (m_sI M1 30 11 0) 1) := by rw [s 1 (by omega), a2.2.1 1 (by omega)]; exact hx
  obtain ⟨M3, b1, b2, b3, b4⟩ := S_open (kd := 4) (r := 30) (rd30 hG2).1 hn hx2
  have fI : ∀ a, a ≠ 30 → m_I M3 a = m_I M1 a := fun a ha => by rw [(b3.2.1 a ha).1, s a ha]
  have f03 : dcF M1 M3 := ⟨b3.1, fun a ha => fI a (by omega), fun a _ ha => (b3.2.1 a ha).2.1, fun a ha => (b3.2.1 a ha).2.2, b3.2.2.2.2⟩
  have hG3 : G M3 := f03.g hG1
  refine ⟨M3, a2.trans f03, ⟨Nat.zero_le _, lOk_0, [], Nat.zero_le _, ⟨hG3, by rw [fI 1 (by omega), a2.2.1 1 (by omega)]; exact hx, b2, by rw [fI 16 (by omega)]; exact a6, fun j hj => absurd hj (Nat.not_lt_zero _)⟩, ?_, ?_⟩, ?_⟩
  · refine ⟨⟨by rw [fI 16 (by omega)]; exact a3, by rw [fI 16 (by omega)]; exact a4, by rw [fI 16 (by omega)]; exact a5⟩, fun kd hkd => ?_, fun t ht => absurd ht (Nat.not_lt_zero _), fun t ht => absurd ht (Nat.not_lt_zero _), fun k hk => ?_, fun kd hkd i hi => ?_, fun kd w z => (by cases z), fun t ht => absurd ht (Nat.not_lt_zero _), fun t ht => absurd ht (Nat.not_lt_zero _)⟩
    · rw [fI 17 (by omega), a7 kd hkd]
      rcases (show kd = 0 ∨ kd = 1 ∨ kd = 2 ∨ kd = 3 by omega) with rfl | rfl | rfl | rfl <;> rfl
    · rw [fI 20 (by omega), a8 k hk]
      rfl
    · rcases (show kd = 0 ∨ kd = 1 ∨ kd = 2 ∨ kd = 3 by omega) with rfl | rfl | rfl | rfl <;> exact absurd hi (Nat.not_lt_zero _)
  · rw [b3.2.2.1 11 (by omega), mI_sI, if_pos ⟨rfl, rfl⟩]
    rfl
  · obtain ⟨⟨K30, _⟩, R10, K16, _⟩ := rd30 hG
    have K1 : m_K M1 30 = 4 := (rd30 hG1).1.1
    have K2 : m_K (m_sI M1 30 11 0) 30 = 4 := K1
    have K3 : m_K M3 30 = 4 := (rd30 hG3).1.1
    unfold F_X4_read
    rw [x_gN_ok K30 R10, x_cV_ok K16 a1, x_pI_ok K1, x_cV_ok K2 b1]
/-- the model's start -/
theorem S_plain_l (h : G M) {r : Nat} (hr : r < 2) {K : Nat → Int32 → m_M → Option (Unit × m_M)} : ∀ (d k f : Nat) (M : m_M), k + d = 8 → d < f → G M → ∃ M', F_X12_plain_2 K f 128 (nI r) (nI k) M = K 128 (nI r) M' ∧ plF M M' ∧ ∀ j, m_I M' 130 j = if 8 * r + k ≤ j ∧ j < 8 * r + 8 then nI 0 else m_I M 130 j := by
  intro d
  induction d with
  | zero =>
    intro k f M hk hf hG
    obtain ⟨f, rfl⟩ : ∃ f', f = f' + 1 := ⟨f - 1, by omega⟩
    obtain rfl : k = 8 := by omega
    refine ⟨M, by rw [F_X12_plain_2, if_pos (by decide)], ⟨rfl, rfl, rfl, fun _ _ => rfl⟩, fun j => by rw [if_neg (by omega)]⟩
  | succ d ih =>
    intro k f M hk hf hG
    obtain ⟨f, rfl⟩ : ∃ f', f = f' + 1 := ⟨f - 1, by omega⟩
    have R10 : m_R M 128 10 = some 130 := by simp only [gR hG]
    have K128 : m_K M 128 = 10 := by simp only [gK hG]
    have K130 : m_K M 130 = 12 := by simp only [gK hG]
    have L130 : m_len M 130 = 16 := by simp only [gl hG]
    have hG1 : G (m_sI M 130 (8 * r + k) (nI 0)) := hG
    obtain ⟨M', a1, ⟨a2, a3, a4, a5⟩, a6⟩ := ih (k + 1) f (m_sI M 130 (8 * r + k) (nI 0)) (by omega) (by omega) hG1
    refine ⟨M', ?_, ⟨a2, a3, a4, fun a ha => by rw [a5 a ha, sI_ne ha]⟩, fun j => ?_⟩
    · rw [F_X12_plain_2, if_neg (show ¬ (8 : Int32) ≤ nI k from nI_ge (b := 8) (by omega) (by omega)), x_gN_ok K128 R10, show (8 : Int32) = nI 8 from rfl, nI_mul, nI_add, x_sI_ok K130 (by rw [L130]; omega) (by omega), m_let_eq, nI_1]
      exact a1
    · rw [a6 j, mI_sI]
      by_cases z : j = 8 * r + k
      · rw [if_neg (by omega), if_pos ⟨rfl, z⟩, if_pos (by omega)]
      · have e : (if 130 = 130 ∧ j = 8 * r + k then nI 0 else m_I M 130 j) = m_I M 130 j := if_neg (fun w => z w.2)
        rw [e]
        by_cases y : 8 * r + (k + 1) ≤ j ∧ j < 8 * r + 8
        · rw [if_pos y, if_pos (by omega)]
        · rw [if_neg y, if_neg (by omega)]
theorem S_plain (h : G M) {r : Nat} (hr : r < 2) : ∃ M', F_X12_plain 128 (nI r) M = some ((), M') ∧ plF M M' ∧ ∀ j, m_I M' 130 j = if 8 * r ≤ j ∧ j < 8 * r + 8 then nI (lH ld0 (j - 8 * r)) else m_I M 130 j := by
  unfold F_X12_plain
  refine m_let_P (fun o => ∃ M', o = some ((), M') ∧ plF M M' ∧ ∀ j, m_I M' 130 j = if 8 * r ≤ j ∧ j < 8 * r + 8 then nI (lH ld0 (j - 8 * r)) else m_I M 130 j) ?_
  intro K hK
  obtain ⟨M1, a1, ⟨a2, a3, a4, a5⟩, a6⟩ := S_plain_l (K := K) h hr 8 0 m_FU M (by omega) (m_FU_lt (by omega)) h
  have hG1 : G M1 := by unfold G m_N m_T; rw [a2, a3]; exact h
  have R10 : m_R M1 128 10 = some 130 := by simp only [gR hG1]
  have K128 : m_K M1 128 = 10 := by simp only [gK hG1]
  have K130 : m_K M1 130 = 12 := by simp only [gK hG1]
  have L130 : m_len M1 130 = 16 := by simp only [gl hG1]
  refine ⟨m_sI (m_sI M1 130 (8 * r + 0) (nI 2)) 130 (8 * r + 6) (nI 1), ?_, ⟨a2, a3, a4, fun a ha => by rw [sI_ne ha, sI_ne ha, a5 a ha]⟩, fun j => ?_⟩
  · refine (show _ = _ from a1).trans ?_
    rw [hK]
    dsimp only
    have K128' : m_K (m_sI M1 130 (8 * r + 0) (nI 2)) 128 = 10 := K128
    have R10' : m_R (m_sI M1 130 (8 * r + 0) (nI 2)) 128 10 = some 130 := R10
    have K130' : m_K (m_sI M1 130 (8 * r + 0) (nI 2)) 130 = 12 := K130
    have L130' : m_len (m_sI M1 130 (8 * r + 0) (nI 2)) 130 = 16 := L130
    rw [x_gN_ok K128 R10, show (8 : Int32) = nI 8 from rfl, show (0 : Int32) = nI 0 from rfl, show (6 : Int32) = nI 6 from rfl, show (2 : Int32) = nI 2 from rfl, nI_mul, nI_add, x_sI_ok K130 (by rw [L130]; omega) (by omega), x_gN_ok K128' R10', nI_add, x_sI_ok K130' (by rw [L130']; omega) (by omega)]
    rfl
  · rw [mI_sI, mI_sI, a6 j]
    by_cases z : j = 8 * r + 6
    · rw [if_pos ⟨rfl, z⟩, if_pos (by omega), show j - 8 * r = 6 by omega]
      rfl
    · rw [if_neg (fun w => z w.2)]
      by_cases y : j = 8 * r + 0
      · rw [if_pos ⟨rfl, y⟩, if_pos (by omega), show j - 8 * r = 0 by omega]
        rfl
      · rw [if_neg (fun w => y w.2)]
        by_cases x : 8 * r ≤ j ∧ j < 8 * r + 8
        · rw [if_pos (by omega), if_pos x]
          show nI 0 = nI (if j - 8 * r = 0 then 2 else if j - 8 * r = 6 then 1 else 0)
          rw [if_neg (by omega), if_neg (by omega)]
        · rw [if_neg (by omega), if_neg x]
theorem M_start (hG : G M) (hx : TX T n (m_I M 129)) (hn : n ≤ 1000) (h1 : m_I M 128 1 = nI n) : ∃ M', dmF (m_sI M 128 1 (nI 0)) M' ∧ MT T n 0 ld0 (false, false) M' ∧ F_X12_readsAll 128 M = x_cV 10 M' 128 (F_X12_needsWord 128 (235981828 : Int64) M') fun v1 M6 =>
  if v1 = 0 then (
    some ((0 : Int32), M6)
  ) else
  x_cV 10 M6 128 (F_X12_needsNumber 128 (2 : Int32) (4 : Int32) M6) fun v2 M7 =>
  if v2 = 0 then (
    some ((0 : Int32), M7)
  ) else
  x_gN 10 M7 128 10 fun v3 =>
  x_gI 10 M7 128 37 fun v4 =>
  x_sI 12 M7 v3 (8 : Int32) v4 fun M8 =>
  x_cV 10 M8 128 (F_X12_closes 128 M8) fun v5 M9 =>
  if v5 = 0 then (
    some ((0 : Int32), M9)
  ) else
  F_X12_readsAll_67 m_FU 128 M9 := by
  obtain ⟨M1, a1, ⟨a2, a3, a4, a5⟩, a6⟩ := S_plain hG (r := 1) (by omega)
  have hG1 : G M1 := by unfold G m_N m_T; rw [a2, a3]; exact hG
  have K0 : ∀ A, m_K (m_wA M1 A) 128 = 10 := fun A => by simp only [wA_K, gK hG1]
  have wA_sI : ∀ (A : IA) (a k : Nat) (v : Int32), m_sI (m_wA M1 A) a k v = m_wA M1 (m_up A a k v) := fun _ _ _ _ => rfl
  obtain ⟨A, hA⟩ : ∃ A, A = m_up (m_up (m_up (m_up (m_up (m_up (m_I M1) 128 23 0) 128 24 0) 128 21 1000) 128 3 (nI n)) 128 1 0) 128 4 0 := ⟨_, rfl⟩
  have fA : ∀ a, a ≠ 128 → A a = m_I M1 a := fun a ha => by rw [hA, up_fr ha, up_fr ha, up_fr ha, up_fr ha, up_fr ha, up_fr ha]
  have oA : ∀ k, k ≠ 23 → k ≠ 24 → k ≠ 21 → k ≠ 3 → k ≠ 1 → k ≠ 4 → A 128 k = m_I M 128 k := fun k h1 h2 h3 h4 h5 h6 => by
    rw [hA, up_at, if_neg (fun z => h6 z.2), up_at, if_neg (fun z => h5 z.2), up_at, if_neg (fun z => h4 z.2), up_at, if_neg (fun z => h3 z.2), up_at, if_neg (fun z => h2 z.2), up_at, if_neg (fun z => h1 z.2), a5 128 (by omega)]
  have A1 : A 128 1 = nI 0 := by rw [hA]; rfl
  have A3 : A 128 3 = nI n := by rw [hA]; rfl
  have A4 : A 128 4 = nI 0 := by rw [hA]; rfl
  have A21 : A 128 21 = nI 1000 := by rw [hA]; rfl
  have A23 : A 128 23 = nI 0 := by rw [hA]; rfl
  have A24 : A 128 24 = nI 0 := by rw [hA]; rfl
  have hG2 : G (m_wA M1 A) := hG1
  have hx2 : TX T n (m_I (m_wA M1 A) 129) := by rw [wA_I, fA 129 (by omega), a5 129 (by omega)]; exact hx
  obtain ⟨M3, b1, b2, b3, b4⟩ := S_next hG2 hn hx2 (q := 0) (Nat.zero_le _) A3 A4
  have hG3 : G M3 := b3.g hG2
  have cI : ∀ a, a ≠ 128 → m_I M3 a = m_I M1 a := fun a ha => by rw [(b3.2.2.1 a ha).1, wA_I, fA a ha]
  have cJ : ∀ k, 9 < k → m_I M3 128 k = A 128 k := fun k hk => by rw [b3.2.2.2.1 k (by omega), wA_I]
  refine ⟨M3, ⟨b3.1.trans a2, b3.2.1.trans a3, fun a h1 h2 _ => by rw [cI a h1, a5 a h2, sI_ne h1], fun k hk => ?_, fun k hk => ?_, ⟨fun k _ => by rw [cI 135 (by omega), a5 135 (by omega), sI_ne (by omega)], fun k _ => by rw [cI 136 (by omega), a5 136 (by omega), sI_ne (by omega)], fun k _ => by rw [cI 137 (by omega), a5 137 (by omega), sI_ne (by omega)], fun k _ => ⟨by rw [cI 138 (by omega), a5 138 (by omega), sI_ne (by omega)], by rw [cI 139 (by omega), a5 139 (by omega), sI_ne (by omega)]⟩, fun k _ => by rw [cI 140 (by omega), a5 140 (by omega), sI_ne (by omega)]⟩, fun a h1 _ => ?_, fun k hk => ?_, fun k _ => ?_, fun k _ => ?_, fun k _ => ?_⟩, ⟨Nat.zero_le _, ⟨lOk_0, fun _ _ => rfl⟩, 0, Nat.le_refl _, hG3, by rw [cI 129 (by omega), a5 129 (by omega)]; exact hx, b2, by rw [cJ 21 (by omega)]; exact A21, ?_, by rw [cJ 23 (by omega)]; exact A23, by rw [cJ 24 (by omega)]; exact A24⟩, ?_⟩
  · rw [b3.2.2.2.1 k (by omega), wA_I, mI_sI]
    by_cases z : k = 1
    · rw [if_pos ⟨rfl, z⟩, z, A1]
    · rw [if_neg (fun w => z w.2), oA k (by omega) (by omega) (by omega) (by omega) z (by omega)]
  · rw [cI 130 (by omega), a6 k, if_neg (by omega), sI_ne (by omega)]
  · rw [(b3.2.2.1 a h1).2]
    show m_L M1 a = m_L M a
    rw [a4]
  · rw [b3.2.2.2.2 k hk]
    show m_L M1 128 k = m_L M 128 k
    rw [a4]
  · rw [(b3.2.2.1 131 (by omega)).2]
    show m_L M1 131 k = m_L M 131 k
    rw [a4]
  · rw [(b3.2.2.1 132 (by omega)).2]
    show m_L M1 132 k = m_L M 132 k
    rw [a4]
  · rw [(b3.2.2.1 133 (by omega)).2]
    show m_L M1 133 k = m_L M 133 k
    rw [a4]
  · refine ⟨fun k hk => ?_, fun t ht => absurd ht (Nat.not_lt_zero _), fun t ht => absurd ht (Nat.not_lt_zero _), fun t ht => absurd ht (Nat.not_lt_zero _), ⟨fun t ht => absurd ht (Nat.not_lt_zero _), fun t ht => absurd ht (Nat.not_lt_zero _), fun t ht => absurd ht (Nat.not_lt_zero _), fun t ht => absurd ht (Nat.not_lt_zero _)⟩, fun line hl => ?_⟩
    · rw [cI 130 (by omega), a6 (8 + k), if_pos (by omega), show 8 + k - 8 * 1 = k by omega]
    · rcases hl with z | ⟨_, z⟩
      · exact absurd z (Nat.not_lt_zero _)
      · have z : line < 3 + 0 := z
        omega
  · have K128 : m_K M 128 = 10 := by simp only [gK hG]
    have K1 : m_K M1 128 = 10 := by simp only [gK hG1]
    have es : F_X12_starts 128 (m_wA M1 (m_up (m_up (m_up (m_I M1) 128 23 0) 128 24 0) 128 21 1000)) = some ((), M3) := by
      unfold F_X12_starts
      have p1 : m_up (m_up (m_up (m_I M1) 128 23 0) 128 24 0) 128 21 1000 128 1 = nI n := by
        rw [up_at, if_neg (by omega), up_at, if_neg (by omega), up_at, if_neg (by omega), a5 128 (by omega)]; exact h1
      rw [x_gI_ok (K0 _), wA_I, p1, x_pI_ok (K0 _), wA_sI, x_pI_ok (K0 _), wA_sI, x_pI_ok (K0 _), wA_sI, ← hA, x_cV_ok (K0 _) b1]
    unfold F_X12_readsAll
    rw [x_cV_ok K128 (show F_X12_plain 128 (1 : Int32) M = _ from a1), x_pI_ok K1, show ∀ v, m_sI M1 128 23 v = m_wA M1 (m_up (m_I M1) 128 23 v) from fun _ => rfl, x_pI_ok (K0 _), wA_sI, x_pI_ok (K0 _), wA_sI, x_cV_ok (K0 _) es]
/-- what a land read comes to, on both sides -/
theorem J_read (hn : n ≤ 1000) (T : Nat → Nat) : ∃ o : Nat ⊕ Ld, okE o ∧ (∀ M, G M → TX T n (m_I M 1) → ∃ v M', F_X4_read 30 (nI n) M = some (v, M') ∧ dcF M M' ∧ CEnd T n o v M') ∧ ∀ M, G M → TX T n (m_I M 129) → m_I M 128 1 = nI n → ∃ v M', F_X12_readsAll 128 M = some (v, M') ∧ dmF (m_sI M 128 1 (nI 0)) M' ∧ MEnd T n o v M' := by
  have gp : gO n 0 Prod.fst (fun _ => True) (plO T n) := by
    unfold plO
    refine gO_sB (wdO_g hn (Nat.zero_le _)) (fun q1 b1 b2 _ => ?_)
    refine gO_sB (gO_up (nuO_g hn b2) b1) (fun c c1 c2 _ => ?_)
    refine gO_sB (gO_up (clO_g hn c2) c1) (fun q5 d1 d2 _ => ?_)
    exact ⟨⟨d1, d2⟩, trivial⟩
  -- the model's places
  have mp : ∀ M, G M → TX T n (m_I M 129) → m_I M 128 1 = nI n → ∃ v M', F_X12_readsAll 128 M = (if v = 0 then some ((0 : Int32), M') else F_X12_readsAll_67 m_FU 128 M') ∧ dmF (m_sI M 128 1 (nI 0)) M' ∧ match plO T n with | .inl f => v = nI 0 ∧ m_I M' 128 9 = nI f | .inr (q', l') => v = nI 1 ∧ MT T n q' l' (false, false) M' := by
    intro M hG hx h1
    obtain ⟨M1, a1, a2, a3⟩ := M_start hG hx hn h1
    rw [a3]
    clear a3
    obtain ⟨v, M2, b1, b2, b3⟩ := a2.needsW hn (c := 235981828)
    have f2 := a1.trans b2.dm
    unfold plO
    rw [x_cV_ok a2.K b1]
    cases hw : wdO T n 235981828 0 with
    | inl f =>
      rw [hw] at b3
      rw [b3.1, if_pos (by decide), sB_l]
      exact ⟨0, M2, rfl, f2, rfl, b3.2⟩
    | inr q1 =>
      rw [hw] at b3
      obtain ⟨hv, hD⟩ := b3
      rw [hv, if_neg (by decide), sB_r]
      obtain ⟨w, M3, c1, c2, c3⟩ := hD.num hn (lo := 2) (hi := 4) (by omega) (by omega)
      rw [x_cV_ok hD.K (show F_X12_needsNumber 128 (2 : Int32) (4 : Int32) M2 = _ from c1)]
      have f3 := f2.trans c2.dm
      cases hw2 : nuO T n 2 4 q1 with
      | inl f =>
        rw [hw2] at c3
        rw [c3.1, if_pos (by decide), sB_l]
        exact ⟨0, M3, rfl, f3, rfl, c3.2⟩
      | inr b =>
        obtain ⟨x, q2⟩ := b
        rw [hw2] at c3
        obtain ⟨hw3, hx4, e37, hD2⟩ := c3
        have hx2 := (nuO_lo hw2).1
        obtain ⟨R10, K130, L130⟩ := hD2.c130
        rw [hw3, if_neg (by decide), sB_r, x_gN_ok hD2.K R10, x_gI_ok hD2.K, e37, show (8 : Int32) = nI 8 from rfl, x_sI_ok K130 (by rw [L130]; omega) (by omega)]
        have hD3 : MT T n q2 (ldH ld0 0 x) (false, false) (m_sI M3 130 8 (nI x)) := by
          refine hD2.mk' (M' := m_sI M3 130 8 (nI x)) rfl rfl (sI_ne (by omega)) (fun k _ => by rw [sI_ne (by omega)]) rfl (lOk_p lOk_0 hx2 hx4) (fun _ _ => rfl) (fun c hDM => ?_) (by rw [sI_ne (by omega)]; exact hD2.f23) (by rw [sI_ne (by omega)]; exact hD2.f24)
          refine ⟨fun k hk => ?_, fun t ht => absurd ht (Nat.not_lt_zero _), fun t ht => absurd ht (Nat.not_lt_zero _), fun t ht => absurd ht (Nat.not_lt_zero _), ⟨fun t ht => absurd ht (Nat.not_lt_zero _), fun t ht => absurd ht (Nat.not_lt_zero _), fun t ht => absurd ht (Nat.not_lt_zero _), fun t ht => absurd ht (Nat.not_lt_zero _)⟩, fun line hl => ?_⟩
          · rw [mI_sI, ldH_k]
            by_cases z : k = 0
            · rw [if_pos ⟨rfl, by omega⟩, if_pos z]
            · rw [if_neg (by omega), if_neg z]; exact hDM.1 k hk
          · rcases hl with z | ⟨_, z⟩
            · exact absurd z (Nat.not_lt_zero _)
            · have z : line < 3 + 0 := z
              omega
        have f4 := f3.trans (dmF_I (M := M3) (a := 130) (k := 8) (v := nI x) (by omega))
        have hc := hD3.closeR hn
        obtain ⟨u, M4, d1, d2, d3⟩ := hc
        refine ⟨u, M4, ?_, f4.trans d2, ?_⟩
        · rw [x_cV_ok hD3.K d1]
        · revert d3
          show (match (sB (clO T n q2) fun q5 => (.inr (q5, ldH ld0 0 x) : Nat ⊕ (Nat × Ld))) with | .inl f => _ | .inr (q', l') => _) → (match (sB (clO T n q2) fun q5 => (.inr (q5, ldH ld0 0 x) : Nat ⊕ (Nat × Ld))) with | .inl f => _ | .inr (q', l') => _)
          cases clO T n q2 with
          | inl f => exact fun z => z
          | inr q5 => exact fun z => z
  cases hp : plO T n with
  | inl f =>
    rw [hp] at gp
    refine ⟨.inl f, gp, fun M hG hx => ?_, fun M hG hx h1 => ?_⟩
    · obtain ⟨M1, a1, a2, a3⟩ := C_read hG hx hn
      obtain ⟨v, M2, b1, b2, b3⟩ := C_places a2 hn
      rw [hp] at b3
      have K2 : m_K M2 30 = 4 := by rw [show m_K M2 30 = m_K M1 30 by unfold m_K m_N m_T; rw [b2.1]]; exact a2.K
      exact ⟨nI f, M2, by rw [a3, x_cV_ok a2.K b1, b3.1, if_pos (by decide), x_gI_ok K2, b3.2], a1.trans b2, rfl⟩
    · obtain ⟨v, M1, a1, a2, a3⟩ := mp M hG hx h1
      rw [hp] at a3
      exact ⟨0, M1, by rw [a1, a3.1, if_pos (by decide)], a2, rfl, a3.2⟩
  | inr a =>
    obtain ⟨q', l'⟩ := a
    rw [hp] at gp
    have g2 : q' ≤ n := gp.1.2
    have hl5 : lH l' 5 = 0 := by
      unfold plO at hp
      cases h1 : wdO T n 235981828 0 with
      | inl f => rw [h1] at hp; cases hp
      | inr q1 =>
        rw [h1, sB_r] at hp
        cases h2 : nuO T n 2 4 q1 with
        | inl f => rw [h2] at hp; cases hp
        | inr b =>
          rw [h2, sB_r] at hp
          cases h3 : clO T n b.2 with
          | inl f => rw [h3] at hp; cases hp
          | inr q5 => rw [h3, sB_r] at hp; cases hp; rfl
    obtain ⟨o, u1, u2, u3⟩ := J_rest hn (n - q') q' l' false g2 (Nat.le_refl _)
    refine ⟨o, u1, fun M hG hx => ?_, fun M hG hx h1 => ?_⟩
    · obtain ⟨M1, a1, a2, a3⟩ := C_read hG hx hn
      obtain ⟨v, M2, b1, b2, b3⟩ := C_places a2 hn
      rw [hp] at b3
      obtain ⟨w, M3, c1, c2, c3⟩ := u2 0 m_FU M2 (Nat.zero_le _) (m_FU_lt (by omega)) b3.2
      refine ⟨w, M3, ?_, (a1.trans b2).trans c2, c3⟩
      rw [a3, x_cV_ok a2.K b1, b3.1, if_neg (by decide)]
      exact c1
    · obtain ⟨v, M1, a1, a2, a3⟩ := mp M hG hx h1
      rw [hp] at a3
      have hM := a3.2
      have e : (false, false) = ((false, decide (0 < lH l' 5)) : Bool × Bool) := by rw [hl5]; rfl
      rw [e] at hM
      obtain ⟨w, M2, c1, c2, c3⟩ := u3 m_FU M1 (m_FU_lt (by omega)) hM
      exact ⟨w, M2, by rw [a1, a3.1, if_neg (by decide)]; exact c1, a2.trans c2, c3⟩
end JREAD
