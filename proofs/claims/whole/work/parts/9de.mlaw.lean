/-! a land read: the model's laws -/
def eoR (T : Nat → Nat) (n : Nat) (o : EO) : Nat ⊕ (Nat × List Nat) := match o with
  | .inl f => .inl f
  | .inr (q', _, mc, _) => .inr ((tokAt T n q').2.1, mc)
def eoG (T : Nat → Nat) (n : Nat) (isB : Bool) (q : Nat) (o : EO) : Prop := match o with
  | .inl f => 0 < f ∧ f < 20000
  | .inr (q', cc, mc, V) => (q < q' ∧ q' ≤ n ∧ tkS T 59 (tokAt T n q') = true) ∧ (q + cc.length ≤ q' ∧ q + mc.length ≤ q') ∧ SCl cc V 30 ∧ S0 (ofB isB) mc V 5 ∧ vLoc isB V
section MLAW
variable {M M' : m_M} {T : Nat → Nat} {n q : Nat} {l : Ld} {bt : Bool × Bool} {isB : Bool}
theorem emF.mono {b c : Nat} (h : emF c M M') (hb : b ≤ c) : emF b M M' := ⟨h.1, h.2.1, h.2.2.1, h.2.2.2.1, h.2.2.2.2.1, h.2.2.2.2.2.1, fun j hj => h.2.2.2.2.2.2 j (by omega)⟩
theorem M_lawtail (h : MT T n q l bt M) (hn : n ≤ 1000) {w : Int64} (h22 : m_I M 128 22 = bI isB) (hw : if isB = true then m_L M 132 (3 + lH l 2) = w else m_L M 133 (6 + lH l 3) = w) (hlt : lH l (lwK isB + 1) < mostN (lwK isB)) {o : EO}
    (ho1 : eoG T n isB q o)
    (hm : ∀ b0 M, b0 ≤ 2000 → b0 + (n - q) ≤ 2000 → EMz T n b0 isB q M → EMout T n b0 (eoR T n o) (F_X12_reads 128 M) M) :
    MRes T n bt (lwO T n l isB w o) (x_cV 10 M 128 (F_X12_readsLine 128 (nI (lwI l isB)) M) fun v6 M6 => if v6 = 0 then some ((0 : Int32), M6) else x_gN 10 M6 128 10 fun v7 => x_aI 12 M6 v7 (nI (9 + lwK isB)) fun v8 => x_sI 12 M6 v7 (nI (9 + lwK isB)) (v8 + (1 : Int32)) fun M7 => some ((1 : Int32), M7)) M := by
  have K := h.K
  have f23 := h.f23
  have f24 := h.f24
  obtain ⟨R10, K130, L130⟩ := h.c130
  obtain ⟨hq, ⟨hok, hz⟩, c, hc, g, hx, ht, e21, hD, e23, e24⟩ := h
  have b2 := hok.2.2.1
  have b3 := hok.2.2.2.1
  have hline : lwI l isB < 9 := by unfold lwI; split; omega; cases isB; (have : lH l 3 < 6 := hlt; omega); (exact absurd rfl ‹_›)
  have R18 : m_R M 128 18 = some 138 := by simp only [gR g]
  have K138 : m_K M 138 = 12 := by simp only [gK g]
  have L138 : m_len M 138 = 18 := by simp only [gl g]
  obtain ⟨M1, hM1⟩ : ∃ M1, M1 = m_sI M 138 (9 + lwI l isB) (nI (1000 + c)) := ⟨_, rfl⟩
  have s1 : ∀ a, a ≠ 138 → m_I M1 a = m_I M a := fun a ha => by rw [hM1]; exact sI_ne ha
  have hE : EMz T n (1000 + c) isB q M1 := by
    obtain ⟨⟨t1, t2, t3, t4⟩, t5, t6⟩ := ht
    refine ⟨by rw [hM1]; exact g, by rw [s1 129 (by omega)]; exact hx, ⟨⟨by rw [s1 128 (by omega)]; exact t1, by rw [s1 128 (by omega)]; exact t2, by rw [s1 128 (by omega)]; exact t3, by rw [s1 128 (by omega)]; exact t4⟩, fun z => by rw [hM1]; exact t5 z, fun z => by rw [s1 128 (by omega)]; exact t6 z⟩, by rw [s1 128 (by omega)]; exact e21, by rw [s1 128 (by omega)]; exact h22⟩
  obtain ⟨v, M2, a1, a2, a3⟩ := hm (1000 + c) M1 (by omega) (by omega) hE
  have f1 : dmF M M1 := by rw [hM1]; exact dmF_I (by omega)
  have f2 : dmF M1 M2 := (a2.mono (by omega)).dm
  have rl : F_X12_readsLine 128 (nI (lwI l isB)) M = if v = 0 then some ((0 : Int32), M2) else x_gN 10 M2 128 19 fun v4 => x_gI 10 M2 128 21 fun v5 => x_sI 12 M2 v4 ((9 : Int32) + nI (lwI l isB)) v5 fun M3 => some ((1 : Int32), M3) := by
    unfold F_X12_readsLine
    rw [x_gN_ok K R18, x_gI_ok K, e21, show (9 : Int32) = nI 9 from rfl, nI_add, x_sI_ok K138 (by rw [L138]; omega) (by omega), ← hM1, x_cV_ok (by rw [hM1]; exact K) a1]
  cases o with
  | inl f =>
    obtain ⟨hv, h9⟩ := a3
    rw [hv, if_pos (by decide)] at rl
    rw [x_cV_ok K rl, if_pos rfl]
    exact ⟨0, M2, rfl, f1.trans f2, rfl, h9⟩
  | inr r =>
    obtain ⟨q', cc, mc, V⟩ := r
    obtain ⟨⟨g1, g2, g3⟩, ⟨g4, g5⟩, g6, g7, g8⟩ := ho1
    obtain ⟨hv, h129, hTM, h21, h140⟩ := a3
    have gM2 : G M2 := f2.g (f1.g g)
    have K2 : m_K M2 128 = 10 := by simp only [gK gM2]
    have R19 : m_R M2 128 19 = some 139 := by simp only [gR gM2]
    have K139 : m_K M2 139 = 12 := by simp only [gK gM2]
    have L139 : m_len M2 139 = 18 := by simp only [gl gM2]
    obtain ⟨M3, hM3⟩ : ∃ M3, M3 = m_sI M2 139 (9 + lwI l isB) (nI (1000 + c + mc.length)) := ⟨_, rfl⟩
    have gM3 : G M3 := by rw [hM3]; exact gM2
    have K3 : m_K M3 128 = 10 := by simp only [gK gM3]
    have R103 : m_R M3 128 10 = some 130 := by simp only [gR gM3]
    have K1303 : m_K M3 130 = 12 := by simp only [gK gM3]
    have L1303 : m_len M3 130 = 16 := by simp only [gl gM3]
    rw [hv, if_neg (by decide), x_gN_ok K2 R19, x_gI_ok K2, h21, show (9 : Int32) = nI 9 from rfl, nI_add, x_sI_ok K139 (by rw [L139]; omega) (by omega), ← hM3] at rl
    have hk : lwK isB = 1 ∨ lwK isB = 2 := by cases isB; right; rfl; left; rfl
    have e130 : ∀ k, m_I M3 130 k = m_I M 130 k := fun k => by rw [hM3, sI_ne (by omega), a2.2.2.1 130 (by omega) (by omega) (by omega) (by omega), s1 130 (by omega)]
    have ek : m_I M3 130 (9 + lwK isB) = nI (lH l (lwK isB + 1)) := by rw [e130, show 9 + lwK isB = 8 + (lwK isB + 1) by omega]; exact hD.1 _ (by omega)
    obtain ⟨M4, hM4⟩ : ∃ M4, M4 = m_sI M3 130 (9 + lwK isB) (nI (lH l (lwK isB + 1) + 1)) := ⟨_, rfl⟩
    rw [x_cV_ok K rl, if_neg (by decide), x_gN_ok K3 R103, x_aI_ok K1303 (by rw [L1303]; omega) (by omega), ek, nI_1, x_sI_ok K1303 (by rw [L1303]; omega) (by omega), ← hM4]
    have f3 : dmF M M4 := by
      refine ((f1.trans f2).trans ?_).trans (M2 := M3) ?_
      · rw [hM3]; exact dmF_I (by omega)
      · rw [hM4]; exact dmF_I (by omega)
    refine ⟨1, M4, rfl, f3, rfl, ?_⟩
    -- the new draft
    have hkk : isB = true ∧ lwK isB = 1 ∧ lwI l isB = lH l 2 ∨ isB = false ∧ lwK isB = 2 ∧ lwI l isB = 3 + lH l 3 := by
      cases isB
      · right; exact ⟨rfl, rfl, rfl⟩
      · left; exact ⟨rfl, rfl, rfl⟩
    have hoE : lOk (ldE l (lwI l isB) (fun fs => V (fun x => fs (ofB isB + x)))) := lOk_E hok g8 (by
      rcases hkk with ⟨rfl, z1, z2⟩ | ⟨rfl, z1, z2⟩
      · rw [if_pos rfl, z2]
        have hlt : lH l 2 < 3 := hlt
        omega
      · rw [if_neg (by decide), z2]; omega)
    obtain ⟨o1, o2, o3, o4, _⟩ := tok_ok (T := T) q' g2
    have eI : ∀ a, a ≠ 128 → a ≠ 130 → a ≠ 138 → a ≠ 139 → a ≠ 140 → a ≠ 141 → a ≠ 142 → m_I M4 a = m_I M a := fun a b c d e f g h => by rw [hM4, sI_ne c, hM3, sI_ne e, a2.2.2.1 a b f g h, s1 a d]
    have e8 : ∀ k, m_I M4 128 k = m_I M2 128 k := fun k => by rw [hM4, sI_ne (by omega), hM3, sI_ne (by omega)]
    have e8' : ∀ k, (k < 3 ∨ (9 < k ∧ k ≠ 21)) → m_I M4 128 k = m_I M 128 k := fun k hk => by rw [e8, a2.2.2.2.2.1 k hk, s1 128 (by omega)]
    have eL : ∀ a, a ≠ 128 → m_L M4 a = m_L M a := fun a ha => by
      rw [hM4, hM3]
      show m_L M2 a = _
      rw [a2.2.2.2.1 a ha, hM1]
      rfl
    have e138 : ∀ k, m_I M4 138 k = if k = 9 + lwI l isB then nI (1000 + c) else m_I M 138 k := fun k => by
      rw [hM4, sI_ne (by omega), hM3, sI_ne (by omega), a2.2.2.1 138 (by omega) (by omega) (by omega) (by omega), hM1, mI_sI]
      by_cases z : k = 9 + lwI l isB
      · rw [if_pos ⟨rfl, z⟩, if_pos z]
      · rw [if_neg (fun y => z y.2), if_neg z]
    have e139 : ∀ k, m_I M4 139 k = if k = 9 + lwI l isB then nI (1000 + c + mc.length) else m_I M 139 k := fun k => by
      rw [hM4, sI_ne (by omega), hM3, mI_sI]
      by_cases z : k = 9 + lwI l isB
      · rw [if_pos ⟨rfl, z⟩, if_pos z]
      · rw [if_neg (fun y => z y.2), if_neg z, a2.2.2.1 139 (by omega) (by omega) (by omega) (by omega), s1 139 (by omega)]
    have e140 : ∀ k, m_I M4 140 k = m_I M2 140 k := fun k => by rw [hM4, sI_ne (by omega), hM3, sI_ne (by omega)]
    have e140' : ∀ k, k < 1000 + c → m_I M4 140 k = m_I M 140 k := fun k hk => by rw [e140, a2.2.2.2.2.2.2 k hk, s1 140 (by omega)]
    have e12 : lH l (1 + 1) = lH l 2 := rfl
    have e21' : lH l (2 + 1) = lH l 3 := rfl
    have hHn : ∀ j, lH (ldN (ldE l (lwI l isB) (fun fs => V (fun x => fs (ofB isB + x)))) (lwK isB) w) j = if j = lwK isB + 1 then lH l (lwK isB + 1) + 1 else lH l j := fun j => by rw [ldN_H]; rfl
    have hMn : ∀ k, lM (ldN (ldE l (lwI l isB) (fun fs => V (fun x => fs (ofB isB + x)))) (lwK isB) w) k = if k = 8 * lwK isB + lH l (lwK isB + 1) then w else lM l k := fun k => by rw [ldN_M]; rfl
    refine ⟨o4, ⟨lOk_N hoE (by omega) hlt, fun k hk2 => ?_⟩, c + mc.length, by omega, by rw [hM4]; exact gM3, ?_, ?_, ?_, ?_, by rw [e8' 23 (by omega)]; exact e23, by rw [e8' 24 (by omega)]; exact e24⟩
    · rw [hHn, if_neg (by omega)] at hk2
      exact hz k hk2
    · rw [eI 129 (by omega) (by omega) (by omega) (by omega) (by omega) (by omega) (by omega)]; exact hx
    · obtain ⟨⟨t1, t2, t3, t4⟩, t5, t6⟩ := hTM
      exact ⟨⟨by rw [e8]; exact t1, by rw [e8]; exact t2, by rw [e8]; exact t3, by rw [e8]; exact t4⟩, fun z => by rw [hM4, hM3]; exact t5 z, fun z => by rw [e8]; exact t6 z⟩
    · rw [e8, h21, Nat.add_assoc]
    · obtain ⟨d1, d2, d3, d4, ⟨d5, d6, d7, d8⟩, d9⟩ := hD
      refine ⟨fun k hk => ?_, ?_, ?_, ?_, ⟨fun t ht => ?_, fun j hj => ?_, fun v hv => ?_, fun k hk => ?_⟩, fun line hl => ?_⟩
      · rw [hM4, mI_sI, hHn]
        by_cases z : k = lwK isB + 1
        · rw [if_pos ⟨rfl, by omega⟩, if_pos z]
        · rw [if_neg (fun y => z (by omega)), if_neg z, e130]; exact d1 k hk
      · rw [hHn, if_neg (by omega), eI 135 (by omega) (by omega) (by omega) (by omega) (by omega) (by omega) (by omega)]; exact d2
      · rw [hHn, if_neg (by omega), eI 136 (by omega) (by omega) (by omega) (by omega) (by omega) (by omega) (by omega)]; exact d3
      · rw [hHn, if_neg (by omega), eI 137 (by omega) (by omega) (by omega) (by omega) (by omega) (by omega) (by omega)]; exact d4
      · rw [hHn, if_neg (by omega)] at ht
        have := hok.2.1
        rw [eL 131 (by omega), hMn, if_neg (by omega)]; exact d5 t ht
      · rw [hHn] at hj
        rw [eL 132 (by omega), hMn]
        rcases hkk with ⟨z0, z1, z2⟩ | ⟨z0, z1, z2⟩
        · rw [z1] at hj ⊢
          rw [if_pos rfl] at hj
          by_cases y : j = lH l 2
          · rw [if_pos z0] at hw
            rw [if_pos (by omega), y]; exact hw
          · rw [if_neg (by omega)]; exact d6 j (by have : j < lH l 2 + 1 := hj; omega)
        · rw [z1] at hj ⊢
          rw [if_neg (by omega)] at hj
          rw [if_neg (by omega)]; exact d6 j hj
      · rw [hHn] at hv
        rw [eL 133 (by omega), hMn]
        rcases hkk with ⟨z0, z1, z2⟩ | ⟨z0, z1, z2⟩
        · rw [z1] at hv ⊢
          rw [if_neg (by omega)] at hv
          rw [if_neg (by omega)]; exact d7 v hv
        · rw [z1] at hv ⊢
          rw [if_pos rfl] at hv
          by_cases y : v = lH l 3
          · rw [if_neg (by rw [z0]; decide)] at hw
            rw [if_pos (by omega), y]; exact hw
          · rw [if_neg (by omega)]; exact d7 v (by have : v < lH l 3 + 1 := hv; omega)
      · rw [hHn, if_neg (by omega)] at hk
        rw [eL 134 (by omega), hMn, if_neg (by rcases hkk with ⟨z0, z1, z2⟩ | ⟨z0, z1, z2⟩ <;> rw [z1] <;> omega)]; exact d8 k hk
      · show MLw (c + mc.length) (m_I M4) line (upf (lE l) (lwI l isB) (fun fs => V (fun x => fs (ofB isB + x))) line)
        unfold upf
        by_cases z : line = lwI l isB
        · have hdb : decide (line < 3) = isB := by
            rcases hkk with ⟨z0, z1, z2⟩ | ⟨z0, z1, z2⟩
            · rw [z0]
              have hlt : lH l (lwK isB + 1) < mostN (lwK isB) := hlt
              rw [z1] at hlt
              have hlt : lH l 2 < 3 := hlt
              exact decide_eq_true (by omega)
            · rw [z0]; exact decide_eq_false (by omega)
          rw [if_pos z]
          refine ⟨1000 + c, mc, V, by omega, by omega, by rw [e138, if_pos (by omega)], by rw [e139, if_pos (by omega)], h140.cong (fun k _ _ => e140 k), by rw [hdb]; exact g7, by rw [hdb]⟩
        · rw [if_neg z]
          have hl' : lnOk l line := by
            unfold lnOk at hl ⊢
            rw [hHn, hHn] at hl
            rcases hkk with ⟨z0, z1, z2⟩ | ⟨z0, z1, z2⟩
            · rw [z1, if_pos rfl, if_neg (by omega)] at hl
              have : lH l (1 + 1) = lH l 2 := rfl
              omega
            · rw [z1, if_neg (by omega), if_pos rfl] at hl
              have : lH l (2 + 1) = lH l 3 := rfl
              omega
          obtain ⟨a, m1, V1, y1, y2, y3, y4, y5, y6, y7⟩ := d9 line hl'
          exact ⟨a, m1, V1, y1, by omega, by rw [e138, if_neg (by omega)]; exact y3, by rw [e139, if_neg (by omega)]; exact y4, y5.cong (fun k _ hk => e140' k (by omega)), y6, y7⟩
theorem M_bend (h : MT T n q l bt M) (hn : n ≤ 1000) : (∃ f, nmO T n l 1 q = .inl f ∧ MRes T n bt (.inl f) (F_X12_readsBend 128 M) M) ∨ ∃ w q2, nmO T n l 1 q = .inr (w, q2) ∧ q2 ≤ n ∧ lH l 2 < 3 ∧ ∀ o : EO, eoG T n true q2 o → (∀ b0 M, b0 ≤ 2000 → b0 + (n - q2) ≤ 2000 → EMz T n b0 true q2 M → EMout T n b0 (eoR T n o) (F_X12_reads 128 M) M) → MRes T n bt (lwO T n l true w o) (F_X12_readsBend 128 M) M := by
  obtain ⟨R10, K130, L130⟩ := h.c130
  have b1 := h.2.1.1.2.2.1
  have e10 : m_I M 130 10 = nI (lH l 2) := h.hd (k := 2) (by omega)
  by_cases c : 3 ≤ lH l 2
  · refine .inl ⟨flt T n q 5, h.full (kd := 1) c, ?_⟩
    unfold F_X12_readsBend
    rw [x_gN_ok h.K R10, aI_lit (x := (10 : Int32)) (n := 10) K130 (by rw [L130]; omega) rfl (by omega), e10, if_pos (show nI (lH l 2) = (3 : Int32) from by rw [show lH l 2 = 3 by omega]; rfl)]
    exact h.failR (k := 5)
  obtain ⟨M1, v, M2, a1, a2, a3, a4, a5, a6⟩ := h.newN hn (kd := 1) (by show lH l 2 < 3; omega)
  have hbeg : F_X12_readsBend 128 M = if v = 0 then some ((0 : Int32), M2) else x_gN 10 M2 128 12 fun v4 => x_gL 10 M2 128 7 fun v5 => x_sL M2 v4 ((3 : Int32) + nI (lH l 2)) v5 fun M3 => x_pI 10 M3 128 22 (1 : Int32) fun M4 => x_cV 10 M4 128 (F_X12_nextToken 128 M4) fun _ M5 => x_cV 10 M5 128 (F_X12_readsLine 128 (nI (lH l 2)) M5) fun v6 M6 => if v6 = 0 then some ((0 : Int32), M6) else x_gN 10 M6 128 10 fun v7 => x_aI 12 M6 v7 (10 : Int32) fun v8 => x_sI 12 M6 v7 (10 : Int32) (v8 + (1 : Int32)) fun M7 => some ((1 : Int32), M7) := by
    unfold F_X12_readsBend
    rw [x_gN_ok h.K R10, aI_lit (x := (10 : Int32)) (n := 10) K130 (by rw [L130]; omega) rfl (by omega), e10, if_neg (show ¬ nI (lH l 2) = (3 : Int32) from fun z => by have := (nI_eq (b := 3) (by omega) (by omega)).mp z; omega), x_cV_ok h.K a1, x_cV_ok a2.K a4]
  cases hN : nmO T n l 1 q with
  | inl f =>
    rw [hN] at a6
    refine .inl ⟨f, rfl, ?_⟩
    rw [hbeg, a6.1, if_pos (by decide)]
    exact ⟨0, M2, rfl, a3.dm.trans a5.dm, rfl, a6.2⟩
  | inr r =>
    obtain ⟨w, q2⟩ := r
    rw [hN] at a6
    obtain ⟨rfl, e12, hw, hq2⟩ := a6
    rw [e12] at hbeg
    have R12 : m_R M1 128 12 = some 132 := by have g := a2.g; simp only [gR g]
    have K132 : m_K M1 132 = 13 := by have g := a2.g; simp only [gK g]
    have L132 : m_len M1 132 = 6 := by have g := a2.g; simp only [gl g]
    obtain ⟨p1, p2⟩ := a2.putN (a := 132) (i := 3 + lH l 2) (w := w) (.inr (.inl ⟨rfl, rfl⟩))
    have p3 := p1.sI (k := 22) (v := 1) (.inr rfl)
    obtain ⟨M4, b1', b2, b3⟩ := p3.nextT hn
    rw [← hq2] at b2
    refine .inr ⟨w, q2, rfl, b2.1, by omega, fun o ho1 hm => ?_⟩
    have hname : m_L M4 132 (3 + lH l 2) = w := by
      rw [(b3.2.2.1 132 (by omega)).2]
      show m_L (m_sL M1 132 (3 + lH l 2) w) 132 (3 + lH l 2) = w
      rw [mL_sL, if_pos ⟨rfl, rfl⟩]
    have h22 : m_I M4 128 22 = bI true := by rw [b3.2.2.2.1 22 (by omega), mI_sI, if_pos ⟨rfl, rfl⟩]; rfl
    have := M_lawtail b2 hn (isB := true) (w := w) h22 (by rw [if_pos rfl]; exact hname) (by show lH l 2 < 3; omega) (o := o) ho1 hm
    rw [hbeg, if_neg (by decide), x_gN_ok a2.K R12, x_gL_ok a2.K, hw, show (3 : Int32) = nI 3 from rfl, nI_add, x_sL_ok K132 (by rw [L132]; omega) (by omega), x_pI_ok p1.K, x_cV_ok p3.K b1']
    exact this.tr (((a3.dm.trans p2).trans (dmF_9 (by omega))).trans b3.dm)
theorem M_verb (h : MT T n q l bt M) (hn : n ≤ 1000) : (∃ f, nmO T n l 2 q = .inl f ∧ MRes T n bt (.inl f) (F_X12_readsVerb 128 M) M) ∨ ∃ w q2, nmO T n l 2 q = .inr (w, q2) ∧ q2 ≤ n ∧ lH l 3 < 6 ∧ ∀ o : EO, eoG T n false q2 o → (∀ b0 M, b0 ≤ 2000 → b0 + (n - q2) ≤ 2000 → EMz T n b0 false q2 M → EMout T n b0 (eoR T n o) (F_X12_reads 128 M) M) → MRes T n bt (lwO T n l false w o) (F_X12_readsVerb 128 M) M := by
  obtain ⟨R10, K130, L130⟩ := h.c130
  have b1 := h.2.1.1.2.2.2.1
  have e10 : m_I M 130 11 = nI (lH l 3) := h.hd (k := 3) (by omega)
  by_cases c : 6 ≤ lH l 3
  · refine .inl ⟨flt T n q 5, h.full (kd := 2) c, ?_⟩
    unfold F_X12_readsVerb
    rw [x_gN_ok h.K R10, aI_lit (x := (11 : Int32)) (n := 11) K130 (by rw [L130]; omega) rfl (by omega), e10, if_pos (show nI (lH l 3) = (6 : Int32) from by rw [show lH l 3 = 6 by omega]; rfl)]
    exact h.failR (k := 5)
  obtain ⟨M1, v, M2, a1, a2, a3, a4, a5, a6⟩ := h.newN hn (kd := 2) (by show lH l 3 < 6; omega)
  have hbeg : F_X12_readsVerb 128 M = if v = 0 then some ((0 : Int32), M2) else x_gN 10 M2 128 13 fun v4 => x_gL 10 M2 128 7 fun v5 => x_sL M2 v4 ((6 : Int32) + nI (lH l 3)) v5 fun M3 => x_pI 10 M3 128 22 (0 : Int32) fun M4 => x_cV 10 M4 128 (F_X12_nextToken 128 M4) fun _ M5 => x_cV 10 M5 128 (F_X12_readsLine 128 ((3 : Int32) + nI (lH l 3)) M5) fun v6 M6 => if v6 = 0 then some ((0 : Int32), M6) else x_gN 10 M6 128 10 fun v7 => x_aI 12 M6 v7 (11 : Int32) fun v8 => x_sI 12 M6 v7 (11 : Int32) (v8 + (1 : Int32)) fun M7 => some ((1 : Int32), M7) := by
    unfold F_X12_readsVerb
    rw [x_gN_ok h.K R10, aI_lit (x := (11 : Int32)) (n := 11) K130 (by rw [L130]; omega) rfl (by omega), e10, if_neg (show ¬ nI (lH l 3) = (6 : Int32) from fun z => by have := (nI_eq (b := 6) (by omega) (by omega)).mp z; omega), x_cV_ok h.K a1, x_cV_ok a2.K a4]
  cases hN : nmO T n l 2 q with
  | inl f =>
    rw [hN] at a6
    refine .inl ⟨f, rfl, ?_⟩
    rw [hbeg, a6.1, if_pos (by decide)]
    exact ⟨0, M2, rfl, a3.dm.trans a5.dm, rfl, a6.2⟩
  | inr r =>
    obtain ⟨w, q2⟩ := r
    rw [hN] at a6
    obtain ⟨rfl, e12, hw, hq2⟩ := a6
    rw [e12] at hbeg
    have R12 : m_R M1 128 13 = some 133 := by have g := a2.g; simp only [gR g]
    have K132 : m_K M1 133 = 13 := by have g := a2.g; simp only [gK g]
    have L132 : m_len M1 133 = 12 := by have g := a2.g; simp only [gl g]
    obtain ⟨p1, p2⟩ := a2.putN (a := 133) (i := 6 + lH l 3) (w := w) (.inr (.inr ⟨rfl, rfl⟩))
    have p3 := p1.sI (k := 22) (v := 0) (.inr rfl)
    obtain ⟨M4, b1', b2, b3⟩ := p3.nextT hn
    rw [← hq2] at b2
    refine .inr ⟨w, q2, rfl, b2.1, by omega, fun o ho1 hm => ?_⟩
    have hname : m_L M4 133 (6 + lH l 3) = w := by
      rw [(b3.2.2.1 133 (by omega)).2]
      show m_L (m_sL M1 133 (6 + lH l 3) w) 133 (6 + lH l 3) = w
      rw [mL_sL, if_pos ⟨rfl, rfl⟩]
    have h22 : m_I M4 128 22 = bI false := by rw [b3.2.2.2.1 22 (by omega), mI_sI, if_pos ⟨rfl, rfl⟩]; rfl
    have := M_lawtail b2 hn (isB := false) (w := w) h22 (by rw [if_neg (by decide)]; exact hname) (by show lH l 3 < 6; omega) (o := o) ho1 hm
    rw [hbeg, if_neg (by decide), x_gN_ok a2.K R12, x_gL_ok a2.K, hw, show (6 : Int32) = nI 6 from rfl, nI_add, x_sL_ok K132 (by rw [L132]; omega) (by omega), x_pI_ok p1.K, x_cV_ok p3.K b1', show (3 : Int32) = nI 3 from rfl, nI_add]
    exact this.tr (((a3.dm.trans p2).trans (dmF_9 (by omega))).trans b3.dm)
end MLAW
