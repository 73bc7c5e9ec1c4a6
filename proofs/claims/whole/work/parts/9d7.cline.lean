/-! a land read: the class's lines -/
theorem lOk_N {l : Ld} (ho : lOk l) {kd : Nat} {w : Int64} (hk : kd < 4) (hl : lH l (kd + 1) < mostN kd) : lOk (ldN l kd w) := by
  obtain ⟨h0, h1, h2, h3, h4, h5, h6, h7, h8, h9, h10, h11⟩ := ho
  unfold mostN at hl
  rcases (show kd = 0 ∨ kd = 1 ∨ kd = 2 ∨ kd = 3 by omega) with rfl | rfl | rfl | rfl
  · exact ⟨h0, by rw [ldN_H, if_pos rfl]; exact hl, h2, h3, h4, h5, h6, h7, h8, h9, h10, h11⟩
  · exact ⟨h0, h1, by rw [ldN_H, if_pos rfl]; exact hl, h3, h4, h5, h6, h7, h8, h9, h10, h11⟩
  · exact ⟨h0, h1, h2, by rw [ldN_H, if_pos rfl]; exact hl, h4, h5, h6, h7, h8, fun d v hd => by rw [ldN_H, if_pos rfl]; have := h9 d v hd; show v < lH l 3 + 1; omega, h10, h11⟩
  · exact ⟨h0, h1, h2, h3, by rw [ldN_H, if_pos rfl]; exact hl, h5, h6, h7, h8, h9, h10, h11⟩
theorem lOk_W {l : Ld} (ho : lOk l) {t v : Nat} (hv : v ≤ 99) : lOk (ldW l t v) := by
  obtain ⟨h0, h1, h2, h3, h4, h5, h6, h7, h8, h9, h10, h11⟩ := ho
  exact ⟨h0, h1, h2, h3, h4, h5, h6, fun t' => by show upf (lW l) t v t' ≤ 99; unfold upf; split; exact hv; exact h7 t', h8, h9, h10, h11⟩
theorem lOk_V {l : Ld} (ho : lOk l) {t v : Nat} (hv : v ≤ 99) : lOk (ldV l t v) := by
  obtain ⟨h0, h1, h2, h3, h4, h5, h6, h7, h8, h9, h10, h11⟩ := ho
  exact ⟨h0, h1, h2, h3, h4, h5, h6, h7, fun t' => by show upf (lV l) t v t' ≤ 99; unfold upf; split; exact hv; exact h8 t', h9, h10, h11⟩
theorem lOk_b {l : Ld} (ho : lOk l) {v : Nat} (hv : v ≤ 99) : lOk (ldH l 6 v) := by
  obtain ⟨h0, h1, h2, h3, h4, h5, h6, h7, h8, h9, h10, h11⟩ := ho
  exact ⟨h0, h1, h2, h3, h4, h5, hv, h7, h8, h9, h10, h11⟩
theorem lOk_p {l : Ld} (ho : lOk l) {v : Nat} (h2 : 2 ≤ v) (hv : v ≤ 4) : lOk (ldH l 0 v) := by
  obtain ⟨h0, h1, h2', h3, h4, h5, h6, h7, h8, h9, h10, h11⟩ := ho
  exact ⟨⟨h2, hv⟩, h1, h2', h3, h4, h5, h6, h7, h8, h9, h10, h11⟩
theorem lOk_d {l : Ld} (ho : lOk l) {i : Nat} {v : Option Nat} (hi : i < 7) (hv : ∀ x, v = some x → x < lH l 3) : lOk (ldH (ldD l i v) 5 (i + 1)) := by
  obtain ⟨h0, h1, h2, h3, h4, h5, h6, h7, h8, h9, h10, h11⟩ := ho
  refine ⟨h0, h1, h2, h3, h4, by show i + 1 ≤ 7; omega, h6, h7, h8, fun d x hd => ?_, h10, h11⟩
  have hd : upf (lD l) i v d = some x := hd
  show x < lH l 3
  unfold upf at hd
  by_cases z : d = i
  · rw [if_pos z] at hd; exact hv x hd
  · rw [if_neg z] at hd; exact h9 d x hd
theorem lOk_E {l : Ld} (ho : lOk l) {isB : Bool} {k : Nat} {V : EV} (hV : vLoc isB V) (hk : if isB = true then k < 3 else 3 ≤ k) : lOk (ldE l k (fun fs => V (fun x => fs (ofB isB + x)))) := by
  obtain ⟨h0, h1, h2, h3, h4, h5, h6, h7, h8, h9, h10, h11⟩ := ho
  refine ⟨h0, h1, h2, h3, h4, h5, h6, h7, h8, h9, fun j hj fs fs' a b => ?_, fun j hj fs fs' a => ?_⟩
  · show upf (lE l) k _ j fs = upf (lE l) k _ j fs'
    unfold upf
    by_cases z : j = k
    · rw [if_pos z]
      cases isB
      · rw [if_neg (by decide)] at hk; omega
      · refine hV _ _ (fun x hx => ?_)
        rw [if_pos rfl] at hx
        show fs (6 + x) = fs' (6 + x)
        rcases (show x = 0 ∨ x = 1 by omega) with rfl | rfl
        · exact a
        · exact b
    · rw [if_neg z]; exact h10 j hj fs fs' a b
  · show upf (lE l) k _ j fs = upf (lE l) k _ j fs'
    unfold upf
    by_cases z : j = k
    · rw [if_pos z]
      cases isB
      · refine hV _ _ (fun x hx => ?_)
        rw [if_neg (by decide)] at hx
        exact a (1 + x) (by omega) (by omega)
      · rw [if_pos rfl] at hk; omega
    · rw [if_neg z]; exact h11 j hj fs fs' a
def lwK (isB : Bool) : Nat := if isB = true then 1 else 2
def lwI (l : Ld) (isB : Bool) : Nat := if isB = true then lH l 2 else 3 + lH l 3
def lwO (T : Nat → Nat) (n : Nat) (l : Ld) (isB : Bool) (w : Int64) (o : EO) : Nat ⊕ (Nat × Ld) := match o with
  | .inl f => .inl f
  | .inr (q', _, _, V) => .inr ((tokAt T n q').2.1, ldN (ldE l (lwI l isB) (fun fs => V (fun x => fs (ofB isB + x)))) (lwK isB) w)
section CLINE
variable {M M' : m_M} {T : Nat → Nat} {n q : Nat} {l : Ld} {pd : Option (Nat × Int64)} {bt : Bool}
theorem ECS.wI {cc : List Nat} (h : ECS T n q cc M) {a k : Nat} {v : Int32} (h1 : a ≠ 1) (h22 : a ≠ 22) (h30 : a ≠ 30) (h16 : ¬ (a = 16 ∧ k = 5)) : ECS T n q cc (m_sI M a k v) := by
  obtain ⟨g, hx, ht, h5, hc⟩ := h
  have s : ∀ b, b ≠ a → m_I (m_sI M a k v) b = m_I M b := fun b hb => sI_ne hb
  refine ⟨g, by rw [s 1 (Ne.symm h1)]; exact hx, ?_, by rw [mI_sI, if_neg (fun z => h16 ⟨z.1.symm, z.2.symm⟩)]; exact h5, fun j hj => by rw [s 22 (Ne.symm h22)]; exact hc j hj⟩
  obtain ⟨c1, c2, c3, c4, c5⟩ := ht
  have e := s 30 (Ne.symm h30)
  exact ⟨by rw [e]; exact c1, c2, by rw [e]; exact c3, by rw [e]; exact c4, c5⟩
theorem ECS.wL {cc : List Nat} (h : ECS T n q cc M) {a k : Nat} {v : Int64} (h30 : a ≠ 30) : ECS T n q cc (m_sL M a k v) := by
  obtain ⟨g, hx, ht, h5, hc⟩ := h
  obtain ⟨c1, c2, c3, c4, c5⟩ := ht
  have e : m_L (m_sL M a k v) 30 = m_L M 30 := by funext j; rw [mL_sL, if_neg (fun z => h30 z.1.symm)]
  exact ⟨g, hx, ⟨c1, fun z => by rw [e]; exact c2 z, c3, c4, c5⟩, h5, hc⟩
theorem dcF_wI {a k : Nat} {v : Int32} (h : 16 ≤ a ∧ a ≤ 24) : dcF M (m_sI M a k v) := ⟨rfl, fun b hb => sI_ne (by omega), fun _ _ _ => rfl, fun _ _ => rfl, fun _ _ => rfl⟩
theorem dcF_w30 {k : Nat} {v : Int32} : dcF M (m_sI M 30 k v) := ⟨rfl, fun b hb => sI_ne (by omega), fun _ _ _ => rfl, fun _ _ => rfl, fun _ _ => rfl⟩
theorem dcF_wL {k : Nat} {v : Int64} : dcF M (m_sL M 21 k v) := ⟨rfl, fun _ _ => rfl, fun b hb _ => by funext j; rw [mL_sL, if_neg (fun z => hb z.1)], fun _ _ => rfl, fun _ _ => rfl⟩
theorem DS.named (h : DS T n q l none bt M) (hn : n ≤ 1000) {kd : Nat} (hk : kd < 4) : ∃ v M', F_X4_readNamed 30 (nI kd) M = some (v, M') ∧ dcF M M' ∧ match nmO T n l kd q with | .inl f => v = nI 0 ∧ m_I M' 30 9 = nI f | .inr (w, q') => v = nI 1 ∧ lH l (kd + 1) < mostN kd ∧ DS T n q' l (some (kd, w)) bt M' := by
  obtain ⟨R10, K16, R6, K17, L17, R21, K21, L21, _⟩ := dr_cells h.g
  have hm := lH_most h.2.1 hk
  have h6 := mostN_le kd
  have e17 : m_I M 17 kd = nI (lH l (kd + 1)) := by obtain ⟨_, _, cc, _, _, hD, _⟩ := h; exact hD.2.1 kd hk
  have hmost : k_most.getD kd 0 = nI (mostN kd) := by rcases (show kd = 0 ∨ kd = 1 ∨ kd = 2 ∨ kd = 3 by omega) with rfl | rfl | rfl | rfl <;> decide
  unfold F_X4_readNamed nmO
  rw [x_gN_ok h.K R10, x_gN_ok K16 R6, x_aI_ok K17 (by rw [L17]; exact hk) (by omega), e17, x_ki_ok hk (by omega), hmost]
  by_cases c : mostN kd ≤ lH l (kd + 1)
  · obtain ⟨M1, a1, a2, a3⟩ := h.fail (k := 5)
    have a1' : F_X8_fail 4 30 (5 : Int32) M = _ := a1
    rw [if_neg (nI_nlt c (by omega)), x_cV_ok h.K a1', x_b0, if_pos c]
    exact ⟨nI 0, M1, rfl, a3, rfl, a2⟩
  obtain ⟨M1, b1, b2, b3⟩ := h.adv hn
  rw [if_pos (nI_lt (by omega) (by omega)), x_cV_ok h.K b1, x_cV_ok b2.K b2.Nm, if_neg c]
  by_cases s : tkNm (tokAt T n (tokAt T n q).2.1) = true
  · rw [bI_tr s, if_neg (by decide), if_pos s, x_gN_ok b2.K (dr_cells b2.g).1, x_gL_ok b2.K, b2.w (tkNm_k s), x_cV_ok (dr_cells b2.g).2.1 b2.isTold]
    obtain ⟨w, hw⟩ : ∃ w, w = (tokAt T n (tokAt T n q).2.1).2.2.2.1 := ⟨_, rfl⟩
    rw [← hw]
    by_cases t : toldW l w = true
    · obtain ⟨M2, a1, a2, a3⟩ := b2.fail (k := 3)
      have a1' : F_X8_fail 4 30 (3 : Int32) M1 = _ := a1
      rw [bI_tr t, if_neg (by decide), x_cV_ok b2.K a1', x_b0, if_pos t]
      exact ⟨nI 0, M2, rfl, b3.trans a3, rfl, a2⟩
    · rw [bI_fa t, if_pos rfl, if_neg t, x_gN_ok b2.K (dr_cells b2.g).1, x_gL_ok b2.K, b2.w (tkNm_k s), ← hw]
      obtain ⟨hq2, ho, cc, hcc, hE, hD, hb⟩ := b2
      obtain ⟨S10, S16, S6, S17, SL17, S21, SK21, SL21, _⟩ := dr_cells hE.1
      have e17' : m_I M1 17 kd = nI (lH l (kd + 1)) := hD.2.1 kd hk
      have an : F_X3_addName 16 (nI kd) w M1 = some ((), m_sI (m_sL M1 21 (8 * kd + lH l (kd + 1)) w) 17 kd (nI (lH l (kd + 1) + 1))) := by
        unfold F_X3_addName
        rw [x_gN_ok S16 S6, x_aI_ok S17 (by rw [SL17]; exact hk) (by omega), e17', if_neg (show ¬ (8 : Int32) ≤ nI (lH l (kd + 1)) from nI_ge (b := 8) (by omega) (by omega)), x_gN_ok S16 S21, x_gN_ok S16 S6, x_aI_ok S17 (by rw [SL17]; exact hk) (by omega), e17', show (8 : Int32) = nI 8 from rfl, nI_mul, nI_add, Nat.mul_comm kd 8, x_sL_ok SK21 (by rw [SL21]; omega) (by omega), x_gN_ok (show m_K (m_sL M1 21 (8 * kd + lH l (kd + 1)) w) 16 = 3 from S16) (show m_R (m_sL M1 21 (8 * kd + lH l (kd + 1)) w) 16 6 = some 17 from S6), x_aI_ok (show m_K (m_sL M1 21 (8 * kd + lH l (kd + 1)) w) 17 = 12 from S17) (show kd < m_len (m_sL M1 21 (8 * kd + lH l (kd + 1)) w) 17 by rw [show m_len (m_sL M1 21 (8 * kd + lH l (kd + 1)) w) 17 = 4 from SL17]; exact hk) (by omega), show m_I (m_sL M1 21 (8 * kd + lH l (kd + 1)) w) 17 kd = nI (lH l (kd + 1)) from e17', nI_1, x_sI_ok (show m_K (m_sL M1 21 (8 * kd + lH l (kd + 1)) w) 17 = 12 from S17) (show kd < m_len (m_sL M1 21 (8 * kd + lH l (kd + 1)) w) 17 by rw [show m_len (m_sL M1 21 (8 * kd + lH l (kd + 1)) w) 17 = 4 from SL17]; exact hk) (by omega)]
      have hDS : DS T n (tokAt T n q).2.1 l (some (kd, w)) bt (m_sI (m_sL M1 21 (8 * kd + lH l (kd + 1)) w) 17 kd (nI (lH l (kd + 1) + 1))) := by
        refine ⟨hq2, ho, cc, hcc, (hE.wL (by omega)).wI (by omega) (by omega) (by omega) (by omega), ?_, by rw [mI_sI, if_neg (by omega)]; exact hb⟩
        have s : ∀ b, b ≠ 17 → m_I (m_sI (m_sL M1 21 (8 * kd + lH l (kd + 1)) w) 17 kd (nI (lH l (kd + 1) + 1))) b = m_I M1 b := fun b hb => sI_ne hb
        obtain ⟨d1, d2, d3, d4, d5, d6, d7, d8, d9⟩ := hD
        refine ⟨by rw [s 16 (by omega)]; exact d1, fun k hk2 => ?_, by rw [s 18 (by omega)]; exact d3, by rw [s 19 (by omega)]; exact d4, by rw [s 20 (by omega)]; exact d5, fun k hk2 i hi => ?_, fun k w' hkw => ?_, fun j hj => (d8 j hj).cong (by rw [s 23 (by omega)]) (by rw [s 24 (by omega)]) ⟨[], (List.append_nil cc).symm⟩, fun v hv => (d9 v hv).cong (by rw [s 23 (by omega)]) (by rw [s 24 (by omega)]) ⟨[], (List.append_nil cc).symm⟩⟩
        · rw [mI_sI]
          by_cases z : k = kd
          · rw [if_pos ⟨rfl, z⟩, z]
            show _ = nI (lH l (kd + 1) + (if kd = kd then 1 else 0))
            rw [if_pos rfl]
          · rw [if_neg (fun y => z y.2)]
            show m_I M1 17 k = nI (lH l (k + 1) + (if kd = k then 1 else 0))
            rw [if_neg (fun y => z y.symm)]
            exact d2 k hk2
        · have hmk := lH_most ho hk2
          have h6k := mostN_le k
          show m_L (m_sL M1 21 (8 * kd + lH l (kd + 1)) w) 21 (8 * k + i) = _
          rw [mL_sL, if_neg (fun z => by
            have z2 := z.2
            have : k = kd := by omega
            subst this
            omega)]
          exact d6 k hk2 i hi
        · cases hkw
          show m_L (m_sL M1 21 (8 * kd + lH l (kd + 1)) w) 21 (8 * kd + lH l (kd + 1)) = _
          rw [mL_sL, if_pos ⟨rfl, rfl⟩]
      obtain ⟨M2, c1, c2, c3⟩ := hDS.adv hn
      rw [x_cV_ok S16 an, x_cV_ok hDS.K c1]
      exact ⟨1, M2, rfl, ((b3.trans dcF_wL).trans (dcF_wI (by omega))).trans c3, rfl, by omega, c2⟩
  · obtain ⟨M2, a1, a2, a3⟩ := b2.fail (k := 1)
    have a1' : F_X8_fail 4 30 (1 : Int32) M1 = _ := a1
    rw [bI_fa s, if_pos rfl, x_cV_ok b2.K a1', x_b0, if_neg s]
    exact ⟨nI 0, M2, rfl, b3.trans a3, rfl, a2⟩
/-- the name's owner is wholly told -/
theorem DC.named {cc : List Nat} {A : IA} {B : Nat → Nat → Int64} {kd : Nat} {w : Int64} (h : DC l (some (kd, w)) cc A B) (hk : kd < 4) (ho : lOk l) (h0 : kd = 0 → A 18 (lH l 1) = nI (lW l (lH l 1))) (h1 : kd = 1 → CLw true cc A (8 + lH l 2) (lE l (lH l 2))) (h2 : kd = 2 → CLw false cc A (16 + lH l 3) (lE l (3 + lH l 3))) : DC (ldN l kd w) none cc A B := by
  obtain ⟨⟨a1, a2, a3⟩, d2, d3, d4, d5, d6, d7, d8, d9⟩ := h
  have nb : ∀ j, j ≠ kd + 1 → lH (ldN l kd w) j = lH l j := fun j hj => by rw [ldN_H, if_neg hj]
  refine ⟨⟨by rw [nb 0 (by omega)]; exact a1, by rw [nb 6 (by omega)]; exact a2, by rw [nb 5 (by omega)]; exact a3⟩, fun k hk2 => ?_, fun t ht => ?_, fun d hd => ?_, d5, fun k hk2 i hi => ?_, fun k w' z => (by cases z), fun j hj => ?_, fun v hv => ?_⟩
  · have := d2 k hk2
    rw [this, ldN_H]
    show nI (lH l (k + 1) + (if kd = k then 1 else 0)) = nI (_ + 0)
    by_cases z : kd = k
    · rw [if_pos z, if_pos (by omega), z]
    · rw [if_neg z, if_neg (by omega)]
  · rw [ldN_H] at ht
    by_cases z : 1 = kd + 1
    · rw [if_pos z] at ht
      have k0 : kd = 0 := by omega
      subst k0
      have ht : t < lH l 1 + 1 := ht
      by_cases y : t = lH l 1
      · rw [y]; exact h0 rfl
      · exact d3 t (by omega)
    · rw [if_neg z] at ht; exact d3 t ht
  · rw [nb 5 (by omega)] at hd
    exact d4 d hd
  · rw [ldN_H] at hi
    rw [ldN_M]
    by_cases z : k + 1 = kd + 1
    · have zk : k = kd := by omega
      subst zk
      rw [if_pos rfl] at hi
      by_cases y : i = lH l (k + 1)
      · rw [y, if_pos rfl]; exact d7 k w rfl
      · rw [if_neg (by omega)]; exact d6 k hk2 i (by omega)
    · rw [if_neg z] at hi
      have hm := lH_most ho hk2
      have h6 := mostN_le k
      have hm' := lH_most ho hk
      have h6' := mostN_le kd
      rw [if_neg (by omega)]
      exact d6 k hk2 i hi
  · rw [ldN_H] at hj
    by_cases z : 2 = kd + 1
    · have k1 : kd = 1 := by omega
      subst k1
      rw [if_pos rfl] at hj
      have hj : j < lH l 2 + 1 := hj
      by_cases y : j = lH l 2
      · rw [y]; exact h1 rfl
      · exact d8 j (by omega)
    · rw [if_neg z] at hj; exact d8 j hj
  · rw [ldN_H] at hv
    by_cases z : 3 = kd + 1
    · have k2 : kd = 2 := by omega
      subst k2
      rw [if_pos rfl] at hv
      have hv : v < lH l 3 + 1 := hv
      by_cases y : v = lH l 3
      · rw [y]; exact h2 rfl
      · exact d9 v (by omega)
    · rw [if_neg z] at hv; exact d9 v hv
/-- a line's last semicolon -/
theorem DS.close (h : DS T n q l none bt M) (hn : n ≤ 1000) : CRes T n none bt (sB (clO T n q) fun q5 => .inr (q5, l)) (x_cV 4 M 30 (F_X8_pass_ 4 30 (59 : Int32) M) fun v5 M5 => x_b v5 <| some (v5, M5)) M := by
  obtain ⟨v, M', a1, a2, a3⟩ := h.passS hn (c := 59) (by omega)
  have a1' : F_X8_pass_ 4 30 (59 : Int32) M = _ := a1
  unfold clO
  rw [x_cV_ok h.K a1']
  by_cases s : tkS T 59 (tokAt T n q) = true
  · rw [if_pos s] at a3
    rw [if_pos s, a3.1, x_b1]
    exact ⟨nI 1, M', rfl, a2, rfl, a3.2⟩
  · rw [if_neg s] at a3
    rw [if_neg s, a3.1, x_b0]
    exact ⟨nI 0, M', rfl, a2, rfl, a3.2⟩
theorem C_thing (h : DS T n q l none bt M) (hn : n ≤ 1000) : CRes T n none bt (thO T n l q) (F_X4_readThing 30 M) M := by
  obtain ⟨v, M1, a1, a2, a3⟩ := h.named hn (kd := 0) (by omega)
  have a1' : F_X4_readNamed 30 (0 : Int32) M = _ := a1
  unfold F_X4_readThing thO
  rw [x_cV_ok h.K a1']
  cases hN : nmO T n l 0 q with
  | inl f =>
    rw [hN] at a3
    rw [a3.1, if_pos (by decide)]
    exact ⟨0, M1, rfl, a2, rfl, a3.2⟩
  | inr r =>
    obtain ⟨w, q2⟩ := r
    rw [hN] at a3
    obtain ⟨rfl, hlt, hD⟩ := a3
    rw [if_neg (by decide), sB_r]
    refine CRes.tr ?_ a2
    obtain ⟨v, M2, b1, b2, b3⟩ := hD.passW hn (j := 2) (by omega)
    rw [show k_wl.getD 2 0 = (12328316 : Int64) from rfl] at b3
    rw [x_cV_ok hD.K b1]
    cases hW : wdO T n 12328316 q2 with
    | inl f =>
      rw [hW] at b3
      rw [b3.1, if_pos (by decide)]
      exact ⟨0, M2, rfl, b2, rfl, b3.2⟩
    | inr q3 =>
      rw [hW] at b3
      obtain ⟨rfl, hD3⟩ := b3
      rw [if_neg (by decide), sB_r]
      refine CRes.tr ?_ b2
      obtain ⟨v, M3, c1, c2, c3⟩ := hD3.num hn (lo := 0) (hi := 99) (by omega) (by omega)
      have c1' : F_X8_passNumber 4 30 (0 : Int32) (99 : Int32) M2 = _ := c1
      rw [x_cV_ok hD3.K c1']
      cases hU : nuO T n 0 99 q3 with
      | inl f =>
        rw [hU] at c3
        rw [c3.1, if_pos (by decide)]
        exact ⟨0, M3, rfl, c2, rfl, c3.2⟩
      | inr r =>
        obtain ⟨x, q4⟩ := r
        rw [hU] at c3
        obtain ⟨rfl, hx, hq4, ho, cc, hcc, hE, hD4, hb⟩ := c3
        obtain ⟨S10, S16, S6, S17, SL17, S21, SK21, SL21, S7, K18, L18, _⟩ := dr_cells hE.1
        have b5 := ho.2.1
        have hlt : lH l 1 < 5 := hlt
        have e17 : m_I M3 17 0 = nI (lH l 1 + 1) := hD4.2.1 0 (by omega)
        have wl : F_X3_weighLast 16 (nI x) M3 = some ((), m_sI M3 18 (lH l 1) (nI x)) := by
          unfold F_X3_weighLast
          rw [x_gN_ok S16 S6, aI_lit (x := (0 : Int32)) (n := 0) S17 (by rw [SL17]; omega) rfl (by omega), e17, show nI (lH l 1 + 1) - (1 : Int32) = nI (lH l 1) from nI_sub' (b := 1) (by omega), m_let_eq, if_neg (nI_pos (by omega)), x_gN_ok S16 S7, x_len_ok K18, L18, if_neg (nI_ge (by omega) (by omega)), x_gN_ok S16 S7, x_sI_ok K18 (by rw [L18]; omega) (by omega)]
        have hDS : DS T n q4 (ldN (ldW l (lH l 1) x) 0 w) none bt (m_sI M3 18 (lH l 1) (nI x)) := by
          refine ⟨hq4, lOk_N (lOk_W ho hx) (by omega) hlt, cc, hcc, hE.wI (by omega) (by omega) (by omega) (by omega), ?_, by rw [mI_sI, if_neg (by omega)]; exact hb⟩
          have s : ∀ b, b ≠ 18 → m_I (m_sI M3 18 (lH l 1) (nI x)) b = m_I M3 b := fun b hb => sI_ne hb
          refine DC.named (l := ldW l (lH l 1) x) ?_ (by omega) (lOk_W ho hx) (fun _ => ?_) (fun z => by omega) (fun z => by omega)
          · obtain ⟨d1, d2, d3, d4, d5, d6, d7, d8, d9⟩ := hD4
            refine ⟨by rw [s 16 (by omega)]; exact d1, by rw [s 17 (by omega)]; exact d2, fun t ht => ?_, by rw [s 19 (by omega)]; exact d4, by rw [s 20 (by omega)]; exact d5, d6, d7, fun j hj => (d8 j hj).cong (by rw [s 23 (by omega)]) (by rw [s 24 (by omega)]) ⟨[], (List.append_nil cc).symm⟩, fun v hv => (d9 v hv).cong (by rw [s 23 (by omega)]) (by rw [s 24 (by omega)]) ⟨[], (List.append_nil cc).symm⟩⟩
            have ht : t < lH l 1 := ht
            rw [mI_sI, if_neg (by omega)]
            show _ = nI (if t = lH l 1 then x else lW l t)
            rw [if_neg (by omega)]
            exact d3 t ht
          · show m_I (m_sI M3 18 (lH l 1) (nI x)) 18 (lH l 1) = nI (if lH l 1 = lH l 1 then x else lW l (lH l 1))
            rw [mI_sI, if_pos ⟨rfl, rfl⟩, if_pos rfl]
        rw [if_neg (show ¬ nI x = (-1 : Int32) from nI_nm1 (by omega)), sB_r, x_gN_ok hE.K S10, x_cV_ok S16 wl]
        exact (hDS.close hn).tr (c2.trans (dcF_wI (by omega)))
theorem C_bribe (h : DS T n q l none bt M) (hn : n ≤ 1000) : CRes T n none true (brO T n l bt q) (F_X4_readBribe 30 M) M := by
  have hb0 : m_I M 30 11 = bI bt := by obtain ⟨_, _, cc, _, _, _, hb⟩ := h; exact hb
  unfold F_X4_readBribe brO
  rw [x_gI_ok h.K, hb0]
  cases bt
  · rw [if_pos (show bI false = 0 from rfl), if_neg (by decide), x_pI_ok h.K]
    have h1 : DS T n q l none true (m_sI M 30 11 (1 : Int32)) := by
      obtain ⟨hq, ho, cc, hcc, ⟨g, hx, ht, h5, hc⟩, hD, hb⟩ := h
      have s : ∀ b, b ≠ 30 → m_I (m_sI M 30 11 (1 : Int32)) b = m_I M b := fun b hb => sI_ne hb
      have s30 : ∀ k, k ≠ 11 → m_I (m_sI M 30 11 (1 : Int32)) 30 k = m_I M 30 k := fun k hk => by rw [mI_sI, if_neg (fun z => hk z.2)]
      obtain ⟨⟨t1, t2, t3, t4⟩, c2, c3, c4, c5⟩ := ht
      refine ⟨hq, ho, cc, hcc, ⟨g, by rw [s 1 (by omega)]; exact hx, ⟨⟨by rw [s30 1 (by omega)]; exact t1, by rw [s30 2 (by omega)]; exact t2, by rw [s30 3 (by omega)]; exact t3, by rw [s30 4 (by omega)]; exact t4⟩, c2, by rw [s30 5 (by omega)]; exact c3, by rw [s30 6 (by omega)]; exact c4, c5⟩, by rw [s 16 (by omega)]; exact h5, by rw [s 22 (by omega)]; exact hc⟩, hD.cong (fun a x y z => s a (by omega)) (fun k hk => by rw [s 16 (by omega)]) rfl ⟨[], (List.append_nil cc).symm⟩, by rw [mI_sI, if_pos ⟨rfl, rfl⟩]; rfl⟩
    refine CRes.tr ?_ (dcF_w30 (M := M) (k := 11) (v := 1))
    obtain ⟨M1, a1, a2, a3⟩ := h1.adv hn
    rw [x_cV_ok h1.K a1]
    refine CRes.tr ?_ a3
    obtain ⟨v, M3, c1, c2, c3⟩ := a2.num hn (lo := 0) (hi := 99) (by omega) (by omega)
    have c1' : F_X8_passNumber 4 30 (0 : Int32) (99 : Int32) M1 = _ := c1
    rw [x_cV_ok a2.K c1']
    cases hU : nuO T n 0 99 (tokAt T n q).2.1 with
    | inl f =>
      rw [hU] at c3
      rw [c3.1, if_pos (by decide)]
      exact ⟨0, M3, rfl, c2, rfl, c3.2⟩
    | inr r =>
      obtain ⟨x, q4⟩ := r
      rw [hU] at c3
      obtain ⟨rfl, hx, hq4, ho, cc, hcc, hE, hD4, hb⟩ := c3
      obtain ⟨S10, S16, _⟩ := dr_cells hE.1
      have hDS : DS T n q4 (ldH l 6 x) none true (m_sI M3 16 1 (nI x)) := by
        refine ⟨hq4, lOk_b ho hx, cc, hcc, hE.wI (by omega) (by omega) (by omega) (by omega), ?_, by rw [mI_sI, if_neg (by omega)]; exact hb⟩
        have s : ∀ b, b ≠ 16 → m_I (m_sI M3 16 1 (nI x)) b = m_I M3 b := fun b hb => sI_ne hb
        obtain ⟨⟨a1, a2, a3⟩, d2, d3, d4, d5, d6, d7, d8, d9⟩ := hD4
        refine ⟨⟨by rw [mI_sI, if_neg (by omega)]; exact a1, by rw [mI_sI, if_pos ⟨rfl, rfl⟩]; rfl, by rw [mI_sI, if_neg (by omega)]; exact a3⟩, by rw [s 17 (by omega)]; intro k hk; have := d2 k hk; rw [this]; show nI (lH l (k + 1) + _) = nI ((if k + 1 = 6 then x else lH l (k + 1)) + _); rw [if_neg (by omega)], by rw [s 18 (by omega)]; exact d3, by rw [s 19 (by omega)]; exact d4, by rw [s 20 (by omega)]; exact d5, ?_, fun k w z => (by cases z), fun j hj => (d8 j hj).cong (by rw [s 23 (by omega)]) (by rw [s 24 (by omega)]) ⟨[], (List.append_nil cc).symm⟩, fun v hv => (d9 v hv).cong (by rw [s 23 (by omega)]) (by rw [s 24 (by omega)]) ⟨[], (List.append_nil cc).symm⟩⟩
        intro k hk i hi
        have hi : i < (if k + 1 = 6 then x else lH l (k + 1)) := hi
        rw [if_neg (by omega)] at hi
        exact d6 k hk i hi
      rw [if_neg (show ¬ nI x = (-1 : Int32) from nI_nm1 (by omega)), sB_r, x_gN_ok hE.K S10, x_pI_ok S16]
      exact (hDS.close hn).tr (c2.trans (dcF_wI (by omega)))
  · obtain ⟨M1, a1, a2, a3⟩ := h.fail (k := 3)
    have a1' : F_X8_fail 4 30 (3 : Int32) M = _ := a1
    rw [if_neg (show ¬ bI true = 0 from by decide), if_pos rfl, x_cV_ok h.K a1', x_b0]
    exact ⟨nI 0, M1, rfl, a3, rfl, a2⟩
end CLINE
