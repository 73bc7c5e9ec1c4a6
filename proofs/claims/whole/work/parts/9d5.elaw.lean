/-! laws: operands joined, and a whole law on both sides -/
section ELAW
variable {M M' : m_M} {T : Nat → Nat} {n : Nat} {isB : Bool}
theorem opr_41 {t : Tok} (h : tkS T 41 t = true) : opr T t = none := by
  unfold opr
  rw [if_neg (tkS_o h (by omega)), if_neg (tkS_o h (by omega)), if_neg (tkS_o h (by omega)), if_neg (tkS_o h (by omega)), if_neg (tkS_o h (by omega)), if_neg (tkSW h), if_neg (tkSW h)]
theorem opr_59 {t : Tok} (h : tkS T 59 t = true) : opr T t = none := by
  unfold opr
  rw [if_neg (tkS_o h (by omega)), if_neg (tkS_o h (by omega)), if_neg (tkS_o h (by omega)), if_neg (tkS_o h (by omega)), if_neg (tkS_o h (by omega)), if_neg (tkSW h), if_neg (tkSW h)]
theorem a_close {q d : Nat} {op : Nat → Nat} {cp : Nat → Bool} {mc : List Nat} (hq : q ≤ n) (h : tkS T 41 (tokAt T n q) = true) : aR T n isB (q, d + 1, false, op, cp, mc) = aR T n isB ((tokAt T n q).2.1, popN op d, false, op, cp, mc ++ [29]) := aR_next hq (by
  show (match opr T (tokAt T n q) with | some (l, m, _) => _ | none => _) = _
  rw [opr_41 h]
  dsimp only
  rw [if_pos ⟨h, by omega⟩]
  rfl)
theorem a_noclose {q d : Nat} {op : Nat → Nat} {cp : Nat → Bool} {mc : List Nat} (h : ¬ tkS T 41 (tokAt T n q) = true) (hs : StpQ T n 0 q (cp (d + 1))) : aR T n isB (q, d + 1, false, op, cp, mc) = .inl (1 + 16 * (tokAt T n q).1) := aR_end (by
  show (match opr T (tokAt T n q) with | some (l, m, _) => _ | none => _) = _
  cases ho : opr T (tokAt T n q) with
  | none =>
    dsimp only
    rw [if_neg (fun z => h z.1), if_neg (fun z => by omega)]
  | some x =>
    obtain ⟨l, m, c⟩ := x
    rcases hs l m c ho with y | y
    · omega
    · dsimp only
      rw [if_pos y.1, if_pos y.2])
theorem a_done {q : Nat} {op : Nat → Nat} {cp : Nat → Bool} {mc : List Nat} (h : tkS T 59 (tokAt T n q) = true) : aR T n isB (q, 0, false, op, cp, mc) = .inr ((tokAt T n q).2.1, mc) := aR_end (by
  show (match opr T (tokAt T n q) with | some (l, m, _) => _ | none => _) = _
  rw [opr_59 h]
  dsimp only
  rw [if_neg (fun z => absurd z.2 (by omega)), if_pos ⟨rfl, h⟩])
theorem a_nodone {q : Nat} {op : Nat → Nat} {cp : Nat → Bool} {mc : List Nat} (h : ¬ tkS T 59 (tokAt T n q) = true) (hs : StpQ T n 0 q (cp 0)) : aR T n isB (q, 0, false, op, cp, mc) = .inl (1 + 16 * (tokAt T n q).1) := aR_end (by
  show (match opr T (tokAt T n q) with | some (l, m, _) => _ | none => _) = _
  cases ho : opr T (tokAt T n q) with
  | none =>
    dsimp only
    rw [if_neg (fun z => absurd z.2 (by omega)), if_neg (fun z => h z.2)]
  | some x =>
    obtain ⟨l, m, c⟩ := x
    rcases hs l m c ho with y | y
    · omega
    · dsimp only
      rw [if_pos y.1, if_pos y.2])
theorem vLoc_x {x : Nat} (hx : x < (if isB = true then 2 else 5)) : vLoc isB (fun fs => fs x) := fun fs fs' h => h x hx
theorem Stp_4 {q : Nat} {b : Bool} : StpQ T n 4 q b := fun l m c h => .inl (opr_c h).2.2
theorem ECS.pass {q : Nat} {cc : List Nat} (h : ECS T n q cc M) (hn : n ≤ 1000) (hq : q ≤ n) {c : Nat} (hc : c < 127) : ∃ v M', F_X8_pass_ 4 30 (nI c) M = some (v, M') ∧ csE M M' ∧ if tkS T c (tokAt T n q) = true then v = nI 1 ∧ ECS T n (tokAt T n q).2.1 cc M' else v = nI 0 ∧ m_I M' 30 9 = nI (1 + 16 * (tokAt T n q).1) := by
  unfold F_X8_pass_
  rw [x_cV_ok h.K (h.S hq hc)]
  by_cases s : tkS T c (tokAt T n q) = true
  · obtain ⟨M1, a1, a2, a3⟩ := h.adv hn hq
    refine ⟨1, M1, ?_, a3, ?_⟩
    · rw [bI_tr s, if_neg (by decide), x_cV_ok h.K a1]
    · rw [if_pos s]; exact ⟨rfl, a2⟩
  · obtain ⟨M1, a1, a2, a3⟩ := h.fail (k := 1)
    have a1' : F_X8_fail 4 30 (1 : Int32) M = _ := a1
    refine ⟨0, M1, ?_, a3, ?_⟩
    · rw [bI_fa s, if_pos rfl, x_cV_ok h.K a1', x_b0]; rfl
    · rw [if_neg s]; exact ⟨rfl, a2⟩
theorem J_part (hn : n ≤ 1000) {d B1 B2 B : Nat} (hd : d ≤ 5) (hB1 : B1 ≤ B) (hB2 : B2 ≤ B) (hj : d < 5 → ∀ q, q ≤ n → JPt T n isB (d + 1) q B1 ∧ JE T n isB 0 (d + 1) q B2) {q : Nat} (hq : q ≤ n) : JPt T n isB d q (B + 1) := by
  have h4 := tok_4 (T := T) hq
  by_cases z0 : (okd T isB (tokAt T n q)).1 = 0
  · obtain ⟨y1, y2, y3, y4⟩ := okd_0 z0
    refine ⟨.inl (1 + 16 * (tokAt T n q).1), (by have := (tok_ok (T := T) q hq).2.1; exact ⟨by omega, by omega⟩), fun f M cc0 hf hlen h => ?_, fun op cp mc0 _ _ => a_bad z0⟩
    obtain ⟨f, rfl⟩ : ∃ x, f = x + 1 := ⟨f - 1, by omega⟩
    show ∃ v M', F_X4_readPart (G_E f).1 (G_E f).2 30 (nI (owN isB)) (nI d) M = some (v, M') ∧ _
    refine S_part0 h hq (P := fun o => ∃ v M', o = some (v, M') ∧ eCl T n cc0 (.inl (1 + 16 * (tokAt T n q).1)) M M' v) ?_
    intro k31 h31
    rw [h31]
    dsimp only
    refine m_let_P (fun o => ∃ v M', o = some (v, M') ∧ eCl T n cc0 (.inl (1 + 16 * (tokAt T n q).1)) M M' v) ?_
    intro k69 h69
    obtain ⟨M1, a1, a2, a3⟩ := h.fail (k := 1)
    have a1' : F_X8_fail 4 30 (1 : Int32) M = _ := a1
    rw [x_gI_ok h.K, h.2.2.1.1.2.2.2, if_neg (show ¬ nI (tokAt T n q).2.2.1 = (3 : Int32) from fun z => y4 ((nI_eq (b := 3) (by omega) (by omega)).mp z)), y3, if_pos (show bI (none : Option Nat).isSome = 0 from rfl), x_cV_ok h.K (h.W hq (by omega)), show k_wl.getD 10 0 = (10631 : Int64) from rfl, bI_fa y1, if_pos rfl, x_cV_ok h.K (show F_X8_isAt_ 4 30 (40 : Int32) M = _ from h.S hq (c := 40) (by omega)), bI_fa y2, if_pos rfl, x_cV_ok h.K a1', x_b0]
    exact ⟨nI 0, M1, rfl, a3, rfl, a2⟩
  -- the class up to the depth's test
  have begin69 : ∀ f M cc0, ECS T n q cc0 M → ∀ P : Option (Int32 × m_M) → Prop, (∀ k69 : Nat → Int32 → Int32 → Int32 → m_M → Option (Int32 × m_M), (k69 = fun (v5 : Nat) (v6 : Int32) (v7 : Int32) (v8 : Int32) (M2 : m_M) =>
      if v7 < (5 : Int32) then (
        x_cV 4 M2 v5 (F_X8_isAt 4 v5 (1000000 + 10) M2) fun v9 M3 =>
        if v9 = 0 then (
          x_cV 4 M3 v5 (F_X8_isAt_ 4 v5 (40 : Int32) M3) fun v10 M4 =>
          if v10 = 0 then (
            m_let (fun (v11 : Nat) (v12 : Nat) (v13 : Int32) (M5 : m_M) =>
              x_cV 3 M5 v12 (F_X3_addCode v12 v13 M5) fun _ M6 =>
              x_cV 4 M6 v11 (F_X8_advance 4 v11 M6) fun _ M7 =>
              some ((1 : Int32), M7)
            ) fun (k182 : Nat → Nat → Int32 → m_M → Option (Int32 × m_M)) =>
            x_gN 4 M4 v5 10 fun v14 =>
            if v8 = 0 then (
              x_gI 4 M4 v5 5 fun v15 =>
              k182 v5 v14 v15 M4
            ) else
            x_gO 4 M4 v5 8 fun v16 =>
            x_nn v16 fun v17 =>
            x_k v17 fun v18 =>
            k182 v5 v14 ((-1 : Int32) - (k_wf.getD v18 0)) M4
          ) else
          m_let (fun  (M8 : m_M) =>
            some ((0 : Int32), M8)
          ) fun (k156 : m_M → Option (Int32 × m_M)) =>
          x_cV 4 M4 v5 (F_X8_advance 4 v5 M4) fun _ M9 =>
          x_cV 4 M9 v5 ((G_E f).1 v5 v6 (0 : Int32) (v7 + (1 : Int32)) M9) fun v19 M10 =>
          if v19 = 0 then (
            k156 M10
          ) else
          x_cV 4 M10 v5 (F_X8_pass_ 4 v5 (41 : Int32) M10) fun v20 M11 =>
          if v20 = 0 then (
            k156 M11
          ) else
          some ((1 : Int32), M11)
        ) else
        x_cV 4 M3 v5 (F_X8_advance 4 v5 M3) fun _ M12 =>
        x_cV 4 M12 v5 ((G_E f).2 v5 v6 (v7 + (1 : Int32)) M12) fun v21 M13 =>
        if v21 = 0 then (
          some ((0 : Int32), M13)
        ) else
        x_gN 4 M13 v5 10 fun v22 =>
        x_cV 3 M13 v22 (F_X3_addCode v22 (-11 : Int32) M13) fun _ M14 =>
        some ((1 : Int32), M14)
      ) else
      x_cV 4 M2 v5 (F_X8_fail 4 v5 (5 : Int32) M2) fun v23 M15 =>
      x_b v23 <| some (v23, M15)) → P (k69 30 (nI (owN isB)) (nI d) (bI (fct isB (tokAt T n q)).isSome) M)) → P ((G_E (f + 1)).2 30 (nI (owN isB)) (nI d) M) := by
    intro f M cc0 h P hP
    show P (F_X4_readPart (G_E f).1 (G_E f).2 30 (nI (owN isB)) (nI d) M)
    refine S_part0 h hq ?_
    intro k31 h31
    rw [h31]
    dsimp only
    refine m_let_P P ?_
    intro k69 h69
    have go := hP k69 h69
    rw [x_gI_ok h.K, h.2.2.1.1.2.2.2]
    by_cases k3 : (tokAt T n q).2.2.1 = 3
    · rw [if_pos (show nI (tokAt T n q).2.2.1 = (3 : Int32) from by rw [k3]; rfl)]
      exact go
    rw [if_neg (show ¬ nI (tokAt T n q).2.2.1 = (3 : Int32) from fun z => k3 ((nI_eq (b := 3) (by omega) (by omega)).mp z))]
    cases hf : fct isB (tokAt T n q) with
    | some x =>
      rw [hf] at go
      rw [if_neg (show ¬ bI (some x).isSome = 0 from show ¬ bI true = 0 by decide)]
      exact go
    | none =>
      rw [hf] at go
      rw [if_pos (show bI (none : Option Nat).isSome = 0 from rfl), x_cV_ok h.K (h.W hq (by omega)), show k_wl.getD 10 0 = (10631 : Int64) from rfl]
      by_cases w1 : tkW 10631 (tokAt T n q) = true
      · rw [bI_tr w1, if_neg (by decide)]
        exact go
      rw [bI_fa w1, if_pos rfl, x_cV_ok h.K (show F_X8_isAt_ 4 30 (40 : Int32) M = _ from h.S hq (c := 40) (by omega))]
      by_cases s40 : tkS T 40 (tokAt T n q) = true
      · rw [bI_tr s40, if_neg (by decide)]
        exact go
      · exfalso
        rcases okd_in (T := T) (isB := isB) (tok_9 (T := T) hq) with z | ⟨z, w⟩ | ⟨z, s, w⟩ | ⟨x, z, zf, zx, w, s⟩ | ⟨z, zk, zn, zf, w, s⟩
        · exact z0 z.1
        · exact w1 w
        · exact s40 s
        · rw [hf] at zf; cases zf
        · exact k3 zk
  by_cases d5 : d = 5
  · subst d5
    refine ⟨.inl (5 + 16 * (tokAt T n q).1), (by have := (tok_ok (T := T) q hq).2.1; exact ⟨by omega, by omega⟩), fun f M cc0 hf hlen h => ?_, fun op cp mc0 _ _ => a_deep z0⟩
    obtain ⟨f, rfl⟩ : ∃ x, f = x + 1 := ⟨f - 1, by omega⟩
    refine begin69 f M cc0 h (fun o => ∃ v M', o = some (v, M') ∧ eCl T n cc0 (.inl (5 + 16 * (tokAt T n q).1)) M M' v) ?_
    intro k69 h69
    obtain ⟨M1, a1, a2, a3⟩ := h.fail (k := 5)
    have a1' : F_X8_fail 4 30 (5 : Int32) M = _ := a1
    rw [h69]
    dsimp only
    rw [if_neg (by decide), x_cV_ok h.K a1', x_b0]
    exact ⟨nI 0, M1, rfl, a3, rfl, a2⟩
  have hd5 : d < 5 := by omega
  have hlt : nI d < (5 : Int32) := nI_lt (b := 5) hd5 (by omega)
  obtain ⟨t1, t2, t3⟩ := tok_lt hq (okd_k z0)
  rcases okd_in (T := T) (isB := isB) (tok_9 (T := T) hq) with z | ⟨z, w1⟩ | ⟨z, s40, w1⟩ | ⟨x, z, zf, zx, w1, s40⟩ | ⟨z, zk, zn, zf, w1, s40⟩
  · exact absurd z.1 z0
  · -- not
    obtain ⟨o, g, hc, ha⟩ := (hj hd5 _ t2).1
    have st : ∀ f M cc0, B1 ≤ f → cc0.length ≤ q → ECS T n q cc0 M → ∃ v M1, eCl T n cc0 o M M1 v ∧ (G_E (f + 1)).2 30 (nI (owN isB)) (nI d) M = if v = 0 then some ((0 : Int32), M1) else x_gN 4 M1 30 10 fun v22 => x_cV 3 M1 v22 (F_X3_addCode v22 (-11 : Int32) M1) fun _ M14 => some ((1 : Int32), M14) := by
      intro f M cc0 hf hlen h
      obtain ⟨M1, a1, a2, a3⟩ := h.adv hn hq
      obtain ⟨v, M2, b1, b2⟩ := hc f M1 cc0 hf (by omega) a2
      refine ⟨v, M2, ⟨a3.trans b2.1, b2.2⟩, ?_⟩
      refine begin69 f M cc0 h (fun o => o = if v = 0 then some ((0 : Int32), M2) else x_gN 4 M2 30 10 fun v22 => x_cV 3 M2 v22 (F_X3_addCode v22 (-11 : Int32) M2) fun _ M14 => some ((1 : Int32), M14)) ?_
      intro k69 h69
      rw [h69]
      dsimp only
      rw [if_pos hlt, x_cV_ok h.K (h.W hq (by omega)), show k_wl.getD 10 0 = (10631 : Int64) from rfl, bI_tr w1, if_neg (by decide), x_cV_ok h.K a1, nI_1, x_cV_ok a2.K b1]
    cases o with
    | inl fl =>
      refine ⟨.inl fl, g, fun f M cc0 hf hlen h => ?_, fun op cp mc0 h1 h2 => ?_⟩
      · obtain ⟨f, rfl⟩ : ∃ x, f = x + 1 := ⟨f - 1, by omega⟩
        obtain ⟨v, M1, ⟨e1, hv, e2⟩, e3⟩ := st f M cc0 (by omega) hlen h
        exact ⟨0, M1, by rw [e3, hv, if_pos (by decide)], e1, rfl, e2⟩
      · dsimp only
        rw [a_push hq d5 z (.inl rfl)]
        exact ha _ _ _ (fun y => by omega) (fun y => by omega)
    | inr r =>
      obtain ⟨q1, cc1, mc1, V1⟩ := r
      obtain ⟨⟨g1, g2⟩, ⟨g3, g4⟩, g5, g6, g7⟩ := g
      have hcN : cN 4 (d + 1) ≤ cN 4 d := by unfold cN; omega
      have lc : (cc1 ++ [11]).length = cc1.length + 1 := by rw [List.length_append]; rfl
      have hS : Sx 4 (ofB isB) (30 :: mc1) (nV V1) (5 - d) := by
        have := SPt_not (n := 5 - (d + 1)) g6
        rw [show 5 - (d + 1) + 1 = 5 - d by omega] at this
        exact this
      refine ⟨.inr (q1, cc1 ++ [11], 30 :: mc1, nV V1), ⟨⟨by omega, g2⟩, ⟨by rw [lc]; omega, by show q + (mc1.length + 1) ≤ q1; omega⟩, (SCl_not g5).mono hcN, hS, vLoc_n g7⟩, fun f M cc0 hf hlen h => ?_, fun op cp mc0 h1 h2 => ?_⟩
      · obtain ⟨f, rfl⟩ : ∃ x, f = x + 1 := ⟨f - 1, by omega⟩
        obtain ⟨v, M1, ⟨e1, hv, e2⟩, e3⟩ := st f M cc0 (by omega) hlen h
        obtain ⟨M2, s1, s2, s3⟩ := e2.add (by rw [List.length_append]; omega) (c := 11)
        have s1' : F_X3_addCode 16 (-11 : Int32) M1 = _ := s1
        rw [List.append_assoc] at s2
        refine ⟨1, M2, ?_, e1.trans s3, rfl, s2⟩
        rw [e3, hv, if_neg (by decide), x_gN_ok e2.K (rd30 e2.1).2.1, x_cV_ok (rd30 e2.1).2.2.1 s1']
      · obtain ⟨op1, cp1, x1, x2, x3, x4, x5⟩ := ha (upf op (d + 1) 1) (upf cp (d + 1) false) (mc0 ++ [30]) (fun y => by omega) (fun y => by omega)
        refine ⟨op1, cp1, fun j hj => ?_, fun j hj => ?_, fun _ => ?_, ?_, Stp_4⟩
        · rw [x1 j (by omega)]; unfold upf; rw [if_neg (by omega)]
        · rw [x2 j (by omega)]; unfold upf; rw [if_neg (by omega)]
        · rw [x2 d (by omega)]; unfold upf; rw [if_neg (by omega)]
        · rw [a_push hq d5 z (.inl rfl), x4, List.append_assoc]
          have : popN op1 (d + 1) = popN op1 d := by
            show (if op1 (d + 1) = 1 then popN op1 d else d + 1) = _
            rw [x1 (d + 1) (Nat.le_refl _), if_pos (show upf op (d + 1) 1 (d + 1) = 1 from if_pos rfl)]
          rw [this]
          rfl
  · -- a pair of brackets
    obtain ⟨o, g, hc, ha⟩ := (hj hd5 _ t2).2
    have st : ∀ f M cc0, B2 ≤ f → cc0.length ≤ q → ECS T n q cc0 M → ∃ v M1, eCl T n cc0 o M M1 v ∧ (G_E (f + 1)).2 30 (nI (owN isB)) (nI d) M = if v = 0 then some ((0 : Int32), M1) else x_cV 4 M1 30 (F_X8_pass_ 4 30 (41 : Int32) M1) fun v20 M11 => if v20 = 0 then some ((0 : Int32), M11) else some ((1 : Int32), M11) := by
      intro f M cc0 hf hlen h
      obtain ⟨M1, a1, a2, a3⟩ := h.adv hn hq
      obtain ⟨v, M2, b1, b2⟩ := hc f M1 cc0 hf (by omega) a2
      have b1' : (G_E f).1 30 (nI (owN isB)) (0 : Int32) (nI (d + 1)) M1 = _ := b1
      refine ⟨v, M2, ⟨a3.trans b2.1, b2.2⟩, ?_⟩
      refine begin69 f M cc0 h (fun o => o = if v = 0 then some ((0 : Int32), M2) else x_cV 4 M2 30 (F_X8_pass_ 4 30 (41 : Int32) M2) fun v20 M11 => if v20 = 0 then some ((0 : Int32), M11) else some ((1 : Int32), M11)) ?_
      intro k69 h69
      rw [h69]
      dsimp only
      rw [if_pos hlt, x_cV_ok h.K (h.W hq (by omega)), show k_wl.getD 10 0 = (10631 : Int64) from rfl, bI_fa w1, if_pos rfl, x_cV_ok h.K (show F_X8_isAt_ 4 30 (40 : Int32) M = _ from h.S hq (c := 40) (by omega)), bI_tr s40, if_neg (by decide)]
      refine m_let_e ?_
      intro K hK
      rw [x_cV_ok h.K a1, nI_1, x_cV_ok a2.K b1', hK]
    cases o with
    | inl fl =>
      refine ⟨.inl fl, g, fun f M cc0 hf hlen h => ?_, fun op cp mc0 h1 h2 => ?_⟩
      · obtain ⟨f, rfl⟩ : ∃ x, f = x + 1 := ⟨f - 1, by omega⟩
        obtain ⟨v, M1, ⟨e1, hv, e2⟩, e3⟩ := st f M cc0 (by omega) hlen h
        exact ⟨0, M1, by rw [e3, hv, if_pos (by decide)], e1, rfl, e2⟩
      · dsimp only
        rw [a_push hq d5 z (.inr rfl)]
        exact ha _ _ _ (fun y => .inr (by rw [show upf op (d + 1) 2 (d + 1) = 2 from if_pos rfl]; omega)) (fun y => if_pos rfl)
    | inr r =>
      obtain ⟨q1, cc1, mc1, V1⟩ := r
      obtain ⟨⟨g1, g2⟩, ⟨g3, g4⟩, g5, g6, g7⟩ := g
      have hcN : cN 0 (d + 1) ≤ cN 4 d := by unfold cN; omega
      have au : ∀ (op : Nat → Nat) (cp : Nat → Bool) (mc0 : List Nat), ∃ op1 cp1, (∀ j, j ≤ d → op1 j = op j) ∧ (∀ j, j ≤ d → cp1 j = cp j) ∧ StpQ T n 0 q1 (cp1 (d + 1)) ∧ aR T n isB (q, d, true, op, cp, mc0) = aR T n isB (q1, d + 1, false, op1, cp1, mc0 ++ (28 :: mc1)) := by
        intro op cp mc0
        obtain ⟨op1, cp1, x1, x2, x3, x4, x5⟩ := ha (upf op (d + 1) 2) (upf cp (d + 1) false) (mc0 ++ [28]) (fun y => .inr (by rw [show upf op (d + 1) 2 (d + 1) = 2 from if_pos rfl]; omega)) (fun y => if_pos rfl)
        refine ⟨op1, cp1, fun j hj => ?_, fun j hj => ?_, x5, ?_⟩
        · rw [x1 j (by omega)]; unfold upf; rw [if_neg (by omega)]
        · rw [x2 j (by omega)]; unfold upf; rw [if_neg (by omega)]
        · rw [a_push hq d5 z (.inr rfl), x4, List.append_assoc, popN_no (.inr (by rw [x1 (d + 1) (Nat.le_refl _), show upf op (d + 1) 2 (d + 1) = 2 from if_pos rfl]; omega))]
          rfl
      by_cases s41 : tkS T 41 (tokAt T n q1) = true
      · obtain ⟨u1, u2, u3⟩ := tok_lt g2 (by rw [(tkS_k s41).1]; decide)
        have hS : Sx 4 (ofB isB) (28 :: (mc1 ++ [29])) V1 (5 - d) := by
          have := SPt_par (n := 5 - (d + 1)) g6
          rw [show 5 - (d + 1) + 1 = 5 - d by omega] at this
          exact this
        have lm : (28 :: (mc1 ++ [29])).length = mc1.length + 2 := by show (mc1 ++ [29]).length + 1 = _; rw [List.length_append]; rfl
        refine ⟨.inr ((tokAt T n q1).2.1, cc1, 28 :: (mc1 ++ [29]), V1), ⟨⟨by omega, u2⟩, ⟨by omega, by rw [lm]; omega⟩, g5.mono hcN, hS, g7⟩, fun f M cc0 hf hlen h => ?_, fun op cp mc0 h1 h2 => ?_⟩
        · obtain ⟨f, rfl⟩ : ∃ x, f = x + 1 := ⟨f - 1, by omega⟩
          obtain ⟨v, M1, ⟨e1, hv, e2⟩, e3⟩ := st f M cc0 (by omega) hlen h
          obtain ⟨w, M2, p1, p2, p3⟩ := e2.pass hn g2 (c := 41) (by omega)
          rw [if_pos s41] at p3
          have p1' : F_X8_pass_ 4 30 (41 : Int32) M1 = _ := p1
          refine ⟨1, M2, ?_, e1.trans p2, rfl, p3.2⟩
          rw [e3, hv, if_neg (by decide), x_cV_ok e2.K p1', p3.1, if_neg (by decide)]
        · obtain ⟨op1, cp1, y1, y2, y3, y4⟩ := au op cp mc0
          refine ⟨op1, cp1, y1, fun j hj => y2 j (by omega), fun _ => y2 d (Nat.le_refl _), ?_, Stp_4⟩
          rw [y4, a_close g2 s41, List.append_assoc]
          rfl
      · refine ⟨.inl (1 + 16 * (tokAt T n q1).1), (by have := (tok_ok (T := T) q1 g2).2.1; exact ⟨by omega, by omega⟩), fun f M cc0 hf hlen h => ?_, fun op cp mc0 h1 h2 => ?_⟩
        · obtain ⟨f, rfl⟩ : ∃ x, f = x + 1 := ⟨f - 1, by omega⟩
          obtain ⟨v, M1, ⟨e1, hv, e2⟩, e3⟩ := st f M cc0 (by omega) hlen h
          obtain ⟨w, M2, p1, p2, p3⟩ := e2.pass hn g2 (c := 41) (by omega)
          rw [if_neg s41] at p3
          have p1' : F_X8_pass_ 4 30 (41 : Int32) M1 = _ := p1
          refine ⟨0, M2, ?_, e1.trans p2, rfl, p3.2⟩
          rw [e3, hv, if_neg (by decide), x_cV_ok e2.K p1', p3.1, if_pos (by decide)]
        · obtain ⟨op1, cp1, y1, y2, y3, y4⟩ := au op cp mc0
          dsimp only
          rw [y4, a_noclose s41 y3]
  · -- a fact
    have hx5 : x < 5 := by cases isB; rw [if_neg (by decide)] at zx; exact zx; rw [if_pos rfl] at zx; omega
    have hk2 := fct_W zf
    have hS : Sx 4 (ofB isB) [ofB isB + x] (fun fs => fs x) (5 - d) := by
      intro d' A hd'
      have h20 : ofB isB + x < 20 := by
        unfold ofB
        cases isB
        · rw [if_neg (by decide)]; omega
        · rw [if_pos rfl]; omega
      exact SPt_one (off := ofB isB) (c := ofB isB + x) (x := x) (.inl ⟨h20, rfl, rfl⟩) (fun _ => trivial) d' A (by omega)
    refine ⟨.inr ((tokAt T n q).2.1, [x], [ofB isB + x], fun fs => fs x), ⟨⟨t1, t2⟩, ⟨by show q + 1 ≤ _; omega, by show q + 1 ≤ _; omega⟩, (SCl_one (.inl ⟨hx5, rfl⟩)).mono (by unfold cN; omega), hS, vLoc_x zx⟩, fun f M cc0 hf hlen h => ?_, fun op cp mc0 h1 h2 => ⟨op, cp, fun _ _ => rfl, fun _ _ => rfl, fun _ => rfl, a_val hq d5 z, Stp_4⟩⟩
    obtain ⟨f, rfl⟩ : ∃ y, f = y + 1 := ⟨f - 1, by omega⟩
    refine begin69 f M cc0 h (fun o => ∃ v M', o = some (v, M') ∧ eCl T n cc0 (.inr ((tokAt T n q).2.1, [x], [ofB isB + x], fun fs => fs x)) M M' v) ?_
    intro k69 h69
    obtain ⟨M1, s1, s2, s3⟩ := h.add (by omega) (c := x)
    obtain ⟨M2, a1, a2, a3⟩ := s2.adv hn hq
    obtain ⟨_, e8⟩ := h.2.2.1.2.1 hk2
    rw [h69]
    dsimp only
    rw [if_pos hlt, x_cV_ok h.K (h.W hq (by omega)), show k_wl.getD 10 0 = (10631 : Int64) from rfl, bI_fa w1, if_pos rfl, x_cV_ok h.K (show F_X8_isAt_ 4 30 (40 : Int32) M = _ from h.S hq (c := 40) (by omega)), bI_fa s40, if_pos rfl]
    refine m_let_P (fun o => ∃ v M', o = some (v, M') ∧ eCl T n cc0 (.inr ((tokAt T n q).2.1, [x], [ofB isB + x], fun fs => fs x)) M M' v) ?_
    intro K hK
    rw [zf, x_gN_ok h.K (rd30 h.1).2.1, if_neg (show ¬ bI (some x).isSome = 0 from show ¬ bI true = 0 by decide), x_gO_ok h.K, e8]
    rw [fct_w hk2] at zf
    have fin : K 30 16 (cw x) M = some (1, M2) := by
      rw [hK]
      dsimp only
      rw [x_cV_ok (rd30 h.1).2.2.1 s1, x_cV_ok s2.K a1]
    rcases wdR_cases (tokAt T n q).2.2.2.1 with ⟨v1, v2⟩ | ⟨j, hj2, v1, v2⟩
    · rw [fcW_n v2] at zf; cases zf
    · rw [v2]
      show ∃ v M', (x_k (1000000 + j) fun v18 => K 30 16 ((-1 : Int32) - (k_wf.getD v18 0)) M) = some (v, M') ∧ _
      rw [x_k_ok hj2]
      rcases fcW_all isB j hj2 with ⟨y1, y2⟩ | ⟨x', y0, y1, y2, y3⟩
      · rw [v1, zf] at y1; cases y1
      · rw [v1, zf] at y1
        cases y1
        rw [y3, show (-1 : Int32) - nI x = cw x from by unfold cw; rw [if_pos hx5]; rfl]
        exact ⟨1, M2, fin, s3.trans a3, rfl, a2⟩
  · -- a number
    have hS : Sx 4 (ofB isB) [100 + (tokAt T n q).2.2.2.2] (fun _ => nI (100 + (tokAt T n q).2.2.2.2 - 100)) (5 - d) := by
      intro d' A hd'
      exact SPt_one (off := ofB isB) (c := 100 + (tokAt T n q).2.2.2.2) (x := 0) (.inr ⟨by omega, by omega, rfl⟩) (fun _ => trivial) d' A (by omega)
    refine ⟨.inr ((tokAt T n q).2.1, [100 + (tokAt T n q).2.2.2.2], [100 + (tokAt T n q).2.2.2.2], fun _ => nI (100 + (tokAt T n q).2.2.2.2 - 100)), ⟨⟨t1, t2⟩, ⟨by show q + 1 ≤ _; omega, by show q + 1 ≤ _; omega⟩, (SCl_one (.inr ⟨by omega, by omega, rfl⟩)).mono (by unfold cN; omega), hS, fun _ _ _ => rfl⟩, fun f M cc0 hf hlen h => ?_, fun op cp mc0 h1 h2 => ⟨op, cp, fun _ _ => rfl, fun _ _ => rfl, fun _ => rfl, a_val hq d5 z, Stp_4⟩⟩
    obtain ⟨f, rfl⟩ : ∃ y, f = y + 1 := ⟨f - 1, by omega⟩
    refine begin69 f M cc0 h (fun o => ∃ v M', o = some (v, M') ∧ eCl T n cc0 (.inr ((tokAt T n q).2.1, [100 + (tokAt T n q).2.2.2.2], [100 + (tokAt T n q).2.2.2.2], fun _ => nI (100 + (tokAt T n q).2.2.2.2 - 100))) M M' v) ?_
    intro k69 h69
    obtain ⟨M1, s1, s2, s3⟩ := h.add (by omega) (c := 100 + (tokAt T n q).2.2.2.2)
    obtain ⟨M2, a1, a2, a3⟩ := s2.adv hn hq
    have e5 := h.2.2.1.2.2.1 zk
    rw [h69]
    dsimp only
    rw [if_pos hlt, x_cV_ok h.K (h.W hq (by omega)), show k_wl.getD 10 0 = (10631 : Int64) from rfl, bI_fa w1, if_pos rfl, x_cV_ok h.K (show F_X8_isAt_ 4 30 (40 : Int32) M = _ from h.S hq (c := 40) (by omega)), bI_fa s40, if_pos rfl]
    refine m_let_P (fun o => ∃ v M', o = some (v, M') ∧ eCl T n cc0 (.inr ((tokAt T n q).2.1, [100 + (tokAt T n q).2.2.2.2], [100 + (tokAt T n q).2.2.2.2], fun _ => nI (100 + (tokAt T n q).2.2.2.2 - 100))) M M' v) ?_
    intro K hK
    rw [zf, x_gN_ok h.K (rd30 h.1).2.1, if_pos (show bI (none : Option Nat).isSome = 0 from rfl), x_gI_ok h.K, e5, show nI (tokAt T n q).2.2.2.2 = cw (100 + (tokAt T n q).2.2.2.2) from by unfold cw; rw [if_neg (by omega), if_neg (by omega)]; congr 1; omega, hK]
    dsimp only
    rw [x_cV_ok (rd30 h.1).2.2.1 s1, x_cV_ok s2.K a1]
    exact ⟨1, M2, rfl, s3.trans a3, rfl, a2⟩
theorem J_allE (hn : n ≤ 1000) : ∀ e d, d + e = 5 → ∀ q, q ≤ n → JPt T n isB d q (6 * e + 1) ∧ JE T n isB 0 d q (6 * e + 6) := by
  intro e
  induction e with
  | zero =>
    intro d hd
    have hp : ∀ q, q ≤ n → JPt T n isB d q 1 := fun q hq => J_part hn (B1 := 0) (B2 := 0) (B := 0) (by omega) (by omega) (by omega) (fun z => by omega) hq
    have h4 : ∀ q, q ≤ n → JE T n isB 4 d q 2 := fun q hq => J_four (hp q hq)
    have h3 : ∀ q, q ≤ n → JE T n isB 3 d q 3 := fun q hq => J_lvl hn (lv := 3) (by omega) (by omega) h4 hq
    have h2 : ∀ q, q ≤ n → JE T n isB 2 d q 4 := fun q hq => J_lvl hn (lv := 2) (by omega) (by omega) h3 hq
    have h1 : ∀ q, q ≤ n → JE T n isB 1 d q 5 := fun q hq => J_cmp hn h2 hq
    exact fun q hq => ⟨hp q hq, J_lvl hn (lv := 0) (by omega) (by omega) h1 hq⟩
  | succ e ih =>
    intro d hd
    have hp : ∀ q, q ≤ n → JPt T n isB d q (6 * e + 6 + 1) := fun q hq => J_part hn (B1 := 6 * e + 1) (B2 := 6 * e + 6) (B := 6 * e + 6) (by omega) (by omega) (by omega) (fun z => ih (d + 1) (by omega)) hq
    have h4 : ∀ q, q ≤ n → JE T n isB 4 d q (6 * e + 8) := fun q hq => J_four (hp q hq)
    have h3 : ∀ q, q ≤ n → JE T n isB 3 d q (6 * e + 9) := fun q hq => J_lvl hn (lv := 3) (by omega) (by omega) h4 hq
    have h2 : ∀ q, q ≤ n → JE T n isB 2 d q (6 * e + 10) := fun q hq => J_lvl hn (lv := 2) (by omega) (by omega) h3 hq
    have h1 : ∀ q, q ≤ n → JE T n isB 1 d q (6 * e + 11) := fun q hq => J_cmp hn h2 hq
    exact fun q hq => ⟨hp q hq, J_lvl hn (lv := 0) (by omega) (by omega) h1 hq⟩
/-- a law, up to its semicolon: both sides -/
theorem J_law (hn : n ≤ 1000) {q : Nat} (hq : q ≤ n) : ∃ o : EO, (match o with
    | .inl f => 0 < f ∧ f < 20000
    | .inr (q', cc, mc, V) => (q < q' ∧ q' ≤ n ∧ tkS T 59 (tokAt T n q') = true) ∧ (q + cc.length ≤ q' ∧ q + mc.length ≤ q') ∧ SCl cc V 30 ∧ S0 (ofB isB) mc V 5 ∧ vLoc isB V)
  ∧ (∀ M cc0, cc0.length ≤ q → ECS T n q cc0 M → ∃ v M', FG_X4_readLevel 30 (nI (owN isB)) (0 : Int32) (0 : Int32) M = some (v, M') ∧ csE M M' ∧ match o with
    | .inl f => (v = nI 0 ∧ m_I M' 30 9 = nI f) ∨ ∃ cc q', v = nI 1 ∧ ECS T n q' (cc0 ++ cc) M' ∧ q' ≤ n ∧ ¬ tkS T 59 (tokAt T n q') = true ∧ f = 1 + 16 * (tokAt T n q').1
    | .inr (q', cc, _, _) => v = nI 1 ∧ ECS T n q' (cc0 ++ cc) M')
  ∧ ∀ b0 M, b0 ≤ 2000 → b0 + (n - q) ≤ 2000 → EMz T n b0 isB q M → EMout T n b0 (match o with | .inl f => .inl f | .inr (q', _, mc, _) => .inr ((tokAt T n q').2.1, mc)) (F_X12_reads 128 M) M := by
  obtain ⟨o, g, hc, ha⟩ := (J_allE (T := T) (isB := isB) hn 5 0 (by omega) q hq).2
  cases o with
  | inl fl =>
    refine ⟨.inl fl, g, fun M cc0 hlen h => ?_, fun b0 M hb hb2 h => ?_⟩
    · obtain ⟨v, M1, a1, a2, a3⟩ := hc 64 M cc0 (by omega) hlen h
      exact ⟨v, M1, a1, a2, .inl a3⟩
    · have := M_reads hn hb hq hb2 h
      rw [show aR T n isB (q, 0, true, fun _ => 0, fun _ => false, []) = .inl fl from ha (fun _ => 0) (fun _ => false) [] (fun _ => .inl rfl) (fun _ => rfl)] at this
      exact this
  | inr r =>
    obtain ⟨q1, cc1, mc1, V1⟩ := r
    obtain ⟨⟨g1, g2⟩, ⟨g3, g4⟩, g5, g6, g7⟩ := g
    have au : ∃ op1 cp1, StpQ T n 0 q1 (cp1 0) ∧ aR T n isB (q, 0, true, fun _ => 0, fun _ => false, []) = aR T n isB (q1, 0, false, op1, cp1, mc1) := by
      obtain ⟨op1, cp1, x1, x2, x3, x4, x5⟩ := ha (fun _ => 0) (fun _ => false) [] (fun _ => .inl rfl) (fun _ => rfl)
      exact ⟨op1, cp1, x5, x4⟩
    by_cases s59 : tkS T 59 (tokAt T n q1) = true
    · refine ⟨.inr (q1, cc1, mc1, V1), ⟨⟨g1, g2, s59⟩, ⟨g3, g4⟩, g5.mono (by unfold cN; omega), g6, g7⟩, fun M cc0 hlen h => ?_, fun b0 M hb hb2 h => ?_⟩
      · obtain ⟨v, M1, a1, a2, a3⟩ := hc 64 M cc0 (by omega) hlen h
        exact ⟨v, M1, a1, a2, a3⟩
      · have := M_reads hn hb hq hb2 h
        obtain ⟨op1, cp1, x5, x4⟩ := au
        rw [x4, a_done s59] at this
        exact this
    · refine ⟨.inl (1 + 16 * (tokAt T n q1).1), (by have := (tok_ok (T := T) q1 g2).2.1; exact ⟨by omega, by omega⟩), fun M cc0 hlen h => ?_, fun b0 M hb hb2 h => ?_⟩
      · obtain ⟨v, M1, a1, a2, a3⟩ := hc 64 M cc0 (by omega) hlen h
        exact ⟨v, M1, a1, a2, .inr ⟨cc1, q1, a3.1, a3.2, g2, s59, rfl⟩⟩
      · have := M_reads hn hb hq hb2 h
        obtain ⟨op1, cp1, x5, x4⟩ := au
        rw [x4, a_nodone s59 x5] at this
        exact this
end ELAW
