/-! a land read: what a line comes to, on both sides -/
def gO {α : Type} (n q : Nat) (pos : α → Nat) (P : α → Prop) (o : Nat ⊕ α) : Prop := match o with
  | .inl f => 0 < f ∧ f < 20000
  | .inr a => (q ≤ pos a ∧ pos a ≤ n) ∧ P a
section JLINE
variable {M M' : m_M} {T : Nat → Nat} {n q : Nat} {l : Ld} {bt : Bool} {isB : Bool}
theorem gO_sB {α β : Type} {p1 : α → Nat} {P1 : α → Prop} {p2 : β → Nat} {P2 : β → Prop} {o : Nat ⊕ α} {g : α → Nat ⊕ β} (h : gO n q p1 P1 o) (hg : ∀ a, q ≤ p1 a → p1 a ≤ n → P1 a → gO n q p2 P2 (g a)) : gO n q p2 P2 (sB o g) := by
  cases o with
  | inl f => exact h
  | inr a => exact hg a h.1.1 h.1.2 h.2
theorem gO_up {α : Type} {p : α → Nat} {P : α → Prop} {o : Nat ⊕ α} {q' : Nat} (h : gO n q' p P o) (hq : q ≤ q') : gO n q p P o := by
  cases o with
  | inl f => exact h
  | inr a => exact ⟨⟨by have := h.1.1; omega, h.1.2⟩, h.2⟩
theorem flt_ok (hn : n ≤ 1000) (hq : q ≤ n) {k : Nat} (h1 : 0 < k) (h2 : k < 100) : 0 < flt T n q k ∧ flt T n q k < 20000 := by
  have := (tok_ok (T := T) q hq).2.1
  unfold flt
  omega
theorem nx_le (hq : q ≤ n) : q ≤ (tokAt T n q).2.1 ∧ (tokAt T n q).2.1 ≤ n := by
  obtain ⟨o1, o2, o3, o4, _⟩ := tok_ok (T := T) q hq
  omega
theorem nmO_g (hn : n ≤ 1000) (hq : q ≤ n) {kd : Nat} : gO n (tokAt T n q).2.1 Prod.snd (fun _ => True) (nmO T n l kd q) := by
  obtain ⟨a1, a2⟩ := nx_le (T := T) hq
  obtain ⟨b1, b2⟩ := nx_le (T := T) a2
  unfold nmO
  split
  · exact flt_ok hn hq (by omega) (by omega)
  split
  · split
    · exact flt_ok hn a2 (by omega) (by omega)
    · exact ⟨⟨b1, b2⟩, trivial⟩
  · exact flt_ok hn a2 (by omega) (by omega)
theorem wdO_g (hn : n ≤ 1000) (hq : q ≤ n) {c : Int64} : gO n q (fun a => a) (fun _ => True) (wdO T n c q) := by
  unfold wdO
  split
  · exact ⟨nx_le hq, trivial⟩
  · exact flt_ok hn hq (by omega) (by omega)
theorem clO_g (hn : n ≤ 1000) (hq : q ≤ n) : gO n q (fun a => a) (fun _ => True) (clO T n q) := by
  unfold clO
  split
  · exact ⟨nx_le hq, trivial⟩
  · exact flt_ok hn hq (by omega) (by omega)
theorem nuO_g (hn : n ≤ 1000) (hq : q ≤ n) {lo hi : Nat} : gO n q Prod.snd (fun _ => True) (nuO T n lo hi q) := by
  unfold nuO
  split
  · split
    · exact ⟨nx_le hq, trivial⟩
    · exact flt_ok hn hq (by omega) (by omega)
  · exact flt_ok hn hq (by omega) (by omega)
theorem vbO_g (hn : n ≤ 1000) (hq : q ≤ n) : gO n q (fun _ => q) (fun _ => True) (vbO T n l q) := by
  unfold vbO
  split
  · split
    · exact ⟨⟨Nat.le_refl _, hq⟩, trivial⟩
    · exact flt_ok hn hq (by omega) (by omega)
  · exact flt_ok hn hq (by omega) (by omega)
def h5 (l : Ld) (r : Nat × Ld) : Prop := lH r.2 5 = lH l 5
theorem thO_g (hn : n ≤ 1000) (hq : q ≤ n) : gO n (tokAt T n q).2.1 Prod.fst (h5 l) (thO T n l q) := by
  unfold thO
  refine gO_sB (nmO_g hn hq) (fun a a1 a2 _ => ?_)
  refine gO_sB (gO_up (wdO_g hn a2) a1) (fun q3 b1 b2 _ => ?_)
  refine gO_sB (gO_up (nuO_g hn b2) b1) (fun c c1 c2 _ => ?_)
  refine gO_sB (gO_up (clO_g hn c2) c1) (fun q5 d1 d2 _ => ?_)
  exact ⟨⟨d1, d2⟩, rfl⟩
theorem brO_g (hn : n ≤ 1000) (hq : q ≤ n) : gO n (tokAt T n q).2.1 Prod.fst (h5 l) (brO T n l bt q) := by
  unfold brO
  split
  · exact flt_ok hn hq (by omega) (by omega)
  obtain ⟨a1, a2⟩ := nx_le (T := T) hq
  refine gO_sB (nuO_g hn a2) (fun c c1 c2 _ => ?_)
  refine gO_sB (gO_up (clO_g hn c2) c1) (fun q5 d1 d2 _ => ?_)
  exact ⟨⟨d1, d2⟩, rfl⟩
theorem wkO_g (hn : n ≤ 1000) : ∀ (e : Nat) (l : Ld) (i q : Nat), q ≤ n → lH l 5 = i → gO n q Prod.fst (fun r => 0 < lH r.2 5) (wkO T n e l i q) := by
  intro e
  induction e with
  | zero => intro l i q hq _; exact flt_ok hn hq (by omega) (by omega)
  | succ e ih =>
    intro l i q hq hi
    obtain ⟨a1, a2⟩ := nx_le (T := T) hq
    unfold wkO
    split
    · rename_i h; exact ⟨⟨a1, a2⟩, by show 0 < lH l 5; omega⟩
    · refine gO_sB (p1 := fun _ => q) (P1 := fun _ => True) ?_ (fun v _ _ _ => ?_)
      · split
        · exact ⟨⟨Nat.le_refl _, hq⟩, trivial⟩
        · refine gO_sB (vbO_g hn hq) (fun v _ _ _ => ⟨⟨Nat.le_refl _, hq⟩, trivial⟩)
      · split
        · exact flt_ok hn hq (by omega) (by omega)
        · exact gO_up (ih _ (i + 1) _ a2 rfl) a1
theorem weO_g (hn : n ≤ 1000) (hq : q ≤ n) : gO n (tokAt T n q).2.1 Prod.fst (fun r => 0 < lH r.2 5) (weO T n l q) := by
  unfold weO
  split
  · exact flt_ok hn hq (by omega) (by omega)
  · exact wkO_g hn 9 l 0 _ (nx_le hq).2 (by omega)
theorem spO_g (hn : n ≤ 1000) {l0 : Ld} : ∀ (e : Nat) (l : Ld) (set i q : Nat), q ≤ n → lH l 5 = lH l0 5 → gO n q Prod.fst (h5 l0) (spO T n e l set i q) := by
  intro e
  induction e with
  | zero => intro l set i q hq _; exact flt_ok hn hq (by omega) (by omega)
  | succ e ih =>
    intro l set i q hq hl
    obtain ⟨a1, a2⟩ := nx_le (T := T) hq
    unfold spO
    split
    · exact ⟨⟨a1, a2⟩, hl⟩
    · refine gO_sB (vbO_g hn hq) (fun v _ _ _ => ?_)
      split
      · exact flt_ok hn hq (by omega) (by omega)
      · refine gO_sB (gO_up (nuO_g hn a2) a1) (fun b b1 b2 _ => gO_up (ih _ _ _ _ b2 hl) b1)
theorem seO_g (hn : n ≤ 1000) (hq : q ≤ n) : gO n (tokAt T n q).2.1 Prod.fst (h5 l) (seO T n l q) := by
  unfold seO
  refine gO_sB (nmO_g hn hq) (fun a a1 a2 _ => ?_)
  refine gO_sB (gO_up (wdO_g hn a2) a1) (fun q3 b1 b2 _ => ?_)
  refine gO_sB (gO_up (spO_g hn (l0 := l) 8 l 0 0 q3 b2 rfl) b1) (fun r r1 r2 hr => ⟨⟨r1, r2⟩, hr⟩)
/-- a law, with named matches -/
def eoC (T : Nat → Nat) (n : Nat) (cc0 : List Nat) (o : EO) (M' : m_M) (v : Int32) : Prop := match o with
    | .inl f => (v = nI 0 ∧ m_I M' 30 9 = nI f) ∨ ∃ cc q', v = nI 1 ∧ ECS T n q' (cc0 ++ cc) M' ∧ q' ≤ n ∧ ¬ tkS T 59 (tokAt T n q') = true ∧ f = 1 + 16 * (tokAt T n q').1
    | .inr (q', cc, _, _) => v = nI 1 ∧ ECS T n q' (cc0 ++ cc) M'
def LwC (T : Nat → Nat) (n : Nat) (isB : Bool) (q : Nat) (o : EO) : Prop := ∀ M cc0, cc0.length ≤ q → ECS T n q cc0 M → ∃ v M', FG_X4_readLevel 30 (nI (owN isB)) (0 : Int32) (0 : Int32) M = some (v, M') ∧ csE M M' ∧ eoC T n cc0 o M' v
def LwM (T : Nat → Nat) (n : Nat) (isB : Bool) (q : Nat) (o : EO) : Prop := ∀ b0 M, b0 ≤ 2000 → b0 + (n - q) ≤ 2000 → EMz T n b0 isB q M → EMout T n b0 (eoR T n o) (F_X12_reads 128 M) M
theorem J_law' (hn : n ≤ 1000) (hq : q ≤ n) : ∃ o : EO, eoG T n isB q o ∧ LwC T n isB q o ∧ LwM T n isB q o := by
  obtain ⟨o, h1, h2, h3⟩ := J_law (T := T) (isB := isB) hn hq
  refine ⟨o, ?_, ?_, ?_⟩
  · cases o <;> exact h1
  · intro M cc0 a b
    obtain ⟨v, M', c1, c2, c3⟩ := h2 M cc0 a b
    refine ⟨v, M', c1, c2, ?_⟩
    cases o <;> exact c3
  · intro b0 M a b c
    have := h3 b0 M a b c
    cases o <;> exact this
theorem CRes.xb {pd : Option (Nat × Int64)} {o : Nat ⊕ (Nat × Ld)} {r : Option (Int32 × m_M)} (h : CRes T n pd bt o r M) (K : m_K M 30 = 4) : CRes T n pd bt o (x_cV 4 M 30 r fun v M1 => x_b v <| some (v, M1)) M := by
  obtain ⟨v, M1, e, f, g⟩ := h
  refine ⟨v, M1, ?_, f, g⟩
  rw [x_cV_ok K e]
  cases o with
  | inl f => rw [g.1, x_b0]
  | inr a => obtain ⟨q', l'⟩ := a; rw [g.1, x_b1]
theorem C_lawA (h : DS T n q l none bt M) (hn : n ≤ 1000) : (∀ f, nmO T n l (lwK isB) q = .inl f → CRes T n none bt (.inl f) (F_X4_readLaw 30 (nI (lwK isB)) M) M) ∧ ∀ w q2, nmO T n l (lwK isB) q = .inr (w, q2) → ∀ o, eoG T n isB q2 o → LwC T n isB q2 o → CRes T n none bt (lwO T n l isB w o) (F_X4_readLaw 30 (nI (lwK isB)) M) M := by
  obtain ⟨v, M1, a1, a2, a3⟩ := h.named hn (kd := lwK isB) (by cases isB <;> decide)
  unfold F_X4_readLaw
  rw [x_cV_ok h.K a1]
  constructor
  · intro f hf
    rw [hf] at a3
    obtain ⟨hv, a4⟩ := a3
    rw [hv, if_pos (by decide)]
    exact ⟨0, M1, rfl, a2, rfl, a4⟩
  · intro w q2 hw o ho hc
    rw [hw] at a3
    obtain ⟨hv, a4, a5⟩ := a3
    rw [hv, if_neg (by decide)]
    refine CRes.tr ?_ a2
    refine C_law a5 hn a4 ?_ ?_
    · cases o <;> exact ho
    · intro M2 cc0 b1 b2
      obtain ⟨v, M3, c1, c2, c3⟩ := hc M2 cc0 b1 b2
      refine ⟨v, M3, c1, c2, ?_⟩
      cases o <;> exact c3
/-- the model's choice of a line -/
noncomputable def mDisp (k181 : Nat → Int32 → m_M → Option (Int32 × m_M)) (M : m_M) : Option (Int32 × m_M) :=
    x_cV 10 M 128 (F_X12_isWord 128 (10793230 : Int64) M) fun v5 M2 =>
    if v5 = 0 then (
      x_cV 10 M2 128 (F_X12_isWord 128 (43393 : Int64) M2) fun v6 M3 =>
      if v6 = 0 then (
        x_cV 10 M3 128 (F_X12_isWord 128 (437159 : Int64) M3) fun v7 M4 =>
        if v7 = 0 then (
          x_cV 10 M4 128 (F_X12_isWord 128 (456500 : Int64) M4) fun v8 M5 =>
          if v8 = 0 then (
            x_cV 10 M5 128 (F_X12_isWord 128 (7593256863 : Int64) M5) fun v9 M6 =>
            if v9 = 0 then (
              x_cV 10 M6 128 (F_X12_isWord 128 (1423796 : Int64) M6) fun v10 M7 =>
              if v10 = 0 then (
                x_cV 10 M7 128 (F_X12_fails 128 (1 : Int32) M7) fun v11 M8 =>
                k181 128 v11 M8
              ) else
              x_cV 10 M7 128 (F_X12_readsBribe 128 M7) fun v12 M9 =>
              k181 128 v12 M9
            ) else
            x_cV 10 M6 128 (F_X12_readsSpeaker 128 M6) fun v13 M10 =>
            k181 128 v13 M10
          ) else
          x_cV 10 M5 128 (F_X12_readsWeek 128 M5) fun v14 M11 =>
          k181 128 v14 M11
        ) else
        x_cV 10 M4 128 (F_X12_readsVerb 128 M4) fun v15 M12 =>
        k181 128 v15 M12
      ) else
      x_cV 10 M3 128 (F_X12_readsBend 128 M3) fun v16 M13 =>
      k181 128 v16 M13
    ) else
    x_cV 10 M2 128 (F_X12_readsThing 128 M2) fun v17 M14 =>
    k181 128 v17 M14
/-- both sides' line comes to one thing -/
def lnC (T : Nat → Nat) (n : Nat) (bt' : Bool) (o : Nat ⊕ (Nat × Ld)) (r : Option (Int32 × m_M)) (M : m_M) : Prop := CRes T n none bt' o r M
def kpW (b : Bool) (o : Nat ⊕ (Nat × Ld)) : Prop := match o with
  | .inl _ => True
  | .inr (_, l') => b = decide (0 < lH l' 5)
def lnM (T : Nat → Nat) (n : Nat) (bt' : Bool) (o : Nat ⊕ (Nat × Ld)) (M : m_M) : Prop := ∃ v M', (∀ k181, mDisp k181 M = k181 128 v M') ∧ dmF M M' ∧ match o with
  | .inl f => v = nI 0 ∧ m_I M' 128 9 = nI f
  | .inr (q', l') => v = nI 1 ∧ MT T n q' l' (bt', decide (0 < lH l' 5)) M'
theorem lnM_of {b : Bool × Bool} {o : Nat ⊕ (Nat × Ld)} {r : Option (Int32 × m_M)} (h : MRes T n b o r M) (hb : kpW b.2 o) (hd : ∀ k181, mDisp k181 M = x_cV 10 M 128 r fun v M' => k181 128 v M') (K : m_K M 128 = 10) : lnM T n b.1 o M := by
  obtain ⟨v, M1, e, f, g⟩ := h
  refine ⟨v, M1, fun k181 => by rw [hd, x_cV_ok K e], f, ?_⟩
  cases o with
  | inl f => exact g
  | inr a =>
    obtain ⟨q', l'⟩ := a
    obtain ⟨g1, g2⟩ := g
    refine ⟨g1, ?_⟩
    have hb : b.2 = decide (0 < lH l' 5) := hb
    rw [← hb]
    exact g2
theorem J_line (hn : n ≤ 1000) (hq : q ≤ n) (hk : (tokAt T n q).2.2.1 ≠ 0) (l : Ld) (bt : Bool) : ∃ (o : Nat ⊕ (Nat × Ld)) (bt' : Bool), gO n (q + 1) Prod.fst (fun _ => True) o ∧ (∀ M, DS T n q l none bt M → CRes T n none bt' o (F_X4_readLine 30 M) M) ∧ ∀ M, MT T n q l (bt, decide (0 < lH l 5)) M → lnM T n bt' o M := by
  obtain ⟨t1, t2, t3⟩ := tok_lt hq hk
  have gw : ∀ {P : Nat × Ld → Prop} {o : Nat ⊕ (Nat × Ld)}, gO n (tokAt T n q).2.1 Prod.fst P o → gO n (q + 1) Prod.fst (fun _ => True) o := by
    intro P o h
    have h := gO_up (q := q + 1) h (by omega)
    cases o with
    | inl f => exact h
    | inr a => exact ⟨h.1, trivial⟩
  have keep : ∀ {o : Nat ⊕ (Nat × Ld)} {r : Nat}, gO n r Prod.fst (h5 l) o → kpW (decide (0 < lH l 5)) o := by
    intro o r h
    cases o with
    | inl f => trivial
    | inr a => obtain ⟨q', l'⟩ := a; have e : lH l' 5 = lH l 5 := h.2; show _ = decide (0 < lH l' 5); rw [e]
  have lwk : ∀ {isB : Bool} {w : Int64} {o : EO}, kpW (decide (0 < lH l 5)) (lwO T n l isB w o) := by
    intro isB w o
    cases o with
    | inl f => trivial
    | inr a =>
      obtain ⟨q', cc, mc, V⟩ := a
      show _ = decide (0 < lH (ldN _ (lwK isB) w) 5)
      rw [ldN_H, if_neg (by cases isB <;> decide)]
      rfl
  have lwg : ∀ {isB : Bool} {w : Int64} {o : EO} {q2 : Nat}, (tokAt T n q).2.1 ≤ q2 → eoG T n isB q2 o → gO n (q + 1) Prod.fst (fun _ => True) (lwO T n l isB w o) := by
    intro isB w o q2 h ho
    cases o with
    | inl f => exact ho
    | inr a =>
      obtain ⟨q', cc, mc, V⟩ := a
      obtain ⟨⟨g1, g2, g3⟩, _⟩ := ho
      obtain ⟨a1, a2⟩ := nx_le (T := T) g2
      exact ⟨⟨by show q + 1 ≤ (tokAt T n q').2.1; omega, a2⟩, trivial⟩
  have cW : ∀ {M : m_M}, DS T n q l none bt M → ∀ {j : Nat}, j < 20 → ∀ {b : Bool}, tkW (k_wl.getD j 0) (tokAt T n q) = b → F_X8_isAt 4 30 (1000000 + j) M = some (bI b, M) := fun h _ hj _ hb => by rw [← hb]; exact h.W hj
  have mW : ∀ {M : m_M}, MT T n q l (bt, decide (0 < lH l 5)) M → ∀ {c : Int64} {b : Bool}, tkW c (tokAt T n q) = b → F_X12_isWord 128 c M = some (bI b, M) := fun h _ _ hb => by rw [← hb]; exact h.W
  have i0 : (bI false : Int32) = 0 := rfl
  have i1 : ¬ (bI true : Int32) = 0 := by decide
  obtain ⟨b1, hb1⟩ : ∃ b, tkW 10793230 (tokAt T n q) = b := ⟨_, rfl⟩
  obtain ⟨b3, hb3⟩ : ∃ b, tkW 43393 (tokAt T n q) = b := ⟨_, rfl⟩
  obtain ⟨b4, hb4⟩ : ∃ b, tkW 437159 (tokAt T n q) = b := ⟨_, rfl⟩
  obtain ⟨b5, hb5⟩ : ∃ b, tkW 456500 (tokAt T n q) = b := ⟨_, rfl⟩
  obtain ⟨b7, hb7⟩ : ∃ b, tkW 7593256863 (tokAt T n q) = b := ⟨_, rfl⟩
  obtain ⟨b9, hb9⟩ : ∃ b, tkW 1423796 (tokAt T n q) = b := ⟨_, rfl⟩
  cases b1 with
  | true =>
    refine ⟨thO T n l q, bt, gw (thO_g hn hq), fun M h => ?_, fun M h => ?_⟩
    · unfold F_X4_readLine
      rw [x_cV_ok h.K (cW h (j := 1) (by omega) hb1), if_neg i1]
      exact (C_thing h hn).xb h.K
    · exact lnM_of (M_thing h hn) (keep (thO_g hn hq)) (fun k => by unfold mDisp; rw [x_cV_ok h.K (mW h hb1), if_neg i1]) h.K
  | false =>
  cases b3 with
  | true =>
    cases hN : nmO T n l 1 q with
    | inl f =>
      have hg := nmO_g (l := l) (kd := 1) (T := T) hn hq
      rw [hN] at hg
      refine ⟨.inl f, bt, hg, fun M h => ?_, fun M h => ?_⟩
      · unfold F_X4_readLine
        rw [x_cV_ok h.K (cW h (j := 1) (by omega) hb1), if_pos i0, x_cV_ok h.K (cW h (j := 3) (by omega) hb3), if_neg i1]
        exact ((C_lawA (isB := true) h hn).1 f hN).xb h.K
      · rcases M_bend h hn with ⟨f', e, r⟩ | ⟨w, q2, e, _⟩
        · rw [hN] at e
          cases e
          exact lnM_of r trivial (fun k => by unfold mDisp; rw [x_cV_ok h.K (mW h hb1), if_pos i0, x_cV_ok h.K (mW h hb3), if_neg i1]) h.K
        · rw [hN] at e; cases e
    | inr a =>
      obtain ⟨w, q2⟩ := a
      have hg := nmO_g (l := l) (kd := 1) (T := T) hn hq
      rw [hN] at hg
      obtain ⟨⟨g1, g2⟩, _⟩ := hg
      obtain ⟨o, o1, o2, o3⟩ := J_law' (T := T) (isB := true) (q := q2) hn g2
      refine ⟨lwO T n l true w o, bt, lwg g1 o1, fun M h => ?_, fun M h => ?_⟩
      · unfold F_X4_readLine
        rw [x_cV_ok h.K (cW h (j := 1) (by omega) hb1), if_pos i0, x_cV_ok h.K (cW h (j := 3) (by omega) hb3), if_neg i1]
        exact ((C_lawA (isB := true) h hn).2 w q2 hN o o1 o2).xb h.K
      · rcases M_bend h hn with ⟨f', e, r⟩ | ⟨w', q2', e, _, _, r⟩
        · rw [hN] at e; cases e
        · rw [hN] at e
          cases e
          exact lnM_of (r o o1 o3) lwk (fun k => by unfold mDisp; rw [x_cV_ok h.K (mW h hb1), if_pos i0, x_cV_ok h.K (mW h hb3), if_neg i1]) h.K
  | false =>
  cases b4 with
  | true =>
    cases hN : nmO T n l 2 q with
    | inl f =>
      have hg := nmO_g (l := l) (kd := 2) (T := T) hn hq
      rw [hN] at hg
      refine ⟨.inl f, bt, hg, fun M h => ?_, fun M h => ?_⟩
      · unfold F_X4_readLine
        rw [x_cV_ok h.K (cW h (j := 1) (by omega) hb1), if_pos i0, x_cV_ok h.K (cW h (j := 3) (by omega) hb3), if_pos i0, x_cV_ok h.K (cW h (j := 4) (by omega) hb4), if_neg i1]
        exact ((C_lawA (isB := false) h hn).1 f hN).xb h.K
      · rcases M_verb h hn with ⟨f', e, r⟩ | ⟨w, q2, e, _⟩
        · rw [hN] at e
          cases e
          exact lnM_of r trivial (fun k => by unfold mDisp; rw [x_cV_ok h.K (mW h hb1), if_pos i0, x_cV_ok h.K (mW h hb3), if_pos i0, x_cV_ok h.K (mW h hb4), if_neg i1]) h.K
        · rw [hN] at e; cases e
    | inr a =>
      obtain ⟨w, q2⟩ := a
      have hg := nmO_g (l := l) (kd := 2) (T := T) hn hq
      rw [hN] at hg
      obtain ⟨⟨g1, g2⟩, _⟩ := hg
      obtain ⟨o, o1, o2, o3⟩ := J_law' (T := T) (isB := false) (q := q2) hn g2
      refine ⟨lwO T n l false w o, bt, lwg g1 o1, fun M h => ?_, fun M h => ?_⟩
      · unfold F_X4_readLine
        rw [x_cV_ok h.K (cW h (j := 1) (by omega) hb1), if_pos i0, x_cV_ok h.K (cW h (j := 3) (by omega) hb3), if_pos i0, x_cV_ok h.K (cW h (j := 4) (by omega) hb4), if_neg i1]
        exact ((C_lawA (isB := false) h hn).2 w q2 hN o o1 o2).xb h.K
      · rcases M_verb h hn with ⟨f', e, r⟩ | ⟨w', q2', e, _, _, r⟩
        · rw [hN] at e; cases e
        · rw [hN] at e
          cases e
          exact lnM_of (r o o1 o3) lwk (fun k => by unfold mDisp; rw [x_cV_ok h.K (mW h hb1), if_pos i0, x_cV_ok h.K (mW h hb3), if_pos i0, x_cV_ok h.K (mW h hb4), if_neg i1]) h.K
  | false =>
  cases b5 with
  | true =>
    refine ⟨weO T n l q, bt, gw (weO_g hn hq), fun M h => ?_, fun M h => ?_⟩
    · unfold F_X4_readLine
      rw [x_cV_ok h.K (cW h (j := 1) (by omega) hb1), if_pos i0, x_cV_ok h.K (cW h (j := 3) (by omega) hb3), if_pos i0, x_cV_ok h.K (cW h (j := 4) (by omega) hb4), if_pos i0, x_cV_ok h.K (cW h (j := 5) (by omega) hb5), if_neg i1]
      exact (C_week h hn).xb h.K
    · refine lnM_of (b := (bt, true)) (M_week h hn rfl) ?_ (fun k => by unfold mDisp; rw [x_cV_ok h.K (mW h hb1), if_pos i0, x_cV_ok h.K (mW h hb3), if_pos i0, x_cV_ok h.K (mW h hb4), if_pos i0, x_cV_ok h.K (mW h hb5), if_neg i1]) h.K
      have hg := weO_g (T := T) (l := l) hn hq
      cases hw : weO T n l q with
      | inl f => trivial
      | inr a => rw [hw] at hg; obtain ⟨q', l'⟩ := a; exact (decide_eq_true hg.2).symm
  | false =>
  cases b7 with
  | true =>
    refine ⟨seO T n l q, bt, gw (seO_g hn hq), fun M h => ?_, fun M h => ?_⟩
    · unfold F_X4_readLine
      rw [x_cV_ok h.K (cW h (j := 1) (by omega) hb1), if_pos i0, x_cV_ok h.K (cW h (j := 3) (by omega) hb3), if_pos i0, x_cV_ok h.K (cW h (j := 4) (by omega) hb4), if_pos i0, x_cV_ok h.K (cW h (j := 5) (by omega) hb5), if_pos i0, x_cV_ok h.K (cW h (j := 7) (by omega) hb7), if_neg i1]
      exact (C_speaker h hn).xb h.K
    · exact lnM_of (M_speaker h hn) (keep (seO_g hn hq)) (fun k => by unfold mDisp; rw [x_cV_ok h.K (mW h hb1), if_pos i0, x_cV_ok h.K (mW h hb3), if_pos i0, x_cV_ok h.K (mW h hb4), if_pos i0, x_cV_ok h.K (mW h hb5), if_pos i0, x_cV_ok h.K (mW h hb7), if_neg i1]) h.K
  | false =>
  cases b9 with
  | true =>
    refine ⟨brO T n l bt q, true, gw (brO_g hn hq), fun M h => ?_, fun M h => ?_⟩
    · unfold F_X4_readLine
      rw [x_cV_ok h.K (cW h (j := 1) (by omega) hb1), if_pos i0, x_cV_ok h.K (cW h (j := 3) (by omega) hb3), if_pos i0, x_cV_ok h.K (cW h (j := 4) (by omega) hb4), if_pos i0, x_cV_ok h.K (cW h (j := 5) (by omega) hb5), if_pos i0, x_cV_ok h.K (cW h (j := 7) (by omega) hb7), if_pos i0, x_cV_ok h.K (cW h (j := 9) (by omega) hb9), if_neg i1]
      exact (C_bribe h hn).xb h.K
    · exact lnM_of (M_bribe h hn) (keep (brO_g (bt := bt) hn hq)) (fun k => by unfold mDisp; rw [x_cV_ok h.K (mW h hb1), if_pos i0, x_cV_ok h.K (mW h hb3), if_pos i0, x_cV_ok h.K (mW h hb4), if_pos i0, x_cV_ok h.K (mW h hb5), if_pos i0, x_cV_ok h.K (mW h hb7), if_pos i0, x_cV_ok h.K (mW h hb9), if_neg i1]) h.K
  | false =>
    refine ⟨.inl (flt T n q 1), bt, flt_ok hn hq (by omega) (by omega), fun M h => ?_, fun M h => ?_⟩
    · unfold F_X4_readLine
      rw [x_cV_ok h.K (cW h (j := 1) (by omega) hb1), if_pos i0, x_cV_ok h.K (cW h (j := 3) (by omega) hb3), if_pos i0, x_cV_ok h.K (cW h (j := 4) (by omega) hb4), if_pos i0, x_cV_ok h.K (cW h (j := 5) (by omega) hb5), if_pos i0, x_cV_ok h.K (cW h (j := 7) (by omega) hb7), if_pos i0, x_cV_ok h.K (cW h (j := 9) (by omega) hb9), if_pos i0]
      exact h.failR (k := 1)
    · obtain ⟨M1, e, e1, e2⟩ := h.fail (k := 1)
      have e' : F_X12_fails 128 (1 : Int32) M = _ := e
      exact ⟨nI 0, M1, fun k => by unfold mDisp; rw [x_cV_ok h.K (mW h hb1), if_pos i0, x_cV_ok h.K (mW h hb3), if_pos i0, x_cV_ok h.K (mW h hb4), if_pos i0, x_cV_ok h.K (mW h hb5), if_pos i0, x_cV_ok h.K (mW h hb7), if_pos i0, x_cV_ok h.K (mW h hb9), if_pos i0, x_cV_ok h.K e'], e2.dm, rfl, e1⟩
end JLINE
