/-! sayings are read: clauses -/
/-- m parts from the k-th on lead from top to top' -/
def fSg (l : Ld) (p : Nat → Nat) : Nat → Nat → Nat → Nat → Prop
  | 0, _, top, top' => top = top'
  | m + 1, k, top, top' => fOk l (p k) top ∧ fSg l p m (k + 1) (fTop (p k) top) top'
def gdO (l : Ld) (n need : Nat) (s : PS) (o : Nat ⊕ PS) : Prop := match o with
  | .inl k => 0 < k ∧ k < 20000
  | .inr s' => s.1 < s'.1 ∧ s'.1 ≤ n ∧ s.2.2 ≤ s'.2.2 ∧ s'.2.2 + s.1 ≤ s'.1 + s.2.2 ∧ (∀ i, i < s.2.2 → s'.2.1 i = s.2.1 i) ∧ ∀ top, top + need ≤ 16 → fSg l s'.2.1 (s'.2.2 - s.2.2) s.2.2 top (top + 1)
def COk (l : Ld) (T : Nat → Nat) (n : Nat) (o : Nat ⊕ PS) (M M' : m_M) (v : Int32) : Prop := csF M M' ∧ match o with
  | .inl k => v = nI 0 ∧ m_I M' 31 9 = nI k
  | .inr s' => v = nI 1 ∧ CS l T n s' M'
def MOk (l : Ld) (T : Nat → Nat) (n d : Nat) (o : Nat ⊕ PS) (M M' : m_M) (v : Int32) : Prop := msF M M' ∧ match o with
  | .inl k => v = nI 0 ∧ m_I M' 128 9 = nI k
  | .inr s' => v = nI 1 ∧ MS l T n d s' M'
def JC (l : Ld) (T : Nat → Nat) (n need bf : Nat) (fc fm : Nat → m_M → Option (Int32 × m_M)) (d : Nat) (s : PS) : Prop := ∃ o, gdO l n need s o ∧ (∀ f M, bf ≤ f → CS l T n s M → ∃ v M', fc f M = some (v, M') ∧ COk l T n o M M' v) ∧ ∀ f M, bf ≤ f → MS l T n d s M → ∃ v M', fm f M = some (v, M') ∧ MOk l T n d o M M' v
section CLAUSE
variable {M M' : m_M} {l : Ld} {T : Nat → Nat} {n : Nat}
theorem fSg_app {p : Nat → Nat} : ∀ (m m' k top t1 t2 : Nat), fSg l p m k top t1 → fSg l p m' (k + m) t1 t2 → fSg l p (m + m') k top t2 := by
  intro m
  induction m with
  | zero =>
    intro m' k top t1 t2 h1 h2
    have h1' : top = t1 := h1
    rw [h1', Nat.zero_add]
    exact h2
  | succ m ih =>
    intro m' k top t1 t2 h1 h2
    obtain ⟨h3, h4⟩ := h1
    rw [show m + 1 + m' = (m + m') + 1 by omega]
    exact ⟨h3, ih m' (k + 1) _ t1 t2 h4 (by rw [show k + 1 + m = k + (m + 1) by omega]; exact h2)⟩
theorem fSg_cg {p p' : Nat → Nat} : ∀ (m k top t1 : Nat), (∀ i, k ≤ i → i < k + m → p' i = p i) → fSg l p m k top t1 → fSg l p' m k top t1 := by
  intro m
  induction m with
  | zero => intro k top t1 _ h; exact h
  | succ m ih =>
    intro k top t1 hp h
    obtain ⟨h3, h4⟩ := h
    have e := hp k (by omega) (by omega)
    refine ⟨by rw [e]; exact h3, ?_⟩
    rw [e]
    exact ih (k + 1) _ t1 (fun i h1 h2 => hp i (by omega) (by omega)) h4
theorem fSg_rok {p : Nat → Nat} : ∀ (m k top t1 : Nat), 0 < t1 → fSg l p m k top t1 → fRok l p m k top := by
  intro m
  induction m with
  | zero => intro k top t1 h0 h; have h' : top = t1 := h; rw [h']; exact h0
  | succ m ih => intro k top t1 h0 h; exact ⟨h.1, ih _ _ _ h0 h.2⟩
theorem nI_nm1 {k : Nat} (h : k < 2147483648) : ¬ nI k = (-1 : Int32) := fun z => by
  have w := nI_pos h
  rw [z] at w
  exact w (by decide)
theorem J_noun (ho : lOk l) (hn : n ≤ 1000) {q : Nat} (hq : q ≤ n) : ∃ o, nOut l T n q o
    ∧ (∀ (s : PS) (M : m_M), s.1 = q → CS l T n s M → ∃ v M', F_X7_readNoun 31 M = some (v, M') ∧ nOutC l T n s o M M' v)
    ∧ ∀ (d : Nat) (s : PS) (M : m_M), s.1 = q → MS l T n d s M → ∃ v M', F_X12_readsNoun 128 M = some (v, M') ∧ nOutM l T n d s o M M' v := by
  obtain ⟨o, o1, o2, o3⟩ := J_noun_l ho hn 2 0 q none none (by omega) hq (fun _ h => by cases h) (fun _ h => by cases h)
  refine ⟨o, o1, fun s M hs hc => ?_, fun d s M hs hm => ?_⟩
  · rw [rnC_eq]
    exact o2 s m_FU M hs (m_FU_lt (by omega)) hc
  · obtain ⟨h1, h2⟩ := hm.sI (v := nI 0)
    obtain ⟨v, M', e, e1, e2⟩ := o3 d s m_FU _ hs (m_FU_lt (by omega)) h1 (by rw [mI_sI, if_pos ⟨rfl, rfl⟩]; rfl)
    refine ⟨v, M', ?_, h2.trans e1, e2⟩
    rw [rnM_eq, x_pI_ok hm.K]
    exact e
theorem J_clause (ho : lOk l) (hn : n ≤ 1000) {s : PS} (hq : s.1 ≤ n) (hs : s.2.2 ≤ s.1) (d : Nat) (hd : d < 5) (nm : tkNm (tokAt T n s.1) = true) (hk : fdN (lM l) (lH l 1) (tokAt T n s.1).2.2.2.1 ≠ none ∨ fdN (fun j => lM l (8 + j)) (lH l 2) (tokAt T n s.1).2.2.2.1 ≠ none) : JC l T n 1 0 (fun _ => F_X7_readClause 31) (fun _ => F_X12_readsClause 128) d s := by
  obtain ⟨o1, a1, a2, a3⟩ := J_noun (T := T) ho hn hq
  have hk2 := tkNm_k nm
  -- the model up to its first noun
  have mpre : ∀ M, MS l T n d s M → F_X12_readsClause 128 M = x_cV 10 M 128 (F_X12_readsNoun 128 M) fun v4 M3 =>
      if v4 = 0 then (
        some ((0 : Int32), M3)
      ) else
      x_gI 10 M3 128 41 fun v5 =>
      x_cV 10 M3 128 (F_X12_readsNoun 128 M3) fun v6 M4 =>
      if v6 = 0 then (
        some ((0 : Int32), M4)
      ) else
      x_gI 10 M4 128 41 fun v7 =>
      x_cV 10 M4 128 (F_X12_adds 128 (((100 : Int32) + ((128 : Int32) * v5)) + v7) M4) fun _ M5 =>
      some ((1 : Int32), M5) := by
    intro M hm
    have e1 := hm.Nm hq
    have e2 : F_X12_thingNamed 128 (0 : Int32) M = _ := S_thingM hm.1.1 ho hm.1.2.1 hm.1.2.2 (hm.w hk2)
    have e3 : F_X12_bendNamed 128 (0 : Int32) M = _ := S_bendM hm.1.1 ho hm.1.2.1 hm.1.2.2 (hm.w hk2)
    have e5 : ¬ nI d = (5 : Int32) := fun z => by have := (nI_eq (b := 5) (by omega) (by omega)).mp z; omega
    have b1 := ho.2.1
    have b2 := ho.2.2.1
    unfold F_X12_readsClause
    rw [x_cV_ok hm.K e1, nm, if_pos (by decide), m_let_eq, x_cV_ok hm.K e2]
    cases ht : fdN (lM l) (lH l 1) (tokAt T n s.1).2.2.2.1 with
    | some t =>
      have := (fdN_lt ht).1
      rw [if_pos (show (0 : Int32) ≤ iO (some t) from nI_pos' (by omega))]
      dsimp only
      rw [x_gI_ok hm.K, hm.2.2.2.1.2, if_neg e5]
    | none =>
      cases hb : fdN (fun j => lM l (8 + j)) (lH l 2) (tokAt T n s.1).2.2.2.1 with
      | some t =>
        have := (fdN_lt hb).1
        rw [if_neg (by decide), x_cV_ok hm.K e3, hb, if_pos (show (0 : Int32) ≤ iO (some t) from nI_pos' (by omega))]
        dsimp only
        rw [x_gI_ok hm.K, hm.2.2.2.1.2, if_neg e5]
      | none =>
        rcases hk with z | z
        · exact absurd ht z
        · exact absurd hb z
  cases o1 with
  | inl k =>
    refine ⟨.inl k, a1, fun f M _ hc => ?_, fun f M _ hm => ?_⟩
    · obtain ⟨v, M1, e, e1, e2, e3⟩ := a2 s M rfl hc
      refine ⟨nI 0, M1, ?_, e1, rfl, e3⟩
      show F_X7_readClause 31 M = _
      unfold F_X7_readClause
      rw [x_cV_ok hc.K e, e2, if_pos (by decide)]
      rfl
    · obtain ⟨v, M1, e, e1, e2, e3⟩ := a3 d s M rfl hm
      refine ⟨nI 0, M1, ?_, e1, rfl, e3⟩
      show F_X12_readsClause 128 M = _
      rw [mpre M hm, x_cV_ok hm.K e, e2, if_pos (by decide)]
      rfl
  | inr x1 =>
    obtain ⟨q1, q2, q3, q4⟩ := a1
    have q1' : s.1 < x1.1 := q1
    have q2' : x1.1 ≤ n := q2
    obtain ⟨o2, c1, c2, c3⟩ := J_noun (T := T) ho hn q2'
    cases o2 with
    | inl k =>
      refine ⟨.inl k, c1, fun f M _ hc => ?_, fun f M _ hm => ?_⟩
      · obtain ⟨v, M1, e, e1, ⟨y, e2, e2'⟩, e3⟩ := a2 s M rfl hc
        obtain ⟨v2, M2, g, g1, g2, g3⟩ := c2 (x1.1, s.2) M1 rfl e3
        refine ⟨nI 0, M2, ?_, e1.trans g1, rfl, g3⟩
        show F_X7_readClause 31 M = _
        unfold F_X7_readClause
        have hy := e2'.1
        rw [x_cV_ok hc.K e, e2, if_neg (nI_nm1 (k := y) (by omega)), x_cV_ok e3.K g, g2, if_pos (by decide)]
        rfl
      · obtain ⟨v, M1, e, e1, e2, e3, e4⟩ := a3 d s M rfl hm
        obtain ⟨v2, M2, g, g1, g2, g3⟩ := c3 d (x1.1, s.2) M1 rfl e4
        refine ⟨nI 0, M2, ?_, e1.trans g1, rfl, g3⟩
        show F_X12_readsClause 128 M = _
        rw [mpre M hm, x_cV_ok hm.K e, e2, if_neg (by decide), x_gI_ok e4.K, x_cV_ok e4.K g, g2, if_pos (by decide)]
        rfl
    | inr x2 =>
      obtain ⟨r1, r2, r3, r4⟩ := c1
      have r1' : x1.1 < x2.1 := r1
      have r2' : x2.1 ≤ n := r2
      have r4' : x2.2 < 128 := r4
      have q4' : x1.2 < 128 := q4
      have hx : (100 + 128 * x1.2 + x2.2 - 100) / 128 = x1.2 ∧ (100 + 128 * x1.2 + x2.2 - 100) % 128 = x2.2 := by omega
      refine ⟨.inr (x2.1, apP s.2.1 s.2.2 (100 + 128 * x1.2 + x2.2), s.2.2 + 1), ⟨by show s.1 < x2.1; omega, r2', by show s.2.2 ≤ s.2.2 + 1; omega, by show s.2.2 + 1 + s.1 ≤ x2.1 + s.2.2; omega, fun i hi => by show (if i = s.2.2 then _ else s.2.1 i) = _; rw [if_neg (by omega)], fun top ht => ?_⟩, fun f M _ hc => ?_, fun f M _ hm => ?_⟩
      · show fSg l (apP s.2.1 s.2.2 (100 + 128 * x1.2 + x2.2)) (s.2.2 + 1 - s.2.2) s.2.2 top (top + 1)
        rw [show s.2.2 + 1 - s.2.2 = 1 by omega]
        have hp : apP s.2.1 s.2.2 (100 + 128 * x1.2 + x2.2) s.2.2 = 100 + 128 * x1.2 + x2.2 := if_pos rfl
        refine ⟨?_, ?_⟩
        · rw [hp]
          exact ⟨by omega, .inr (.inr ⟨by omega, by omega, by omega, by rw [hx.1]; exact q3, by rw [hx.2]; exact r3⟩)⟩
        · rw [hp]
          show fTop _ top = top + 1
          unfold fTop
          rw [if_neg (by omega), if_neg (by omega), if_neg (by omega)]
      · obtain ⟨v, M1, e, e1, ⟨y, e2, e2'⟩, e3⟩ := a2 s M rfl hc
        obtain ⟨v2, M2, g, g1, ⟨z, g2, g2'⟩, g3⟩ := c2 (x1.1, s.2) M1 rfl e3
        obtain ⟨M3, k1, k2, k3⟩ := g3.add (by show s.2.2 < 1000; omega) (x := 100 + 128 * x1.2 + x2.2) (c := nI (y * 2048 + z)) (.inr (.inr (.inr ⟨by omega, y, z, rfl, by rw [hx.1]; exact e2', by rw [hx.2]; exact g2'⟩)))
        refine ⟨nI 1, M3, ?_, (e1.trans g1).trans k3, rfl, k2⟩
        show F_X7_readClause 31 M = _
        unfold F_X7_readClause
        have hy := e2'.1
        have hz := g2'.1
        obtain ⟨_, R10, _, K2, _⟩ := rd31 g3.1.1
        have ej : F_X3_joinNouns 2 (nI y) (nI z) M2 = some (nI (y * 2048 + z), M2) := by
          unfold F_X3_joinNouns
          rw [show (11 : Int32) = nI 11 from rfl, nI_shl (by omega), nI_orb (s := 11) (by omega)]
        rw [x_cV_ok hc.K e, e2, if_neg (nI_nm1 (k := y) (by omega)), x_cV_ok e3.K g, g2, if_neg (nI_nm1 (k := z) (by omega)), x_gN_ok g3.K R10, x_cV_ok K2 ej, x_cV_ok g3.K k1]
        rfl
      · obtain ⟨v, M1, e, e1, e2, e3, e4⟩ := a3 d s M rfl hm
        obtain ⟨v2, M2, g, g1, g2, g3, g4⟩ := c3 d (x1.1, s.2) M1 rfl e4
        obtain ⟨M3, k1, k2, k3⟩ := g4.add (by show s.2.2 < 1000; omega) (x := 100 + 128 * x1.2 + x2.2)
        refine ⟨nI 1, M3, ?_, (e1.trans g1).trans k3, rfl, k2⟩
        show F_X12_readsClause 128 M = _
        rw [mpre M hm, x_cV_ok hm.K e, e2, if_neg (by decide), x_gI_ok e4.K, e3, x_cV_ok e4.K g, g2, if_neg (by decide), x_gI_ok g4.K, g3, show (100 : Int32) = nI 100 from rfl, show (128 : Int32) = nI 128 from rfl, nI_mul, nI_add, nI_add, x_cV_ok g4.K k1]
        rfl
end CLAUSE
