/-! laws: the model's loop runs the machine -/
def EMout (T : Nat → Nat) (n b0 : Nat) (r : Nat ⊕ (Nat × List Nat)) (o : Option (Int32 × m_M)) (M : m_M) : Prop := ∃ v M', o = some (v, M') ∧ emF b0 M M' ∧ match r with
  | .inl f => v = nI 0 ∧ m_I M' 128 9 = nI f
  | .inr (q', mc) => v = nI 1 ∧ TX T n (m_I M' 129) ∧ TM n (tokAt T n q') M' ∧ m_I M' 128 21 = nI (b0 + mc.length) ∧ LsA (m_I M' 140) b0 mc
section EMOD
variable {M M' : m_M} {T : Nat → Nat} {n b0 : Nat} {isB : Bool}
theorem EMout.tr {r : Nat ⊕ (Nat × List Nat)} {o : Option (Int32 × m_M)} (h : EMout T n b0 r o M') (f : emF b0 M M') : EMout T n b0 r o M := by
  obtain ⟨v, M2, e, f2, g⟩ := h
  exact ⟨v, M2, e, f.trans f2, g⟩
theorem EM.fail {s : AS} (h : EM T n b0 isB s M) {k : Nat} : EMout T n b0 (.inl (k + 16 * (tokAt T n s.1).1)) (x_cV 10 M 128 (F_X12_fails 128 (nI k) M) fun v3 M3 => x_b v3 <| some (v3, M3)) M := by
  refine ⟨nI 0, m_sI M 128 9 (nI (k + 16 * (tokAt T n s.1).1)), ?_, ?_, rfl, ?_⟩
  · rw [x_cV_ok h.K (S_mfails h.1 h.2.2.1), x_b0]
  · exact ⟨rfl, rfl, fun a h1 _ _ _ => sI_ne h1, fun _ _ => rfl, fun k hk => by rw [mI_sI, if_neg (by omega)], fun _ _ => rfl, fun j _ => by rw [mI_sI, if_neg (by omega)]⟩
  · rw [mI_sI, if_pos ⟨rfl, rfl⟩]
theorem M_pop1 (h : G M) {op : Nat → Nat} {x : Int32} {K : Nat → Int32 → Int32 → m_M → Option (Int32 × m_M)} : ∀ (d f : Nat), d < 7 → d < f → (∀ j, 1 ≤ j → j ≤ d → m_I M 141 j = nI (op j) ∧ op j < 3) → F_X12_reads_152 K f 128 (nI d) x M = K 128 (nI (popN op d)) x M := by
  have K0 : m_K M 128 = 10 := by simp only [gK h]
  have R25 : m_R M 128 25 = some 141 := by simp only [gR h]
  have K141 : m_K M 141 = 12 := by simp only [gK h]
  have L141 : m_len M 141 = 7 := by simp only [gl h]
  intro d
  induction d with
  | zero =>
    intro f _ hf _
    obtain ⟨f, rfl⟩ : ∃ f', f = f' + 1 := ⟨f - 1, by omega⟩
    rw [F_X12_reads_152, if_pos (show nI 0 ≤ (0 : Int32) from by decide)]
    rfl
  | succ d ih =>
    intro f hd hf ho
    obtain ⟨f, rfl⟩ : ∃ f', f = f' + 1 := ⟨f - 1, by omega⟩
    obtain ⟨o1, o2⟩ := ho (d + 1) (by omega) (Nat.le_refl _)
    rw [F_X12_reads_152, if_neg (show ¬ nI (d + 1) ≤ (0 : Int32) from fun z => absurd ((nI_le0 (by omega)).mp z) (by omega)), x_gN_ok K0 R25, x_aI_ok K141 (by rw [L141]; omega) (by omega), o1]
    unfold popN
    by_cases q : op (d + 1) = 1
    · rw [if_pos (show nI (op (d + 1)) = (1 : Int32) from by rw [q]; rfl), if_pos q, show nI (d + 1) - (1 : Int32) = nI d from nI_sub' (b := 1) (by omega), m_let_eq]
      exact ih f (by omega) (by omega) (fun j h1 h2 => ho j h1 (by omega))
    · rw [if_neg (show ¬ nI (op (d + 1)) = (1 : Int32) from fun z => q ((nI_eq (b := 1) (by omega) (by omega)).mp z)), if_neg q]
theorem M_pop2 (h : G M) {op : Nat → Nat} {x : Int32} {K : Nat → Int32 → Int32 → m_M → Option (Int32 × m_M)} : ∀ (d f : Nat), d < 7 → d < f → (∀ j, 1 ≤ j → j ≤ d → m_I M 141 j = nI (op j) ∧ op j < 3) → F_X12_reads_379 K f 128 (nI d) x M = K 128 (nI (popN op d)) x M := by
  have K0 : m_K M 128 = 10 := by simp only [gK h]
  have R25 : m_R M 128 25 = some 141 := by simp only [gR h]
  have K141 : m_K M 141 = 12 := by simp only [gK h]
  have L141 : m_len M 141 = 7 := by simp only [gl h]
  intro d
  induction d with
  | zero =>
    intro f _ hf _
    obtain ⟨f, rfl⟩ : ∃ f', f = f' + 1 := ⟨f - 1, by omega⟩
    rw [F_X12_reads_379, if_pos (show nI 0 ≤ (0 : Int32) from by decide)]
    rfl
  | succ d ih =>
    intro f hd hf ho
    obtain ⟨f, rfl⟩ : ∃ f', f = f' + 1 := ⟨f - 1, by omega⟩
    obtain ⟨o1, o2⟩ := ho (d + 1) (by omega) (Nat.le_refl _)
    rw [F_X12_reads_379, if_neg (show ¬ nI (d + 1) ≤ (0 : Int32) from fun z => absurd ((nI_le0 (by omega)).mp z) (by omega)), x_gN_ok K0 R25, x_aI_ok K141 (by rw [L141]; omega) (by omega), o1]
    unfold popN
    by_cases q : op (d + 1) = 1
    · rw [if_pos (show nI (op (d + 1)) = (1 : Int32) from by rw [q]; rfl), if_pos q, show nI (d + 1) - (1 : Int32) = nI d from nI_sub' (b := 1) (by omega), m_let_eq]
      exact ih f (by omega) (by omega) (fun j h1 h2 => ho j h1 (by omega))
    · rw [if_neg (show ¬ nI (op (d + 1)) = (1 : Int32) from fun z => q ((nI_eq (b := 1) (by omega) (by omega)).mp z)), if_neg q]
theorem okd_0 {t : Tok} (h : (okd T isB t).1 = 0) : ¬ tkW 10631 t = true ∧ ¬ tkS T 40 t = true ∧ fct isB t = none ∧ ¬ t.2.2.1 = 3 := by
  unfold okd at h
  by_cases h1 : tkW 10631 t = true
  · rw [if_pos h1] at h; cases h
  rw [if_neg h1] at h
  by_cases h2 : tkS T 40 t = true
  · rw [if_pos h2] at h; cases h
  rw [if_neg h2] at h
  cases hf : fct isB t with
  | some x => rw [hf] at h; cases h
  | none =>
    rw [hf] at h
    dsimp only at h
    by_cases z : t.2.2.1 = 3
    · rw [if_pos z] at h; cases h
    · exact ⟨h1, h2, rfl, z⟩
theorem bI_fa {b : Bool} (h : ¬ b = true) : bI b = 0 := by cases b <;> first | rfl | exact absurd rfl h
theorem bI_tr {b : Bool} (h : b = true) : bI b = 1 := by rw [h]; rfl
theorem nar0 : vp_nar .boolean (0 : Int32) = bI false := by decide
theorem nar1 : vp_nar .boolean (1 : Int32) = bI true := by decide
theorem fct_W {t : Tok} {x : Nat} (h : fct isB t = some x) : t.2.2.1 = 2 := by
  by_cases z : t.2.2.1 = 2
  · exact z
  · exfalso
    have f : ∀ c, ¬ tkW c t = true := fun c hc => z (tkW_k hc).1
    unfold fct at h
    rw [if_neg (f _), if_neg (f _), if_neg (f _), if_neg (f _), if_neg (f _), if_neg (f _), if_neg (f _)] at h
    split at h <;> cases h
theorem M_reads_l (hn : n ≤ 1000) (hb0 : b0 ≤ 2000) {k59 k70 : Nat → m_M → Option (Int32 × m_M)} {k399 : Nat → Int32 → m_M → Option (Int32 × m_M)}
    (h59 : ∀ M, k59 128 M = x_cV 10 M 128 (F_X12_fails 128 (1 : Int32) M) fun v3 M3 => x_b v3 <| some (v3, M3))
    (h70 : ∀ M, k70 128 M = x_cV 10 M 128 (F_X12_fails 128 (5 : Int32) M) fun v3 M3 => x_b v3 <| some (v3, M3))
    (h399 : ∀ d M, k399 128 d M = if d = 0 then (x_cV 10 M 128 (F_X12_isSign 128 (59 : Int32) M) fun v10 M9 => if v10 = 0 then (x_cV 10 M9 128 (F_X12_fails 128 (1 : Int32) M9) fun v3 M3 => x_b v3 <| some (v3, M3)) else x_cV 10 M9 128 (F_X12_nextToken 128 M9) fun _ M10 => some ((1 : Int32), M10)) else (x_cV 10 M 128 (F_X12_fails 128 (1 : Int32) M) fun v3 M3 => x_b v3 <| some (v3, M3))) :
    ∀ (e f q d : Nat) (w : Bool) (op : Nat → Nat) (cp : Nat → Bool) (mc : List Nat) (M : m_M), q ≤ n → n - q < e → e ≤ f → d ≤ 5 → b0 + mc.length + (n - q) ≤ 2000 → EM T n b0 isB (q, d, w, op, cp, mc) M → EMout T n b0 (aR T n isB (q, d, w, op, cp, mc)) (F_X12_reads_11 k59 k70 k399 f 128 (nI d) (bI w) M) M := by
  intro e
  induction e with
  | zero => intro f q d w op cp mc M _ h; omega
  | succ e ih =>
    intro f q d w op cp mc M hq he hf hd hb h
    obtain ⟨f, rfl⟩ : ∃ f', f = f' + 1 := ⟨f - 1, by omega⟩
    have K := h.K
    have h4 := tok_4 (T := T) hq
    obtain ⟨t, ht⟩ : ∃ t, t = tokAt T n q := ⟨_, rfl⟩
    have hW : ∀ c, F_X12_isWord 128 c M = some (bI (tkW c t), M) := fun c => by rw [ht]; exact h.W hq
    have hS : ∀ c, c < 127 → F_X12_isSign 128 (nI c) M = some (bI (tkS T c t), M) := fun c hc => by rw [ht]; exact h.S hn hq hc
    have hfail : ∀ k, EMout T n b0 (.inl (k + 16 * t.1)) (x_cV 10 M 128 (F_X12_fails 128 (nI k) M) fun v3 M3 => x_b v3 <| some (v3, M3)) M := fun k => by rw [ht]; exact h.fail
    have tl : t.2.2.1 ≠ 0 → q < t.2.1 ∧ t.2.1 ≤ n ∧ q < n := fun z => by rw [ht] at z ⊢; exact tok_lt hq z
    rw [F_X12_reads_11]
    cases w
    · -- an operator is due
      rw [if_pos (show bI false = 0 from rfl)]
      refine m_let_P (fun o => EMout T n b0 (aR T n isB (q, d, false, op, cp, mc)) o M) ?_
      intro k424 h424
      refine m_let_P (fun o => EMout T n b0 (aR T n isB (q, d, false, op, cp, mc)) o M) ?_
      intro k206 h206
      -- the turn's end
      have turn : ∀ (d' : Nat) (w' : Bool) (op' : Nat → Nat) (cp' : Nat → Bool) (mc' : List Nat) (M1 : m_M), aStep T n isB (q, d, false, op, cp, mc) = .inr (t.2.1, d', w', op', cp', mc') → d' ≤ 5 → mc'.length = mc.length + 1 → t.2.2.1 ≠ 0 → EM T n b0 isB (q, d', false, op', cp', mc') M1 → emF b0 M M1 → EMout T n b0 (aR T n isB (q, d, false, op, cp, mc)) (k424 128 (nI d') (bI w') M1) M := by
        intro d' w' op' cp' mc' M1 hst hd' hlen hk hE hF
        obtain ⟨t1, t2, t3⟩ := tl hk
        rw [aR_next hq hst, h424]
        dsimp only
        obtain ⟨M2, n1, n2, n3⟩ := hE.next hn hq (w' := w')
        rw [← ht] at n2
        rw [x_cV_ok hE.K n1]
        exact (ih f t.2.1 d' w' op' cp' mc' M2 t2 (by omega) (by omega) hd' (by omega) n2).tr (hF.trans n3)
      have num : ∀ m, (∃ l c, opr T t = some (l, m, c) ∧ 1 < l) → EMout T n b0 (aR T n isB (q, d, false, op, cp, mc)) (x_cV 10 M 128 (F_X12_puts 128 (nI m) M) fun _ M5 => k424 128 (nI d) (1 : Int32) M5) M := by
        rintro m ⟨l, c, ho, hl⟩
        have t3 := (tl (opr_k ho)).2.2
        obtain ⟨M1, p1, p2, p3⟩ := h.puts (by omega) (c := m) (w' := false)
        rw [x_cV_ok K p1]
        refine turn d true op cp (mc ++ [m]) M1 ?_ hd (by rw [List.length_append]; rfl) (opr_k ho) p2 p3
        rw [ht] at ho ⊢
        show (match opr T (tokAt T n q) with | some (l, m, _) => _ | none => _) = _
        rw [ho]
        dsimp only
        rw [if_neg (by omega), if_neg (by omega)]
      have go206 : (tkS T 43 t = true ∨ tkS T 45 t = true ∨ tkS T 42 t = true) → EMout T n b0 (aR T n isB (q, d, false, op, cp, mc)) (k206 128 (nI d) M) M := by
        intro hor
        rw [h206]
        dsimp only
        refine m_let_P (fun o => EMout T n b0 (aR T n isB (q, d, false, op, cp, mc)) o M) ?_
        intro k237 h237
        rw [x_cV_ok K (show F_X12_isSign 128 (43 : Int32) M = _ from hS 43 (by omega))]
        by_cases s43 : tkS T 43 t = true
        · rw [bI_tr s43, if_neg (by decide), h237]
          dsimp only
          refine num 20 ⟨2, 16, ?_, by omega⟩
          unfold opr
          rw [if_neg (tkS_o s43 (by omega)), if_pos s43]
        rw [bI_fa s43, if_pos rfl, x_cV_ok K (show F_X12_isSign 128 (45 : Int32) M = _ from hS 45 (by omega))]
        by_cases s45 : tkS T 45 t = true
        · rw [bI_tr s45, if_neg (by decide), h237]
          dsimp only
          refine num 21 ⟨2, 17, ?_, by omega⟩
          unfold opr
          rw [if_neg (tkS_o s45 (by omega)), if_neg s43, if_pos s45]
        rw [bI_fa s45, if_pos rfl, h237]
        dsimp only
        refine num 22 ⟨3, 18, ?_, by omega⟩
        unfold opr
        rw [if_pos (by rcases hor with z | z | z; exact absurd z s43; exact absurd z s45; exact z)]
      rw [x_cV_ok K (show F_X12_isSign 128 (43 : Int32) M = _ from hS 43 (by omega))]
      by_cases s43 : tkS T 43 t = true
      · rw [bI_tr s43, if_neg (by decide)]
        exact go206 (.inl s43)
      rw [bI_fa s43, if_pos rfl, x_cV_ok K (show F_X12_isSign 128 (45 : Int32) M = _ from hS 45 (by omega))]
      by_cases s45 : tkS T 45 t = true
      · rw [bI_tr s45, if_neg (by decide)]
        exact go206 (.inr (.inl s45))
      rw [bI_fa s45, if_pos rfl, x_cV_ok K (show F_X12_isSign 128 (42 : Int32) M = _ from hS 42 (by omega))]
      by_cases s42 : tkS T 42 t = true
      · rw [bI_tr s42, if_neg (by decide)]
        exact go206 (.inr (.inr s42))
      rw [bI_fa s42, if_pos rfl]
      refine m_let_P (fun o => EMout T n b0 (aR T n isB (q, d, false, op, cp, mc)) o M) ?_
      intro k304 h304
      refine m_let_P (fun o => EMout T n b0 (aR T n isB (q, d, false, op, cp, mc)) o M) ?_
      intro k263 h263
      have R26 : ∀ M : m_M, G M → m_R M 128 26 = some 142 := fun M g => by simp only [gR g]
      have K142 : ∀ M : m_M, G M → m_K M 142 = 14 := fun M g => by simp only [gK g]
      have L142 : ∀ M : m_M, G M → m_len M 142 = 7 := fun M g => by simp only [gl g]
      -- what is no operator of sums
      have rest : (∀ x, opr T t = some x → x.1 = 0 ∨ (x.1 = 1 ∧ cp d = true)) → EMout T n b0 (aR T n isB (q, d, false, op, cp, mc)) (k304 128 (nI d) (bI false) M) M := by
        intro hno
        rw [h304]
        dsimp only
        refine m_let_P (fun o => EMout T n b0 (aR T n isB (q, d, false, op, cp, mc)) o M) ?_
        intro k324 h324
        have join : ∀ m, (∃ c, opr T t = some (0, m, c)) → EMout T n b0 (aR T n isB (q, d, false, op, cp, mc)) (x_cV 10 M 128 (F_X12_puts 128 (nI m) M) fun _ M14 => x_gN 10 M14 128 26 fun v27 => x_sI 14 M14 v27 (nI d) (vp_nar .boolean (0 : Int32)) fun M15 => k424 128 (nI d) (1 : Int32) M15) M := by
          rintro m ⟨c, ho⟩
          have t3 := (tl (opr_k ho)).2.2
          obtain ⟨M1, p1, p2, p3⟩ := h.puts (by omega) (c := m) (w' := false)
          obtain ⟨c1, c2⟩ := p2.setC (b := false)
          rw [x_cV_ok K p1, x_gN_ok p2.K (R26 _ p2.1), x_sI_ok (K142 _ p2.1) (by rw [L142 _ p2.1]; omega) (by omega), nar0]
          refine turn d true op (upf cp d false) (mc ++ [m]) _ ?_ hd (by rw [List.length_append]; rfl) (opr_k ho) c1 (p3.trans c2)
          rw [ht] at ho ⊢
          show (match opr T (tokAt T n q) with | some (l, m, _) => _ | none => _) = _
          rw [ho]
          rfl
        have go324 : (tkW 1111 t = true ∨ tkW 423 t = true) → EMout T n b0 (aR T n isB (q, d, false, op, cp, mc)) (k324 128 (nI d) M) M := by
          intro hor
          rw [h324]
          dsimp only
          refine m_let_P (fun o => EMout T n b0 (aR T n isB (q, d, false, op, cp, mc)) o M) ?_
          intro k342 h342
          rw [x_cV_ok K (hW 1111)]
          by_cases w1 : tkW 1111 t = true
          · rw [bI_tr w1, if_neg (by decide), h342]
            dsimp only
            refine join 26 ⟨12, ?_⟩
            unfold opr
            rw [if_neg s42, if_neg s43, if_neg s45, if_neg (tkWS w1), if_neg (tkWS w1), if_pos w1]
          · have w2 : tkW 423 t = true := by rcases hor with z | z; exact absurd z w1; exact z
            rw [bI_fa w1, if_pos rfl, h342]
            dsimp only
            refine join 27 ⟨13, ?_⟩
            unfold opr
            rw [if_neg s42, if_neg s43, if_neg s45, if_neg (tkWS w2), if_neg (tkWS w2), if_neg w1, if_pos w2]
        rw [x_cV_ok K (hW 1111)]
        by_cases w1 : tkW 1111 t = true
        · rw [bI_tr w1, if_neg (by decide)]
          exact go324 (.inl w1)
        rw [bI_fa w1, if_pos rfl, x_cV_ok K (hW 423)]
        by_cases w2 : tkW 423 t = true
        · rw [bI_tr w2, if_neg (by decide)]
          exact go324 (.inr w2)
        rw [bI_fa w2, if_pos rfl, x_cV_ok K (show F_X12_isSign 128 (41 : Int32) M = _ from hS 41 (by omega))]
        -- what the machine does with what is no operator
        have hfin : ∀ (hc : ¬ (tkS T 41 t = true ∧ 0 < d)), aStep T n isB (q, d, false, op, cp, mc) = if d = 0 ∧ tkS T 59 t = true then .inl (.inr (t.2.1, mc)) else .inl (.inl (1 + 16 * t.1)) := by
          intro hc
          rw [ht] at hno hc ⊢
          show (match opr T (tokAt T n q) with | some (l, m, _) => _ | none => _) = _
          cases ho : opr T (tokAt T n q) with
          | none =>
            dsimp only
            rw [if_neg hc]
          | some x =>
            obtain ⟨l, m, c⟩ := x
            have := hno (l, m, c) ho
            have h59' : ¬ tkS T 59 (tokAt T n q) = true := by
              intro z
              unfold opr at ho
              rw [if_neg (tkS_o z (by omega)), if_neg (tkS_o z (by omega)), if_neg (tkS_o z (by omega)), if_neg (tkS_o z (by omega)), if_neg (tkS_o z (by omega)), if_neg (tkSW z), if_neg (tkSW z)] at ho
              cases ho
            have hl : l = 1 ∧ cp d = true := by
              rcases this with y | y
              · exfalso
                have y : l = 0 := y
                rcases opr_in ho with z | z | z | z
                · omega
                · omega
                · omega
                · rw [← ht] at ho
                  unfold opr at ho
                  rw [if_neg s42, if_neg s43, if_neg s45] at ho
                  by_cases s60 : tkS T 60 t = true
                  · rw [if_pos s60] at ho; cases ho; omega
                  by_cases s61 : tkS T 61 t = true
                  · rw [if_neg s60, if_pos s61] at ho; cases ho; omega
                  rw [if_neg s60, if_neg s61, if_neg w1, if_neg w2] at ho
                  cases ho
              · exact y
            dsimp only
            rw [if_pos hl.1, if_pos hl.2, if_neg (fun z => h59' z.2)]
        have go399 : ¬ (tkS T 41 t = true ∧ 0 < d) → EMout T n b0 (aR T n isB (q, d, false, op, cp, mc)) (k399 128 (nI d) M) M := by
          intro hc
          rw [h399]
          by_cases d0 : d = 0
          · rw [if_pos (show nI d = 0 from by rw [d0]; rfl), x_cV_ok K (show F_X12_isSign 128 (59 : Int32) M = _ from hS 59 (by omega))]
            by_cases s59 : tkS T 59 t = true
            · rw [bI_tr s59, if_neg (by decide)]
              obtain ⟨M2, n1, n2, n3⟩ := h.next hn hq (w' := false)
              rw [← ht] at n2
              rw [aR_end ((hfin hc).trans (if_pos ⟨d0, s59⟩)), x_cV_ok K n1]
              exact ⟨nI 1, M2, rfl, n3, rfl, n2.2.1, n2.2.2.1, n2.2.2.2.1.1, n2.2.2.2.2.1⟩
            · rw [bI_fa s59, if_pos rfl, aR_end ((hfin hc).trans (if_neg (fun z => s59 z.2)))]
              exact hfail 1
          · rw [if_neg (nI_nz d0 (by omega)), aR_end ((hfin hc).trans (if_neg (fun z => d0 z.1)))]
            exact hfail 1
        by_cases s41 : tkS T 41 t = true
        · rw [bI_tr s41, if_neg (by decide)]
          by_cases d0 : d ≤ 0
          · rw [if_pos ((nI_le0 (by omega)).mpr d0)]
            exact go399 (fun z => by omega)
          · have t3 := (tl (by rw [(tkS_k s41).1]; decide)).2.2
            obtain ⟨M1, p1, p2, p3⟩ := h.puts (by omega) (c := 29) (w' := false)
            have p1' : F_X12_puts 128 (29 : Int32) M = _ := p1
            rw [if_neg (fun z => d0 ((nI_le0 (by omega)).mp z)), x_cV_ok K p1', show nI d - (1 : Int32) = nI (d - 1) from nI_sub' (b := 1) (by omega), m_let_eq, M_pop2 p2.1 (d - 1) m_FU (by omega) (m_FU_lt (by omega)) (fun j h1 h2 => p2.2.2.2.2.2.1 j h1 (by show j ≤ d; omega))]
            have pl := popN_le op (d - 1)
            refine turn (popN op (d - 1)) false op cp (mc ++ [29]) M1 ?_ (by omega) (by rw [List.length_append]; rfl) (by rw [(tkS_k s41).1]; decide) (p2.low (by omega)) p3
            rw [ht] at s41 ⊢
            show (match opr T (tokAt T n q) with | some (l, m, _) => _ | none => _) = _
            have ho : opr T (tokAt T n q) = none := by
              unfold opr
              rw [if_neg (tkS_o s41 (by omega)), if_neg (tkS_o s41 (by omega)), if_neg (tkS_o s41 (by omega)), if_neg (tkS_o s41 (by omega)), if_neg (tkS_o s41 (by omega)), if_neg (tkSW s41), if_neg (tkSW s41)]
            rw [ho]
            dsimp only
            rw [if_pos ⟨s41, by omega⟩]
        · rw [bI_fa s41, if_pos rfl]
          exact go399 (fun z => s41 z.1)
      have cmp : ∀ m, (∃ c, opr T t = some (1, m, c)) → cp d = false → EMout T n b0 (aR T n isB (q, d, false, op, cp, mc)) (x_cV 10 M 128 (F_X12_puts 128 (nI m) M) fun _ M23 => x_gN 10 M23 128 26 fun v42 => x_sI 14 M23 v42 (nI d) (vp_nar .boolean (1 : Int32)) fun M24 => k424 128 (nI d) (1 : Int32) M24) M := by
        rintro m ⟨c, ho⟩ hcp
        have t3 := (tl (opr_k ho)).2.2
        obtain ⟨M1, p1, p2, p3⟩ := h.puts (by omega) (c := m) (w' := false)
        obtain ⟨c1, c2⟩ := p2.setC (b := true)
        rw [x_cV_ok K p1, x_gN_ok p2.K (R26 _ p2.1), x_sI_ok (K142 _ p2.1) (by rw [L142 _ p2.1]; omega) (by omega), nar1]
        refine turn d true op (upf cp d true) (mc ++ [m]) _ ?_ hd (by rw [List.length_append]; rfl) (opr_k ho) c1 (p3.trans c2)
        rw [ht] at ho ⊢
        show (match opr T (tokAt T n q) with | some (l, m, _) => _ | none => _) = _
        rw [ho]
        dsimp only
        rw [if_pos rfl, if_neg (by rw [hcp]; decide)]
      have go263 : (tkS T 60 t = true ∨ tkS T 61 t = true) → EMout T n b0 (aR T n isB (q, d, false, op, cp, mc)) (k263 128 (nI d) (bI false) M) M := by
        intro hor
        have ecp := h.2.2.2.2.2.2 d (Nat.le_refl _)
        have ecp : m_I M 142 d = bI (cp d) := ecp
        rw [h263]
        dsimp only
        rw [x_gN_ok K (R26 _ h.1), x_aI_ok (K142 _ h.1) (by rw [L142 _ h.1]; omega) (by omega), ecp]
        have hop : ∃ m c, opr T t = some (1, m, c) ∧ ((m = 24 ∧ tkS T 60 t = true) ∨ (m = 25 ∧ ¬ tkS T 60 t = true)) := by
          unfold opr
          by_cases s60 : tkS T 60 t = true
          · exact ⟨24, 14, by rw [if_neg s42, if_neg s43, if_neg s45, if_pos s60], .inl ⟨rfl, s60⟩⟩
          · exact ⟨25, 15, by rw [if_neg s42, if_neg s43, if_neg s45, if_neg s60, if_pos (by rcases hor with z | z; exact absurd z s60; exact z)], .inr ⟨rfl, s60⟩⟩
        obtain ⟨m, c, ho, hm⟩ := hop
        cases hcp : cp d
        · rw [if_pos (show bI false = 0 from rfl)]
          refine m_let_P (fun o => EMout T n b0 (aR T n isB (q, d, false, op, cp, mc)) o M) ?_
          intro k289 h289
          rw [x_cV_ok K (show F_X12_isSign 128 (60 : Int32) M = _ from hS 60 (by omega))]
          rcases hm with ⟨rfl, s60⟩ | ⟨rfl, s60⟩
          · rw [bI_tr s60, if_neg (by decide), h289]
            exact cmp 24 ⟨c, ho⟩ hcp
          · rw [bI_fa s60, if_pos rfl, h289]
            exact cmp 25 ⟨c, ho⟩ hcp
        · rw [if_neg (show ¬ bI true = 0 from by decide)]
          exact rest (fun x hx => by rw [ho] at hx; cases hx; exact .inr ⟨rfl, hcp⟩)
      rw [x_cV_ok K (show F_X12_isSign 128 (60 : Int32) M = _ from hS 60 (by omega))]
      by_cases s60 : tkS T 60 t = true
      · rw [bI_tr s60, if_neg (by decide)]
        exact go263 (.inl s60)
      rw [bI_fa s60, if_pos rfl, x_cV_ok K (show F_X12_isSign 128 (61 : Int32) M = _ from hS 61 (by omega))]
      by_cases s61 : tkS T 61 t = true
      · rw [bI_tr s61, if_neg (by decide)]
        exact go263 (.inr s61)
      rw [bI_fa s61, if_pos rfl]
      refine rest (fun x hx => .inl ?_)
      unfold opr at hx
      rw [if_neg s42, if_neg s43, if_neg s45, if_neg s60, if_neg s61] at hx
      split at hx
      · cases hx; rfl
      split at hx
      · cases hx; rfl
      cases hx
    · -- an operand is due
      rw [if_neg (show ¬ bI true = 0 from by decide)]
      refine m_let_P (fun o => EMout T n b0 (aR T n isB (q, d, true, op, cp, mc)) o M) ?_
      intro k65 h65
      have hfc := h.fact hq
      rw [← ht] at hfc
      rw [x_cV_ok K hfc, x_cV_ok K (hW 10631), x_cV_ok K (show F_X12_isSign 128 (40 : Int32) M = _ from hS 40 (by omega))]
      have stp0 : (okd T isB t).1 = 0 → aStep T n isB (q, d, true, op, cp, mc) = .inl (.inl (1 + 16 * t.1)) := fun z => by
        rw [ht] at z ⊢
        exact if_pos z
      have e6 := h.2.2.1.1.2.2.2
      have e6 : m_I M 128 6 = nI (tkM t.2.2.1) := by rw [ht]; exact e6
      have h4 : t.2.2.1 ≤ 4 := by rw [ht]; exact h4
      obtain ⟨tk1, tk2, tk3, tk4, tk5⟩ := tkM_n h4
      by_cases z0 : (okd T isB t).1 = 0
      · obtain ⟨y1, y2, y3, y4⟩ := okd_0 z0
        rw [aR_end (stp0 z0), y3, if_pos rfl, bI_fa y1, if_pos rfl, bI_fa y2, if_pos rfl, x_gI_ok K, e6, if_neg (show ¬ nI (tkM t.2.2.1) = (2 : Int32) from fun z => y4 (tk3.mp ((nI_eq (b := 2) (by omega) (by omega)).mp z))), h59]
        exact hfail 1
      -- what comes once an operand is seen
      have hk0 : t.2.2.1 ≠ 0 := okd_k z0
      obtain ⟨t1, t2, t3⟩ := tl hk0
      have a65 : ∀ fv : Int32, fv = (match fct isB t with | some x => nI (ofB isB + x) | none => 0) → EMout T n b0 (aR T n isB (q, d, true, op, cp, mc)) (k65 128 (nI d) (bI true) fv (bI (tkW 10631 t)) (bI (tkS T 40 t)) M) M := by
        intro fv hfv
        rw [h65]
        dsimp only
        by_cases d5 : d = 5
        · rw [if_pos (show nI d = (5 : Int32) from by rw [d5]; rfl), h70, aR_end (r := .inl (5 + 16 * t.1)) (by
            rw [ht] at z0 ⊢
            show (if (okd T isB (tokAt T n q)).1 = 0 then _ else if d = 5 then _ else _) = _
            rw [if_neg z0, if_pos d5])]
          exact hfail 5
        rw [if_neg (show ¬ nI d = (5 : Int32) from fun z => d5 ((nI_eq (b := 5) (by omega) (by omega)).mp z))]
        refine m_let_P (fun o => EMout T n b0 (aR T n isB (q, d, true, op, cp, mc)) o M) ?_
        intro k172 h172
        have turn : ∀ (d' : Nat) (w' : Bool) (op' : Nat → Nat) (cp' : Nat → Bool) (mc' : List Nat) (M1 : m_M), aStep T n isB (q, d, true, op, cp, mc) = .inr (t.2.1, d', w', op', cp', mc') → d' ≤ 5 → mc'.length = mc.length + 1 → EM T n b0 isB (q, d', true, op', cp', mc') M1 → emF b0 M M1 → EMout T n b0 (aR T n isB (q, d, true, op, cp, mc)) (k172 128 (nI d') (bI w') M1) M := by
          intro d' w' op' cp' mc' M1 hst hd' hlen hE hF
          rw [aR_next hq hst, h172]
          dsimp only
          obtain ⟨M2, n1, n2, n3⟩ := hE.next hn hq (w' := w')
          rw [← ht] at n2
          rw [x_cV_ok hE.K n1]
          exact (ih f t.2.1 d' w' op' cp' mc' M2 t2 (by omega) (by omega) hd' (by omega) n2).tr (hF.trans n3)
        refine m_let_P (fun o => EMout T n b0 (aR T n isB (q, d, true, op, cp, mc)) o M) ?_
        intro k86 h86
        have R25 : ∀ M : m_M, G M → m_R M 128 25 = some 141 := fun M g => by simp only [gR g]
        have K141 : ∀ M : m_M, G M → m_K M 141 = 12 := fun M g => by simp only [gK g]
        have L141 : ∀ M : m_M, G M → m_len M 141 = 7 := fun M g => by simp only [gl g]
        have R26 : ∀ M : m_M, G M → m_R M 128 26 = some 142 := fun M g => by simp only [gR g]
        have K142 : ∀ M : m_M, G M → m_K M 142 = 14 := fun M g => by simp only [gK g]
        have L142 : ∀ M : m_M, G M → m_len M 142 = 7 := fun M g => by simp only [gl g]
        have go86 : ∀ o m c, okd T isB t = (o, m, c) → (o = 1 ∧ m = 30 ∧ tkW 10631 t = true ∨ o = 2 ∧ m = 28 ∧ ¬ tkW 10631 t = true) → EMout T n b0 (aR T n isB (q, d, true, op, cp, mc)) (k86 128 (nI d) (bI true) (bI (tkW 10631 t)) M) M := by
          intro o m c ho hom
          have hst : aStep T n isB (q, d, true, op, cp, mc) = .inr (t.2.1, d + 1, true, upf op (d + 1) o, upf cp (d + 1) false, mc ++ [m]) := by
            rw [ht] at ho ⊢
            show (if (okd T isB (tokAt T n q)).1 = 0 then _ else if d = 5 then _ else if (okd T isB (tokAt T n q)).1 = 3 then _ else _) = _
            rw [ho]
            dsimp only
            rw [if_neg (by omega), if_neg d5, if_neg (by omega)]
          obtain ⟨M1, p1, p2, p3⟩ := h.puts (by omega) (c := m) (w' := true)
          obtain ⟨c1, c2⟩ := p2.push (o := o) (by omega)
          have put : ∀ k99 : Nat → Int32 → Int32 → Int32 → Nat → Int32 → m_M → Option (Int32 × m_M), (k99 = fun (v59 : Nat) (v60 : Int32) (v61 : Int32) (v62 : Int32) (v63 : Nat) (v64 : Int32) (M32 : m_M) =>
          m_let (fun (v65 : Nat) (v66 : Int32) (v67 : Int32) (v68 : Nat) (v69 : Int32) (v70 : Int32) (M33 : m_M) =>
            x_sI 12 M33 v68 v69 v70 fun M34 =>
            x_gN 10 M34 v65 26 fun v71 =>
            x_sI 14 M34 v71 v66 (vp_nar .boolean (0 : Int32)) fun M35 =>
            k172 v65 v66 v67 M35
          ) fun (k120 : Nat → Int32 → Int32 → Nat → Int32 → Int32 → m_M → Option (Int32 × m_M)) =>
          x_cV 10 M32 v63 (F_X12_puts v63 v64 M32) fun _ M36 =>
          m_let (v60 + (1 : Int32)) fun v72 =>
          x_gN 10 M36 v59 25 fun v73 =>
          if v62 = 0 then (
            k120 v59 v72 v61 v73 v72 (2 : Int32) M36
          ) else
          k120 v59 v72 v61 v73 v72 (1 : Int32) M36) → EMout T n b0 (aR T n isB (q, d, true, op, cp, mc)) (k99 128 (nI d) (bI true) (bI (tkW 10631 t)) 128 (nI m) M) M := by
            intro k99 h99
            rw [h99]
            dsimp only
            refine m_let_P (fun o => EMout T n b0 (aR T n isB (q, d, true, op, cp, mc)) o M) ?_
            intro k120 h120
            rw [x_cV_ok K p1, nI_1, m_let_eq, x_gN_ok p2.K (R25 _ p2.1)]
            have fin : k120 128 (nI (d + 1)) (bI true) 141 (nI (d + 1)) (nI o) M1 = k172 128 (nI (d + 1)) (bI true) (m_sI (m_sI M1 141 (d + 1) (nI o)) 142 (d + 1) (bI false)) := by
              rw [h120]
              dsimp only
              have g1 : G (m_sI M1 141 (d + 1) (nI o)) := p2.1
              rw [x_sI_ok (K141 _ p2.1) (by rw [L141 _ p2.1]; omega) (by omega), x_gN_ok (show m_K (m_sI M1 141 (d + 1) (nI o)) 128 = 10 from p2.K) (R26 _ g1), x_sI_ok (K142 _ g1) (by rw [L142 _ g1]; omega) (by omega), nar0]
            rcases hom with ⟨rfl, rfl, w1⟩ | ⟨rfl, rfl, w1⟩
            · rw [bI_tr w1, if_neg (by decide), show k120 128 (nI (d + 1)) (bI true) 141 (nI (d + 1)) (1 : Int32) M1 = _ from fin]
              exact turn (d + 1) true _ _ _ _ hst (by omega) (by rw [List.length_append]; rfl) c1 (p3.trans c2)
            · rw [bI_fa w1, if_pos rfl, show k120 128 (nI (d + 1)) (bI true) 141 (nI (d + 1)) (2 : Int32) M1 = _ from fin]
              exact turn (d + 1) true _ _ _ _ hst (by omega) (by rw [List.length_append]; rfl) c1 (p3.trans c2)
          rw [h86]
          dsimp only
          refine m_let_P (fun o => EMout T n b0 (aR T n isB (q, d, true, op, cp, mc)) o M) ?_
          intro k99 h99
          rcases hom with ⟨ho1, hm1, w1⟩ | ⟨ho1, hm1, w1⟩
          · have := put k99 h99
            rw [hm1, bI_tr w1] at this
            rw [bI_tr w1, if_neg (by decide)]
            exact this
          · have := put k99 h99
            rw [hm1, bI_fa w1] at this
            rw [bI_fa w1, if_pos rfl]
            exact this
        have val : ∀ m c, okd T isB t = (3, m, c) → EMout T n b0 (aR T n isB (q, d, true, op, cp, mc)) (x_cV 10 M 128 (F_X12_puts 128 (nI m) M) fun _ M38 => F_X12_reads_152 k172 m_FU 128 (nI d) (0 : Int32) M38) M := by
          intro m c ho
          obtain ⟨M1, p1, p2, p3⟩ := h.puts (by omega) (c := m) (w' := true)
          rw [x_cV_ok K p1, M_pop1 p2.1 d m_FU (by omega) (m_FU_lt (by omega)) (fun j h1 h2 => p2.2.2.2.2.2.1 j h1 h2)]
          have pl := popN_le op d
          refine turn (popN op d) false op cp (mc ++ [m]) M1 ?_ (by omega) (by rw [List.length_append]; rfl) (p2.low pl) p3
          rw [ht] at ho ⊢
          show (if (okd T isB (tokAt T n q)).1 = 0 then _ else if d = 5 then _ else if (okd T isB (tokAt T n q)).1 = 3 then _ else _) = _
          rw [ho]
          dsimp only
          rw [if_neg (by omega), if_neg d5, if_pos rfl]
        have h9 : t.2.2.1 = 3 → t.2.2.2.2 < 10000 := by rw [ht]; exact tok_9 hq
        rcases okd_in (T := T) (isB := isB) h9 with z | ⟨z, w1⟩ | ⟨z, s40, w1⟩ | ⟨x, z, zf, zx, w1, s40⟩ | ⟨z, zk, zn, zf, w1, s40⟩
        · exact absurd z.1 z0
        · rw [show bI (tkW 10631 t) = 1 from bI_tr w1, if_neg (by decide)]
          have := go86 1 30 11 z (.inl ⟨rfl, rfl, w1⟩)
          rw [bI_tr w1] at this
          exact this
        · rw [show bI (tkW 10631 t) = 0 from bI_fa w1, if_pos rfl, bI_tr s40, if_neg (by decide)]
          have := go86 2 28 0 z (.inr ⟨rfl, rfl, w1⟩)
          rw [bI_fa w1] at this
          exact this
        · rw [zf] at hfv
          have hx8 : ofB isB + x < 20 := by
            unfold ofB
            cases isB
            · rw [if_neg (by decide)] at zx ⊢; omega
            · rw [if_pos rfl] at zx ⊢; omega
          have hx1 : 0 < ofB isB + x := by unfold ofB; split <;> omega
          rw [show bI (tkW 10631 t) = 0 from bI_fa w1, if_pos rfl, bI_fa s40, if_pos rfl]
          refine m_let_P (fun o => EMout T n b0 (aR T n isB (q, d, true, op, cp, mc)) o M) ?_
          intro k147 h147
          rw [hfv, if_neg (fun y => absurd ((nI_le0 (by omega)).mp y) (by omega)), h147]
          exact val _ _ z
        · rw [zf] at hfv
          have e8 := h.2.2.1.2.2
          have e8 : m_I M 128 8 = nI t.2.2.2.2 := by rw [ht] at zk ⊢; exact e8 zk
          rw [show bI (tkW 10631 t) = 0 from bI_fa w1, if_pos rfl, bI_fa s40, if_pos rfl]
          refine m_let_P (fun o => EMout T n b0 (aR T n isB (q, d, true, op, cp, mc)) o M) ?_
          intro k147 h147
          have hfv : fv = 0 := hfv
          rw [hfv, if_pos (by decide), x_gI_ok K, e8, show (100 : Int32) = nI 100 from rfl, nI_add, h147]
          exact val _ _ z
      have h9 : t.2.2.1 = 3 → t.2.2.2.2 < 10000 := by rw [ht]; exact tok_9 hq
      cases zf : fct isB t with
      | some x =>
        have hx1 : ofB isB + x ≠ 0 := by unfold ofB; split <;> omega
        have hx8 : ofB isB + x < 20 := by
          rcases okd_in (T := T) (isB := isB) h9 with z | ⟨z, w1⟩ | ⟨z, s40, w1⟩ | ⟨x', z, zf', zx, w1, s40⟩ | ⟨z, zk, zn, zf', w1, s40⟩
          · exact absurd z.1 z0
          · have := fct_W zf
            unfold fct at zf
            have f : ∀ c, (10631 : Int64) ≠ c → ¬ tkW c t = true := fun c hc => tkW_o w1 hc
            rw [if_neg (f _ (by decide)), if_neg (f _ (by decide)), if_neg (f _ (by decide)), if_neg (f _ (by decide)), if_neg (f _ (by decide)), if_neg (f _ (by decide)), if_neg (f _ (by decide))] at zf
            split at zf <;> cases zf
          · have := fct_W zf
            have := (tkS_k s40).1
            omega
          · rw [zf] at zf'
            cases zf'
            unfold ofB
            cases isB
            · rw [if_neg (by decide)] at zx ⊢; omega
            · rw [if_pos rfl] at zx ⊢; omega
          · rw [zf] at zf'; cases zf'
        dsimp only
        rw [if_neg (nI_nz hx1 (by omega))]
        exact a65 _ (by rw [zf])
      | none =>
        dsimp only
        rw [if_pos rfl]
        by_cases w1 : tkW 10631 t = true
        · have := a65 0 (by rw [zf])
          rw [bI_tr w1] at this ⊢
          rw [if_neg (by decide)]
          exact this
        by_cases s40 : tkS T 40 t = true
        · have := a65 0 (by rw [zf])
          rw [bI_fa w1, bI_tr s40] at this ⊢
          rw [if_pos rfl, if_neg (by decide)]
          exact this
        have k3 : t.2.2.1 = 3 := by
          rcases okd_in (T := T) (isB := isB) h9 with z | ⟨z, w1'⟩ | ⟨z, s40', w1'⟩ | ⟨x', z, zf', zx, w1', s40'⟩ | ⟨z, zk, zn, zf', w1', s40'⟩
          · exact absurd z.1 z0
          · exact absurd w1' w1
          · exact absurd s40' s40
          · rw [zf] at zf'; cases zf'
          · exact zk
        have := a65 0 (by rw [zf])
        rw [bI_fa w1, bI_fa s40] at this ⊢
        rw [if_pos rfl, if_pos rfl, x_gI_ok K, e6, if_pos (show nI (tkM t.2.2.1) = (2 : Int32) from by rw [tk3.mpr k3]; rfl)]
        exact this
/-- what the model's reading of a law starts from -/
def EMz (T : Nat → Nat) (n b0 : Nat) (isB : Bool) (q : Nat) (M : m_M) : Prop := G M ∧ TX T n (m_I M 129) ∧ TM n (tokAt T n q) M ∧ m_I M 128 21 = nI b0 ∧ m_I M 128 22 = bI isB
theorem EMz.em {q : Nat} (h : EMz T n b0 isB q M) : EM T n b0 isB (q, 0, true, fun _ => 0, fun _ => false, []) (m_sI M 142 0 (bI false)) ∧ emF b0 M (m_sI M 142 0 (bI false)) := by
  obtain ⟨g, e129, et, e21, e22⟩ := h
  have s : ∀ a k, a ≠ 142 → m_I (m_sI M 142 0 (bI false)) a k = m_I M a k := fun a k ha => by rw [mI_sI, if_neg (fun z => ha z.1)]
  have s' : ∀ a, a ≠ 142 → m_I (m_sI M 142 0 (bI false)) a = m_I M a := fun a ha => funext fun k => s a k ha
  refine ⟨⟨g, by rw [s' 129 (by omega)]; exact e129, ⟨⟨by rw [s 128 _ (by omega)]; exact et.1.1, by rw [s 128 _ (by omega)]; exact et.1.2.1, by rw [s 128 _ (by omega)]; exact et.1.2.2.1, by rw [s 128 _ (by omega)]; exact et.1.2.2.2⟩, et.2.1, fun z => by rw [s 128 _ (by omega)]; exact et.2.2 z⟩, ⟨by rw [s 128 _ (by omega)]; exact e21, by rw [s 128 _ (by omega)]; exact e22⟩, LsA.nil, fun j h1 h2 => ?_, fun j h2 => ?_⟩, ⟨rfl, rfl, fun a _ _ _ ha => s' a ha, fun _ _ => rfl, fun k _ => s 128 k (by omega), fun _ _ => rfl, fun j _ => s 140 j (by omega)⟩⟩
  · have h2 : j ≤ 0 := h2
    omega
  · have h2 : j ≤ 0 := h2
    rw [mI_sI, if_pos ⟨rfl, by omega⟩]
theorem M_reads (hn : n ≤ 1000) (hb0 : b0 ≤ 2000) {q : Nat} (hq : q ≤ n) (hb : b0 + (n - q) ≤ 2000) (h : EMz T n b0 isB q M) : EMout T n b0 (aR T n isB (q, 0, true, fun _ => 0, fun _ => false, [])) (F_X12_reads 128 M) M := by
  have g := h.1
  have K : m_K M 128 = 10 := by simp only [gK g]
  have R26 : m_R M 128 26 = some 142 := by simp only [gR g]
  have K142 : m_K M 142 = 14 := by simp only [gK g]
  have L142 : m_len M 142 = 7 := by simp only [gl g]
  obtain ⟨c1, c2⟩ := h.em
  unfold F_X12_reads
  rw [x_gN_ok K R26, show (0 : Int32) = nI 0 from rfl, x_sI_ok K142 (by rw [L142]; omega) (by omega), show vp_nar .boolean (nI 0) = bI false from nar0]
  refine m_let_P (fun o => EMout T n b0 (aR T n isB (q, 0, true, fun _ => 0, fun _ => false, [])) o M) ?_
  intro k59 h59
  refine m_let_P (fun o => EMout T n b0 (aR T n isB (q, 0, true, fun _ => 0, fun _ => false, [])) o M) ?_
  intro k70 h70
  refine m_let_P (fun o => EMout T n b0 (aR T n isB (q, 0, true, fun _ => 0, fun _ => false, [])) o M) ?_
  intro k399 h399
  refine (M_reads_l hn hb0 (k59 := k59) (k70 := k70) (k399 := k399) (fun M => by rw [h59]) (fun M => by rw [h70]) (fun d M => ?_) (n + 1) m_FU q 0 true (fun _ => 0) (fun _ => false) [] _ hq (by omega) (Nat.le_of_lt (m_FU_lt (by omega))) (by omega) (by show b0 + 0 + (n - q) ≤ _; omega) c1).tr c2
  rw [h399]
  rfl
end EMOD
