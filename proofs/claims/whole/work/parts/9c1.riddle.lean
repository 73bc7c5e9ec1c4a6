/-! riddle -/
def rdA (l : Ld) (P : Nat → Bool) (d a c i : Nat) : Bool := decide (i = a) || ((vOf l (d + i)).isNone || !mC l P c (vOf l (d + i)))
def rdQ (l : Ld) (P : Nat → Bool) (d a c : Nat) : Bool := ccOk l c && (mC l P c (vOf l (d + a)) && anN 7 (rdA l P d a c))
section RIDDLE
variable {M M' : m_M} {s : St} {l : Ld} {P : Nat → Bool}
theorem anN_not {g : Nat → Bool} {n i : Nat} (hi : i < n) (h : g i = false) : anN n g = false := by
  cases q : anN n g
  · rfl
  · have := anN_all.mp q i hi
    rw [h] at this
    cases this
theorem iO_none {o : Option Nat} (h : o = none) : iO o = (-1 : Int32) := by rw [h]; rfl
theorem S_ime (h : G M) (hl : LCi l (m_I M)) (ho : lOk l) (hs : LCs l (m_L M 13)) {c d a : Nat} (hc : ccOk l c = true) (hd : d < 1000000) (ha : a < 7) {st la : Nat} (hw : Ws M st la) (hP : Rw (wN l) P (m_L M la)) : F_X2_isMeantElse 67 st (nI c) (nI d) (nI a) M = some (bI (!anN 7 (rdA l P d a c)), M) := by
  obtain ⟨K67, R5, K2, _⟩ := fin_cells h
  unfold F_X2_isMeantElse
  have key : ∀ (e k f : Nat), k + e = 7 → e < f → anN k (rdA l P d a c) = true → F_X2_isMeantElse_3 f 67 st (nI c) (nI d) (nI a) (nI k) M = some (bI (!anN 7 (rdA l P d a c)), M) := by
    intro e
    induction e with
    | zero =>
      intro k f hk hf hh
      obtain ⟨f, rfl⟩ : ∃ f', f = f' + 1 := ⟨f - 1, by omega⟩
      obtain rfl : k = 7 := by omega
      rw [F_X2_isMeantElse_3, if_pos (by decide), hh]
      rfl
    | succ e ih =>
      intro k f hk hf hh
      obtain ⟨f, rfl⟩ : ∃ f', f = f' + 1 := ⟨f - 1, by omega⟩
      have go : ∀ b, rdA l P d a c k = b → b = true → F_X2_isMeantElse_3 f 67 st (nI c) (nI d) (nI a) (nI (k + 1)) M = some (bI (!anN 7 (rdA l P d a c)), M) := fun b h1 h2 => ih (k + 1) f (by omega) (by omega) (by show (anN k _ && rdA l P d a c k) = true; rw [hh, h1, h2]; rfl)
      have hv := vOf_in (l := l) ho (d + k)
      have hv6 : ∀ j, vOf l (d + k) = some j → j < 2147483648 := fun j hj => by have := hv j hj; have := ho.2.2.2.1; omega
      rw [F_X2_isMeantElse_3, if_neg (show ¬ (6 : Int32) < nI k from nI_nlt (a := 6) (by omega) (by omega))]
      refine m_let_e ?_
      intro K hK
      rw [x_gN_ok K67 R5, nI_add, x_cV_ok K2 (S_verbOfC h hl ho (by omega))]
      by_cases q1 : k = a
      · rw [if_pos (by rw [q1]), hK]
        dsimp only
        rw [m_let_eq, nI_1]
        exact go _ rfl (by unfold rdA; rw [decide_eq_true q1]; rfl)
      rw [if_neg (fun z => q1 ((nI_eq (by omega) (by omega)).mp z))]
      by_cases q2 : vOf l (d + k) = none
      · rw [if_pos (iO_none q2), hK]
        dsimp only
        rw [m_let_eq, nI_1]
        exact go _ rfl (by unfold rdA; rw [q2]; simp)
      rw [if_neg (by rw [iO_no hv6]; exact q2), x_cV_ok K67 (S_icm h hl ho hs hc hv hw hP)]
      cases q3 : mC l P c (vOf l (d + k))
      · rw [if_pos (by decide), hK]
        dsimp only
        rw [m_let_eq, nI_1]
        exact go _ rfl (by unfold rdA; rw [q3]; simp)
      · rw [if_neg (by decide), anN_not (i := k) (by omega) (by
          unfold rdA
          rw [q3, decide_eq_false q1, Option.isNone_eq_false_iff.mpr (by cases hq : vOf l (d + k) with
            | none => exact absurd hq q2
            | some j => rfl)]
          rfl)]
        rfl
  exact key 7 0 m_FU (by omega) (m_FU_lt (by omega)) rfl
theorem S_findRiddle (h : G M) (hl : LCi l (m_I M)) (ho : lOk l) (hs : LCs l (m_L M 13)) {d a : Nat} (hd : d < 1000000) (ha : a < 7) {st la : Nat} (hw : Ws M st la) (hP : Rw (wN l) P (m_L M la)) : F_X2_findRiddle 67 st (nI d) (nI a) M = some (if vOf l (d + a) = none then NO else iO (fdB (rdQ l P d a) 400), M) := by
  obtain ⟨K67, R5, K2, _⟩ := fin_cells h
  have hv := vOf_in (l := l) ho (d + a)
  have hv6 : ∀ j, vOf l (d + a) = some j → j < 2147483648 := fun j hj => by have := hv j hj; have := ho.2.2.2.1; omega
  unfold F_X2_findRiddle
  rw [x_gN_ok K67 R5, nI_add, x_cV_ok K2 (S_verbOfC h hl ho (by omega))]
  by_cases q : vOf l (d + a) = none
  · rw [if_pos (iO_none q), if_pos q]; rfl
  rw [if_neg (by rw [iO_no hv6]; exact q), if_neg q]
  have key : ∀ (e k f : Nat), k + e = 400 → e < f → (∀ j, j < k → rdQ l P d a j = false) → F_X2_findRiddle_23 f 67 st (nI d) (nI a) (iO (vOf l (d + a))) (nI k) M = some (iO (fdB (rdQ l P d a) 400), M) := by
    intro e
    induction e with
    | zero =>
      intro k f hk hf hh
      obtain ⟨f, rfl⟩ : ∃ f', f = f' + 1 := ⟨f - 1, by omega⟩
      obtain rfl : k = 400 := by omega
      rw [F_X2_findRiddle_23, if_pos (by decide), fdB_none hh]
      rfl
    | succ e ih =>
      intro k f hk hf hh
      obtain ⟨f, rfl⟩ : ∃ f', f = f' + 1 := ⟨f - 1, by omega⟩
      have go : rdQ l P d a k = false → F_X2_findRiddle_23 f 67 st (nI d) (nI a) (iO (vOf l (d + a))) (nI (k + 1)) M = some (iO (fdB (rdQ l P d a) 400), M) := fun h1 => ih (k + 1) f (by omega) (by omega) (fun j hj => by
        by_cases z : j = k
        · rw [z]; exact h1
        · exact hh j (by omega))
      rw [F_X2_findRiddle_23, if_neg (show ¬ (400 : Int32) ≤ nI k from nI_ge (b := 400) (by omega) (by omega))]
      refine m_let_e ?_
      intro K hK
      rw [x_gN_ok K67 R5, x_cV_ok K2 (S_isClauseC h hl ho (by omega))]
      cases q1 : ccOk l k
      · rw [if_pos (by decide), hK]
        dsimp only
        rw [m_let_eq, nI_1]
        exact go (by unfold rdQ; rw [q1]; rfl)
      rw [if_neg (by decide), x_cV_ok K67 (S_icm h hl ho hs q1 hv hw hP)]
      cases q2 : mC l P k (vOf l (d + a))
      · rw [if_pos (by decide), hK]
        dsimp only
        rw [m_let_eq, nI_1]
        exact go (by unfold rdQ; rw [q1, q2]; rfl)
      rw [if_neg (by decide), x_cV_ok K67 (S_ime h hl ho hs q1 hd ha hw hP)]
      cases q3 : anN 7 (rdA l P d a k)
      · rw [if_neg (by decide), hK]
        dsimp only
        rw [m_let_eq, nI_1]
        exact go (by unfold rdQ; rw [q1, q2, q3]; rfl)
      · rw [if_pos (by decide), fdB_some (k := k) (by omega) (by unfold rdQ; rw [q1, q2, q3]; rfl) hh]
        rfl
  exact key 400 0 m_FU (by omega) (m_FU_lt (by omega)) (fun j hj => absurd hj (by omega))
/-- the model's days -/
theorem M_rd96 (h : G M) (ho : lOk l) {B : Nat → Nat → Int64} {c d a at0 : Nat} (hc : ccOk l c = true) (hd : d < 1000000) (ha : a < 7) (hat : at0 ≤ 96) (hP : Rw (wN l) P (fun k => B 162 (at0 + k))) {K : Nat → Int32 → Int32 → Int32 → Int32 → m_M → Option (Int32 × m_M)} : ∀ (e k f : Nat) (A : IA), k + e = 7 → e < f → LMi l A → A 128 53 = nI d → anN k (rdA l P d a c) = true → ∃ A', F_X12_riddle_96 K f 128 (nI a) (nI at0) (nI c) (1 : Int32) (nI k) (m_w2 M A B) = K 128 (nI a) (nI at0) (nI c) (bI (anN 7 (rdA l P d a c))) (m_w2 M A' B) ∧ ∀ b, ¬ scr b → A' b = A b := by
  have K0 : ∀ A B, m_K (m_w2 M A B) 128 = 10 := fun A B => by simp only [w2_K, gK h]
  have hno : ∀ (n f : Nat) (A : IA), n < 7 → 1 < f → F_X12_riddle_96 K f 128 (nI a) (nI at0) (nI c) (0 : Int32) (nI n) (m_w2 M A B) = K 128 (nI a) (nI at0) (nI c) (0 : Int32) (m_w2 M A B) := fun n f A hn hf => by
    obtain ⟨f, rfl⟩ : ∃ f', f = f' + 1 := ⟨f - 1, by omega⟩
    rw [F_X12_riddle_96, if_neg (show ¬ (7 : Int32) ≤ nI n from nI_ge (b := 7) (by omega) (by omega)), if_pos rfl]
  intro e
  induction e with
  | zero =>
    intro k f A hk hf hl hA hh
    obtain ⟨f, rfl⟩ : ∃ f', f = f' + 1 := ⟨f - 1, by omega⟩
    obtain rfl : k = 7 := by omega
    refine ⟨A, ?_, fun _ _ => rfl⟩
    rw [F_X12_riddle_96, if_pos (by decide), hh]
    rfl
  | succ e ih =>
    intro k f A hk hf hl hA hh
    obtain ⟨f, rfl⟩ : ∃ f', f = f' + 1 := ⟨f - 1, by omega⟩
    have go : ∀ A2 : IA, (∀ b, ¬ scr b → A2 b = A b) → rdA l P d a c k = true → ∃ A', F_X12_riddle_96 K f 128 (nI a) (nI at0) (nI c) (1 : Int32) (nI (k + 1)) (m_w2 M A2 B) = K 128 (nI a) (nI at0) (nI c) (bI (anN 7 (rdA l P d a c))) (m_w2 M A' B) ∧ ∀ b, ¬ scr b → A' b = A b := fun A2 h2 h1 => by
      obtain ⟨A', e1, e2⟩ := ih (k + 1) f A2 (by omega) (by omega) (hl.fr h2) (by rw [h2 128 (by unfold scr; omega)]; exact hA) (by show (anN k _ && rdA l P d a c k) = true; rw [hh, h1]; rfl)
      exact ⟨A', e1, fun b hb => by rw [e2 b hb, h2 b hb]⟩
    have hv := vOf_in (l := l) ho (d + k)
    have hvb : ∀ j, vOf l (d + k) = some j → j < 2147483648 := fun j hj => by have := hv j hj; have := ho.2.2.2.1; omega
    have ev : F_X12_verbOf 128 (nI d + nI k) (m_w2 M A B) = some (iO (vOf l (d + k)), m_w2 M A B) := by
      rw [nI_add]
      exact S_verbOfM (M := m_w2 M A B) h hl ho (by omega)
    by_cases q1 : k = a
    · obtain ⟨A', e1, e2⟩ := go A (fun _ _ => rfl) (by unfold rdA; rw [decide_eq_true q1]; rfl)
      refine ⟨A', ?_, e2⟩
      rw [← e1, F_X12_riddle_96, if_neg (show ¬ (7 : Int32) ≤ nI k from nI_ge (b := 7) (by omega) (by omega)), if_neg (by decide)]
      refine m_let_e ?_
      intro K1 hK1
      refine m_let_e ?_
      intro K2 hK2
      rw [if_pos (by rw [q1]), hK2]
      dsimp only
      rw [hK1]
      dsimp only
      rw [m_let_eq, nI_1]
    by_cases q2 : vOf l (d + k) = none
    · obtain ⟨A', e1, e2⟩ := go A (fun _ _ => rfl) (by unfold rdA; rw [q2]; simp)
      refine ⟨A', ?_, e2⟩
      rw [← e1, F_X12_riddle_96, if_neg (show ¬ (7 : Int32) ≤ nI k from nI_ge (b := 7) (by omega) (by omega)), if_neg (by decide)]
      refine m_let_e ?_
      intro K1 hK1
      refine m_let_e ?_
      intro K2 hK2
      rw [if_neg (fun z => q1 ((nI_eq (by omega) (by omega)).mp z)), x_gI_ok (K0 _ _), w2_I, hA, x_cV_ok (K0 _ _) ev, if_pos (by rw [iO_none q2]; decide), hK2]
      dsimp only
      rw [hK1]
      dsimp only
      rw [m_let_eq, nI_1]
    obtain ⟨A2, t1, t2⟩ := S_iaa (M := M) h ho (B := B) hl hc hv hat hP
    have hpos : ¬ iO (vOf l (d + k)) < 0 := by
      cases hq : vOf l (d + k) with
      | none => exact absurd hq q2
      | some j => exact nI_pos (hvb j hq)
    cases q3 : mC l P c (vOf l (d + k))
    · obtain ⟨A', e1, e2⟩ := go A2 t2 (by unfold rdA; rw [q3]; simp)
      refine ⟨A', ?_, e2⟩
      rw [← e1, F_X12_riddle_96, if_neg (show ¬ (7 : Int32) ≤ nI k from nI_ge (b := 7) (by omega) (by omega)), if_neg (by decide)]
      refine m_let_e ?_
      intro K1 hK1
      refine m_let_e ?_
      intro K2 hK2
      rw [if_neg (fun z => q1 ((nI_eq (by omega) (by omega)).mp z)), x_gI_ok (K0 _ _), w2_I, hA, x_cV_ok (K0 _ _) ev, if_neg hpos, x_gI_ok (K0 _ _), w2_I, hA, x_cV_ok (K0 _ _) ev, x_cV_ok (K0 _ _) t1, q3, if_pos (by decide), hK2]
      dsimp only
      rw [hK1]
      dsimp only
      rw [m_let_eq, nI_1]
    · refine ⟨A2, ?_, t2⟩
      rw [anN_not (i := k) (by omega) (by
          unfold rdA
          rw [q3, decide_eq_false q1, Option.isNone_eq_false_iff.mpr (by cases hq : vOf l (d + k) with
            | none => exact absurd hq q2
            | some j => rfl)]
          rfl), F_X12_riddle_96, if_neg (show ¬ (7 : Int32) ≤ nI k from nI_ge (b := 7) (by omega) (by omega)), if_neg (by decide)]
      refine m_let_e ?_
      intro K1 hK1
      refine m_let_e ?_
      intro K2 hK2
      rw [if_neg (fun z => q1 ((nI_eq (by omega) (by omega)).mp z)), x_gI_ok (K0 _ _), w2_I, hA, x_cV_ok (K0 _ _) ev, if_neg hpos, x_gI_ok (K0 _ _), w2_I, hA, x_cV_ok (K0 _ _) ev, x_cV_ok (K0 _ _) t1, q3, if_neg (by decide), hK1]
      dsimp only
      rw [m_let_eq, nI_1]
      by_cases z : k + 1 = 7
      · obtain ⟨f, rfl⟩ : ∃ f', f = f' + 1 := ⟨f - 1, by omega⟩
        rw [z, F_X12_riddle_96, if_pos (by decide)]
        rfl
      · exact hno (k + 1) f A2 (by omega) (by omega)
theorem M_rd53 (h : G M) (ho : lOk l) {B : Nat → Nat → Int64} {d a at0 : Nat} (hd : d < 1000000) (ha : a < 7) (hat : at0 ≤ 96) (hP : Rw (wN l) P (fun k => B 162 (at0 + k))) : ∀ (e k f : Nat) (A : IA), k + e = 400 → e < f → LMi l A → A 128 53 = nI d → (∀ j, j < k → rdQ l P d a j = false) → ∃ A', F_X12_riddle_53 f 128 (nI a) (nI at0) (nI k) (m_w2 M A B) = some (iO (fdB (rdQ l P d a) 400), m_w2 M A' B) ∧ ∀ b, ¬ scr b → A' b = A b := by
  have K0 : ∀ A B, m_K (m_w2 M A B) 128 = 10 := fun A B => by simp only [w2_K, gK h]
  intro e
  induction e with
  | zero =>
    intro k f A hk hf hl hA hh
    obtain ⟨f, rfl⟩ : ∃ f', f = f' + 1 := ⟨f - 1, by omega⟩
    obtain rfl : k = 400 := by omega
    refine ⟨A, ?_, fun _ _ => rfl⟩
    rw [F_X12_riddle_53, if_pos (by decide), fdB_none hh]
    rfl
  | succ e ih =>
    intro k f A hk hf hl hA hh
    obtain ⟨f, rfl⟩ : ∃ f', f = f' + 1 := ⟨f - 1, by omega⟩
    have go : ∀ A2 : IA, (∀ b, ¬ scr b → A2 b = A b) → rdQ l P d a k = false → ∃ A', F_X12_riddle_53 f 128 (nI a) (nI at0) (nI (k + 1)) (m_w2 M A2 B) = some (iO (fdB (rdQ l P d a) 400), m_w2 M A' B) ∧ ∀ b, ¬ scr b → A' b = A b := fun A2 h2 h1 => by
      obtain ⟨A', e1, e2⟩ := ih (k + 1) f A2 (by omega) (by omega) (hl.fr h2) (by rw [h2 128 (by unfold scr; omega)]; exact hA) (fun j hj => by
        by_cases z : j = k
        · rw [z]; exact h1
        · exact hh j (by omega))
      exact ⟨A', e1, fun b hb => by rw [e2 b hb, h2 b hb]⟩
    have hv := vOf_in (l := l) ho (d + a)
    have ic : F_X12_isClause 128 (nI k) (m_w2 M A B) = some (bI (ccOk l k), m_w2 M A B) := S_isClauseM (M := m_w2 M A B) h hl ho (by omega)
    have ev : F_X12_verbOf 128 (nI d + nI a) (m_w2 M A B) = some (iO (vOf l (d + a)), m_w2 M A B) := by
      rw [nI_add]
      exact S_verbOfM (M := m_w2 M A B) h hl ho (by omega)
    cases q1 : ccOk l k
    · obtain ⟨A', e1, e2⟩ := go A (fun _ _ => rfl) (by unfold rdQ; rw [q1]; rfl)
      refine ⟨A', ?_, e2⟩
      rw [← e1, F_X12_riddle_53, if_neg (show ¬ (400 : Int32) ≤ nI k from nI_ge (b := 400) (by omega) (by omega))]
      refine m_let_e ?_
      intro K1 hK1
      rw [x_cV_ok (K0 _ _) ic, q1, if_pos (by decide), hK1]
      dsimp only
      rw [m_let_eq, nI_1]
    obtain ⟨A2, t1, t2⟩ := S_iaa (M := M) h ho (B := B) hl q1 hv hat hP
    cases q2 : mC l P k (vOf l (d + a))
    · obtain ⟨A', e1, e2⟩ := go A2 t2 (by unfold rdQ; rw [q1, q2]; rfl)
      refine ⟨A', ?_, e2⟩
      rw [← e1, F_X12_riddle_53, if_neg (show ¬ (400 : Int32) ≤ nI k from nI_ge (b := 400) (by omega) (by omega))]
      refine m_let_e ?_
      intro K1 hK1
      rw [x_cV_ok (K0 _ _) ic, q1, if_neg (by decide), x_gI_ok (K0 _ _), w2_I, hA, x_cV_ok (K0 _ _) ev, x_cV_ok (K0 _ _) t1, q2, if_pos (by decide), hK1]
      dsimp only
      rw [m_let_eq, nI_1]
    have hl2 := hl.fr t2
    have hA2 : A2 128 53 = nI d := by rw [t2 128 (by unfold scr; omega)]; exact hA
    cases q3 : anN 7 (rdA l P d a k)
    · have hq : rdQ l P d a k = false := by unfold rdQ; rw [q1, q2, q3]; rfl
      have st : ∃ A3 : IA, (∀ b, ¬ scr b → A3 b = A2 b) ∧ F_X12_riddle_53 (f + 1) 128 (nI a) (nI at0) (nI k) (m_w2 M A B) = F_X12_riddle_53 f 128 (nI a) (nI at0) (nI (k + 1)) (m_w2 M A3 B) := by
        rw [F_X12_riddle_53, if_neg (show ¬ (400 : Int32) ≤ nI k from nI_ge (b := 400) (by omega) (by omega))]
        refine m_let_P (fun o => ∃ A3 : IA, (∀ b, ¬ scr b → A3 b = A2 b) ∧ o = F_X12_riddle_53 f 128 (nI a) (nI at0) (nI (k + 1)) (m_w2 M A3 B)) ?_
        intro K1 hK1
        rw [x_cV_ok (K0 _ _) ic, q1, if_neg (by decide), x_gI_ok (K0 _ _), w2_I, hA, x_cV_ok (K0 _ _) ev, x_cV_ok (K0 _ _) t1, q2, if_neg (by decide)]
        refine m_let_P (fun o => ∃ A3 : IA, (∀ b, ¬ scr b → A3 b = A2 b) ∧ o = F_X12_riddle_53 f 128 (nI a) (nI at0) (nI (k + 1)) (m_w2 M A3 B)) ?_
        intro K2 hK2
        obtain ⟨A3, u1, u2⟩ := M_rd96 (M := M) h ho (B := B) q1 hd ha hat hP (K := K2) 7 0 m_FU A2 (by omega) (m_FU_lt (by omega)) hl2 hA2 rfl
        have u1' : F_X12_riddle_96 K2 m_FU 128 (nI a) (nI at0) (nI k) (1 : Int32) (0 : Int32) (m_w2 M A2 B) = _ := u1
        refine ⟨A3, u2, ?_⟩
        rw [u1', q3, hK2]
        dsimp only
        rw [if_pos (by decide), hK1]
        dsimp only
        rw [m_let_eq, nI_1]
      obtain ⟨A3, u2, u3⟩ := st
      obtain ⟨A', e1, e2⟩ := go A3 (fun b hb => by rw [u2 b hb, t2 b hb]) hq
      exact ⟨A', by rw [u3, e1], e2⟩
    · rw [F_X12_riddle_53, if_neg (show ¬ (400 : Int32) ≤ nI k from nI_ge (b := 400) (by omega) (by omega))]
      refine m_let_P (fun o => ∃ A', o = some (iO (fdB (rdQ l P d a) 400), m_w2 M A' B) ∧ ∀ b, ¬ scr b → A' b = A b) ?_
      intro K1 hK1
      rw [x_cV_ok (K0 _ _) ic, q1, if_neg (by decide), x_gI_ok (K0 _ _), w2_I, hA, x_cV_ok (K0 _ _) ev, x_cV_ok (K0 _ _) t1, q2, if_neg (by decide)]
      refine m_let_P (fun o => ∃ A', o = some (iO (fdB (rdQ l P d a) 400), m_w2 M A' B) ∧ ∀ b, ¬ scr b → A' b = A b) ?_
      intro K2 hK2
      obtain ⟨A3, u1, u2⟩ := M_rd96 (M := M) h ho (B := B) q1 hd ha hat hP (K := K2) 7 0 m_FU A2 (by omega) (m_FU_lt (by omega)) hl2 hA2 rfl
      have u1' : F_X12_riddle_96 K2 m_FU 128 (nI a) (nI at0) (nI k) (1 : Int32) (0 : Int32) (m_w2 M A2 B) = _ := u1
      refine ⟨A3, ?_, fun b hb => by rw [u2 b hb, t2 b hb]⟩
      rw [u1', q3, hK2]
      dsimp only
      rw [if_neg (by decide), fdB_some (k := k) (by omega) (by unfold rdQ; rw [q1, q2, q3]; rfl) hh]
      rfl
theorem O_riddle (x : Int32) : RO s (F_X11_riddle 0 x) (F_X12_riddle 128 x) := by
  cases ha : s.2.2.1.2.2.1 with
  | none =>
    refine ⟨NO, fun M h => ⟨⟨M, ?_, SC.rfl' M⟩, ⟨m_sI M 128 0 0, ?_, SC_thr M 0⟩⟩⟩
    · unfold F_X11_riddle
      by_cases hx : x < 0
      · rw [if_pos hx]; rfl
      · rw [if_neg hx]
        by_cases h6 : (6 : Int32) < x
        · rw [if_pos h6]; rfl
        · rw [if_neg h6, C_askn h ha, if_pos (by decide)]; rfl
    · unfold F_X12_riddle
      rw [x_pI_ok h.K0, M_ask (h.thr 0), if_bI, ha]; rfl
  | some f =>
    by_cases hx : x < 0
    · refine ⟨NO, fun M h => ⟨⟨M, ?_, SC.rfl' M⟩, ⟨m_sI M 128 0 0, ?_, SC_thr M 0⟩⟩⟩
      · unfold F_X11_riddle; rw [if_pos hx]; rfl
      · have h1 := h.thr 0
        unfold F_X12_riddle
        rw [x_pI_ok h.K0, M_ask h1, if_bI, ha, show (some f).isSome = true from rfl, if_pos rfl, x_bd_ok (show F_X12_within x (0 : Int32) (6 : Int32) (m_sI M 128 0 0) = some (nI 0, m_sI M 128 0 0) from S_within_neg (a := 0) hx (by omega)), if_pos (by decide)]; rfl
    obtain ⟨a, ha2, rfl⟩ := nI_of hx
    have hw : ∀ M : m_M, F_X12_within (nI a) (0 : Int32) (6 : Int32) M = some (bI (decide (a ≤ 6)), M) := fun M => by
      have := S_within (M := M) (k := a) (a := 0) (b := 6) ha2 (by omega) (by omega)
      rw [decide_eq_true (p := 0 ≤ a) (by omega), Bool.true_and] at this
      exact this
    by_cases h6 : a ≤ 6
    · refine ⟨if vOf s.2.1 (s.2.2.1.1 + a) = none then NO else iO (fdB (rdQ s.2.1 (fMn s.2.1 (vOf s.2.1 s.2.2.1.1) f.1 f.2) s.2.2.1.1 a) 400), fun M h => ⟨?_, ?_⟩⟩
      · obtain ⟨fr, r1, r2, r3⟩ := C_has1 h ha
        have hday := h.bd.1
        obtain ⟨B, e, e1, _, e2⟩ := C_find h r2 (vOf_in h.lo s.2.2.1.1) h.W92 (by omega)
        have h2 := e1.INV h
        refine ⟨_, ?_, e1⟩
        obtain ⟨K67, _, _, R7⟩ := fin_cells h2.1
        have I0 : m_I (m_wB M B) 80 0 = nI s.2.2.1.1 := h2.bc.1
        unfold F_X11_riddle
        rw [if_neg hx, if_neg (show ¬ (6 : Int32) < nI a from nI_nlt (a := 6) (by omega) (by omega)), x_gN_ok h.C0 h.R9, x_cV_ok h.B80 r3, if_neg (by decide), x_gN_ok h.C0 h.R6, x_gN_ok h.C0 h.R9, x_gN_ok h.B80 r1, x_cV_ok h.C0 (C_today h), x_gN_ok h.C0 h.R13, x_cV_ok h.B33 e, x_gN_ok h2.C0 R7, x_gN_ok h2.C0 h2.R13, x_gN_ok h2.C0 h2.R9, x_gI_ok h2.B80, I0, x_cV_ok K67 (S_findRiddle h2.1 h2.lc h2.lo h2.ls (by omega) (by omega) h2.W92 e2)]
      · have h1 := h.thr 0
        have hday := h1.bd.1
        have v1 := vOf_in h1.lo s.2.2.1.1
        have v2 := vOf_in h1.lo (s.2.2.1.1 + a)
        have l1 := aAt_le h1 v1
        have e53 := h1.md
        unfold F_X12_riddle
        by_cases q : vOf s.2.1 (s.2.2.1.1 + a) = none
        · refine ⟨_, ?_, SC_thr M 0⟩
          rw [x_pI_ok h.K0, M_ask h1, if_bI, ha, show (some f).isSome = true from rfl, if_pos rfl, x_bd_ok (hw _), decide_eq_true h6, if_neg (by decide), x_gI_ok h1.K0, e53, nI_add, x_cV_ok h1.K0 (S_verbOfM h1.1 h1.lm h1.lo (by omega)), if_neg (by rw [iO_none q]; decide), if_pos q]; rfl
        · have hpos : 0 ≤ iO (vOf s.2.1 (s.2.2.1.1 + a)) := by
            cases hq : vOf s.2.1 (s.2.2.1.1 + a) with
            | none => exact absurd hq q
            | some j => exact nI_pos' (by have := v2 j hq; have := h1.lo.2.2.2.1; omega)
          obtain ⟨A', t1, t2⟩ := M_rd53 (M := m_sI M 128 0 0) h1.1 h1.lo (B := m_L (m_sI M 128 0 0)) (d := s.2.2.1.1) (a := a) (by omega) (by omega) l1 (M_row h1 ha v1) 400 0 m_FU (m_I (m_sI M 128 0 0)) (by omega) (m_FU_lt (by omega)) h1.lm e53 (fun j hj => absurd hj (by omega))
          have t1' : F_X12_riddle_53 m_FU 128 (nI a) (nI (aAt (vOf s.2.1 s.2.2.1.1))) (0 : Int32) (m_sI M 128 0 0) = some (iO (fdB (rdQ s.2.1 (fMn s.2.1 (vOf s.2.1 s.2.2.1.1) f.1 f.2) s.2.2.1.1 a) 400), m_w2 (m_sI M 128 0 0) A' (m_L (m_sI M 128 0 0))) := t1
          refine ⟨_, ?_, (SC_thr M 0).trans (SC_w2 (m_sI M 128 0 0) (A := A') (B := m_L (m_sI M 128 0 0)) t2 (fun _ _ => rfl))⟩
          rw [x_pI_ok h.K0, M_ask h1, if_bI, ha, show (some f).isSome = true from rfl, if_pos rfl, x_bd_ok (hw _), decide_eq_true h6, if_neg (by decide), x_gI_ok h1.K0, e53, nI_add, x_cV_ok h1.K0 (S_verbOfM h1.1 h1.lm h1.lo (by omega)), if_pos hpos, x_gI_ok h1.K0, e53, x_cV_ok h1.K0 (S_verbOfM h1.1 h1.lm h1.lo (by omega)), x_bd_ok (S_askedAt h1 v1), t1', if_neg q]
    · refine ⟨NO, fun M h => ⟨⟨M, ?_, SC.rfl' M⟩, ⟨m_sI M 128 0 0, ?_, SC_thr M 0⟩⟩⟩
      · unfold F_X11_riddle
        rw [if_neg hx, if_pos (show (6 : Int32) < nI a from nI_lt (a := 6) (by omega) ha2)]; rfl
      · have h1 := h.thr 0
        unfold F_X12_riddle
        rw [x_pI_ok h.K0, M_ask h1, if_bI, ha, show (some f).isSome = true from rfl, if_pos rfl, x_bd_ok (hw _), decide_eq_false h6, if_pos (by decide)]; rfl
end RIDDLE
