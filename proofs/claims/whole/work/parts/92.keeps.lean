/-! the model keeps what is told, to be undone -/
section KEEPS
variable {M : m_M} {l : Ld}
theorem S_keeps11 (h : G M) {k35 : Nat → m_M → Option (Unit × m_M)} {T : Nat → Tl} : ∀ (d k f : Nat) (A : IA) (B : Nat → Nat → Int64), k + d = 11 → d < f → (∀ j, j < k → TlM l (T (j + 1)) (5 + j) A B) → (∀ j, k ≤ j → j < 12 → TlM l (T j) (5 + j) A B) →
    ∃ A' B', F_X12_keeps_11 k35 f 128 (nI k) (m_w2 M A B) = k35 128 (m_w2 M A' B') ∧ (∀ j, j < 11 → TlM l (T (j + 1)) (5 + j) A' B') ∧ (∀ (r : Nat) (t : Tl), r < 5 → TlM l t r A B → TlM l t r A' B') ∧ (∀ a, a ≠ 157 → a ≠ 160 → a ≠ 161 → A' a = A a) ∧ ∀ a, a ≠ 156 → a ≠ 158 → a ≠ 159 → B' a = B a := by
  have K0 : ∀ A B, m_K (m_w2 M A B) 128 = 10 := fun A B => by simp only [w2_K, gK h]
  intro d
  induction d with
  | zero =>
    intro k f A B hk hf h1 h2
    obtain ⟨f, rfl⟩ : ∃ f', f = f' + 1 := ⟨f - 1, by omega⟩
    refine ⟨A, B, ?_, fun j hj => h1 j (by omega), fun _ _ _ ht => ht, fun _ _ _ _ => rfl, fun _ _ _ _ => rfl⟩
    rw [F_X12_keeps_11, if_pos (show (11 : Int32) ≤ nI k from nI_le (a := 11) (by omega) (by omega))]
  | succ d ih =>
    intro k f A B hk hf h1 h2
    obtain ⟨f, rfl⟩ : ∃ f', f = f' + 1 := ⟨f - 1, by omega⟩
    obtain ⟨A', B', e, e1, e2, e3, e4⟩ := ih (k + 1) f (tA A (5 + k + 1) (5 + k)) (tB B (5 + k + 1) (5 + k)) (by omega) (by omega) (fun j hj => by
      by_cases q : j = k
      · rw [q]; exact (h2 (k + 1) (by omega) (by omega)).mv
      · exact (h1 j (by omega)).mvo (by omega)) (fun j h3 h4 => (h2 j (by omega) h4).mvo (by omega))
    refine ⟨A', B', ?_, e1, fun r t hr ht => e2 r t hr (ht.mvo (by omega)), fun a a1 a2 a3 => by rw [e3 a a1 a2 a3, tA_fr a1 a2 a3], fun a a1 a2 a3 => by rw [e4 a a1 a2 a3, tB_fr a1 a2 a3]⟩
    rw [F_X12_keeps_11, if_neg (show ¬ (11 : Int32) ≤ nI k from nI_ge (b := 11) (by omega) (by omega)), show (5 : Int32) = nI 5 from rfl, nI_add, nI_1, x_cV_ok (K0 _ _) (S_laysTold h (by omega) (by omega) (by omega)), m_let_eq, nI_1]
    exact e
theorem S_keeps (h : G M) {A : IA} {B : Nat → Nat → Int64} {u : Un} {now : Tl} (hu : u.1 ≤ 12) (h52 : A 128 52 = nI u.1) (h0 : TlM l now 0 A B) (hT : ∀ j, j < u.1 → TlM l (u.2 j) (5 + j) A B) :
    ∃ A' B', F_X12_keeps 128 (m_w2 M A B) = some ((), m_w2 M A' B') ∧ A' 128 52 = nI (unPush u now).1 ∧ (∀ j, j < (unPush u now).1 → TlM l ((unPush u now).2 j) (5 + j) A' B') ∧ (∀ (r : Nat) (t : Tl), r < 5 → TlM l t r A B → TlM l t r A' B') ∧ (∀ a, a ≠ 128 → a ≠ 157 → a ≠ 160 → a ≠ 161 → A' a = A a) ∧ (∀ j, j ≠ 52 → A' 128 j = A 128 j) ∧ ∀ a, a ≠ 156 → a ≠ 158 → a ≠ 159 → B' a = B a := by
  have K0 : ∀ A B, m_K (m_w2 M A B) 128 = 10 := fun A B => by simp only [w2_K, gK h]
  have kk : ∀ (A : IA) (B : Nat → Nat → Int64) (n : Nat) (k45 : Nat → m_M → Option (Unit × m_M)), (k45 = fun (v1 : Nat) (M1 : m_M) =>
    x_gI 10 M1 v1 52 fun v2 =>
    x_cV 10 M1 v1 (F_X12_laysTold v1 (0 : Int32) ((5 : Int32) + v2) M1) fun _ M2 =>
    x_gI 10 M2 v1 52 fun v3 =>
    x_pI 10 M2 v1 52 (v3 + (1 : Int32)) fun M3 =>
    some ((), M3)) → n < 12 → A 128 52 = nI n → k45 128 (m_w2 M A B) = some ((), m_w2 M (m_up (tA A 0 (5 + n)) 128 52 (nI (n + 1))) (tB B 0 (5 + n))) := by
    intro A B n k45 hk hn hA
    have e := S_laysTold (M := M) (A := A) (B := B) h (r := 0) (q := 5 + n) (by omega) (by omega) (by omega)
    have e' : F_X12_laysTold 128 (0 : Int32) (nI (5 + n)) (m_w2 M A B) = _ := e
    rw [hk]
    dsimp only
    rw [x_gI_ok (K0 _ _), w2_I, hA, show (5 : Int32) = nI 5 from rfl, nI_add, x_cV_ok (K0 _ _) e', x_gI_ok (K0 _ _), w2_I, tA_fr (by omega) (by omega) (by omega), hA, nI_1, x_pI_ok (K0 _ _), w2_sI]
  unfold F_X12_keeps
  refine m_let_P (fun o => ∃ A' B', o = some ((), m_w2 M A' B') ∧ A' 128 52 = nI (unPush u now).1 ∧ (∀ j, j < (unPush u now).1 → TlM l ((unPush u now).2 j) (5 + j) A' B') ∧ (∀ (r : Nat) (t : Tl), r < 5 → TlM l t r A B → TlM l t r A' B') ∧ (∀ a, a ≠ 128 → a ≠ 157 → a ≠ 160 → a ≠ 161 → A' a = A a) ∧ (∀ j, j ≠ 52 → A' 128 j = A 128 j) ∧ ∀ a, a ≠ 156 → a ≠ 158 → a ≠ 159 → B' a = B a) ?_
  intro k45 hk
  have tu : ∀ {t : Tl} {r : Nat} {A : IA} {B : Nat → Nat → Int64} {v : Int32}, TlM l t r A B → TlM l t r (m_up A 128 52 v) B := fun ht => ht.congr (up_fr (by omega)) (up_fr (by omega)) (up_fr (by omega)) rfl rfl rfl
  have fu : ∀ {A : IA} {n : Nat} {v : Int32}, (∀ a, a ≠ 128 → a ≠ 157 → a ≠ 160 → a ≠ 161 → m_up (tA A 0 n) 128 52 v a = A a) ∧ ∀ j, j ≠ 52 → m_up (tA A 0 n) 128 52 v 128 j = A 128 j := fun {A n v} => ⟨fun a a1 a2 a3 a4 => by rw [up_fr a1, tA_fr a2 a3 a4], fun j hj => by rw [up_at, if_neg (fun z => hj z.2), tA_fr (by omega) (by omega) (by omega)]⟩
  rw [x_gI_ok (K0 _ _), w2_I, h52]
  by_cases q : u.1 < 12
  · rw [if_neg (show ¬ nI u.1 = (12 : Int32) from fun z => by have := (nI_eq (b := 12) (by omega) (by omega)).mp z; omega)]
    refine ⟨_, _, kk A B u.1 k45 hk q h52, ?_, ?_, fun r t hr ht => tu (ht.mvo (by omega)), fu.1, fu.2, fun a a1 a2 a3 => tB_fr a1 a2 a3⟩
    · rw [up_at, if_pos ⟨rfl, rfl⟩]; unfold unPush; rw [if_pos q]
    · unfold unPush
      rw [if_pos q]
      intro j hj
      have hj' : j < u.1 + 1 := hj
      show TlM l (if j = u.1 then now else u.2 j) _ _ _
      by_cases z : j = u.1
      · rw [if_pos z, z]; exact tu h0.mv
      · rw [if_neg z]; exact tu ((hT j (by omega)).mvo (by omega))
  · have hu12 : u.1 = 12 := by omega
    rw [if_pos (by rw [hu12]; decide), m_let_eq]
    obtain ⟨A1, B1, e, e1, e2, e3, e4⟩ := S_keeps11 h (l := l) (T := u.2) (k35 := fun (v5 : Nat) (M4 : m_M) =>
      x_gI 10 M4 v5 52 fun v6 =>
      x_pI 10 M4 v5 52 (v6 - (1 : Int32)) fun M5 =>
      k45 v5 M5) 11 0 m_FU A B (by omega) (m_FU_lt (by omega)) (fun j hj => absurd hj (Nat.not_lt_zero _)) (fun j _ hj => hT j (by omega))
    have e' : F_X12_keeps_11 _ m_FU 128 (0 : Int32) (m_w2 M A B) = _ := e
    rw [e']
    rw [x_gI_ok (K0 _ _), w2_I, e3 128 (by omega) (by omega) (by omega), h52, hu12, show nI 12 - (1 : Int32) = nI 11 from nI_sub' (b := 1) (by omega), x_pI_ok (K0 _ _), w2_sI]
    refine ⟨_, _, kk _ B1 11 k45 hk (by omega) (by rw [up_at, if_pos ⟨rfl, rfl⟩]), ?_, ?_, fun r t hr ht => tu ((tu (e2 r t hr ht)).mvo (by omega)), fun a a1 a2 a3 a4 => ?_, fun j hj => ?_, fun a a1 a2 a3 => by rw [tB_fr a1 a2 a3, e4 a a1 a2 a3]⟩
    · rw [up_at, if_pos ⟨rfl, rfl⟩]; unfold unPush; rw [if_neg q]
    · unfold unPush
      rw [if_neg q]
      intro j hj
      have hj' : j < 12 := hj
      show TlM l (if j = 11 then now else u.2 (j + 1)) _ _ _
      by_cases z : j = 11
      · rw [if_pos z, z]; exact tu (tu (e2 0 _ (by omega) h0)).mv
      · rw [if_neg z]; exact tu ((tu (e1 j (by omega))).mvo (by omega))
    · rw [fu.1 a a1 a2 a3 a4, up_fr a1, e3 a a2 a3 a4]
    · rw [fu.2 j hj, up_at, if_neg (fun z => hj z.2), e3 128 (by omega) (by omega) (by omega)]
end KEEPS
