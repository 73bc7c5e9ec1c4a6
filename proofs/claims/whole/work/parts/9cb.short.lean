/-! shortest: what is sought; the class -/
def stp (s c : Nat × (Nat × (Nat × Int32))) : Nat × (Nat × (Nat × Int32)) := if c.1 < s.1 then c else s
def eqB (l : Ld) (P : Nat → Bool) (v : Option Nat) (a : Nat) : Bool := decide (∀ w, w < wN l → lT l v a w = P w)
def shAs (l : Ld) (P : Nat → Bool) (v : Option Nat) (a : Nat) (s : Nat × (Nat × (Nat × Int32))) : Nat × (Nat × (Nat × Int32)) := if (ccOk l (a / 2) && eqB l P v a) = true then stp s (wdN a, 0, a, NO) else s
def gJ2 (l : Ld) (P : Nat → Bool) (v : Option Nat) (how a b : Nat) (s : Nat × (Nat × (Nat × Int32))) : Nat × (Nat × (Nat × Int32)) := if (ccOk l (a / 2) && (ccOk l (b / 2) && jnB l P v how a b)) = true then stp s (wdN a + wdN b + 1, how, a, nI b) else s
def fF {S : Type} (g : Nat → S → S) : Nat → Nat → S → S
  | 0, _, s => s
  | d + 1, k, s => fF g d (k + 1) (g k s)
theorem fF_id {S : Type} {g : Nat → S → S} {s : S} : ∀ (d k : Nat), (∀ i, k ≤ i → i < k + d → g i s = s) → fF g d k s = s := by
  intro d
  induction d with
  | zero => intro k _; rfl
  | succ d ih =>
    intro k h
    show fF g d (k + 1) (g k s) = s
    rw [h k (Nat.le_refl k) (by omega)]
    exact ih (k + 1) (fun i h1 h2 => h i (by omega) (by omega))
theorem fF_range {S : Type} {g : Nat → S → S} : ∀ (d k : Nat) (s : S), fF g d k s = (List.range' k d).foldl (fun s b => g b s) s := by
  intro d
  induction d with
  | zero => intro k s; rfl
  | succ d ih =>
    intro k s
    rw [List.range'_succ, List.foldl_cons, ← ih (k + 1)]
    rfl
def rowJ (l : Ld) (P : Nat → Bool) (v : Option Nat) (how a : Nat) (s : Nat × (Nat × (Nat × Int32))) : Nat × (Nat × (Nat × Int32)) := fF (gJ2 l P v how a) (799 - a) (a + 1) s
def allJ (l : Ld) (P : Nat → Bool) (v : Option Nat) (how : Nat) (s : Nat × (Nat × (Nat × Int32))) : Nat × (Nat × (Nat × Int32)) := fF (rowJ l P v how) 800 0 s
def sh1 (l : Ld) (P : Nat → Bool) (v : Option Nat) : Nat × (Nat × (Nat × Int32)) := fF (shAs l P v) 800 0 (99, 0, 0, 0)
def shN (l : Ld) (P : Nat → Bool) (v : Option Nat) : Nat × (Nat × (Nat × Int32)) := allJ l P v 2 (allJ l P v 1 (sh1 l P v))
def pfL {S : Type} (g : Nat → Nat → S → S) : List Nat → S → S
  | [], s => s
  | a :: r, s => pfL g r (r.foldl (fun s b => g a b s) s)
theorem foldl_id {S : Type} {g : Nat → S → S} {s : S} : ∀ (L : List Nat), (∀ b, b ∈ L → g b s = s) → L.foldl (fun s b => g b s) s = s := by
  intro L
  induction L with
  | nil => intro _; rfl
  | cons a r ih =>
    intro h
    rw [List.foldl_cons, h a List.mem_cons_self]
    exact ih (fun b hb => h b (List.mem_cons_of_mem _ hb))
theorem foldl_cg {S : Type} {g g' : Nat → S → S} : ∀ (L : List Nat) (s : S), (∀ b, b ∈ L → ∀ s, g b s = g' b s) → L.foldl (fun s b => g b s) s = L.foldl (fun s b => g' b s) s := by
  intro L
  induction L with
  | nil => intro _ _; rfl
  | cons a r ih =>
    intro s h
    rw [List.foldl_cons, List.foldl_cons, h a List.mem_cons_self]
    exact ih _ (fun b hb => h b (List.mem_cons_of_mem _ hb))
theorem foldl_fl {S : Type} {g : Nat → S → S} {q : Nat → Bool} (hg : ∀ b s, q b = false → g b s = s) : ∀ (L : List Nat) (s : S), (L.filter q).foldl (fun s b => g b s) s = L.foldl (fun s b => g b s) s := by
  intro L
  induction L with
  | nil => intro _; rfl
  | cons a r ih =>
    intro s
    rw [List.filter_cons, List.foldl_cons]
    cases z : q a
    · rw [if_neg (by decide), hg a s z]
      exact ih s
    · rw [if_pos rfl, List.foldl_cons]
      exact ih _
theorem pfL_cg {S : Type} {g g' : Nat → Nat → S → S} : ∀ (L : List Nat) (s : S), (∀ a, a ∈ L → ∀ b, b ∈ L → ∀ s, g a b s = g' a b s) → pfL g L s = pfL g' L s := by
  intro L
  induction L with
  | nil => intro _ _; rfl
  | cons a r ih =>
    intro s h
    show pfL g r _ = pfL g' r _
    rw [foldl_cg r s (fun b hb s => h a List.mem_cons_self b (List.mem_cons_of_mem _ hb) s)]
    exact ih _ (fun x hx y hy => h x (List.mem_cons_of_mem _ hx) y (List.mem_cons_of_mem _ hy))
theorem pfL_fl {S : Type} {g : Nat → Nat → S → S} {q : Nat → Bool} (h1 : ∀ a b s, q a = false → g a b s = s) (h2 : ∀ a b s, q b = false → g a b s = s) : ∀ (L : List Nat) (s : S), pfL g (L.filter q) s = pfL g L s := by
  intro L
  induction L with
  | nil => intro _; rfl
  | cons a r ih =>
    intro s
    rw [List.filter_cons]
    cases z : q a
    · rw [if_neg (by decide)]
      show _ = pfL g r _
      rw [foldl_id r (fun b _ => h1 a b s z)]
      exact ih s
    · rw [if_pos rfl]
      show pfL g (r.filter q) _ = pfL g r _
      rw [foldl_fl (fun b s hb => h2 a b s hb)]
      exact ih _
theorem pfL_all {l : Ld} {P : Nat → Bool} {v : Option Nat} {how : Nat} : ∀ (d k : Nat) (s : Nat × (Nat × (Nat × Int32))), k + d = 800 → pfL (gJ2 l P v how) (List.range' k d) s = fF (rowJ l P v how) d k s := by
  intro d
  induction d with
  | zero => intro k s _; rfl
  | succ d ih =>
    intro k s hk
    rw [List.range'_succ]
    show pfL _ (List.range' (k + 1) d) _ = fF _ d (k + 1) (rowJ l P v how k s)
    rw [ih (k + 1) _ (by omega)]
    unfold rowJ
    rw [← fF_range, show 799 - k = d by omega]
theorem stp_le {s c : Nat × (Nat × (Nat × Int32))} (h : s.1 ≤ c.1) : stp s c = s := if_neg (by omega)
theorem allJ_le {l : Ld} {P : Nat → Bool} {v : Option Nat} {how : Nat} {s : Nat × (Nat × (Nat × Int32))} (h : s.1 ≤ 5) : allJ l P v how s = s := by
  unfold allJ
  refine fF_id 800 0 (fun a _ _ => ?_)
  unfold rowJ
  refine fF_id _ _ (fun b _ _ => ?_)
  unfold gJ2
  have h1 := wdN_ge a
  have h2 := wdN_ge b
  rw [stp_le (by show s.1 ≤ wdN a + wdN b + 1; omega)]
  split <;> rfl
theorem stp_99 {s c : Nat × (Nat × (Nat × Int32))} (h : s.1 ≤ 99) (hc : c.1 ≤ 99) : (stp s c).1 ≤ 99 := by
  unfold stp
  split
  · exact hc
  · exact h
/-- the class's pairs -/
def cJ (l : Ld) (U : Nat → Bool) (v : Option Nat) (t a b : Nat) (s : Nat × (Nat × (Nat × Int32))) : Nat × (Nat × (Nat × Int32)) := if apB l (fun w => U w && lT l v (a ^^^ t) w) (lT l v (b ^^^ t)) = true then stp s (wdN a + wdN b + 1, t + 1, a, nI b) else s
theorem jn_t {x y p : Bool} : (x || y) = p ↔ (!x && !y) = !p := by cases x <;> cases y <;> cases p <;> decide
theorem cJ_all {l : Ld} {P W U : Nat → Bool} {v : Option Nat} {t : Nat} (ht : t < 2) (hW : ∀ w, W w = if t = 1 then !P w else P w) (hU : ∀ w, U w = !W w) {s : Nat × (Nat × (Nat × Int32))} : pfL (cJ l U v t) (abvL l W v t 800) s = allJ l P v (t + 1) s := by
  have lx : ∀ a, a < 800 → ∀ w, lT l v (a ^^^ t) w = if t = 1 then !lT l v a w else lT l v a w := fun a ha w => by
    rcases (show t = 0 ∨ t = 1 by omega) with z | z
    · rw [z, Nat.xor_zero]; rfl
    · rw [z, lT_x ha]; rfl
  have lxx : ∀ a, a < 800 → ∀ w, lT l v ((a ^^^ t) ^^^ 1) w = !lT l v (a ^^^ t) w := fun a ha w => by
    rcases (show t = 0 ∨ t = 1 by omega) with z | z
    · rw [z, Nat.xor_zero, lT_x ha]
    · rw [z, lT_x (x1 a ha).1]
  have hj : ∀ a b, a < 800 → b < 800 → (jnB l P v (t + 1) a b = true ↔ ∀ w, w < wN l → (lT l v (a ^^^ t) w && lT l v (b ^^^ t) w) = W w) := fun a b ha hb => by
    unfold jnB
    rw [decide_eq_true_iff]
    refine forall_congr' (fun w => forall_congr' (fun _ => ?_))
    rw [lx a ha, lx b hb, hW]
    unfold jnF
    rcases (show t = 0 ∨ t = 1 by omega) with z | z
    · rw [z]; exact Iff.rfl
    · rw [z]; exact jn_t
  have hq : ∀ a, a < 800 → (abvQ l W v t a = true ↔ ccOk l (a / 2) = true ∧ ∀ w, w < wN l → W w = true → lT l v (a ^^^ t) w = true) := fun a ha => by
    unfold abvQ apB
    rw [Bool.and_eq_true, decide_eq_true_iff]
    refine and_congr Iff.rfl (forall_congr' (fun w => forall_congr' (fun _ => ?_)))
    rw [lxx a ha]
    cases W w <;> cases lT l v (a ^^^ t) w <;> simp
  have jq : ∀ a b, a < 800 → b < 800 → ccOk l (a / 2) = true → ccOk l (b / 2) = true → jnB l P v (t + 1) a b = true → abvQ l W v t a = true ∧ abvQ l W v t b = true := fun a b ha hb ca cb hh => by
    rw [hj a b ha hb] at hh
    constructor
    · rw [hq a ha]
      refine ⟨ca, fun w hw hp => ?_⟩
      have := hh w hw
      rw [hp, Bool.and_eq_true] at this
      exact this.1
    · rw [hq b hb]
      refine ⟨cb, fun w hw hp => ?_⟩
      have := hh w hw
      rw [hp, Bool.and_eq_true] at this
      exact this.2
  unfold allJ
  rw [← pfL_all 800 0 s (by omega), ← List.range_eq_range']
  have e1 : pfL (cJ l U v t) (abvL l W v t 800) s = pfL (fun a b s => if a < 800 ∧ b < 800 then gJ2 l P v (t + 1) a b s else s) (abvL l W v t 800) s := by
    refine pfL_cg _ s (fun a ha b hb s => ?_)
    unfold abvL at ha hb
    rw [List.mem_filter, List.mem_range] at ha hb
    rw [if_pos ⟨ha.1, hb.1⟩]
    have qa := (hq a ha.1).mp ha.2
    have qb := (hq b hb.1).mp hb.2
    have key : apB l (fun w => U w && lT l v (a ^^^ t) w) (lT l v (b ^^^ t)) = jnB l P v (t + 1) a b := by
      have h1 := hj a b ha.1 hb.1
      have h2 : apB l (fun w => U w && lT l v (a ^^^ t) w) (lT l v (b ^^^ t)) = true ↔ jnB l P v (t + 1) a b = true := by
        rw [h1]
        unfold apB
        rw [decide_eq_true_iff]
        refine forall_congr' (fun w => forall_congr' (fun hw => ?_))
        have y1 := qa.2 w hw
        have y2 := qb.2 w hw
        dsimp only
        rw [hU]
        cases hp : W w
        · cases lT l v (a ^^^ t) w <;> cases lT l v (b ^^^ t) w <;> simp
        · rw [y1 hp, y2 hp]; simp
      cases z1 : apB l (fun w => U w && lT l v (a ^^^ t) w) (lT l v (b ^^^ t)) <;> cases z2 : jnB l P v (t + 1) a b
      · rfl
      · rw [h2.mpr z2] at z1; cases z1
      · rw [h2.mp z1] at z2; cases z2
      · rfl
    unfold cJ gJ2
    rw [key, qa.1, qb.1]
    rfl
  have e2 : pfL (gJ2 l P v (t + 1)) (List.range 800) s = pfL (fun a b s => if a < 800 ∧ b < 800 then gJ2 l P v (t + 1) a b s else s) (List.range 800) s := by
    refine pfL_cg _ s (fun a ha b hb s => ?_)
    rw [List.mem_range] at ha hb
    rw [if_pos ⟨ha, hb⟩]
  rw [e1, e2]
  unfold abvL
  have hz : ∀ a b s, (abvQ l W v t a = false ∨ abvQ l W v t b = false) → (if a < 800 ∧ b < 800 then gJ2 l P v (t + 1) a b s else s) = s := fun a b s hh => by
    split
    · rename_i hab
      unfold gJ2
      split
      · rename_i h3
        rw [Bool.and_eq_true, Bool.and_eq_true] at h3
        obtain ⟨z1, z2⟩ := jq a b hab.1 hab.2 h3.1 h3.2.1 h3.2.2
        rcases hh with hh | hh
        · rw [z1] at hh; cases hh
        · rw [z2] at hh; cases hh
      · rfl
    · rfl
  exact pfL_fl (fun a b s h => hz a b s (.inl h)) (fun a b s h => hz a b s (.inr h)) _ s
def CSs (s : Nat × (Nat × (Nat × Int32))) (A : IA) : Prop := A 67 0 = nI s.1 ∧ s.1 ≤ 99 ∧ (s.1 ≠ 99 → A 67 1 = nI s.2.1 ∧ A 67 2 = nI s.2.2.1 ∧ A 67 3 = s.2.2.2)
section SHORT
variable {M M' : m_M} {l : Ld} {v : Option Nat} {P : Nat → Bool}
theorem S_keepBest (h : G M) {A : IA} {B : Nat → Nat → Int64} {how a w : Nat} {b : Int32} (hw : w < 99) : ∃ A', F_X2_keepBest 67 (nI how) (nI a) b (nI w) (m_w2 M A B) = some ((), m_w2 M A' B) ∧ (∀ x, x ≠ 67 → A' x = A x) ∧ CSs (w, how, a, b) A' := by
  have K67 : ∀ A B, m_K (m_w2 M A B) 67 = 2 := fun A B => by simp only [w2_K, gK h]
  refine ⟨m_up (m_up (m_up (m_up A 67 1 (nI how)) 67 2 (nI a)) 67 3 b) 67 0 (nI w), ?_, fun x hx => ?_, ?_, by show w ≤ 99; omega, fun _ => ⟨?_, ?_, ?_⟩⟩
  · unfold F_X2_keepBest
    rw [x_pI_ok (K67 _ _), w2_sI, x_pI_ok (K67 _ _), w2_sI, x_pI_ok (K67 _ _), w2_sI, x_pI_ok (K67 _ _), w2_sI]
  · funext j
    rw [up_at, if_neg (fun y => hx y.1), up_at, if_neg (fun y => hx y.1), up_at, if_neg (fun y => hx y.1), up_at, if_neg (fun y => hx y.1)]
  · rw [up_at, if_pos ⟨rfl, rfl⟩]
  · rw [up_at, if_neg (by omega), up_at, if_neg (by omega), up_at, if_neg (by omega), up_at, if_pos ⟨rfl, rfl⟩]
  · rw [up_at, if_neg (by omega), up_at, if_neg (by omega), up_at, if_pos ⟨rfl, rfl⟩]
  · rw [up_at, if_neg (by omega), up_at, if_pos ⟨rfl, rfl⟩]
theorem S_findAlone (h : G M) (ho : lOk l) {B : Nat → Nat → Int64} (hL : LitC l v 69 B) {st la : Nat} (hw : Ws M st la) (hP : RwL (wN l) P (B la)) (hO : RwL (wN l) (fun w => !P w) (B 74)) : ∀ (d k f : Nat) (A : IA) (s : Nat × (Nat × (Nat × Int32))), k + d = 800 → d < f → LCi l A → CSs s A →
    ∃ A', F_X2_findAlone_2 f 67 st (nI k) (m_w2 M A B) = some ((), m_w2 M A' B) ∧ (∀ x, x ≠ 67 → A' x = A x) ∧ CSs (fF (shAs l P v) d k s) A' := by
  have K67 : ∀ A, m_K (m_w2 M A B) 67 = 2 := fun A => by simp only [w2_K, gK h]
  have R5 : ∀ A, m_R (m_w2 M A B) 67 5 = some 2 := fun A => by simp only [w2_R, gR h]
  have R6 : ∀ A, m_R (m_w2 M A B) 67 6 = some 69 := fun A => by simp only [w2_R, gR h]
  have R10 : ∀ A, m_R (m_w2 M A B) 67 10 = some 73 := fun A => by simp only [w2_R, gR h]
  have K2 : ∀ A, m_K (m_w2 M A B) 2 = 3 := fun A => by simp only [w2_K, gK h]
  have W73 : Ws M 73 74 := ⟨by simp only [gK h], by simp only [gR h], by simp only [gK h], by simp only [gl h]⟩
  intro d
  induction d with
  | zero =>
    intro k f A s hk hf _ hs
    obtain ⟨f, rfl⟩ : ∃ f', f = f' + 1 := ⟨f - 1, by omega⟩
    obtain rfl : k = 800 := by omega
    refine ⟨A, ?_, fun _ _ => rfl, hs⟩
    rw [F_X2_findAlone_2, if_pos (by decide)]
  | succ d ih =>
    intro k f A s hk hf hl hs
    obtain ⟨f, rfl⟩ : ∃ f', f = f' + 1 := ⟨f - 1, by omega⟩
    have hk8 : k < 800 := by omega
    have ic : F_X3_isClause 2 (nI (k / 2)) (m_w2 M A B) = some (bI (ccOk l (k / 2)), m_w2 M A B) := S_isClauseC (M := m_w2 M A B) h hl ho (by omega)
    have w1 := wdN_le k
    rw [F_X2_findAlone_2, if_neg (show ¬ (800 : Int32) ≤ nI k from nI_ge (b := 800) (by omega) (by omega))]
    refine m_let_P (fun o => ∃ A', o = some ((), m_w2 M A' B) ∧ (∀ x, x ≠ 67 → A' x = A x) ∧ CSs (fF (shAs l P v) (d + 1) k s) A') ?_
    intro K1 hK1
    have nxt : ∀ A1, (∀ x, x ≠ 67 → A1 x = A x) → CSs (shAs l P v k s) A1 → ∃ A', K1 67 st (nI k) (m_w2 M A1 B) = some ((), m_w2 M A' B) ∧ (∀ x, x ≠ 67 → A' x = A x) ∧ CSs (fF (shAs l P v) (d + 1) k s) A' := by
      intro A1 h1 h2
      obtain ⟨A', g, g1, g2⟩ := ih (k + 1) f A1 _ (by omega) (by omega) (hl.cong (fun a _ ha => h1 a (by omega))) h2
      rw [hK1]
      dsimp only
      rw [m_let_eq, nI_1]
      exact ⟨A', g, fun x hx => by rw [g1 x hx, h1 x hx], g2⟩
    rw [x_gN_ok (K67 _) (R5 _), x_nz_eq, if_neg (by decide), show nI k / (2 : Int32) = nI (k / 2) from i32_div (b := 2) (by omega) (by omega), x_cV_ok (K2 _) ic]
    cases q : ccOk l (k / 2)
    · rw [if_pos (by decide)]
      exact nxt A (fun _ _ => rfl) (by unfold shAs; rw [q]; exact hs)
    rw [if_neg (by decide), x_bd_ok (C_words hk8), x_gI_ok (K67 _), w2_I, hs.1]
    have hs99 := hs.2.1
    by_cases q2 : s.1 ≤ wdN k
    · rw [if_pos (nI_le q2 (by omega))]
      refine nxt A (fun _ _ => rfl) ?_
      unfold shAs
      rw [stp_le (by show s.1 ≤ wdN k; exact q2)]
      split <;> exact hs
    rw [if_neg (nI_ge (by omega) (by omega))]
    have a1 := S_isApart h ho (A := A) (B := B) hl (r := 69) (by simp only [gK h]) (by simp only [gl h]) hL hk8 q W73 hO
    obtain ⟨y1, y2, y3, y4⟩ := x1 k hk8
    have a2 := S_isApart h ho (A := A) (B := B) hl (r := 69) (by simp only [gK h]) (by simp only [gl h]) hL y1 (by rw [y2]; exact q) hw hP
    have heq : eqB l P v k = (apB l (fun w => !P w) (lT l v k) && apB l P (lT l v (k ^^^ 1))) := by
      have : eqB l P v k = true ↔ (apB l (fun w => !P w) (lT l v k) && apB l P (lT l v (k ^^^ 1))) = true := by
        unfold eqB apB
        rw [Bool.and_eq_true, decide_eq_true_iff, decide_eq_true_iff, decide_eq_true_iff]
        constructor
        · intro hh
          refine ⟨fun w hw => ?_, fun w hw => ?_⟩
          · show (!P w && lT l v k w) = false
            rw [hh w hw]; cases P w <;> rfl
          · rw [lT_x hk8, hh w hw]; cases P w <;> rfl
        · rintro ⟨h1, h2⟩ w hw
          have z1 : (!P w && lT l v k w) = false := h1 w hw
          have z2 := h2 w hw
          rw [lT_x hk8] at z2
          cases hp : P w <;> cases hq : lT l v k w
          · rfl
          · rw [hp, hq] at z1; cases z1
          · rw [hp, hq] at z2; cases z2
          · rfl
      cases z1 : eqB l P v k <;> cases z2 : (apB l (fun w => !P w) (lT l v k) && apB l P (lT l v (k ^^^ 1)))
      · rfl
      · rw [this.mpr z2] at z1; cases z1
      · rw [this.mp z1] at z2; cases z2
      · rfl
    rw [x_gN_ok (K67 _) (R10 _), x_gN_ok (K67 _) (R6 _), x_cV_ok (K67 _) a1]
    cases q3 : apB l (fun w => !P w) (lT l v k)
    · rw [if_pos (by decide)]
      exact nxt A (fun _ _ => rfl) (by unfold shAs; rw [heq, q3, Bool.false_and, Bool.and_false]; exact hs)
    rw [if_neg (by decide), x_gN_ok (K67 _) (R6 _), show nI k ^^^ (1 : Int32) = nI (k ^^^ 1) from nI_xor k 1, x_cV_ok (K67 _) a2]
    cases q4 : apB l P (lT l v (k ^^^ 1))
    · rw [if_pos (by decide)]
      exact nxt A (fun _ _ => rfl) (by unfold shAs; rw [heq, q4, Bool.and_false, Bool.and_false]; exact hs)
    obtain ⟨A1, u, u1, u2⟩ := S_keepBest h (A := A) (B := B) (how := 0) (a := k) (w := wdN k) (b := (-1 : Int32)) (by omega)
    have u' : F_X2_keepBest 67 (0 : Int32) (nI k) (-1 : Int32) (nI (wdN k)) (m_w2 M A B) = _ := u
    rw [if_neg (by decide), x_bd_ok (C_words hk8), x_cV_ok (K67 _) u']
    refine nxt A1 u1 ?_
    unfold shAs
    rw [heq, q, q3, q4]
    show CSs (stp s (wdN k, 0, k, NO)) A1
    unfold stp
    rw [if_pos (by show wdN k < s.1; omega)]
    exact u2
theorem fold_le {U : Nat → Bool} {t a : Nat} {s : Nat × (Nat × (Nat × Int32))} (hs : s.1 ≤ wdN a + 1 + 2) (L : List Nat) : L.foldl (fun s b => cJ l U v t a b s) s = s := by
  refine foldl_id L (fun b _ => ?_)
  unfold cJ
  have := wdN_ge b
  rw [stp_le (by show s.1 ≤ wdN a + wdN b + 1; omega)]
  split <;> rfl
theorem S_fj78 (h : G M) (ho : lOk l) {B : Nat → Nat → Int64} (hL : LitC l v 69 B) {U : Nat → Bool} {t a n i su : Nat} (ht : t < 2) (ha : a < 800) (hn : n ≤ 800) (hi : i < n) (hR : RwL (wN l) (fun w => U w && lT l v (a ^^^ t) w) (B 76)) {K : Nat → Nat → Int32 → Int32 → Int32 → Int32 → m_M → Option (Unit × m_M)} : ∀ (L : List Nat) (j f : Nat) (A : IA) (s : Nat × (Nat × (Nat × Int32))), j + L.length = n → L.length < f → LCi l A → A 71 i = nI a → LsA (A 71) j L → (∀ b, b ∈ L → b < 800 ∧ ccOk l (b / 2) = true) → CSs s A →
    ∃ A', F_X2_findJoined_78 K f 67 su (nI (t + 1)) (nI t) (nI n) (nI i) (nI (wdN a + 1)) (nI j) (m_w2 M A B) = K 67 su (nI (t + 1)) (nI t) (nI n) (nI i) (m_w2 M A' B) ∧ (∀ x, x ≠ 67 → A' x = A x) ∧ CSs (L.foldl (fun s b => cJ l U v t a b s) s) A' := by
  have K67 : ∀ A, m_K (m_w2 M A B) 67 = 2 := fun A => by simp only [w2_K, gK h]
  have R6 : ∀ A, m_R (m_w2 M A B) 67 6 = some 69 := fun A => by simp only [w2_R, gR h]
  have R8 : ∀ A, m_R (m_w2 M A B) 67 8 = some 71 := fun A => by simp only [w2_R, gR h]
  have R11 : ∀ A, m_R (m_w2 M A B) 67 11 = some 75 := fun A => by simp only [w2_R, gR h]
  have K71 : ∀ A, m_K (m_w2 M A B) 71 = 12 := fun A => by simp only [w2_K, gK h]
  have L71 : ∀ A, m_len (m_w2 M A B) 71 = 800 := fun A => by simp only [w2_n, gl h]
  have W75 : Ws M 75 76 := ⟨by simp only [gK h], by simp only [gR h], by simp only [gK h], by simp only [gl h]⟩
  have wa := wdN_le a
  intro L
  induction L with
  | nil =>
    intro j f A s hj hf _ _ _ _ hs
    obtain ⟨f, rfl⟩ : ∃ f', f = f' + 1 := ⟨f - 1, by omega⟩
    have hj : j = n := hj
    refine ⟨A, ?_, fun _ _ => rfl, hs⟩
    rw [F_X2_findJoined_78, if_pos (nI_le (by omega) (by omega))]
  | cons b r ih =>
    intro j f A s hj hf hl hAi hA hm hs
    obtain ⟨f, rfl⟩ : ∃ f', f = f' + 1 := ⟨f - 1, by omega⟩
    have hlen : (b :: r).length = r.length + 1 := rfl
    have hs99 := hs.2.1
    have wb := wdN_le b
    obtain ⟨b1, b2⟩ := hm b (List.mem_cons_self)
    rw [F_X2_findJoined_78, if_neg (nI_ge (by omega) (by omega)), x_gI_ok (K67 _), w2_I, hs.1, show (2 : Int32) = nI 2 from rfl, nI_add]
    by_cases q : s.1 ≤ wdN a + 1 + 2
    · refine ⟨A, ?_, fun _ _ => rfl, ?_⟩
      · rw [if_pos (nI_le q (by omega))]
      · rw [fold_le q]; exact hs
    rw [if_neg (nI_ge (by omega) (by omega))]
    refine m_let_P (fun o => ∃ A', o = K 67 su (nI (t + 1)) (nI t) (nI n) (nI i) (m_w2 M A' B) ∧ (∀ x, x ≠ 67 → A' x = A x) ∧ CSs ((b :: r).foldl (fun s b => cJ l U v t a b s) s) A') ?_
    intro K1 hK1
    have nxt : ∀ A1, (∀ x, x ≠ 67 → A1 x = A x) → CSs (cJ l U v t a b s) A1 → ∃ A', K1 67 su (nI (t + 1)) (nI t) (nI n) (nI i) (nI (wdN a + 1)) (nI j) (m_w2 M A1 B) = K 67 su (nI (t + 1)) (nI t) (nI n) (nI i) (m_w2 M A' B) ∧ (∀ x, x ≠ 67 → A' x = A x) ∧ CSs ((b :: r).foldl (fun s b => cJ l U v t a b s) s) A' := by
      intro A1 h1 h2
      obtain ⟨A', g, g1, g2⟩ := ih (j + 1) f A1 _ (by omega) (by omega) (hl.cong (fun a _ ha => h1 a (by omega))) (by rw [h1 71 (by omega)]; exact hAi) (by rw [h1 71 (by omega)]; exact hA.tl) (fun x hx => hm x (List.mem_cons_of_mem _ hx)) h2
      rw [hK1]
      dsimp only
      rw [m_let_eq, nI_1]
      exact ⟨A', g, fun x hx => by rw [g1 x hx, h1 x hx], g2⟩
    rw [x_gN_ok (K67 _) (R8 _), x_aI_ok (K71 _) (by rw [L71]; omega) (by omega), w2_I, hA.hd, x_bd_ok (C_words b1), nI_add, m_let_eq, x_gI_ok (K67 _), w2_I, hs.1]
    by_cases q2 : s.1 ≤ wdN a + 1 + wdN b
    · rw [if_pos (nI_le q2 (by omega))]
      refine nxt A (fun _ _ => rfl) ?_
      unfold cJ
      rw [stp_le (by show s.1 ≤ wdN a + wdN b + 1; omega)]
      split <;> exact hs
    rw [if_neg (nI_ge (by omega) (by omega))]
    have bx : b ^^^ t < 800 ∧ (b ^^^ t) / 2 = b / 2 := by
      rcases (show t = 0 ∨ t = 1 by omega) with z | z
      · rw [z, Nat.xor_zero]; exact ⟨b1, rfl⟩
      · rw [z]; exact ⟨(x1 b b1).1, (x1 b b1).2.1⟩
    have ap := S_isApart h ho (A := A) (B := B) hl (r := 69) (by simp only [gK h]) (by simp only [gl h]) hL bx.1 (by rw [bx.2]; exact b2) W75 hR
    rw [x_gN_ok (K67 _) (R11 _), x_gN_ok (K67 _) (R6 _), x_gN_ok (K67 _) (R8 _), x_aI_ok (K71 _) (by rw [L71]; omega) (by omega), w2_I, hA.hd, nI_xor, x_cV_ok (K67 _) ap]
    cases q3 : apB l (fun w => U w && lT l v (a ^^^ t) w) (lT l v (b ^^^ t))
    · rw [if_pos (by decide)]
      exact nxt A (fun _ _ => rfl) (by unfold cJ; rw [q3]; exact hs)
    obtain ⟨A1, u, u1, u2⟩ := S_keepBest h (A := A) (B := B) (how := t + 1) (a := a) (w := wdN a + 1 + wdN b) (b := nI b) (by omega)
    rw [if_neg (by decide), x_gN_ok (K67 _) (R8 _), x_aI_ok (K71 _) (by rw [L71]; omega) (by omega), w2_I, hAi, x_gN_ok (K67 _) (R8 _), x_aI_ok (K71 _) (by rw [L71]; omega) (by omega), w2_I, hA.hd, x_cV_ok (K67 _) u]
    refine nxt A1 u1 ?_
    unfold cJ
    rw [q3, if_pos rfl]
    unfold stp
    rw [if_pos (by show wdN a + wdN b + 1 < s.1; omega), show wdN a + wdN b + 1 = wdN a + 1 + wdN b by omega]
    exact u2
theorem S_fj32 (h : G M) (ho : lOk l) {U : Nat → Bool} {t n su lu : Nat} (ht : t < 2) (hn : n ≤ 800) (hw : Ws M su lu) (hlu : lu ≠ 76) : ∀ (L : List Nat) (i f : Nat) (A : IA) (B : Nat → Nat → Int64) (s : Nat × (Nat × (Nat × Int32))), i + L.length = n → L.length < f → LCi l A → LsA (A 71) i L → (∀ b, b ∈ L → b < 800 ∧ ccOk l (b / 2) = true) → CSs s A → LitC l v 69 B → RwL (wN l) U (B lu) →
    ∃ A' B', F_X2_findJoined_32 f 67 su (nI (t + 1)) (nI t) (nI n) (nI i) (m_w2 M A B) = some ((), m_w2 M A' B') ∧ (∀ x, x ≠ 67 → A' x = A x) ∧ (∀ b, b ≠ 76 → B' b = B b) ∧ CSs (pfL (cJ l U v t) L s) A' := by
  have K67 : ∀ A B, m_K (m_w2 M A B) 67 = 2 := fun A B => by simp only [w2_K, gK h]
  have R6 : ∀ A B, m_R (m_w2 M A B) 67 6 = some 69 := fun A B => by simp only [w2_R, gR h]
  have R8 : ∀ A B, m_R (m_w2 M A B) 67 8 = some 71 := fun A B => by simp only [w2_R, gR h]
  have K71 : ∀ A B, m_K (m_w2 M A B) 71 = 12 := fun A B => by simp only [w2_K, gK h]
  have L71 : ∀ A B, m_len (m_w2 M A B) 71 = 800 := fun A B => by simp only [w2_n, gl h]
  intro L
  induction L with
  | nil =>
    intro i f A B s hi hf _ _ _ hs _ _
    obtain ⟨f, rfl⟩ : ∃ f', f = f' + 1 := ⟨f - 1, by omega⟩
    have hi : i = n := hi
    refine ⟨A, B, ?_, fun _ _ => rfl, fun _ _ => rfl, hs⟩
    rw [F_X2_findJoined_32, if_pos (nI_le (by omega) (by omega))]
  | cons a r ih =>
    intro i f A B s hi hf hl hA hm hs hL hU
    obtain ⟨f, rfl⟩ : ∃ f', f = f' + 1 := ⟨f - 1, by omega⟩
    have hlen : (a :: r).length = r.length + 1 := rfl
    obtain ⟨b1, b2⟩ := hm a (List.mem_cons_self)
    have ax : a ^^^ t < 800 ∧ (a ^^^ t) / 2 = a / 2 := by
      rcases (show t = 0 ∨ t = 1 by omega) with z | z
      · rw [z, Nat.xor_zero]; exact ⟨b1, rfl⟩
      · rw [z]; exact ⟨(x1 a b1).1, (x1 a b1).2.1⟩
    obtain ⟨B1, u, u1, u2⟩ := S_findRest h ho (A := A) hl (r := 69) (by simp only [gK h]) (by simp only [gl h]) (by omega) ax.1 (by rw [ax.2]; exact b2) hw hlu hL hU
    have hL1 : LitC l v 69 B1 := hL.of (u1 69 (by omega))
    rw [F_X2_findJoined_32, if_neg (nI_ge (by omega) (by omega)), x_gN_ok (K67 _ _) (R8 _ _), x_aI_ok (K71 _ _) (by rw [L71]; omega) (by omega), w2_I, hA.hd, x_bd_ok (C_words b1), nI_1, m_let_eq, x_gN_ok (K67 _ _) (R6 _ _), x_gN_ok (K67 _ _) (R8 _ _), x_aI_ok (K71 _ _) (by rw [L71]; omega) (by omega), w2_I, hA.hd, nI_xor, x_cV_ok (K67 _ _) u, nI_1, m_let_eq]
    refine m_let_P (fun o => ∃ A' B', o = some ((), m_w2 M A' B') ∧ (∀ x, x ≠ 67 → A' x = A x) ∧ (∀ b, b ≠ 76 → B' b = B b) ∧ CSs (pfL (cJ l U v t) (a :: r) s) A') ?_
    intro K hK
    obtain ⟨A1, g, g1, g2⟩ := S_fj78 h ho (B := B1) hL1 ht b1 hn (i := i) (n := n) (su := su) (by omega) u2 (K := K) r (i + 1) m_FU A s (by omega) (m_FU_lt (by omega)) hl hA.hd hA.tl (fun x hx => hm x (List.mem_cons_of_mem _ hx)) hs
    obtain ⟨A', B', w, w1, w2, w3⟩ := ih (i + 1) f A1 B1 _ (by omega) (by omega) (hl.cong (fun a _ ha => g1 a (by omega))) (by rw [g1 71 (by omega)]; exact hA.tl) (fun x hx => hm x (List.mem_cons_of_mem _ hx)) g2 hL1 (hU.of (fun k => by rw [u1 lu hlu]))
    rw [g, hK]
    dsimp only
    rw [m_let_eq, nI_1]
    exact ⟨A', B', w, fun x hx => by rw [w1 x hx, g1 x hx], fun b hb => by rw [w2 b hb, u1 b hb], w3⟩
theorem S_findJoined (h : G M) (ho : lOk l) {W U : Nat → Bool} {t sw lw su lu : Nat} (ht : t < 2) (hww : Ws M sw lw) (hw : Ws M su lu) (hlu : lu ≠ 76) (hW : ∀ w, W w = if t = 1 then !P w else P w) (hU : ∀ w, U w = !W w) {A : IA} {B : Nat → Nat → Int64} {s : Nat × (Nat × (Nat × Int32))} (hl : LCi l A) (hs : CSs s A) (hL : LitC l v 69 B) (hBW : RwL (wN l) W (B lw)) (hBU : RwL (wN l) U (B lu)) :
    ∃ A' B', F_X2_findJoined 67 sw su (nI (t + 1)) (m_w2 M A B) = some ((), m_w2 M A' B') ∧ (∀ x, x ≠ 67 → x ≠ 71 → A' x = A x) ∧ (∀ b, b ≠ 76 → B' b = B b) ∧ CSs (allJ l P v (t + 1) s) A' := by
  have K67 : ∀ A B, m_K (m_w2 M A B) 67 = 2 := fun A B => by simp only [w2_K, gK h]
  have R6 : ∀ A B, m_R (m_w2 M A B) 67 6 = some 69 := fun A B => by simp only [w2_R, gR h]
  have R8 : ∀ A B, m_R (m_w2 M A B) 67 8 = some 71 := fun A B => by simp only [w2_R, gR h]
  unfold F_X2_findJoined
  refine m_let_P (fun o => ∃ A' B', o = some ((), m_w2 M A' B') ∧ (∀ x, x ≠ 67 → x ≠ 71 → A' x = A x) ∧ (∀ b, b ≠ 76 → B' b = B b) ∧ CSs (allJ l P v (t + 1) s) A') ?_
  intro K hK
  obtain ⟨A1, u0, u1, u2⟩ := S_listAbove h ho (B := B) (r := 69) (v := v) (P := W) (by simp only [gK h]) (by simp only [gl h]) hL hww hBW (t := t) ht (into := 71) (by omega) (by simp only [gK h]) (by simp only [gl h]) hl
  have hle := abvL_le (l := l) (P := W) (v := v) (t := t) (n := 800)
  obtain ⟨A', B', g, g1, g2, g3⟩ := S_fj32 h ho (U := U) (v := v) ht hle hw hlu (abvL l W v t 800) 0 m_FU A1 B s (by omega) (m_FU_lt (by omega)) (hl.cong (fun a _ ha => u1 a (by omega))) u2 (fun b hb => abvL_mem hb) ⟨by rw [u1 67 (by omega)]; exact hs.1, hs.2.1, fun q => by rw [u1 67 (by omega)]; exact hs.2.2 q⟩ hL hBU
  have g' : F_X2_findJoined_32 m_FU 67 su (nI (t + 1)) (nI t) (nI (abvL l W v t 800).length) (0 : Int32) (m_w2 M A1 B) = _ := g
  rw [cJ_all ht hW hU] at g3
  have fin : K 67 sw su (nI (t + 1)) (nI t) (m_w2 M A B) = some ((), m_w2 M A' B') := by
    rw [hK]
    dsimp only
    rw [x_gN_ok (K67 _ _) (R6 _ _), x_gN_ok (K67 _ _) (R8 _ _), x_cV_ok (K67 _ _) u0, g']
  refine ⟨A', B', ?_, fun x hx hx2 => by rw [g1 x hx, u1 x hx2], g2, g3⟩
  rcases (show t = 0 ∨ t = 1 by omega) with z | z
  · subst z
    rw [if_neg (by decide)]
    exact fin
  · subst z
    rw [if_pos (by decide)]
    exact fin
end SHORT
