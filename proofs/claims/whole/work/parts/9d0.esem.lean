/-! laws: codes of both sides and what they come to -/
def evL : List Nat → Nat × IA → Nat × IA
  | [], s => s
  | c :: r, s => evL r (evS c s)
def evLok : List Nat → Nat × IA → Prop
  | [], _ => True
  | c :: r, s => evOk c s.1 ∧ evLok r (evS c s)
def reL : List Nat → Nat × IA → Nat × IA
  | [], s => s
  | c :: r, s => reL r (reS c s)
def reLok : List Nat → Nat × IA → Prop
  | [], _ => True
  | c :: r, s => reOk c s.1 ∧ reLok r (reS c s)
theorem evL_app : ∀ (L1 L2 : List Nat) (s : Nat × IA), evL (L1 ++ L2) s = evL L2 (evL L1 s) := by
  intro L1
  induction L1 with
  | nil => intro L2 s; rfl
  | cons c r ih => intro L2 s; exact ih L2 (evS c s)
theorem evLok_app : ∀ (L1 L2 : List Nat) (s : Nat × IA), evLok L1 s → evLok L2 (evL L1 s) → evLok (L1 ++ L2) s := by
  intro L1
  induction L1 with
  | nil => intro L2 s _ h; exact h
  | cons c r ih => intro L2 s h1 h2; exact ⟨h1.1, ih L2 (evS c s) h1.2 h2⟩
theorem reL_app : ∀ (L1 L2 : List Nat) (s : Nat × IA), reL (L1 ++ L2) s = reL L2 (reL L1 s) := by
  intro L1
  induction L1 with
  | nil => intro L2 s; rfl
  | cons c r ih => intro L2 s; exact ih L2 (reS c s)
theorem reLok_app : ∀ (L1 L2 : List Nat) (s : Nat × IA), reLok L1 s → reLok L2 (reL L1 s) → reLok (L1 ++ L2) s := by
  intro L1
  induction L1 with
  | nil => intro L2 s _ h; exact h
  | cons c r ih => intro L2 s h1 h2; exact ⟨h1.1, ih L2 (reS c s) h1.2 h2⟩
def LsN (c : Nat → Nat) (k : Nat) (L : List Nat) : Prop := ∀ j, j < L.length → c (k + j) = L.getD j 0
theorem LsN.hd {c : Nat → Nat} {k a : Nat} {r : List Nat} (h : LsN c k (a :: r)) : c k = a := h 0 (Nat.succ_pos _)
theorem LsN.tl {c : Nat → Nat} {k a : Nat} {r : List Nat} (h : LsN c k (a :: r)) : LsN c (k + 1) r := fun j hj => by
  have := h (j + 1) (Nat.succ_lt_succ hj)
  rw [show k + 1 + j = k + (j + 1) by omega]
  exact this
theorem evR_L {c : Nat → Nat} : ∀ (L : List Nat) (k : Nat) (s : Nat × IA), LsN c k L → evR c L.length k s = evL L s ∧ (evLok L s → evRok c L.length k s) := by
  intro L
  induction L with
  | nil => intro k s _; exact ⟨rfl, fun _ => trivial⟩
  | cons a r ih =>
    intro k s h
    obtain ⟨h1, h2⟩ := ih (k + 1) (evS a s) h.tl
    refine ⟨?_, fun h3 => ⟨?_, ?_⟩⟩
    · show evR c r.length (k + 1) (evS (c k) s) = evL r (evS a s)
      rw [h.hd, h1]
    · rw [h.hd]; exact h3.1
    · rw [h.hd]; exact h2 h3.2
theorem reR_L {c : Nat → Nat} : ∀ (L : List Nat) (k : Nat) (s : Nat × IA), LsN c k L → reR c L.length k s = reL L s ∧ (reLok L s → reRok c L.length k s) := by
  intro L
  induction L with
  | nil => intro k s _; exact ⟨rfl, fun _ => trivial⟩
  | cons a r ih =>
    intro k s h
    obtain ⟨h1, h2⟩ := ih (k + 1) (reS a s) h.tl
    refine ⟨?_, fun h3 => ⟨?_, ?_⟩⟩
    · show reR c r.length (k + 1) (reS (c k) s) = reL r (reS a s)
      rw [h.hd, h1]
    · rw [h.hd]; exact h3.1
    · rw [h.hd]; exact h2 h3.2
abbrev EV : Type := (Nat → Int32) → Int32
def nV (V : EV) : EV := fun fs => if V fs = nI 0 then nI 1 else nI 0
def bV (x : Nat) (V1 V2 : EV) : EV := fun fs => opC (cw x) (V1 fs) (V2 fs)
/-- the class's codes come to V -/
def SCl (cc : List Nat) (V : EV) (need : Nat) : Prop := 1 ≤ need ∧ ∀ top A, top + need ≤ 64 → reLok cc (top, A) ∧ (reL cc (top, A)).1 = top + 1 ∧ (reL cc (top, A)).2 15 top = V (A 14) ∧ (∀ j, j < top → (reL cc (top, A)).2 15 j = A 15 j) ∧ ∀ b, b ≠ 15 → (reL cc (top, A)).2 b = A b
theorem SCl.mono {cc : List Nat} {V : EV} {n m : Nat} (h : SCl cc V n) (hm : n ≤ m) : SCl cc V m := ⟨by have := h.1; omega, fun top A ht => h.2 top A (by omega)⟩
theorem SCl_one {x : Nat} {V : EV} (hx : (x < 5 ∧ V = fun fs => fs x) ∨ (100 ≤ x ∧ x < 20000 ∧ V = fun _ => nI (x - 100))) : SCl [x] V 1 := by
  refine ⟨Nat.le_refl 1, fun top A ht => ?_⟩
  have h1 : ¬ x = 11 := by omega
  have h2 : ¬ (11 < x ∧ x < 19) := by omega
  have e : reL [x] (top, A) = (top + 1, m_up A 15 top (if x < 5 then A 14 x else nI (x - 100))) := by
    show reS x (top, A) = _
    unfold reS
    rw [if_neg h1, if_neg h2]
  rw [e]
  refine ⟨⟨⟨by show top ≤ 64; omega, ?_⟩, trivial⟩, rfl, ?_, fun j hj => ?_, fun b hb => up_fr hb⟩
  · rcases hx with hx | hx
    · exact .inr (.inr ⟨.inl hx.1, by show top < 64; omega⟩)
    · exact .inr (.inr ⟨.inr ⟨hx.1, hx.2.1⟩, by show top < 64; omega⟩)
  · dsimp only
    rw [up_at, if_pos ⟨rfl, rfl⟩]
    rcases hx with hx | hx
    · rw [if_pos hx.1, hx.2]
    · rw [if_neg (by omega), hx.2.2]
  · dsimp only
    rw [up_at, if_neg (by omega)]
theorem SCl_not {cc : List Nat} {V : EV} {n : Nat} (h : SCl cc V n) : SCl (cc ++ [11]) (nV V) n := by
  have h1 := h.1
  refine ⟨h1, fun top A ht => ?_⟩
  obtain ⟨a1, a2, a3, a4, a5⟩ := h.2 top A ht
  obtain ⟨s, hs⟩ : ∃ s, s = reL cc (top, A) := ⟨_, rfl⟩
  rw [← hs] at a2 a3 a4 a5
  have e : reL (cc ++ [11]) (top, A) = (top + 1, m_up s.2 15 top (if s.2 15 top = nI 0 then nI 1 else nI 0)) := by
    rw [reL_app, ← hs]
    show reS 11 s = _
    unfold reS
    rw [if_pos rfl, a2, show top + 1 - 1 = top by omega]
  rw [e]
  refine ⟨reLok_app _ _ _ a1 ⟨?_, trivial⟩, rfl, ?_, fun j hj => ?_, fun b hb => ?_⟩
  · rw [← hs, a2]
    exact ⟨by omega, .inl ⟨rfl, by omega⟩⟩
  · dsimp only
    rw [up_at, if_pos ⟨rfl, rfl⟩, a3]
    rfl
  · dsimp only
    rw [up_at, if_neg (by omega)]
    exact a4 j hj
  · dsimp only
    rw [up_fr hb]
    exact a5 b hb
theorem SCl_bin {c1 c2 : List Nat} {V1 V2 : EV} {n m x : Nat} (h1 : SCl c1 V1 n) (h2 : SCl c2 V2 m) (hx : 11 < x ∧ x < 19) {k : Nat} (hn : n ≤ k) (hm : m + 1 ≤ k) : SCl (c1 ++ (c2 ++ [x])) (bV x V1 V2) k := by
  have i1 := h1.1
  have i2 := h2.1
  refine ⟨by omega, fun top A ht => ?_⟩
  obtain ⟨a1, a2, a3, a4, a5⟩ := h1.2 top A (by omega)
  obtain ⟨s, hs⟩ : ∃ s, s = reL c1 (top, A) := ⟨_, rfl⟩
  rw [← hs] at a2 a3 a4 a5
  have hs' : s = (top + 1, s.2) := by rw [← a2]
  obtain ⟨b1, b2, b3, b4, b5⟩ := h2.2 (top + 1) s.2 (by omega)
  rw [← hs'] at b1 b2 b3 b4 b5
  obtain ⟨u, hu⟩ : ∃ u, u = reL c2 s := ⟨_, rfl⟩
  rw [← hu] at b2 b3 b4 b5
  have e : reL (c1 ++ (c2 ++ [x])) (top, A) = (top + 1, m_up u.2 15 top (opC (cw x) (u.2 15 top) (u.2 15 (top + 1)))) := by
    rw [reL_app, ← hs, reL_app, ← hu]
    show reS x u = _
    unfold reS
    rw [if_neg (by omega), if_pos hx, b2, show top + 1 + 1 - 1 = top + 1 by omega, show top + 1 + 1 - 2 = top by omega]
  rw [e]
  refine ⟨reLok_app _ _ _ a1 ?_, rfl, ?_, fun j hj => ?_, fun b hb => ?_⟩
  · rw [← hs]
    refine reLok_app _ _ _ b1 ⟨?_, trivial⟩
    rw [← hu, b2]
    exact ⟨by omega, .inr (.inl ⟨hx, by omega⟩)⟩
  · dsimp only
    rw [up_at, if_pos ⟨rfl, rfl⟩, b4 top (by omega), a3, b3, a5 14 (by omega)]
    rfl
  · dsimp only
    rw [up_at, if_neg (by omega), b4 j (by omega)]
    exact a4 j hj
  · dsimp only
    rw [up_fr hb, b5 b hb]
    exact a5 b hb
/-! the model's -/
def fO (off : Nat) (A : IA) : Nat → Int32 := fun x => A 152 (off + x)
def hNo (d : Nat) (A : IA) : Prop := d = 0 ∨ ¬ A 151 d = nI 1
theorem fnA_no {d : Nat} {A : IA} {v : Int32} (h : hNo d A) : fnA A d v = (d, tmA A d v) := by
  cases d with
  | zero => rfl
  | succ d =>
    rcases h with h | h
    · omega
    · rw [fnA, if_neg h]
def SPt (off : Nat) (mc : List Nat) (V : EV) (need : Nat) : Prop := ∀ d A, d + need ≤ 6 → evLok mc (d, A) ∧ ∃ A', evL mc (d, A) = fnA A' d (V (fO off A)) ∧ ∀ b j, (b < 143 ∨ 151 < b ∨ j ≤ d) → A' b j = A b j
def S3 (off : Nat) (mc : List Nat) (V : EV) (need : Nat) : Prop := ∀ d A, d + need ≤ 6 → hNo d A → A 150 d = nI 0 → evLok mc (d, A) ∧ ∃ A', evL mc (d, A) = (d, A') ∧ A' 149 d = V (fO off A) ∧ ∀ b j, (b < 143 ∨ 151 < b ∨ j < d ∨ (j = d ∧ b ≠ 149 ∧ b ≠ 150)) → A' b j = A b j
def S2 (off : Nat) (mc : List Nat) (V : EV) (need : Nat) : Prop := ∀ d A, d + need ≤ 6 → hNo d A → A 150 d = nI 0 → A 147 d = nI 0 → A 148 d = nI 20 → evLok mc (d, A) ∧ ∃ A', evL mc (d, A) = (d, A') ∧ suV A' d = V (fO off A) ∧ ∀ b j, (b < 143 ∨ 151 < b ∨ j < d ∨ (j = d ∧ (b < 147 ∨ 150 < b))) → A' b j = A b j
def S1 (off : Nat) (mc : List Nat) (V : EV) (need : Nat) : Prop := ∀ d A, d + need ≤ 6 → hNo d A → A 150 d = nI 0 → A 147 d = nI 0 → A 148 d = nI 20 → A 146 d = nI 0 → evLok mc (d, A) ∧ ∃ A', evL mc (d, A) = (d, A') ∧ teC (suA A' d) d = V (fO off A) ∧ ∀ b j, (b < 143 ∨ 151 < b ∨ j < d ∨ (j = d ∧ (b = 143 ∨ b = 144 ∨ b = 151))) → A' b j = A b j
def S0 (off : Nat) (mc : List Nat) (V : EV) (need : Nat) : Prop := ∀ d A, d + need ≤ 6 → hNo d A → A 150 d = nI 0 → A 147 d = nI 0 → A 148 d = nI 20 → A 146 d = nI 0 → A 144 d = nI 0 → evLok mc (d, A) ∧ ∃ A', evL mc (d, A) = (d, A') ∧ teV (suA A' d) d = V (fO off A) ∧ ∀ b j, (b < 143 ∨ 151 < b ∨ j < d ∨ (j = d ∧ b = 151)) → A' b j = A b j
section ESEM
variable {off n m k : Nat} {V V1 V2 : EV} {mc m1 m2 : List Nat}
theorem fO_eq {A A' : IA} (h : A' 152 = A 152) : fO off A' = fO off A := by unfold fO; rw [h]
theorem hNo.of {d : Nat} {A A' : IA} (h : hNo d A) (e : A' 151 d = A 151 d) : hNo d A' := by unfold hNo at *; rw [e]; exact h
theorem SPt_one {c x : Nat} (hc : (c < 20 ∧ V = (fun fs => fs x) ∧ c = off + x) ∨ (100 ≤ c ∧ c < 20000 ∧ V = fun _ => nI (c - 100))) (h0 : off + x = c → True) : SPt off [c] V 0 := by
  intro d A hd
  refine ⟨⟨⟨by show d < 7; omega, ?_⟩, trivial⟩, A, ?_, fun _ _ _ => rfl⟩
  · rcases hc with hc | hc
    · exact .inr (.inr (.inr (.inr (.inr (.inr (.inl hc.1))))))
    · exact .inr (.inr (.inr (.inr (.inr (.inr (.inr ⟨hc.1, hc.2.1⟩))))))
  · show evS c (d, A) = _
    have hc2 : c < 20 ∨ 100 ≤ c := by rcases hc with hc | hc <;> omega
    unfold evS
    by_cases q : c < 20
    · rcases hc with hc | hc
      · rw [if_neg (by omega), if_neg (by omega), if_neg (by omega), if_neg (by omega), if_neg (by omega), if_neg (by omega), if_neg (by omega), if_pos q, hc.2.1, hc.2.2]
        rfl
      · omega
    · rcases hc with hc | hc
      · omega
      · rw [if_neg (by omega), if_neg (by omega), if_neg (by omega), if_neg (by omega), if_neg (by omega), if_neg (by omega), if_pos hc.1, hc.2.2]
theorem opA_lt {A : IA} {d b j : Nat} (h : ¬ j = d) : opA A d b j = A b j := by
  simp only [opA, up_at]
  rw [if_neg (by omega), if_neg (by omega), if_neg (by omega), if_neg (by omega), if_neg (by omega)]
theorem opA_at {A : IA} {d : Nat} : opA A d 150 d = nI 0 ∧ opA A d 148 d = nI 20 ∧ opA A d 147 d = nI 0 ∧ opA A d 146 d = nI 0 ∧ opA A d 144 d = nI 0 ∧ opA A d 151 d = A 151 d := by
  simp only [opA, up_at]
  refine ⟨?_, ?_, ?_, ?_, ?_, ?_⟩ <;> simp
theorem SPt_not (h : SPt off mc V n) : SPt off (30 :: mc) (nV V) (n + 1) := by
  intro d A hd
  obtain ⟨A0, hA0⟩ : ∃ A0, A0 = opA (m_up A 151 (d + 1) (nI 1)) (d + 1) := ⟨_, rfl⟩
  have e0 : evS 30 (d, A) = (d + 1, A0) := by
    unfold evS
    rw [if_pos (.inr rfl), if_pos rfl, hA0]
  have f0 : ∀ b j, j ≤ d → A0 b j = A b j := fun b j hj => by rw [hA0, opA_lt (by omega), up_at, if_neg (by omega)]
  have f152 : ∀ b, (b < 143 ∨ 151 < b) → A0 b = A b := fun b hb => by rw [hA0, opA_fr hb, up_fr (by omega)]
  have a151 : A0 151 (d + 1) = nI 1 := by rw [hA0, (opA_at).2.2.2.2.2, up_at, if_pos ⟨rfl, rfl⟩]
  obtain ⟨g1, A', g2, g3⟩ := h (d + 1) A0 (by omega)
  refine ⟨⟨⟨by show d < 7; omega, .inl ⟨.inr rfl, by show d < 6; omega⟩⟩, by rw [e0]; exact g1⟩, A', ?_, fun b j hb => ?_⟩
  · show evL mc (evS 30 (d, A)) = _
    rw [e0, g2, fnA, if_pos (by rw [g3 151 (d + 1) (by omega)]; exact a151), fO_eq (f152 152 (by omega))]
    rfl
  · rw [g3 b j (by omega)]
    by_cases q : j ≤ d
    · exact f0 b j q
    · rw [f152 b (by omega)]
theorem SPt_par (h : S0 off mc V n) : SPt off (28 :: (mc ++ [29])) V (n + 1) := by
  intro d A hd
  obtain ⟨A0, hA0⟩ : ∃ A0, A0 = opA (m_up A 151 (d + 1) (nI 0)) (d + 1) := ⟨_, rfl⟩
  have e0 : evS 28 (d, A) = (d + 1, A0) := by
    unfold evS
    rw [if_pos (.inl rfl), if_neg (by omega), hA0]
  have f0 : ∀ b j, j ≤ d → A0 b j = A b j := fun b j hj => by rw [hA0, opA_lt (by omega), up_at, if_neg (by omega)]
  have f152 : ∀ b, (b < 143 ∨ 151 < b) → A0 b = A b := fun b hb => by rw [hA0, opA_fr hb, up_fr (by omega)]
  obtain ⟨o1, o2, o3, o4, o5, o6⟩ := opA_at (A := m_up A 151 (d + 1) (nI 0)) (d := d + 1)
  rw [← hA0] at o1 o2 o3 o4 o5 o6
  have a151 : A0 151 (d + 1) = nI 0 := by rw [o6, up_at, if_pos ⟨rfl, rfl⟩]
  obtain ⟨g1, A1, g2, g3, g4⟩ := h (d + 1) A0 (by omega) (.inr (by rw [a151]; decide)) o1 o3 o2 o4 o5
  have t143 : teA A1 (d + 1) 143 (d + 1) = V (fO off A) := by
    rw [← fO_eq (f152 152 (by omega)), ← g3]
    simp only [teA, up_at]
    simp
  refine ⟨⟨⟨by show d < 7; omega, .inl ⟨.inl rfl, by show d < 6; omega⟩⟩, ?_⟩, teA A1 (d + 1), ?_, fun b j hb => ?_⟩
  · rw [e0]
    refine evLok_app _ _ _ g1 ⟨?_, trivial⟩
    rw [g2]
    exact ⟨by show d + 1 < 7; omega, .inr (.inr (.inr (.inr (.inr (.inl ⟨rfl, by show 0 < d + 1; omega⟩)))))⟩
  · show evL (mc ++ [29]) (evS 28 (d, A)) = _
    rw [e0, evL_app, g2]
    show evS 29 (d + 1, A1) = _
    unfold evS
    rw [if_neg (by omega), if_neg (by omega), if_neg (by omega), if_neg (by omega), if_neg (by omega), if_pos rfl]
    dsimp only
    rw [t143, show d + 1 - 1 = d by omega]
  · by_cases q : b < 143 ∨ 151 < b
    · rw [teA_fr q, g4 b j (by omega), f152 b q]
    · have hj : j ≤ d := by omega
      have : teA A1 (d + 1) b j = A1 b j := by
        simp only [teA, suA, up_at]
        rw [if_neg (by omega), if_neg (by omega), if_neg (by omega), if_neg (by omega), if_neg (by omega), if_neg (by omega)]
      rw [this, g4 b j (by omega), f0 b j hj]
theorem S3_of (h : SPt off mc V n) : S3 off mc V n := by
  intro d A hd hN h150
  obtain ⟨g1, A', g2, g3⟩ := h d A hd
  refine ⟨g1, tmA A' d (V (fO off A)), ?_, ?_, fun b j hb => ?_⟩
  · rw [g2, fnA_no (hN.of (g3 151 d (by omega)))]
  · unfold tmA
    rw [up_at, if_pos ⟨rfl, rfl⟩, g3 150 d (by omega), if_pos h150]
  · unfold tmA
    rw [up_at, if_neg (by omega)]
    exact g3 b j (by omega)
theorem S3_row (h1 : S3 off m1 V1 n) (h2 : SPt off m2 V2 m) (hn : n ≤ k) (hm : m ≤ k) : S3 off (m1 ++ (22 :: m2)) (bV 18 V1 V2) k := by
  intro d A hd hN h150
  obtain ⟨g1, A1, g2, g3, g4⟩ := h1 d A (by omega) hN h150
  have e22 : evS 22 (d, A1) = (d, m_up A1 150 d (nI 22)) := by
    unfold evS
    rw [if_neg (by omega), if_neg (by omega), if_pos rfl]
  obtain ⟨u1, A2, u2, u3⟩ := h2 d (m_up A1 150 d (nI 22)) (by omega)
  have f152 : m_up A1 150 d (nI 22) 152 = A 152 := by rw [up_fr (by omega)]; funext j; exact g4 152 j (by omega)
  refine ⟨evLok_app _ _ _ g1 ?_, tmA A2 d (V2 (fO off A)), ?_, ?_, fun b j hb => ?_⟩
  · rw [g2]
    exact ⟨⟨by show d < 7; omega, .inr (.inr (.inl rfl))⟩, by rw [e22]; exact u1⟩
  · rw [evL_app, g2]
    show evL m2 (evS 22 (d, A1)) = _
    rw [e22, u2, fO_eq f152, fnA_no]
    refine hN.of ?_
    rw [u3 151 d (by omega), up_at, if_neg (by omega)]
    exact g4 151 d (by omega)
  · have a150 : m_up A1 150 d (nI 22) 150 d = nI 22 := by rw [up_at, if_pos ⟨rfl, rfl⟩]
    have a149 : m_up A1 150 d (nI 22) 149 d = V1 (fO off A) := by rw [up_at, if_neg (by omega), g3]
    unfold tmA
    rw [up_at, if_pos ⟨rfl, rfl⟩, u3 150 d (by omega), a150, if_neg (by decide), u3 149 d (by omega), a149]
    rfl
  · unfold tmA
    rw [up_at, if_neg (by omega), u3 b j (by omega), up_at, if_neg (by omega)]
    exact g4 b j hb
theorem S2_of (h : S3 off mc V n) : S2 off mc V n := by
  intro d A hd hN h150 h147 h148
  obtain ⟨g1, A', g2, g3, g4⟩ := h d A hd hN h150
  refine ⟨g1, A', g2, ?_, fun b j hb => g4 b j (by omega)⟩
  unfold suV
  rw [g4 148 d (by omega), h148, if_neg (by decide), g4 147 d (by omega), h147, g3]
  exact Int32.zero_add _
theorem S2_row {c : Nat} (hc : c = 20 ∨ c = 21) (h1 : S2 off m1 V1 n) (h2 : S3 off m2 V2 m) (hn : n ≤ k) (hm : m ≤ k) : S2 off (m1 ++ (c :: m2)) (bV (if c = 20 then 16 else 17) V1 V2) k := by
  intro d A hd hN h150 h147 h148
  obtain ⟨g1, A1, g2, g3, g4⟩ := h1 d A (by omega) hN h150 h147 h148
  obtain ⟨A2, hA2⟩ : ∃ A2, A2 = m_up (suA A1 d) 148 d (nI c) := ⟨_, rfl⟩
  have e20 : evS c (d, A1) = (d, A2) := by
    unfold evS
    rw [if_neg (by omega), if_pos hc, hA2]
  have fr : ∀ b j, (b ≠ 147 ∧ b ≠ 148 ∧ b ≠ 150) ∨ j ≠ d → A2 b j = A1 b j := fun b j hb => by
    rw [hA2, up_at, if_neg (by omega)]
    unfold suA
    rw [up_at, if_neg (by omega), up_at, if_neg (by omega)]
  have a150 : A2 150 d = nI 0 := by
    rw [hA2, up_at, if_neg (by omega)]
    unfold suA
    rw [up_at, if_pos ⟨rfl, rfl⟩]
  have a147 : A2 147 d = V1 (fO off A) := by
    rw [hA2, up_at, if_neg (by omega)]
    unfold suA
    rw [up_at, if_neg (by omega), up_at, if_pos ⟨rfl, rfl⟩, g3]
  have a148 : A2 148 d = nI c := by rw [hA2, up_at, if_pos ⟨rfl, rfl⟩]
  obtain ⟨u1, A3, u2, u3, u4⟩ := h2 d A2 (by omega) (hN.of (by rw [fr 151 d (by omega)]; exact g4 151 d (by omega))) a150
  have f152 : A2 152 = A 152 := by funext j; rw [fr 152 j (by omega)]; exact g4 152 j (by omega)
  refine ⟨evLok_app _ _ _ g1 ?_, A3, ?_, ?_, fun b j hb => ?_⟩
  · rw [g2]
    exact ⟨⟨by show d < 7; omega, .inr (.inl hc)⟩, by rw [e20]; exact u1⟩
  · rw [evL_app, g2]
    show evL m2 (evS c (d, A1)) = _
    rw [e20, u2]
  · unfold suV
    rw [u4 148 d (by omega), a148, u4 147 d (by omega), a147, u3, fO_eq f152]
    rcases hc with rfl | rfl
    · rw [if_neg (by decide)]; rfl
    · rw [if_pos rfl]; rfl
  · rw [u4 b j (by omega), fr b j (by omega)]
    exact g4 b j hb
theorem S1_of (h : S2 off mc V n) : S1 off mc V n := by
  intro d A hd hN h150 h147 h148 h146
  obtain ⟨g1, A', g2, g3, g4⟩ := h d A hd hN h150 h147 h148
  refine ⟨g1, A', g2, ?_, fun b j hb => g4 b j (by omega)⟩
  have s146 : suA A' d 146 d = nI 0 := by
    unfold suA
    rw [up_at, if_neg (by omega), up_at, if_neg (by omega), g4 146 d (by omega), h146]
  have s147 : suA A' d 147 d = V (fO off A) := by
    unfold suA
    rw [up_at, if_neg (by omega), up_at, if_pos ⟨rfl, rfl⟩, g3]
  unfold teC
  rw [s146, if_neg (by decide), if_neg (by decide), s147]
theorem S1_cmp {c : Nat} (hc : c = 24 ∨ c = 25) (h1 : S2 off m1 V1 n) (h2 : S2 off m2 V2 m) (hn : n ≤ k) (hm : m ≤ k) : S1 off (m1 ++ (c :: m2)) (bV (if c = 24 then 14 else 15) V1 V2) k := by
  intro d A hd hN h150 h147 h148 h146
  obtain ⟨g1, A1, g2, g3, g4⟩ := h1 d A (by omega) hN h150 h147 h148
  obtain ⟨A2, hA2⟩ : ∃ A2, A2 = m_up (m_up (m_up (m_up (suA A1 d) 145 d (suA A1 d 147 d)) 146 d (nI c)) 147 d (nI 0)) 148 d (nI 20) := ⟨_, rfl⟩
  have ec : evS c (d, A1) = (d, A2) := by
    unfold evS
    rw [if_neg (by omega), if_neg (by omega), if_neg (by omega), if_pos hc, hA2]
  have s147 : suA A1 d 147 d = V1 (fO off A) := by
    unfold suA
    rw [up_at, if_neg (by omega), up_at, if_pos ⟨rfl, rfl⟩, g3]
  have fr : ∀ b j, (b < 145 ∨ b = 149 ∨ 150 < b) ∨ j ≠ d → A2 b j = A1 b j := fun b j hb => by
    rw [hA2, up_at, if_neg (by omega), up_at, if_neg (by omega), up_at, if_neg (by omega), up_at, if_neg (by omega)]
    unfold suA
    rw [up_at, if_neg (by omega), up_at, if_neg (by omega)]
  have a150 : A2 150 d = nI 0 := by
    rw [hA2, up_at, if_neg (by omega), up_at, if_neg (by omega), up_at, if_neg (by omega), up_at, if_neg (by omega)]
    unfold suA
    rw [up_at, if_pos ⟨rfl, rfl⟩]
  have a145 : A2 145 d = V1 (fO off A) := by
    rw [hA2, up_at, if_neg (by omega), up_at, if_neg (by omega), up_at, if_neg (by omega), up_at, if_pos ⟨rfl, rfl⟩, s147]
  have a146 : A2 146 d = nI c := by rw [hA2, up_at, if_neg (by omega), up_at, if_neg (by omega), up_at, if_pos ⟨rfl, rfl⟩]
  have a147 : A2 147 d = nI 0 := by rw [hA2, up_at, if_neg (by omega), up_at, if_pos ⟨rfl, rfl⟩]
  have a148 : A2 148 d = nI 20 := by rw [hA2, up_at, if_pos ⟨rfl, rfl⟩]
  obtain ⟨u1, A3, u2, u3, u4⟩ := h2 d A2 (by omega) (hN.of (by rw [fr 151 d (by omega)]; exact g4 151 d (by omega))) a150 a147 a148
  have f152 : A2 152 = A 152 := by funext j; rw [fr 152 j (by omega)]; exact g4 152 j (by omega)
  refine ⟨evLok_app _ _ _ g1 ?_, A3, ?_, ?_, fun b j hb => ?_⟩
  · rw [g2]
    exact ⟨⟨by show d < 7; omega, .inr (.inr (.inr (.inl hc)))⟩, by rw [ec]; exact u1⟩
  · rw [evL_app, g2]
    show evL m2 (evS c (d, A1)) = _
    rw [ec, u2]
  · have t146 : suA A3 d 146 d = nI c := by
      unfold suA
      rw [up_at, if_neg (by omega), up_at, if_neg (by omega), u4 146 d (by omega), a146]
    have t145 : suA A3 d 145 d = V1 (fO off A) := by
      unfold suA
      rw [up_at, if_neg (by omega), up_at, if_neg (by omega), u4 145 d (by omega), a145]
    have t147 : suA A3 d 147 d = V2 (fO off A) := by
      unfold suA
      rw [up_at, if_neg (by omega), up_at, if_pos ⟨rfl, rfl⟩, u3, fO_eq f152]
    unfold teC
    rw [t146, t145, t147]
    rcases hc with rfl | rfl
    · rw [if_neg (by decide), if_pos rfl]; rfl
    · rw [if_pos rfl]; rfl
  · rw [u4 b j (by omega), fr b j (by omega)]
    exact g4 b j (by omega)
theorem S0_of (h : S1 off mc V n) : S0 off mc V n := by
  intro d A hd hN h150 h147 h148 h146 h144
  obtain ⟨g1, A', g2, g3, g4⟩ := h d A hd hN h150 h147 h148 h146
  refine ⟨g1, A', g2, ?_, fun b j hb => g4 b j (by omega)⟩
  have s144 : suA A' d 144 d = nI 0 := by
    unfold suA
    rw [up_at, if_neg (by omega), up_at, if_neg (by omega), g4 144 d (by omega), h144]
  unfold teV te6
  rw [s144, if_neg (by decide), if_neg (by decide), g3]
theorem S0_row {c : Nat} (hc : c = 26 ∨ c = 27) (h1 : S0 off m1 V1 n) (h2 : S1 off m2 V2 m) (hn : n ≤ k) (hm : m ≤ k) : S0 off (m1 ++ (c :: m2)) (bV (if c = 26 then 12 else 13) V1 V2) k := by
  intro d A hd hN h150 h147 h148 h146 h144
  obtain ⟨g1, A1, g2, g3, g4⟩ := h1 d A (by omega) hN h150 h147 h148 h146 h144
  obtain ⟨A2, hA2⟩ : ∃ A2, A2 = m_up (teA A1 d) 144 d (nI c) := ⟨_, rfl⟩
  have ec : evS c (d, A1) = (d, A2) := by
    unfold evS
    rw [if_neg (by omega), if_neg (by omega), if_neg (by omega), if_neg (by omega), if_pos hc, hA2]
  have fr : ∀ b j, (b < 143 ∨ b = 145 ∨ b = 149 ∨ 150 < b) ∨ j ≠ d → A2 b j = A1 b j := fun b j hb => by
    rw [hA2, up_at, if_neg (by omega)]
    unfold teA suA
    rw [up_at, if_neg (by omega), up_at, if_neg (by omega), up_at, if_neg (by omega), up_at, if_neg (by omega), up_at, if_neg (by omega), up_at, if_neg (by omega)]
  have a150 : A2 150 d = nI 0 := by
    rw [hA2, up_at, if_neg (by omega)]
    unfold teA suA
    rw [up_at, if_neg (by omega), up_at, if_neg (by omega), up_at, if_neg (by omega), up_at, if_neg (by omega), up_at, if_pos ⟨rfl, rfl⟩]
  have a143 : A2 143 d = V1 (fO off A) := by
    rw [hA2, up_at, if_neg (by omega)]
    unfold teA
    rw [up_at, if_neg (by omega), up_at, if_neg (by omega), up_at, if_neg (by omega), up_at, if_pos ⟨rfl, rfl⟩, g3]
  have a144 : A2 144 d = nI c := by rw [hA2, up_at, if_pos ⟨rfl, rfl⟩]
  have a146 : A2 146 d = nI 0 := by
    rw [hA2, up_at, if_neg (by omega)]
    unfold teA
    rw [up_at, if_neg (by omega), up_at, if_neg (by omega), up_at, if_pos ⟨rfl, rfl⟩]
  have a147 : A2 147 d = nI 0 := by
    rw [hA2, up_at, if_neg (by omega)]
    unfold teA
    rw [up_at, if_neg (by omega), up_at, if_pos ⟨rfl, rfl⟩]
  have a148 : A2 148 d = nI 20 := by
    rw [hA2, up_at, if_neg (by omega)]
    unfold teA
    rw [up_at, if_pos ⟨rfl, rfl⟩]
  obtain ⟨u1, A3, u2, u3, u4⟩ := h2 d A2 (by omega) (hN.of (by rw [fr 151 d (by omega)]; exact g4 151 d (by omega))) a150 a147 a148 a146
  have f152 : A2 152 = A 152 := by funext j; rw [fr 152 j (by omega)]; exact g4 152 j (by omega)
  refine ⟨evLok_app _ _ _ g1 ?_, A3, ?_, ?_, fun b j hb => ?_⟩
  · rw [g2]
    exact ⟨⟨by show d < 7; omega, .inr (.inr (.inr (.inr (.inl hc))))⟩, by rw [ec]; exact u1⟩
  · rw [evL_app, g2]
    show evL m2 (evS c (d, A1)) = _
    rw [ec, u2]
  · have t143 : suA A3 d 143 d = V1 (fO off A) := by
      unfold suA
      rw [up_at, if_neg (by omega), up_at, if_neg (by omega), u4 143 d (by omega), a143]
    have t144 : suA A3 d 144 d = nI c := by
      unfold suA
      rw [up_at, if_neg (by omega), up_at, if_neg (by omega), u4 144 d (by omega), a144]
    rw [fO_eq f152] at u3
    rcases hc with rfl | rfl
    · unfold teV te6
      rw [t143, t144, u3, if_neg (by decide), if_pos rfl]; rfl
    · have t6 : te6 (suA A3 d) d = V2 (fO off A) := by
        unfold te6
        rw [t144, if_neg (by decide), u3]
      unfold teV
      rw [t143, t144, if_pos rfl, t6]; rfl
  · rw [u4 b j (by omega), fr b j (by omega)]
    exact g4 b j (by omega)
/-- a whole law of the model's -/
theorem S0_law {c : Nat → Nat} {a : Nat} (h : S0 off mc V n) (hn : n ≤ 6) (hc : LsN c a mc) : MEv c a (a + mc.length) (fun fs => V (fun x => fs (off + x))) := by
  intro A
  obtain ⟨o1, o2, o3, o4, o5, o6⟩ := opA_at (A := A) (d := 0)
  obtain ⟨g1, A', g2, g3, g4⟩ := h 0 (opA A 0) (by omega) (.inl rfl) o1 o3 o2 o4 o5
  obtain ⟨e1, e2⟩ := evR_L mc a (0, opA A 0) hc
  rw [show a + mc.length - a = mc.length by omega]
  refine ⟨e2 g1, ?_⟩
  rw [e1, g2]
  show teA A' 0 143 0 = _
  unfold teA
  rw [up_at, if_neg (by omega), up_at, if_neg (by omega), up_at, if_neg (by omega), up_at, if_pos ⟨rfl, rfl⟩, g3]
  unfold fO
  rw [opA_fr (by omega)]
end ESEM
