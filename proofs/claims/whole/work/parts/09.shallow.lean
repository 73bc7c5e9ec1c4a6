/-! PURE PROGRAMS over the memory: a program is a function into Option (answer × memory); none: a check of the machine's would fail. A row X_.. turns a walk of the machine into a step of the program. -/
def m_let {α β : Type} (v : α) (f : α → β) : β := f v
def m_ok {α : Type} (e : α → Option Value) (Φ : Option Value → m_M → Prop) (o : Option (α × m_M)) : Prop := match o with
  | none => False
  | some r => Φ (e r.1) r.2
def e_I (v : Int32) : Option Value := some (.int v)
def e_L (v : Int64) : Option Value := some (.long v)
def e_V (_ : Unit) : Option Value := none
def e_N (v : Nat) : Option Value := some (.ref v)
def e_O (v : Option Nat) : Option Value := some (va_rf v)
def x_gI {β : Type} (kd : Nat) (M : m_M) (a q : Nat) (f : Int32 → Option β) : Option β := if m_K M a = kd then f (m_I M a q) else none
def x_gL {β : Type} (kd : Nat) (M : m_M) (a q : Nat) (f : Int64 → Option β) : Option β := if m_K M a = kd then f (m_L M a q) else none
def x_gN {β : Type} (kd : Nat) (M : m_M) (a q : Nat) (f : Nat → Option β) : Option β := if m_K M a = kd then (match m_R M a q with
  | some r => f r
  | none => none) else none
def x_gO {β : Type} (kd : Nat) (M : m_M) (a q : Nat) (f : Option Nat → Option β) : Option β := if m_K M a = kd then f (m_R M a q) else none
def x_pI {β : Type} (kd : Nat) (M : m_M) (a q : Nat) (v : Int32) (f : m_M → Option β) : Option β := if m_K M a = kd then f (m_sI M a q v) else none
def x_pL {β : Type} (kd : Nat) (M : m_M) (a q : Nat) (v : Int64) (f : m_M → Option β) : Option β := if m_K M a = kd then f (m_sL M a q v) else none
def x_pR {β : Type} (kd : Nat) (M : m_M) (a q : Nat) (v : Option Nat) (f : m_M → Option β) : Option β := if m_K M a = kd then f (m_sR M a q v) else none
def x_in (M : m_M) (kd a : Nat) (i : Int32) : Prop := m_K M a = kd ∧ 0 ≤ i ∧ i.toNatClampNeg < m_len M a
theorem x_in.vp {M : m_M} {kd a : Nat} {i : Int32} (h : x_in M kd a i) : vp_in i (m_len M a) := fun q => by
  rcases q with q | q
  · exact absurd h.2.1 (Int32.not_le.mpr q)
  · have := h.2.2; omega
def x_aI {β : Type} (kd : Nat) (M : m_M) (a : Nat) (i : Int32) (f : Int32 → Option β) : Option β := if m_K M a = kd ∧ 0 ≤ i ∧ i.toNatClampNeg < m_len M a then f (m_I M a i.toNatClampNeg) else none
def x_aL {β : Type} (M : m_M) (a : Nat) (i : Int32) (f : Int64 → Option β) : Option β := if m_K M a = 13 ∧ 0 ≤ i ∧ i.toNatClampNeg < m_len M a then f (m_L M a i.toNatClampNeg) else none
def x_aN {β : Type} (kd : Nat) (M : m_M) (a : Nat) (i : Int32) (f : Nat → Option β) : Option β := if m_K M a = kd ∧ 0 ≤ i ∧ i.toNatClampNeg < m_len M a then (match m_R M a i.toNatClampNeg with
  | some r => f r
  | none => none) else none
def x_aO {β : Type} (kd : Nat) (M : m_M) (a : Nat) (i : Int32) (f : Option Nat → Option β) : Option β := if m_K M a = kd ∧ 0 ≤ i ∧ i.toNatClampNeg < m_len M a then f (m_R M a i.toNatClampNeg) else none
def x_sI {β : Type} (kd : Nat) (M : m_M) (a : Nat) (i : Int32) (v : Int32) (f : m_M → Option β) : Option β := if m_K M a = kd ∧ 0 ≤ i ∧ i.toNatClampNeg < m_len M a then f (m_sI M a i.toNatClampNeg v) else none
def x_sL {β : Type} (M : m_M) (a : Nat) (i : Int32) (v : Int64) (f : m_M → Option β) : Option β := if m_K M a = 13 ∧ 0 ≤ i ∧ i.toNatClampNeg < m_len M a then f (m_sL M a i.toNatClampNeg v) else none
/-- a store of a reference: kr is the kind of what is stored -/
def x_sR {β : Type} (kd kr : Nat) (M : m_M) (a : Nat) (i : Int32) (v : Option Nat) (f : m_M → Option β) : Option β := if (m_K M a = kd ∧ 0 ≤ i ∧ i.toNatClampNeg < m_len M a) ∧ v.all (fun r => decide (m_K M r = kr)) = true then f (m_sR M a i.toNatClampNeg v) else none
def x_len {β : Type} (kd : Nat) (M : m_M) (a : Nat) (f : Int32 → Option β) : Option β := if m_K M a = kd then f (Int32.ofNat (m_len M a)) else none
def x_new {β : Type} (kd : Nat) (M : m_M) (f : Nat → m_M → Option β) : Option β := if m_N M < 1000000 then f (m_N M) (m_new M kd 0) else none
def x_newA {β : Type} (kd cap : Nat) (M : m_M) (n : Int32) (f : Nat → m_M → Option β) : Option β := if (0 ≤ n ∧ n.toNatClampNeg ≤ cap) ∧ m_N M < 1000000 then f (m_N M) (m_new M kd n.toNatClampNeg) else none
def x_nz {β : Type} (z : Int32) (f : Option β) : Option β := if z = 0 then none else f
def x_nzL {β : Type} (z : Int64) (f : Option β) : Option β := if z = 0 then none else f
def x_bd {α β : Type} (o : Option (α × m_M)) (f : α → m_M → Option β) : Option β := match o with
  | some r => f r.1 r.2
  | none => none
def x_cV {α β : Type} (kd : Nat) (M : m_M) (a : Nat) (o : Option (α × m_M)) (f : α → m_M → Option β) : Option β := if m_K M a = kd then x_bd o f else none
def x_nul {β : Type} (r : Option Nat) (A : Option β) (f : Nat → Option β) : Option β := match r with
  | none => A
  | some x => f x
def x_b {β : Type} (v : Int32) (f : Option β) : Option β := if v = 0 ∨ v = 1 then f else none
def x_cpI {β : Type} (M : m_M) (a0 : Nat) (sp : Int32) (a : Nat) (dp n : Int32) (f : m_M → Option β) : Option β := if (m_K M a0 = 12 ∧ m_K M a = 12) ∧ (0 ≤ sp ∧ 0 ≤ dp ∧ 0 ≤ n) ∧ sp.toNatClampNeg + n.toNatClampNeg ≤ m_len M a0 ∧ dp.toNatClampNeg + n.toNatClampNeg ≤ m_len M a then f (m_wI M a (va_cpy (m_I M a0) (m_I M a) sp.toNatClampNeg dp.toNatClampNeg n.toNatClampNeg)) else none
def x_cpL {β : Type} (M : m_M) (a0 : Nat) (sp : Int32) (a : Nat) (dp n : Int32) (f : m_M → Option β) : Option β := if (m_K M a0 = 13 ∧ m_K M a = 13) ∧ (0 ≤ sp ∧ 0 ≤ dp ∧ 0 ≤ n) ∧ sp.toNatClampNeg + n.toNatClampNeg ≤ m_len M a0 ∧ dp.toNatClampNeg + n.toNatClampNeg ≤ m_len M a then f (m_wL M a (va_cpy (m_L M a0) (m_L M a) sp.toNatClampNeg dp.toNatClampNeg n.toNatClampNeg)) else none
def x_k {β : Type} (a : Nat) (f : Nat → Option β) : Option β := if 1000000 ≤ a ∧ a < 1000020 then f (a - 1000000) else none
def x_kn {β : Type} (r q : Option Nat) (f : Option β) : Option β := if r.all (fun a => decide (1000000 ≤ a ∧ a < 1000020)) = true ∧ q.all (fun a => decide (1000000 ≤ a ∧ a < 1000020)) = true then f else none
def x_ki {β : Type} (n : Nat) (i : Int32) (f : Nat → Option β) : Option β := if 0 ≤ i ∧ i.toNatClampNeg < n then f i.toNatClampNeg else none
def m_FU : Nat := 100000
theorem m_ok.le {α : Type} {e : α → Option Value} {Φ Ψ : Option Value → m_M → Prop} {o : Option (α × m_M)} (h : m_ok e Φ o) (k : ∀ w M', Φ (e w) M' → Ψ (e w) M') : m_ok e Ψ o := by
  cases o with
  | none => exact h.elim
  | some r => exact k _ _ h
theorem m_ok_bd {α α' : Type} {e : α → Option Value} {e' : α' → Option Value} {Φ : Option Value → m_M → Prop} {o : Option (α' × m_M)} {f : α' → m_M → Option (α × m_M)} (h : m_ok e Φ (x_bd o f)) : m_ok e' (fun v M' => ∃ w, v = e' w ∧ m_ok e Φ (f w M')) o := by
  cases o with
  | none => exact h.elim
  | some r => exact ⟨_, rfl, h⟩
theorem m_nlt {n : Int32} (h : 0 ≤ n) : ¬ n < 0 := fun q => absurd h (Int32.not_le.mpr q)
theorem m_sw {x : Int32} {k : Int} (h : ¬ x = Int32.ofInt k) : x.toInt ≠ k := fun q => h (by rw [← q, Int32.ofInt_toInt])
section J_X
variable {X : j_X} {y : MethodName} {cc : ByteArray} {nL : Nat} {ret : Option FieldType} {d mc ms : Nat} {Φ : Option Value → m_M → Prop} {pc : Nat} {lv : List (Option Value)} {st : List Value} {g : Nat × Nat} {M : m_M} {α : Type} {e : α → Option Value}
theorem j_J.wide {g' : Nat × Nat} (h : g.1 ≤ g'.1 ∧ g.2 ≤ g'.2) (k : j_J X nL pc lv st g' M) : j_J X nL pc lv st g M := by
  obtain ⟨p, l, e, R, s, m, args, below, meth, c, Q, D, cy, base, ad⟩ := X
  intro H locs ls hR hS hl
  exact W.widen h.1 h.2 (k H locs ls hR hS hl)
theorem X_let {β : Type} {v : β} {f : β → Option (α × m_M)} {G : β → Prop} (h : m_ok e Φ (m_let v f)) (k : ∀ w, m_ok e Φ (f w) → G w) : G v := k v h
theorem X_join {γ : Type} {K : γ} {body : γ → Option (α × m_M)} (P : γ → Prop) {G : Prop} (h : m_ok e Φ (m_let K body)) (hP : P K) (k : ∀ kj, P kj → m_ok e Φ (body kj) → G) : G := k K hP h
theorem X_if {c : Prop} {_ : Decidable c} {A B : Option (α × m_M)} (h : m_ok e Φ (if c then A else B)) : (c → m_ok e Φ A) ∧ (¬ c → m_ok e Φ B) := ⟨fun q => by rwa [if_pos q] at h, fun q => by rwa [if_neg q] at h⟩
theorem X_gd {c : Prop} {_ : Decidable c} {A : Option (α × m_M)} (h : m_ok e Φ (if c then A else none)) : c ∧ m_ok e Φ A := by
  by_cases q : c
  · exact ⟨q, by rwa [if_pos q] at h⟩
  · rw [if_neg q] at h; exact h.elim

theorem X_gI (C : j_C0 X y cc nL d mc ms) {f : Int32 → Option (α × m_M)} {a kd q idx : Nat} {ty : FieldType} {fin : Bool} (F : j_F y.cls idx kd q ty fin) (ht : (m_ty kd)[q]? = some 0) (hd : decode cc pc = .ok (.getfield idx, 3)) (h : m_ok e Φ (x_gI kd M a q f)) (k : ∀ v, m_ok e Φ (f v) → j_J X nL (pc + 3) lv (.int v :: st) g M) : j_J X nL pc lv (.ref a :: st) g M := by
  obtain ⟨hk, h⟩ := X_gd h
  exact j_getI C F hk ht hd (k _ h)

theorem X_gL (C : j_C0 X y cc nL d mc ms) {f : Int64 → Option (α × m_M)} {a kd q idx : Nat} {ty : FieldType} {fin : Bool} (F : j_F y.cls idx kd q ty fin) (ht : (m_ty kd)[q]? = some 1) (hd : decode cc pc = .ok (.getfield idx, 3)) (h : m_ok e Φ (x_gL kd M a q f)) (k : ∀ v, m_ok e Φ (f v) → j_J X nL (pc + 3) lv (.long v :: st) g M) : j_J X nL pc lv (.ref a :: st) g M := by
  obtain ⟨hk, h⟩ := X_gd h
  exact j_getL C F hk ht hd (k _ h)

theorem X_gN (C : j_C0 X y cc nL d mc ms) {f : Nat → Option (α × m_M)} {a kd q idx : Nat} {ty : FieldType} {fin : Bool} (F : j_F y.cls idx kd q ty fin) (ht : (m_ty kd)[q]? = some 2) (hd : decode cc pc = .ok (.getfield idx, 3)) (h : m_ok e Φ (x_gN kd M a q f)) (k : ∀ v, m_ok e Φ (f v) → j_J X nL (pc + 3) lv (.ref v :: st) g M) : j_J X nL pc lv (.ref a :: st) g M := by
  obtain ⟨hk, h⟩ := X_gd h
  cases hr : m_R M a q with
  | none => rw [hr] at h; exact h.elim
  | some r => rw [hr] at h; exact j_getR C hr F hk ht hd (k _ h)

theorem X_gO (C : j_C0 X y cc nL d mc ms) {f : Option Nat → Option (α × m_M)} {a kd q idx : Nat} {ty : FieldType} {fin : Bool} (F : j_F y.cls idx kd q ty fin) (ht : (m_ty kd)[q]? = some 2) (hd : decode cc pc = .ok (.getfield idx, 3)) (h : m_ok e Φ (x_gO kd M a q f)) (k : ∀ v, m_ok e Φ (f v) → j_J X nL (pc + 3) lv (va_rf v :: st) g M) : j_J X nL pc lv (.ref a :: st) g M := by
  obtain ⟨hk, h⟩ := X_gd h
  cases hr : m_R M a q with
  | none => rw [hr] at h; exact j_getN C hr F hk ht hd (k none h)
  | some r => rw [hr] at h; exact j_getR C hr F hk ht hd (k (some r) h)

theorem X_pI (C : j_C0 X y cc nL d mc ms) {f : m_M → Option (α × m_M)} {a kd q idx : Nat} {ty : FieldType} {z : Int32} (F : j_F y.cls idx kd q ty false) (hn : ty = .int) (ht : (m_ty kd)[q]? = some 0) (hd : decode cc pc = .ok (.putfield idx, 3)) (h : m_ok e Φ (x_pI kd M a q z f)) (k : ∀ M, m_ok e Φ (f M) → j_J X nL (pc + 3) lv st g M) : j_J X nL pc lv (.int z :: .ref a :: st) g M := by
  obtain ⟨hk, h⟩ := X_gd h
  subst hn
  exact j_putI C F hk ht rfl rfl hd (k _ h)

theorem X_pZ (C : j_C0 X y cc nL d mc ms) {f : m_M → Option (α × m_M)} {a kd q idx : Nat} {ty : FieldType} {z : Int32} (F : j_F y.cls idx kd q ty false) (hn : ty = .boolean) (ht : (m_ty kd)[q]? = some 0) (hd : decode cc pc = .ok (.putfield idx, 3)) (h : m_ok e Φ (x_b z (x_pI kd M a q z f))) (k : ∀ M, m_ok e Φ (f M) → j_J X nL (pc + 3) lv st g M) : j_J X nL pc lv (.int z :: .ref a :: st) g M := by
  obtain ⟨hz, h⟩ := X_gd h
  obtain ⟨hk, h⟩ := X_gd h
  subst hn
  exact j_putI C F hk ht (by rcases hz with rfl | rfl <;> rfl) (by rcases hz with rfl | rfl <;> rfl) hd (k _ h)

theorem X_pC (C : j_C0 X y cc nL d mc ms) {f : m_M → Option (α × m_M)} {a kd q idx : Nat} {ty : FieldType} {z : Int32} (F : j_F y.cls idx kd q ty false) (hn : narrow ty (.int z) = .int z) (hf : fits ty (.int z) = true) (ht : (m_ty kd)[q]? = some 0) (hd : decode cc pc = .ok (.putfield idx, 3)) (h : m_ok e Φ (x_pI kd M a q z f)) (k : ∀ M, m_ok e Φ (f M) → j_J X nL (pc + 3) lv st g M) : j_J X nL pc lv (.int z :: .ref a :: st) g M := by
  obtain ⟨hk, h⟩ := X_gd h
  exact j_putI C F hk ht hn hf hd (k _ h)

theorem X_pIF (C : j_C0 X y cc nL d mc ms) {f : m_M → Option (α × m_M)} {a kd q idx : Nat} {ty : FieldType} {z : Int32} (F : j_F y.cls idx kd q ty true) (hini : y.name = "<init>") (hdec : j_D y.cls kd q) (hn : ty = .int) (ht : (m_ty kd)[q]? = some 0) (hd : decode cc pc = .ok (.putfield idx, 3)) (h : m_ok e Φ (x_pI kd M a q z f)) (k : ∀ M, m_ok e Φ (f M) → j_J X nL (pc + 3) lv st g M) : j_J X nL pc lv (.int z :: .ref a :: st) g M := by
  obtain ⟨hk, h⟩ := X_gd h
  subst hn
  exact j_putIF C F hini hdec hk ht rfl rfl hd (k _ h)

theorem X_pL (C : j_C0 X y cc nL d mc ms) {f : m_M → Option (α × m_M)} {a kd q idx : Nat} {ty : FieldType} {z : Int64} (F : j_F y.cls idx kd q ty false) (hn : ty = .long) (ht : (m_ty kd)[q]? = some 1) (hd : decode cc pc = .ok (.putfield idx, 3)) (h : m_ok e Φ (x_pL kd M a q z f)) (k : ∀ M, m_ok e Φ (f M) → j_J X nL (pc + 3) lv st g M) : j_J X nL pc lv (.long z :: .ref a :: st) g M := by
  obtain ⟨hk, h⟩ := X_gd h
  subst hn
  exact j_putL C F hk ht rfl rfl hd (k _ h)

theorem X_pN (C : j_C0 X y cc nL d mc ms) {f : m_M → Option (α × m_M)} {a kd q idx : Nat} {ty : FieldType} {z : Nat} (F : j_F y.cls idx kd q ty false) (hn : ((∃ n, ty = .object n) ∨ ∃ t, ty = .array t)) (ht : (m_ty kd)[q]? = some 2) (hd : decode cc pc = .ok (.putfield idx, 3)) (h : m_ok e Φ (x_pR kd M a q (some z) f)) (k : ∀ M, m_ok e Φ (f M) → j_J X nL (pc + 3) lv st g M) : j_J X nL pc lv (.ref z :: .ref a :: st) g M := by
  obtain ⟨hk, h⟩ := X_gd h
  exact j_putR C F hk ht (by rcases hn with ⟨n, rfl⟩ | ⟨t, rfl⟩ <;> rfl) (by rcases hn with ⟨n, rfl⟩ | ⟨t, rfl⟩ <;> rfl) hd (k _ h)

theorem X_pO (C : j_C0 X y cc nL d mc ms) {f : m_M → Option (α × m_M)} {a kd q idx : Nat} {ty : FieldType} {z : Option Nat} (F : j_F y.cls idx kd q ty false) (hn : ((∃ n, ty = .object n) ∨ ∃ t, ty = .array t)) (ht : (m_ty kd)[q]? = some 2) (hd : decode cc pc = .ok (.putfield idx, 3)) (h : m_ok e Φ (x_pR kd M a q z f)) (k : ∀ M, m_ok e Φ (f M) → j_J X nL (pc + 3) lv st g M) : j_J X nL pc lv (va_rf z :: .ref a :: st) g M := by
  obtain ⟨hk, h⟩ := X_gd h
  cases z with
  | none => exact j_putN C F hk ht (by rcases hn with ⟨n, rfl⟩ | ⟨t, rfl⟩ <;> rfl) (by rcases hn with ⟨n, rfl⟩ | ⟨t, rfl⟩ <;> rfl) hd (k _ h)
  | some r => exact j_putR C F hk ht (by rcases hn with ⟨n, rfl⟩ | ⟨t, rfl⟩ <;> rfl) (by rcases hn with ⟨n, rfl⟩ | ⟨t, rfl⟩ <;> rfl) hd (k _ h)

theorem X_pNF (C : j_C0 X y cc nL d mc ms) {f : m_M → Option (α × m_M)} {a kd q idx : Nat} {ty : FieldType} {z : Nat} (F : j_F y.cls idx kd q ty true) (hini : y.name = "<init>") (hdec : j_D y.cls kd q) (hn : ((∃ n, ty = .object n) ∨ ∃ t, ty = .array t)) (ht : (m_ty kd)[q]? = some 2) (hd : decode cc pc = .ok (.putfield idx, 3)) (h : m_ok e Φ (x_pR kd M a q (some z) f)) (k : ∀ M, m_ok e Φ (f M) → j_J X nL (pc + 3) lv st g M) : j_J X nL pc lv (.ref z :: .ref a :: st) g M := by
  obtain ⟨hk, h⟩ := X_gd h
  exact j_putRF C F hini hdec hk ht (by rcases hn with ⟨n, rfl⟩ | ⟨t, rfl⟩ <;> rfl) (by rcases hn with ⟨n, rfl⟩ | ⟨t, rfl⟩ <;> rfl) hd (k _ h)

theorem X_iald (C : j_C0 X y cc nL d mc ms) {f : Int32 → Option (α × m_M)} {a : Nat} {i : Int32} (hd : decode cc pc = .ok (.iaload, 1)) (h : m_ok e Φ (x_aI 12 M a i f)) (k : ∀ v, m_ok e Φ (f v) → j_J X nL (pc + 1) lv (.int v :: st) g M) : j_J X nL pc lv (.int i :: .ref a :: st) g M := by
  obtain ⟨hk, h⟩ := X_gd h
  exact j_iald C hk.1 (x_in.vp hk) hd (k _ h)

theorem X_zald (C : j_C0 X y cc nL d mc ms) {f : Int32 → Option (α × m_M)} {a : Nat} {i : Int32} (hd : decode cc pc = .ok (.baload, 1)) (h : m_ok e Φ (x_aI 14 M a i f)) (k : ∀ v, m_ok e Φ (f v) → j_J X nL (pc + 1) lv (.int v :: st) g M) : j_J X nL pc lv (.int i :: .ref a :: st) g M := by
  obtain ⟨hk, h⟩ := X_gd h
  exact j_zald C hk.1 (x_in.vp hk) hd (k _ h)

theorem X_cald (C : j_C0 X y cc nL d mc ms) {f : Int32 → Option (α × m_M)} {a : Nat} {i : Int32} (hd : decode cc pc = .ok (.caload, 1)) (h : m_ok e Φ (x_aI 11 M a i f)) (k : ∀ v, m_ok e Φ (f v) → j_J X nL (pc + 1) lv (.int v :: st) g M) : j_J X nL pc lv (.int i :: .ref a :: st) g M := by
  obtain ⟨hk, h⟩ := X_gd h
  exact j_cald C hk.1 (x_in.vp hk) hd (k _ h)

theorem X_lald (C : j_C0 X y cc nL d mc ms) {f : Int64 → Option (α × m_M)} {a : Nat} {i : Int32} (hd : decode cc pc = .ok (.laload, 1)) (h : m_ok e Φ (x_aL M a i f)) (k : ∀ v, m_ok e Φ (f v) → j_J X nL (pc + 1) lv (.long v :: st) g M) : j_J X nL pc lv (.int i :: .ref a :: st) g M := by
  obtain ⟨hk, h⟩ := X_gd h
  exact j_lald C hk.1 (x_in.vp hk) hd (k _ h)

theorem X_aaldN (C : j_C0 X y cc nL d mc ms) {f : Nat → Option (α × m_M)} {a kd : Nat} {i : Int32} (h15 : 15 ≤ kd ∧ kd < 18) (hd : decode cc pc = .ok (.aaload, 1)) (h : m_ok e Φ (x_aN kd M a i f)) (k : ∀ v, m_ok e Φ (f v) → j_J X nL (pc + 1) lv (.ref v :: st) g M) : j_J X nL pc lv (.int i :: .ref a :: st) g M := by
  obtain ⟨hk, h⟩ := X_gd h
  cases hr : m_R M a i.toNatClampNeg with
  | none => rw [hr] at h; exact h.elim
  | some r => rw [hr] at h; exact j_aald C hr hk.1 h15 (x_in.vp hk) hd (k _ h)

theorem X_aaldO (C : j_C0 X y cc nL d mc ms) {f : Option Nat → Option (α × m_M)} {a kd : Nat} {i : Int32} (h15 : 15 ≤ kd ∧ kd < 18) (hd : decode cc pc = .ok (.aaload, 1)) (h : m_ok e Φ (x_aO kd M a i f)) (k : ∀ v, m_ok e Φ (f v) → j_J X nL (pc + 1) lv (va_rf v :: st) g M) : j_J X nL pc lv (.int i :: .ref a :: st) g M := by
  obtain ⟨hk, h⟩ := X_gd h
  cases hr : m_R M a i.toNatClampNeg with
  | none => rw [hr] at h; exact j_aaldN C hr hk.1 h15 (x_in.vp hk) hd (k none h)
  | some r => rw [hr] at h; exact j_aald C hr hk.1 h15 (x_in.vp hk) hd (k (some r) h)

theorem X_iast (C : j_C0 X y cc nL d mc ms) {f : m_M → Option (α × m_M)} {a : Nat} {i z : Int32} (hd : decode cc pc = .ok (.iastore, 1)) (h : m_ok e Φ (x_sI 12 M a i z f)) (k : ∀ M, m_ok e Φ (f M) → j_J X nL (pc + 1) lv st g M) : j_J X nL pc lv (.int z :: .int i :: .ref a :: st) g M := by
  obtain ⟨hk, h⟩ := X_gd h
  exact j_iast C hk.1 (x_in.vp hk) hd (k _ h)

theorem X_zast (C : j_C0 X y cc nL d mc ms) {f : m_M → Option (α × m_M)} {a : Nat} {i z : Int32} (hd : decode cc pc = .ok (.bastore, 1)) (h : m_ok e Φ (x_sI 14 M a i (vp_nar .boolean z) f)) (k : ∀ M, m_ok e Φ (f M) → j_J X nL (pc + 1) lv st g M) : j_J X nL pc lv (.int z :: .int i :: .ref a :: st) g M := by
  obtain ⟨hk, h⟩ := X_gd h
  exact j_zast C hk.1 (x_in.vp hk) hd (k _ h)

theorem X_cast (C : j_C0 X y cc nL d mc ms) {f : m_M → Option (α × m_M)} {a : Nat} {i z : Int32} (hd : decode cc pc = .ok (.castore, 1)) (h : m_ok e Φ (x_sI 11 M a i (vp_nar .char z) f)) (k : ∀ M, m_ok e Φ (f M) → j_J X nL (pc + 1) lv st g M) : j_J X nL pc lv (.int z :: .int i :: .ref a :: st) g M := by
  obtain ⟨hk, h⟩ := X_gd h
  exact j_cast C hk.1 (x_in.vp hk) hd (k _ h)

theorem X_last (C : j_C0 X y cc nL d mc ms) {f : m_M → Option (α × m_M)} {a : Nat} {i : Int32} {z : Int64} (hd : decode cc pc = .ok (.lastore, 1)) (h : m_ok e Φ (x_sL M a i z f)) (k : ∀ M, m_ok e Φ (f M) → j_J X nL (pc + 1) lv st g M) : j_J X nL pc lv (.long z :: .int i :: .ref a :: st) g M := by
  obtain ⟨hk, h⟩ := X_gd h
  exact j_last C hk.1 (x_in.vp hk) hd (k _ h)

theorem X_aastN (C : j_C0 X y cc nL d mc ms) {f : m_M → Option (α × m_M)} {a kd kr : Nat} {i : Int32} {z : Nat} (hcc : (kd = 15 ∧ kr = 1) ∨ (kd = 16 ∧ kr = 6) ∨ (kd = 17 ∧ kr = 8)) (hd : decode cc pc = .ok (.aastore, 1)) (h : m_ok e Φ (x_sR kd kr M a i (some z) f)) (k : ∀ M, m_ok e Φ (f M) → j_J X nL (pc + 1) lv st g M) : j_J X nL pc lv (.ref z :: .int i :: .ref a :: st) g M := by
  obtain ⟨⟨hk, hk2⟩, h⟩ := X_gd h
  exact j_aast C hk.1 (by simpa using hk2) hcc (x_in.vp hk) hd (k _ h)

theorem X_aastO (C : j_C0 X y cc nL d mc ms) {f : m_M → Option (α × m_M)} {a kd kr : Nat} {i : Int32} {z : Option Nat} (hcc : (kd = 15 ∧ kr = 1) ∨ (kd = 16 ∧ kr = 6) ∨ (kd = 17 ∧ kr = 8)) (hd : decode cc pc = .ok (.aastore, 1)) (h : m_ok e Φ (x_sR kd kr M a i z f)) (k : ∀ M, m_ok e Φ (f M) → j_J X nL (pc + 1) lv st g M) : j_J X nL pc lv (va_rf z :: .int i :: .ref a :: st) g M := by
  obtain ⟨⟨hk, hk2⟩, h⟩ := X_gd h
  cases z with
  | none => exact j_aastN C hk.1 (by omega) (x_in.vp hk) hd (k _ h)
  | some r => exact j_aast C hk.1 (by simpa using hk2) hcc (x_in.vp hk) hd (k _ h)

theorem X_alen (C : j_C0 X y cc nL d mc ms) {f : Int32 → Option (α × m_M)} {a kd : Nat} (h11 : 11 ≤ kd ∧ kd < 18) (hd : decode cc pc = .ok (.arraylength, 1)) (h : m_ok e Φ (x_len kd M a f)) (k : ∀ v, m_ok e Φ (f v) → j_J X nL (pc + 1) lv (.int v :: st) g M) : j_J X nL pc lv (.ref a :: st) g M := by
  obtain ⟨hk, h⟩ := X_gd h
  exact j_alen C hk h11.1 h11.2 rfl hd (k _ h)

theorem X_new (C : j_C0 X y cc nL d mc ms) {f : Nat → m_M → Option (α × m_M)} {idx kd N : Nat} {Cn : String} {T : u_T} {ty0 : Nat → FieldType} {g' : Nat × Nat} (F : j_K kd Cn T N ty0) (f1 : Cond.classLink y.cls idx Cn ∈ j_tbl) (f2 : Cond.instantiable Cn N ∈ j_tbl) (f3 : Cond.initialized Cn ∈ j_tbl) (hg : g.1 + 1 ≤ mc ∧ g.2 + N ≤ ms) (hg' : (g.1 + 1, g.2 + N) = g') (hd : decode cc pc = .ok (.new idx, 3)) (h : m_ok e Φ (x_new kd M f)) (k : ∀ a M, m_ok e Φ (f a M) → j_J X nL (pc + 3) lv (.ref a :: st) g' M) : j_J X nL pc lv st g M := by
  obtain ⟨hk, h⟩ := X_gd h
  subst hg'
  exact j_new C F f1 f2 f3 hk hg hd (k _ _ h)

theorem X_newI (C : j_C0 X y cc nL d mc ms) {f : Nat → m_M → Option (α × m_M)} {n : Int32} {cap : Nat} {g' : Nat × Nat} (f1 : Cond.arrayClass .int ∈ j_tbl) (hcap : cap ≤ 60000) (hg : g.1 + 1 ≤ mc ∧ g.2 + cap ≤ ms) (hg' : (g.1 + 1, g.2 + cap) = g') (hd : decode cc pc = .ok (.newarray .int, 2)) (h : m_ok e Φ (x_newA 12 cap M n f)) (k : ∀ a M, m_ok e Φ (f a M) → j_J X nL (pc + 2) lv (.ref a :: st) g' M) : j_J X nL pc lv (.int n :: st) g M := by
  obtain ⟨⟨⟨hn, hc⟩, hk⟩, h⟩ := X_gd h
  subst hg'
  exact j_newI C f1 (m_nlt hn) rfl (by omega) hk (by omega) hd (j_J.wide (g' := (g.1 + 1, g.2 + cap)) ⟨Nat.le_refl _, by show g.2 + _ ≤ g.2 + _; omega⟩ (k _ _ h))

theorem X_newJ (C : j_C0 X y cc nL d mc ms) {f : Nat → m_M → Option (α × m_M)} {n : Int32} {cap : Nat} {g' : Nat × Nat} (f1 : Cond.arrayClass .long ∈ j_tbl) (hcap : cap ≤ 60000) (hg : g.1 + 1 ≤ mc ∧ g.2 + cap ≤ ms) (hg' : (g.1 + 1, g.2 + cap) = g') (hd : decode cc pc = .ok (.newarray .long, 2)) (h : m_ok e Φ (x_newA 13 cap M n f)) (k : ∀ a M, m_ok e Φ (f a M) → j_J X nL (pc + 2) lv (.ref a :: st) g' M) : j_J X nL pc lv (.int n :: st) g M := by
  obtain ⟨⟨⟨hn, hc⟩, hk⟩, h⟩ := X_gd h
  subst hg'
  exact j_newJ C f1 (m_nlt hn) rfl (by omega) hk (by omega) hd (j_J.wide (g' := (g.1 + 1, g.2 + cap)) ⟨Nat.le_refl _, by show g.2 + _ ≤ g.2 + _; omega⟩ (k _ _ h))

theorem X_newC (C : j_C0 X y cc nL d mc ms) {f : Nat → m_M → Option (α × m_M)} {n : Int32} {cap : Nat} {g' : Nat × Nat} (f1 : Cond.arrayClass .char ∈ j_tbl) (hcap : cap ≤ 60000) (hg : g.1 + 1 ≤ mc ∧ g.2 + cap ≤ ms) (hg' : (g.1 + 1, g.2 + cap) = g') (hd : decode cc pc = .ok (.newarray .char, 2)) (h : m_ok e Φ (x_newA 11 cap M n f)) (k : ∀ a M, m_ok e Φ (f a M) → j_J X nL (pc + 2) lv (.ref a :: st) g' M) : j_J X nL pc lv (.int n :: st) g M := by
  obtain ⟨⟨⟨hn, hc⟩, hk⟩, h⟩ := X_gd h
  subst hg'
  exact j_newC C f1 (m_nlt hn) rfl (by omega) hk (by omega) hd (j_J.wide (g' := (g.1 + 1, g.2 + cap)) ⟨Nat.le_refl _, by show g.2 + _ ≤ g.2 + _; omega⟩ (k _ _ h))

theorem X_newZ (C : j_C0 X y cc nL d mc ms) {f : Nat → m_M → Option (α × m_M)} {n : Int32} {cap : Nat} {g' : Nat × Nat} (f1 : Cond.arrayClass .boolean ∈ j_tbl) (hcap : cap ≤ 60000) (hg : g.1 + 1 ≤ mc ∧ g.2 + cap ≤ ms) (hg' : (g.1 + 1, g.2 + cap) = g') (hd : decode cc pc = .ok (.newarray .boolean, 2)) (h : m_ok e Φ (x_newA 14 cap M n f)) (k : ∀ a M, m_ok e Φ (f a M) → j_J X nL (pc + 2) lv (.ref a :: st) g' M) : j_J X nL pc lv (.int n :: st) g M := by
  obtain ⟨⟨⟨hn, hc⟩, hk⟩, h⟩ := X_gd h
  subst hg'
  exact j_newZ C f1 (m_nlt hn) rfl (by omega) hk (by omega) hd (j_J.wide (g' := (g.1 + 1, g.2 + cap)) ⟨Nat.le_refl _, by show g.2 + _ ≤ g.2 + _; omega⟩ (k _ _ h))

theorem X_anew (C : j_C0 X y cc nL d mc ms) {f : Nat → m_M → Option (α × m_M)} {idx kd : Nat} {Cn : String} {n : Int32} {cap : Nat} {g' : Nat × Nat} (hkd : 15 ≤ kd ∧ kd < 18 ∧ m_aty kd = .object Cn) (f1 : Cond.classLink y.cls idx Cn ∈ j_tbl) (hcap : cap ≤ 60000) (hg : g.1 + 1 ≤ mc ∧ g.2 + cap ≤ ms) (hg' : (g.1 + 1, g.2 + cap) = g') (hd : decode cc pc = .ok (.anewarray idx, 3)) (h : m_ok e Φ (x_newA kd cap M n f)) (k : ∀ a M, m_ok e Φ (f a M) → j_J X nL (pc + 3) lv (.ref a :: st) g' M) : j_J X nL pc lv (.int n :: st) g M := by
  obtain ⟨⟨⟨hn, hc⟩, hk⟩, h⟩ := X_gd h
  subst hg'
  exact j_anew C hkd f1 (m_nlt hn) rfl (by omega) hk (by omega) hd (j_J.wide (g' := (g.1 + 1, g.2 + cap)) ⟨Nat.le_refl _, by show g.2 + _ ≤ g.2 + _; omega⟩ (k _ _ h))

theorem X_idiv (C : j_C0 X y cc nL d mc ms) {f : Option (α × m_M)} {x z : Int32} (hd : decode cc pc = .ok (.idiv, 1)) (h : m_ok e Φ (x_nz z f)) (k : m_ok e Φ f → j_J X nL (pc + 1) lv (.int (x / z) :: st) g M) : j_J X nL pc lv (.int z :: .int x :: st) g M := by
  by_cases hz : z = 0
  · unfold x_nz at h; rw [if_pos hz] at h; exact h.elim
  · unfold x_nz at h; rw [if_neg hz] at h; exact j_idiv C hd hz (k h)

theorem X_irem (C : j_C0 X y cc nL d mc ms) {f : Option (α × m_M)} {x z : Int32} (hd : decode cc pc = .ok (.irem, 1)) (h : m_ok e Φ (x_nz z f)) (k : m_ok e Φ f → j_J X nL (pc + 1) lv (.int (x - x / z * z) :: st) g M) : j_J X nL pc lv (.int z :: .int x :: st) g M := by
  by_cases hz : z = 0
  · unfold x_nz at h; rw [if_pos hz] at h; exact h.elim
  · unfold x_nz at h; rw [if_neg hz] at h; exact j_irem C hd hz (k h)

theorem X_ldiv (C : j_C0 X y cc nL d mc ms) {f : Option (α × m_M)} {x z : Int64} (hd : decode cc pc = .ok (.ldiv, 1)) (h : m_ok e Φ (x_nzL z f)) (k : m_ok e Φ f → j_J X nL (pc + 1) lv (.long (x / z) :: st) g M) : j_J X nL pc lv (.long z :: .long x :: st) g M := by
  by_cases hz : z = 0
  · unfold x_nzL at h; rw [if_pos hz] at h; exact h.elim
  · unfold x_nzL at h; rw [if_neg hz] at h; exact j_ldiv C hd hz (k h)

theorem X_lrem (C : j_C0 X y cc nL d mc ms) {f : Option (α × m_M)} {x z : Int64} (hd : decode cc pc = .ok (.lrem, 1)) (h : m_ok e Φ (x_nzL z f)) (k : m_ok e Φ f → j_J X nL (pc + 1) lv (.long (x - x / z * z) :: st) g M) : j_J X nL pc lv (.long z :: .long x :: st) g M := by
  by_cases hz : z = 0
  · unfold x_nzL at h; rw [if_pos hz] at h; exact h.elim
  · unfold x_nzL at h; rw [if_neg hz] at h; exact j_lrem C hd hz (k h)

theorem X_cV (C : j_C0 X y cc nL d mc ms) {α' : Type} {e' : α' → Option Value} {o : Option (α' × m_M)} {f : α' → m_M → Option (α × m_M)} {idx d' mc' ms' nL' n : Nat} {y' : MethodName} {cc' : ByteArray} {ret' : Option FieldType} {as rest : List Value} {s' : α' → List Value} {g' : Nat × Nat} {kd a : Nat} (F : j_V y.cls idx kd y' cc' nL' ret' n) (hc : ∀ Φ', m_ok e' Φ' o → j_Ct y' cc' nL' ret' d' mc' ms' (.ref a :: as) M Φ') (hn : as.length = n) (hst : st = as.reverse ++ .ref a :: rest) (hs : ∀ w, (e' w).toList ++ rest = s' w) (hdd : d' < d) (hg : g.1 + mc' ≤ mc ∧ g.2 + ms' ≤ ms) (hg' : (g.1 + mc', g.2 + ms') = g') (hw : (rest.map fun v => v.category).sum ≤ 8) (hd : decode cc pc = .ok (.invokevirtual idx, 3)) (h : m_ok e Φ (x_cV kd M a o f)) (k : ∀ w M, m_ok e Φ (f w M) → j_J X nL (pc + 3) lv (s' w) g' M) : j_J X nL pc lv st g M := by
  obtain ⟨hk, h⟩ := X_gd h
  subst hg'
  refine j_callV C F (hc _ (m_ok_bd h)) hk hn hst hdd hg hw hd fun v M' hv => ?_
  obtain ⟨w, rfl, h2⟩ := hv
  rw [hs]
  exact k w M' h2

theorem X_cU (C : j_C0 X y cc nL d mc ms) {α' : Type} {e' : α' → Option Value} {o : Option (α' × m_M)} {f : α' → m_M → Option (α × m_M)} {idx d' mc' ms' nL' n : Nat} {y' : MethodName} {cc' : ByteArray} {ret' : Option FieldType} {as rest : List Value} {s' : α' → List Value} {g' : Nat × Nat} {kd a : Nat} {owner : String} {x : MethodName} (F : j_U y.cls idx kd owner x y' cc' nL' ret' n) (hc : ∀ Φ', m_ok e' Φ' o → j_Ct y' cc' nL' ret' d' mc' ms' (.ref a :: as) M Φ') (hn : as.length = n) (hst : st = as.reverse ++ .ref a :: rest) (hs : ∀ w, (e' w).toList ++ rest = s' w) (hdd : d' < d) (hg : g.1 + mc' ≤ mc ∧ g.2 + ms' ≤ ms) (hg' : (g.1 + mc', g.2 + ms') = g') (hw : (rest.map fun v => v.category).sum ≤ 8) (hd : decode cc pc = .ok (.invokevirtual idx, 3)) (h : m_ok e Φ (x_cV kd M a o f)) (k : ∀ w M, m_ok e Φ (f w M) → j_J X nL (pc + 3) lv (s' w) g' M) : j_J X nL pc lv st g M := by
  obtain ⟨hk, h⟩ := X_gd h
  subst hg'
  refine j_callU C F (hc _ (m_ok_bd h)) hk hn hst hdd hg hw hd fun v M' hv => ?_
  obtain ⟨w, rfl, h2⟩ := hv
  rw [hs]
  exact k w M' h2

theorem X_cS (C : j_C0 X y cc nL d mc ms) {α' : Type} {e' : α' → Option Value} {o : Option (α' × m_M)} {f : α' → m_M → Option (α × m_M)} {idx d' mc' ms' nL' n : Nat} {y' : MethodName} {cc' : ByteArray} {ret' : Option FieldType} {as rest : List Value} {s' : α' → List Value} {g' : Nat × Nat} (F : j_S y.cls idx y' cc' nL' ret' n) (hc : ∀ Φ', m_ok e' Φ' o → j_Ct y' cc' nL' ret' d' mc' ms' as M Φ') (hn : as.length = n) (hst : st = as.reverse ++ rest) (hs : ∀ w, (e' w).toList ++ rest = s' w) (hdd : d' < d) (hg : g.1 + mc' ≤ mc ∧ g.2 + ms' ≤ ms) (hg' : (g.1 + mc', g.2 + ms') = g') (hw : (rest.map fun v => v.category).sum ≤ 8) (hd : decode cc pc = .ok (.invokestatic idx, 3)) (h : m_ok e Φ (x_bd o f)) (k : ∀ w M, m_ok e Φ (f w M) → j_J X nL (pc + 3) lv (s' w) g' M) : j_J X nL pc lv st g M := by
  subst hg'
  refine j_callS C F (hc _ (m_ok_bd h)) hn hst hdd hg hw hd fun v M' hv => ?_
  obtain ⟨w, rfl, h2⟩ := hv
  rw [hs]
  exact k w M' h2

theorem X_cI (C : j_C0 X y cc nL d mc ms) {α' : Type} {e' : α' → Option Value} {o : Option (α' × m_M)} {f : α' → m_M → Option (α × m_M)} {idx d' mc' ms' nL' n : Nat} {y' : MethodName} {cc' : ByteArray} {as rest : List Value} {s' : α' → List Value} {g' : Nat × Nat} {a : Nat} (F : j_I y.cls idx y' cc' nL' n) (hc : ∀ Φ', m_ok e' Φ' o → j_Ct y' cc' nL' none d' mc' ms' (.ref a :: as) M Φ') (hn : as.length = n) (hst : st = as.reverse ++ .ref a :: rest) (hs : ∀ w, (e' w).toList ++ rest = s' w) (hdd : d' < d) (hg : g.1 + mc' ≤ mc ∧ g.2 + ms' ≤ ms) (hg' : (g.1 + mc', g.2 + ms') = g') (hw : (rest.map fun v => v.category).sum ≤ 8) (hd : decode cc pc = .ok (.invokespecial idx, 3)) (h : m_ok e Φ (x_bd o f)) (k : ∀ w M, m_ok e Φ (f w M) → j_J X nL (pc + 3) lv (s' w) g' M) : j_J X nL pc lv st g M := by
  subst hg'
  refine j_callI C F (hc _ (m_ok_bd h)) hn hst hdd hg hw hd fun v M' hv => ?_
  obtain ⟨w, rfl, h2⟩ := hv
  rw [hs]
  exact k w M' h2

theorem X_cIN (C : j_C0 X y cc nL d mc ms) {α' : Type} {e' : α' → Option Value} {o : Option (α' × m_M)} {f : α' → m_M → Option (α × m_M)} {idx d' mc' ms' nL' n : Nat} {y' : MethodName} {cc' : ByteArray} {as rest : List Value} {s' : α' → List Value} {g' : Nat × Nat} {a : Nat} (F : j_IN y.cls idx y' cc' nL' n) (hc : ∀ Φ', m_ok e' Φ' o → j_Ct y' cc' nL' none d' mc' ms' (.ref a :: as) M Φ') (hn : as.length = n) (hst : st = as.reverse ++ .ref a :: rest) (hs : ∀ w, (e' w).toList ++ rest = s' w) (hdd : d' < d) (hg : g.1 + mc' ≤ mc ∧ g.2 + ms' ≤ ms) (hg' : (g.1 + mc', g.2 + ms') = g') (hw : (rest.map fun v => v.category).sum ≤ 8) (hd : decode cc pc = .ok (.invokespecial idx, 3)) (h : m_ok e Φ (x_bd o f)) (k : ∀ w M, m_ok e Φ (f w M) → j_J X nL (pc + 3) lv (s' w) g' M) : j_J X nL pc lv st g M := by
  subst hg'
  refine j_callN C F (hc _ (m_ok_bd h)) hn hst hdd hg hw hd fun v M' hv => ?_
  obtain ⟨w, rfl, h2⟩ := hv
  rw [hs]
  exact k w M' h2

theorem X_copyI (C : j_C0 X y cc nL d mc ms) {f : m_M → Option (α × m_M)} {idx a0 a : Nat} {sp dp n : Int32} (F : j_cpw y.cls idx) (hdd : 0 < d) (hw : (st.map fun v => v.category).sum ≤ 8) (hd : decode cc pc = .ok (.invokestatic idx, 3)) (h : m_ok e Φ (x_cpI M a0 sp a dp n f)) (k : ∀ M, m_ok e Φ (f M) → j_J X nL (pc + 3) lv st g M) : j_J X nL pc lv (.int n :: .int dp :: .ref a :: .int sp :: .ref a0 :: st) g M := by
  obtain ⟨⟨⟨h1, h2⟩, ⟨h3, h4, h5⟩, h6, h7⟩, h⟩ := X_gd h
  exact j_copyI C F h1 h2 (m_nlt h3) (m_nlt h4) (m_nlt h5) h6 h7 hdd hw hd (k _ h)

theorem X_copyL (C : j_C0 X y cc nL d mc ms) {f : m_M → Option (α × m_M)} {idx a0 a : Nat} {sp dp n : Int32} (F : j_cpw y.cls idx) (hdd : 0 < d) (hw : (st.map fun v => v.category).sum ≤ 8) (hd : decode cc pc = .ok (.invokestatic idx, 3)) (h : m_ok e Φ (x_cpL M a0 sp a dp n f)) (k : ∀ M, m_ok e Φ (f M) → j_J X nL (pc + 3) lv st g M) : j_J X nL pc lv (.int n :: .int dp :: .ref a :: .int sp :: .ref a0 :: st) g M := by
  obtain ⟨⟨⟨h1, h2⟩, ⟨h3, h4, h5⟩, h6, h7⟩, h⟩ := X_gd h
  exact j_copyL C F h1 h2 (m_nlt h3) (m_nlt h4) (m_nlt h5) h6 h7 hdd hw hd (k _ h)

theorem x_k_at {a : Nat} {f : Nat → Option (α × m_M)} (h : m_ok e Φ (x_k a f)) : ∃ j, j < 20 ∧ a = 1000000 + j ∧ m_ok e Φ (f j) := by
  obtain ⟨hk, h⟩ := X_gd h
  exact ⟨a - 1000000, by omega, by omega, h⟩

theorem X_kL (C : j_C0 X y cc nL d mc ms) {f : Nat → Option (α × m_M)} {idx a : Nat} (hw : Cond.fieldLink y.cls idx "OneVerb$Word" "letters" "J" ∈ j_tbl) (hd : decode cc pc = .ok (.getfield idx, 3)) (h : m_ok e Φ (x_k a f)) (k : ∀ j, m_ok e Φ (f j) → j_J X nL (pc + 3) lv (.long (k_wl.getD j 0) :: st) g M) : j_J X nL pc lv (.ref a :: st) g M := by
  obtain ⟨j, hj, hj2, h2⟩ := x_k_at h
  subst hj2
  exact j_kL C hj hw hd (k j h2)

theorem X_kr (C : j_C0 X y cc nL d mc ms) {f : Nat → Option (α × m_M)} {idx a : Nat} (hw : Cond.fieldLink y.cls idx "OneVerb$Word" "reserved" "Z" ∈ j_tbl) (hd : decode cc pc = .ok (.getfield idx, 3)) (h : m_ok e Φ (x_k a f)) (k : ∀ j, m_ok e Φ (f j) → j_J X nL (pc + 3) lv (.int (k_wr.getD j 0) :: st) g M) : j_J X nL pc lv (.ref a :: st) g M := by
  obtain ⟨j, hj, hj2, h2⟩ := x_k_at h
  subst hj2
  exact j_kr C hj hw hd (k j h2)

theorem X_ko (C : j_C0 X y cc nL d mc ms) {f : Nat → Option (α × m_M)} {idx a : Nat} (hw : Cond.fieldLink y.cls idx "OneVerb$Word" "owner" "I" ∈ j_tbl) (hd : decode cc pc = .ok (.getfield idx, 3)) (h : m_ok e Φ (x_k a f)) (k : ∀ j, m_ok e Φ (f j) → j_J X nL (pc + 3) lv (.int (k_wo.getD j 0) :: st) g M) : j_J X nL pc lv (.ref a :: st) g M := by
  obtain ⟨j, hj, hj2, h2⟩ := x_k_at h
  subst hj2
  exact j_ko C hj hw hd (k j h2)

theorem X_kf (C : j_C0 X y cc nL d mc ms) {f : Nat → Option (α × m_M)} {idx a : Nat} (hw : Cond.fieldLink y.cls idx "OneVerb$Word" "fact" "I" ∈ j_tbl) (hd : decode cc pc = .ok (.getfield idx, 3)) (h : m_ok e Φ (x_k a f)) (k : ∀ j, m_ok e Φ (f j) → j_J X nL (pc + 3) lv (.int (k_wf.getD j 0) :: st) g M) : j_J X nL pc lv (.ref a :: st) g M := by
  obtain ⟨j, hj, hj2, h2⟩ := x_k_at h
  subst hj2
  exact j_kf C hj hw hd (k j h2)

theorem X_kald (C : j_C0 X y cc nL d mc ms) {f : Nat → Option (α × m_M)} {i : Int32} (hd : decode cc pc = .ok (.aaload, 1)) (h : m_ok e Φ (x_ki 20 i f)) (k : ∀ j, m_ok e Φ (f j) → j_J X nL (pc + 1) lv (.ref (1000000 + j) :: st) g M) : j_J X nL pc lv (.int i :: .ref (1000000 + 20) :: st) g M := by
  obtain ⟨hk, h⟩ := X_gd h
  exact j_kald C (fun q => q.elim (fun q => absurd hk.1 (Int32.not_le.mpr q)) (fun q => by have := hk.2; omega)) hd (k _ h)
theorem X_kmi (C : j_C0 X y cc nL d mc ms) {f : Nat → Option (α × m_M)} {i : Int32} (hd : decode cc pc = .ok (.iaload, 1)) (h : m_ok e Φ (x_ki 4 i f)) (k : ∀ j, m_ok e Φ (f j) → j_J X nL (pc + 1) lv (.int (k_most.getD j 0) :: st) g M) : j_J X nL pc lv (.int i :: .ref (1000000 + 21) :: st) g M := by
  obtain ⟨hk, h⟩ := X_gd h
  exact j_kmi C (fun q => q.elim (fun q => absurd hk.1 (Int32.not_le.mpr q)) (fun q => by have := hk.2; omega)) hd (k _ h)
theorem X_kn {r q : Option Nat} {f : Option (α × m_M)} (h : m_ok e Φ (x_kn r q f)) : k_cn r ∧ k_cn q ∧ m_ok e Φ f := by
  obtain ⟨⟨h1, h2⟩, h⟩ := X_gd h
  exact ⟨by cases r with
    | none => trivial
    | some a => simpa [k_cn] using h1, by cases q with
    | none => trivial
    | some a => simpa [k_cn] using h2, h⟩

theorem j_astore_nO (C : j_C0 X y cc nL d mc ms) {q : Fin 4} {r : Option Nat} (hd : decode cc pc = .ok (.astore_n q, 1)) (hn : (q : Nat) < nL) (k : j_J X nL (pc + 1) (j_s1 lv (q : Nat) (va_rf r)) st g M) : j_J X nL pc lv (va_rf r :: st) g M := by
  cases r with
  | none => exact j_astore_nN C hd hn k
  | some a => exact j_astore_n C hd hn k
theorem j_aload_nO (C : j_C0 X y cc nL d mc ms) {q : Fin 4} {r : Option Nat} (hd : decode cc pc = .ok (.aload_n q, 1)) (h : lv[(q : Nat)]? = some (some (va_rf r))) (k : j_J X nL (pc + 1) lv (va_rf r :: st) g M) : j_J X nL pc lv st g M := by
  cases r with
  | none => exact j_aload_nN C hd h k
  | some a => exact j_aload_n C hd h k
theorem j_aloadO (C : j_C0 X y cc nL d mc ms) {i : Nat} {r : Option Nat} (hd : decode cc pc = .ok (.aload i, 2)) (h : lv[i]? = some (some (va_rf r))) (k : j_J X nL (pc + 2) lv (va_rf r :: st) g M) : j_J X nL pc lv st g M := by
  cases r with
  | none => exact j_aloadN C hd h k
  | some a => exact j_aload C hd h k
theorem j_aretO (C : j_C X y cc nL ret d mc ms Φ) {r : Option Nat} {rt : FieldType} (hr : ret = some rt) (hrt : (∃ n, rt = .object n) ∨ ∃ t, rt = .array t) (hΦ : Φ (some (va_rf r)) M) (hd : decode cc pc = .ok (.areturn, 1)) (hg : g.1 ≤ mc ∧ g.2 ≤ ms) : j_J X nL pc lv [va_rf r] g M := by
  cases r with
  | none => exact j_aretN C hr hrt hΦ hd hg
  | some a => exact j_aret C hr hrt hΦ hd hg
end J_X
