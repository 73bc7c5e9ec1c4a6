/-! More rows: less known of the locals; null into an array; comparisons of references; the constants; System.arraycopy. -/
def j_le : List (Option Value) → List (Option Value) → Prop
  | [], _ => True
  | none :: a, [] => j_le a []
  | none :: a, _ :: b => j_le a b
  | some _ :: _, [] => False
  | some v :: a, w :: b => w = some v ∧ j_le a b
theorem j_le_at : ∀ (a b : List (Option Value)), j_le a b → ∀ (k : Nat) (v : Value), a[k]? = some (some v) → b[k]? = some (some v)
  | [], b, _, k, v, h => by simp at h
  | none :: a, [], h, k, v, h1 => by
    cases k with
    | zero => simp at h1
    | succ k => have := j_le_at a [] h k v (by simpa using h1); simp at this
  | none :: a, w :: b, h, k, v, h1 => by
    cases k with
    | zero => simp at h1
    | succ k => simpa using j_le_at a b h k v (by simpa using h1)
  | some u :: a, [], h, k, v, h1 => h.elim
  | some u :: a, w :: b, h, k, v, h1 => by
    cases k with
    | zero => simp at h1; subst h1; simpa using h.1
    | succ k => simpa using j_le_at a b h.2 k v (by simpa using h1)
theorem m_adc (base : Nat) (ad : Nat → Nat) (j : Nat) : m_ad base ad (1000000 + j) = ad j := by
  simp only [m_ad]
  rw [if_neg (by omega), Nat.add_sub_cancel_left]
theorem m_v_rf (base : Nat) (ad : Nat → Nat) (r : Option Nat) : m_v base ad (va_rf r) = va_rf (r.map (m_ad base ad)) := by cases r <;> rfl
/-- null, or a constant -/
def k_cn (r : Option Nat) : Prop := match r with
  | none => True
  | some a => 1000000 ≤ a ∧ a < 1000020
theorem k_cn_inj {base : Nat} {ad : Nat → Nat} (hi : ∀ i j, i < 20 → j < 20 → ad i = ad j → i = j) {r q : Option Nat} (hr : k_cn r) (hq : k_cn q) (h : r.map (m_ad base ad) = q.map (m_ad base ad)) : r = q := by
  cases r with
  | none => cases q with
    | none => rfl
    | some b => simp at h
  | some a => cases q with
    | none => simp at h
    | some b =>
      obtain ⟨i, rfl⟩ : ∃ i, a = 1000000 + i := ⟨a - 1000000, by have := hr.1; omega⟩
      obtain ⟨j, rfl⟩ : ∃ j, b = 1000000 + j := ⟨b - 1000000, by have := hq.1; omega⟩
      have h1 := hr.2
      have h2 := hq.2
      simp only [Option.map_some, Option.some.injEq, m_adc] at h
      rw [hi i j (by omega) (by omega) h]
/-- a body walked is a contract, also of a class of the machine's own library -/
theorem j_MetW {l : Launch} {y : MethodName} {ws ws' : List Cond} {rm : Room} {Pc : Array Value → State → Prop} {Qc : Array Value → State → Outcome → State → Prop} {mc ms : Nat} {free : Addr → Prop} {cc : ByteArray} {maxL : Nat} {ret : Option FieldType}
    (hy : plainFor y = true) (hw : ws = Cond.code y cc maxL ret :: ws')
    (body : ∀ p e s m args below meth c s₁, BodyLoose p l y (headSpec ws rm) cc maxL ret e s m args below meth c s₁ → c.maxLocals = maxL → Pc args s →
      W p l e (headSpec ws rm).room s m args below meth c s.heap [] 0 0 (MQ below Qc args s mc ms free) (entryFrame m args maxL)) : Met l y ws rm Pc Qc mc ms free := by
  refine MetFree.of_bodySF (code := cc) (maxLocals := maxL) (ret := ret) hy (fun args s m h hn => ?_) (fun p e s m args below meth c s₁ B hml hP _ => ?_)
  · obtain ⟨meth, c, h1, h2, h3, h4, h5, h6, -, -⟩ := Cond.code_spec hn (atoms_spec (ws := ws) h _ (by rw [hw]; exact List.mem_cons_self))
    exact ⟨meth, c, h1, h2, h3, h4, h5, h6⟩
  · obtain ⟨t, a1, o, b1, b2, b3⟩ := body p e s m args below meth c s₁ B hml hP s₁ (by rw [B.state]; rfl) (Stand.of_body B)
    exact ⟨t, o, a1, b1, b2, ⟨b3.1, b3.2⟩⟩
theorem j_Ct.ofF {y : MethodName} {cc : ByteArray} {nL : Nat} {ret : Option FieldType} {d mc ms : Nat} {as : List Value} {M : m_M} {Φ : Option Value → m_M → Prop} (hy : plainFor y = true) (hl : (lg_sl as).length ≤ nL)
    (h : ∀ X : j_X, j_C X y cc nL ret d mc ms Φ → j_J X nL 0 (j_ent nL as) [] (0, 0) M) : j_Ct y cc nL ret d mc ms as M Φ := by
  intro l D cy base ad
  refine j_MetW (cc := cc) (maxL := nL) (ret := ret) hy rfl ?_
  intro p e s m args below meth c s₁ B hml hv
  obtain ⟨rfl, hR, hK, hCs⟩ := hv
  have hts0 := atoms_spec (ws := Cond.code y cc nL ret :: j_tbl) B.pre
  have hts : ∀ w ∈ j_tbl, w.before ((as.map (m_v base ad)).toArray) s = true := fun w hw => hts0 w (List.mem_cons_of_mem _ hw)
  have hown : s.vm.findClass y.cls = some m.cls := findClass_of_methodNamed B.named
  have hb0 : base ≤ s.heap.size := by rw [hR.1]; omega
  have hl2 : (lg_sl (as.map (m_v base ad))).length ≤ nL := by
    have e : ∀ vs : List Value, (lg_sl (vs.map (m_v base ad))).length = (lg_sl vs).length := by
      intro vs
      induction vs with
      | nil => rfl
      | cons v vs ih =>
        simp only [lg_sl, List.map_cons, List.flatMap_cons, List.length_append, m_v_cat] at ih ⊢
        rw [ih]
        split <;> rfl
    rw [e]; exact hl
  have hj := h (p, l, e, (headSpec (Cond.code y cc nL ret :: j_tbl) (j_rm d mc ms)).room, s, m, (as.map (m_v base ad)).toArray, below, meth, c, MQ below (j_Q D cy base ad Φ) ((as.map (m_v base ad)).toArray) s mc ms (fun q => base ≤ q), D, cy, base, ad)
    ⟨⟨B.exec, B.bytes, hml, hown, hts, hK, hb0, hCs, ⟨Nat.le_refl _, Nat.le_refl _, rfl, rfl⟩, (name_of_methodNamed B.named B.method).1⟩, B.returns, B.notSynchronized, rfl⟩
  rw [lg_entry_eq]
  exact hj s.heap [] _ hR va_S.rf (j_entry (m_v_cat base ad) as hl2)
def j_IN (own : String) (idx : Nat) (y' : MethodName) (cc' : ByteArray) (nL' n : Nat) : Prop := (∃ host, Cond.methodLinkNest own idx y' host ∈ k_nests) ∧ Cond.code y' cc' nL' none ∈ j_tbl ∧ Cond.initialized y'.cls ∈ j_tbl ∧ (y'.cls ≠ "java/lang/invoke/MethodHandle" ∧ y'.cls ≠ "java/lang/invoke/VarHandle") ∧ (parseMethodDescriptor y'.desc).map (fun d => d.parameters.length) = some n ∧ nL' ≤ 45 ∧ y'.name = "<init>" ∧ Cond.instanceMethod y' ∈ j_tbl
section J_MORE
variable {X : j_X} {y : MethodName} {cc : ByteArray} {nL : Nat} {ret : Option FieldType} {d mc ms : Nat} {Φ : Option Value → m_M → Prop} {pc : Nat} {lv : List (Option Value)} {st : List Value} {g : Nat × Nat} {M : m_M}
theorem j_J.wk {lv' : List (Option Value)} (h : j_le lv' lv) (k : j_J X nL pc lv' st g M) : j_J X nL pc lv st g M := by
  obtain ⟨p, l, e, R, s, m, args, below, meth, c, Q, D, cy, base, ad⟩ := X
  intro H locs ls hR hS hl
  exact k H locs ls hR hS ⟨hl.1, hl.2.1, fun q v hq => hl.2.2 q v (j_le_at _ _ h q v hq)⟩
theorem j_J.wq {lv' : List (Option Value)} (k : j_J X nL pc lv' st g M) (h : j_le lv' lv) : j_J X nL pc lv st g M := j_J.wk h k
theorem j_aastN (C : j_C0 X y cc nL d mc ms) {a kd : Nat} {i : Int32} (hk : m_K M a = kd) (h15 : 15 ≤ kd ∧ kd < 18) (hin : vp_in i (m_len M a)) (hd : decode cc pc = .ok (.aastore, 1)) (k : j_J X nL (pc + 1) lv st g (m_sR M a i.toNatClampNeg none)) : j_J X nL pc lv (.null :: .int i :: .ref a :: st) g M := by
  obtain ⟨p, l, e, R, s, m, args, below, meth, c, Q, D, cy, base, ad⟩ := X
  obtain ⟨hx, hb, hml, hown, hts, hK, hbs, hCs, hR0, hname⟩ := C
  intro H locs ls hR hS hl
  obtain ⟨h1, h2⟩ := m_lt hk (by omega)
  have he := j_arr hR h1 h2 (by omega) (m_E_ref h2 (by omega))
  obtain ⟨Cn, hCn⟩ : ∃ Cn, m_aty kd = .object Cn := by
    rcases (show kd = 15 ∨ kd = 16 ∨ kd = 17 by omega) with rfl | rfl | rfl <;> exact ⟨_, rfl⟩
  have hka := (hK.2 (kd - 11) _ (m_tys_at cy (by omega) (by omega))).1 (m_len M a) (fun j => va_rf ((m_R M a j).map (m_ad base ad)))
  simp only [hCn] at hka
  simp only [List.map_cons, m_v, m_ad_lt hR h1]
  refine va_WaastN (C := Cn) hx hb he hka (fun h => by cases h) (by show ¬ (i < 0 ∨ (arrV _ _ _).slots.size ≤ _); rw [arrV_size]; exact hin) rfl rfl hd fun H1 e z1 oq => ?_
  refine k H1 _ ls (hR.put (a := a) rfl (fun j hj => m_E_sR hj) ?_ z1 oq) (hS.put z1 oq (Nat.le_add_right base a)) hl
  rw [m_E_ref (M := m_sR M a i.toNatClampNeg none) (kd := kd) h2 (by omega)]
  show H1[base + a]? = some (vp_cell _ _)
  rw [e]
  rw [vp_cell_q, vp_cell_q, arrV_store]
  show some (arrV _ _ _) = some (arrV _ _ _)
  congr 2
  funext q
  by_cases hq : q = i.toNatClampNeg
  · subst hq
    simp [updV, m_R, m_sR, m_up, va_rf]
  · simp [updV, m_R, m_sR, m_up, hq]
theorem j_acmp_eq (C : j_C0 X y cc nL d mc ms) {r q : Option Nat} {off : Int} {tgt : Nat} (hr : k_cn r) (hq : k_cn q) (hd : decode cc pc = .ok (.if_acmp .eq off, 3)) (ht : (pc : Int) + off = (tgt : Int)) (kt : r = q → j_J X nL tgt lv st g M) (kf : ¬ r = q → j_J X nL (pc + 3) lv st g M) : j_J X nL pc lv (va_rf q :: va_rf r :: st) g M := by
  obtain ⟨p, l, e, R, s, m, args, below, meth, c, Q, D, cy, base, ad⟩ := X
  obtain ⟨hx, hb, hml, hown, hts, hK, hbs, hCs, hR0, hname⟩ := C
  intro H locs ls hR hS hl
  simp only [List.map_cons, m_v_rf]
  exact lv_acmp_eq hx hb hd ht (fun h => kt (k_cn_inj hCs.1.2.1 hr hq h) H locs ls hR hS hl) (fun h => kf (fun h2 => h (by rw [h2])) H locs ls hR hS hl)
theorem j_acmp_ne (C : j_C0 X y cc nL d mc ms) {r q : Option Nat} {off : Int} {tgt : Nat} (hr : k_cn r) (hq : k_cn q) (hd : decode cc pc = .ok (.if_acmp .ne off, 3)) (ht : (pc : Int) + off = (tgt : Int)) (kt : ¬ r = q → j_J X nL tgt lv st g M) (kf : r = q → j_J X nL (pc + 3) lv st g M) : j_J X nL pc lv (va_rf q :: va_rf r :: st) g M := by
  obtain ⟨p, l, e, R, s, m, args, below, meth, c, Q, D, cy, base, ad⟩ := X
  obtain ⟨hx, hb, hml, hown, hts, hK, hbs, hCs, hR0, hname⟩ := C
  intro H locs ls hR hS hl
  simp only [List.map_cons, m_v_rf]
  exact lv_acmp_ne hx hb hd ht (fun h => kt (fun h2 => h (by rw [h2])) H locs ls hR hS hl) (fun h => kf (k_cn_inj hCs.1.2.1 hr hq h) H locs ls hR hS hl)
/-! the constants -/
theorem j_kst (C : j_C0 X y cc nL d mc ms) {idx j : Nat} (hj : j < 20) (hw : Cond.fieldLink y.cls idx "OneVerb$Word" (k_wn.getD j "") "LOneVerb$Word;" ∈ j_tbl) (hd : decode cc pc = .ok (.getstatic idx, 3)) (k : j_J X nL (pc + 3) lv (.ref (1000000 + j) :: st) g M) : j_J X nL pc lv st g M := by
  obtain ⟨p, l, e, R, s, m, args, below, meth, c, Q, D, cy, base, ad⟩ := X
  obtain ⟨hx, hb, hml, hown, hts, hK, hbs, hCs, hR0, hname⟩ := C
  intro H locs ls hR hS hl
  have kk := k H locs ls hR hS hl
  simp only [List.map_cons, m_v, m_adc] at kk
  exact va_gets hx hb (hCs.1.1 j hj).1 hS hown (hts _ hw) (fun x h => h) hd kk
theorem j_kall (C : j_C0 X y cc nL d mc ms) {idx : Nat} (hw : Cond.fieldLink y.cls idx "OneVerb$Word" "ALL" "[LOneVerb$Word;" ∈ j_tbl) (hd : decode cc pc = .ok (.getstatic idx, 3)) (k : j_J X nL (pc + 3) lv (.ref (1000000 + 20) :: st) g M) : j_J X nL pc lv st g M := by
  obtain ⟨p, l, e, R, s, m, args, below, meth, c, Q, D, cy, base, ad⟩ := X
  obtain ⟨hx, hb, hml, hown, hts, hK, hbs, hCs, hR0, hname⟩ := C
  intro H locs ls hR hS hl
  have kk := k H locs ls hR hS hl
  simp only [List.map_cons, m_v, m_adc] at kk
  exact va_gets hx hb hCs.1.2.2.1 hS hown (hts _ hw) (fun x h => h) hd kk
theorem j_kmost (C : j_C0 X y cc nL d mc ms) {idx : Nat} (hw : Cond.fieldLinkNest y.cls idx "OneVerb" "MOST_OF_KIND" "[I" "OneVerb" ∈ k_nests) (hd : decode cc pc = .ok (.getstatic idx, 3)) (k : j_J X nL (pc + 3) lv (.ref (1000000 + 21) :: st) g M) : j_J X nL pc lv st g M := by
  obtain ⟨p, l, e, R, s, m, args, below, meth, c, Q, D, cy, base, ad⟩ := X
  obtain ⟨hx, hb, hml, hown, hts, hK, hbs, hCs, hR0, hname⟩ := C
  intro H locs ls hR hS hl
  have kk := k H locs ls hR hS hl
  simp only [List.map_cons, m_v, m_adc] at kk
  exact va_getsN hx hb hCs.1.2.2.2.2.1 hS hown (va_Nw.use rfl (hCs.2.2.2.2.1 _ hw)) (fun x h => h) hd kk
theorem j_kL (C : j_C0 X y cc nL d mc ms) {idx j : Nat} (hj : j < 20) (hw : Cond.fieldLink y.cls idx "OneVerb$Word" "letters" "J" ∈ j_tbl) (hd : decode cc pc = .ok (.getfield idx, 3)) (k : j_J X nL (pc + 3) lv (.long (k_wl.getD j 0) :: st) g M) : j_J X nL pc lv (.ref (1000000 + j) :: st) g M := by
  obtain ⟨p, l, e, R, s, m, args, below, meth, c, Q, D, cy, base, ad⟩ := X
  obtain ⟨hx, hb, hml, hown, hts, hK, hbs, hCs, hR0, hname⟩ := C
  intro H locs ls hR hS hl
  have kk := k H locs ls hR hS hl
  simp only [List.map_cons, m_v, m_adc] at kk ⊢
  exact vk_getf hx hb (hCs.1.1 j hj).2.1 hS hown (hts _ hw) (fun x h => h) hd kk
theorem j_kr (C : j_C0 X y cc nL d mc ms) {idx j : Nat} (hj : j < 20) (hw : Cond.fieldLink y.cls idx "OneVerb$Word" "reserved" "Z" ∈ j_tbl) (hd : decode cc pc = .ok (.getfield idx, 3)) (k : j_J X nL (pc + 3) lv (.int (k_wr.getD j 0) :: st) g M) : j_J X nL pc lv (.ref (1000000 + j) :: st) g M := by
  obtain ⟨p, l, e, R, s, m, args, below, meth, c, Q, D, cy, base, ad⟩ := X
  obtain ⟨hx, hb, hml, hown, hts, hK, hbs, hCs, hR0, hname⟩ := C
  intro H locs ls hR hS hl
  have kk := k H locs ls hR hS hl
  simp only [List.map_cons, m_v, m_adc] at kk ⊢
  exact vk_getf hx hb (hCs.1.1 j hj).2.2.1 hS hown (hts _ hw) (fun x h => h) hd kk
theorem j_ko (C : j_C0 X y cc nL d mc ms) {idx j : Nat} (hj : j < 20) (hw : Cond.fieldLink y.cls idx "OneVerb$Word" "owner" "I" ∈ j_tbl) (hd : decode cc pc = .ok (.getfield idx, 3)) (k : j_J X nL (pc + 3) lv (.int (k_wo.getD j 0) :: st) g M) : j_J X nL pc lv (.ref (1000000 + j) :: st) g M := by
  obtain ⟨p, l, e, R, s, m, args, below, meth, c, Q, D, cy, base, ad⟩ := X
  obtain ⟨hx, hb, hml, hown, hts, hK, hbs, hCs, hR0, hname⟩ := C
  intro H locs ls hR hS hl
  have kk := k H locs ls hR hS hl
  simp only [List.map_cons, m_v, m_adc] at kk ⊢
  exact vk_getf hx hb (hCs.1.1 j hj).2.2.2.1 hS hown (hts _ hw) (fun x h => h) hd kk
theorem j_kf (C : j_C0 X y cc nL d mc ms) {idx j : Nat} (hj : j < 20) (hw : Cond.fieldLink y.cls idx "OneVerb$Word" "fact" "I" ∈ j_tbl) (hd : decode cc pc = .ok (.getfield idx, 3)) (k : j_J X nL (pc + 3) lv (.int (k_wf.getD j 0) :: st) g M) : j_J X nL pc lv (.ref (1000000 + j) :: st) g M := by
  obtain ⟨p, l, e, R, s, m, args, below, meth, c, Q, D, cy, base, ad⟩ := X
  obtain ⟨hx, hb, hml, hown, hts, hK, hbs, hCs, hR0, hname⟩ := C
  intro H locs ls hR hS hl
  have kk := k H locs ls hR hS hl
  simp only [List.map_cons, m_v, m_adc] at kk ⊢
  exact vk_getf hx hb (hCs.1.1 j hj).2.2.2.2 hS hown (hts _ hw) (fun x h => h) hd kk
theorem j_kald (C : j_C0 X y cc nL d mc ms) {i : Int32} (hin : vp_in i 20) (hd : decode cc pc = .ok (.aaload, 1)) (k : j_J X nL (pc + 1) lv (.ref (1000000 + i.toNatClampNeg) :: st) g M) : j_J X nL pc lv (.int i :: .ref (1000000 + 20) :: st) g M := by
  obtain ⟨p, l, e, R, s, m, args, below, meth, c, Q, D, cy, base, ad⟩ := X
  obtain ⟨hx, hb, hml, hown, hts, hK, hbs, hCs, hR0, hname⟩ := C
  intro H locs ls hR hS hl
  have kk := k H locs ls hR hS hl
  simp only [List.map_cons, m_v, m_adc] at kk ⊢
  obtain ⟨cell, h1, h2, h3, h4, h5, h6, h7⟩ := hCs.1.2.2.2.1
  have hlt : i.toNatClampNeg < 20 := Nat.not_le.mp fun q => hin (Or.inr q)
  have hin' : ¬ (i < 0 ∨ cell.slots.size ≤ i.toNatClampNeg) := by
    intro q
    rcases q with q | q
    · exact hin (Or.inl q)
    · omega
  exact W.aald (v := .ref (ad i.toNatClampNeg)) hx hb (by rw [hS.2.1 _ (Array.getElem?_eq_some_iff.mp h1).1 h7]; exact h1) h2 rfl h3 hin' (h6 _ hlt) rfl rfl hd kk
theorem j_klen (C : j_C0 X y cc nL d mc ms) (hd : decode cc pc = .ok (.arraylength, 1)) (k : j_J X nL (pc + 1) lv (.int 20 :: st) g M) : j_J X nL pc lv (.ref (1000000 + 20) :: st) g M := by
  obtain ⟨p, l, e, R, s, m, args, below, meth, c, Q, D, cy, base, ad⟩ := X
  obtain ⟨hx, hb, hml, hown, hts, hK, hbs, hCs, hR0, hname⟩ := C
  intro H locs ls hR hS hl
  have kk := k H locs ls hR hS hl
  simp only [List.map_cons, m_v, m_adc] at kk ⊢
  exact va_tlen hx hb hCs.1.2.2.2.1 hS rfl hd kk
theorem j_kmi (C : j_C0 X y cc nL d mc ms) {i : Int32} (hin : vp_in i 4) (hd : decode cc pc = .ok (.iaload, 1)) (k : j_J X nL (pc + 1) lv (.int (k_most.getD i.toNatClampNeg 0) :: st) g M) : j_J X nL pc lv (.int i :: .ref (1000000 + 21) :: st) g M := by
  obtain ⟨p, l, e, R, s, m, args, below, meth, c, Q, D, cy, base, ad⟩ := X
  obtain ⟨hx, hb, hml, hown, hts, hK, hbs, hCs, hR0, hname⟩ := C
  intro H locs ls hR hS hl
  have kk := k H locs ls hR hS hl
  simp only [List.map_cons, m_v, m_adc] at kk ⊢
  exact va_ti hx hb hCs.1.2.2.2.2.2.1 hS hin rfl hd kk
/-! System.arraycopy -/
def m_wI (M : m_M) (a : Nat) (f : Nat → Int32) : m_M := (M.1, (fun b j => if b = a then f j else M.2.1 b j), M.2.2)
def m_wL (M : m_M) (a : Nat) (f : Nat → Int64) : m_M := (M.1, M.2.1, (fun b j => if b = a then f j else M.2.2.1 b j), M.2.2.2)
theorem m_E_wI {cy : Nat → ClassId} {f : Nat → Nat} {M : m_M} {a : Nat} {v : Nat → Int32} {i : Nat} (h : i ≠ a) : m_E cy f (m_wI M a v) i = m_E cy f M i := by
  have e : m_I (m_wI M a v) i = m_I M i := by funext j; simp [m_I, m_wI, h]
  simp only [m_E, m_fs, m_fl, e]
  rfl
theorem m_E_wL {cy : Nat → ClassId} {f : Nat → Nat} {M : m_M} {a : Nat} {v : Nat → Int64} {i : Nat} (h : i ≠ a) : m_E cy f (m_wL M a v) i = m_E cy f M i := by
  have e : m_L (m_wL M a v) i = m_L M i := by funext j; simp [m_L, m_wL, h]
  simp only [m_E, m_fs, m_fl, e]
  rfl
def j_cpw (own : String) (idx : Nat) : Prop := Cond.methodLink own idx arraycopyName ∈ j_tbl ∧ Cond.native arraycopyName ∈ j_tbl ∧ Cond.static arraycopyName ∈ j_tbl ∧ Cond.initialized "java/lang/System" ∈ j_tbl
theorem j_copyI (C : j_C0 X y cc nL d mc ms) {idx a0 a : Nat} {sp dp n : Int32} (F : j_cpw y.cls idx) (hk0 : m_K M a0 = 12) (hk1 : m_K M a = 12) (h1 : ¬ sp < 0) (h2 : ¬ dp < 0) (h3 : ¬ n < 0) (h4 : sp.toNatClampNeg + n.toNatClampNeg ≤ m_len M a0) (h5 : dp.toNatClampNeg + n.toNatClampNeg ≤ m_len M a) (hdd : 0 < d) (hw : (st.map fun v => v.category).sum ≤ 8) (hd : decode cc pc = .ok (.invokestatic idx, 3))
    (k : j_J X nL (pc + 3) lv st g (m_wI M a (va_cpy (m_I M a0) (m_I M a) sp.toNatClampNeg dp.toNatClampNeg n.toNatClampNeg))) : j_J X nL pc lv (.int n :: .int dp :: .ref a :: .int sp :: .ref a0 :: st) g M := by
  obtain ⟨p, l, e, R, s, m, args, below, meth, c, Q, D, cy, base, ad⟩ := X
  obtain ⟨hx, hb, hml, hown, hts, hK, hbs, hCs, hR0, hname⟩ := C
  intro H locs ls hR hS hl
  obtain ⟨b1, b2⟩ := m_lt hk0 (by omega)
  obtain ⟨b3, b4⟩ := m_lt hk1 (by omega)
  have he0 : H[base + a0]? = some (vp_cell (cy 12) (m_len M a0, .inl (m_I M a0))) := j_arr hR b1 b2 (by omega) (m_E_int b2 (by omega))
  have he1 : H[base + a]? = some (vp_cell (cy 12) (m_len M a, .inl (m_I M a))) := j_arr hR b3 b4 (by omega) (m_E_int b4 (by omega))
  have hw' : ((st.map (m_v base ad)).map fun v => v.category).sum ≤ 8 := by
    rw [List.map_map]
    have e9 : ((fun v : Value => v.category) ∘ m_v base ad) = fun v : Value => v.category := by funext v; exact m_v_cat base ad v
    rw [e9]; exact hw
  simp only [List.map_cons, m_v, m_ad_lt hR b1, m_ad_lt hR b3]
  have nn : ∀ z : Int32, ¬ z < 0 → z.toInt = (z.toNatClampNeg : Int) := by
    intro z hz
    have hz0 : (0 : Int) ≤ z.toInt := by
      have := Int32.not_lt.mp hz
      simpa using Int32.le_iff_toInt_le.mp this
    show z.toInt = ((z.toInt.toNat : Nat) : Int)
    omega
  intro T hT X0
  have ht := m_tys_at cy (kd := 12) (by omega) (by omega)
  obtain ⟨-, k0, hk0', cm0, hkk0⟩ := (hK.2 _ _ ht).1 (m_len M a0) (fun j => .int (m_I M a0 j))
  obtain ⟨-, k1, hk1', cm1, hkk1⟩ := (hK.2 _ _ ht).1 (m_len M a) (fun j => .int (m_I M a j))
  have hlr := hR0.2.1
  have hfr := hR0.1
  have hn5 : nativeFrameWords "java/lang/System" "arraycopy" 5 + 11 + 8 ≤ 64 := by decide +kernel
  obtain ⟨vm', X', step⟩ := X0.arraycopy hx hown (hts _ F.1) (hts _ F.2.1) (hts _ F.2.2.1) (hts _ F.2.2.2) (src := base + a0) (dst := base + a) (cs := vp_cell (cy 12) (m_len M a0, .inl (m_I M a0))) (cd := vp_cell (cy 12) (m_len M a, .inl (m_I M a))) (srcPos := sp) (destPos := dp) (n := n) (by rw [hT]; exact he0) (by rw [hT]; exact he1)
    (fun _ h => by cases h) (fun _ h => by cases h) (fun h => by cases h) (fun h => by cases h) hk0' hk1' hkk0 hkk1 (by simp [m_aty, refKind]) h1 h2 h3
    (by rw [nn sp h1, nn n h3]; show ¬ _ > ((arrV _ _ (fun j => .int (m_I M a0 j))).slots.size : Int); rw [arrV_size]; omega)
    (by rw [nn dp h2, nn n h3]; show ¬ _ > ((arrV _ _ (fun j => .int (m_I M a j))).slots.size : Int); rw [arrV_size]; omega)
    (fun vm₁ _ i hi => by
      have e9 : (vp_cell (cy 12) (m_len M a0, .inl (m_I M a0))).slots.getD (sp.toNatClampNeg + i) .null = .int (m_I M a0 (sp.toNatClampNeg + i)) := by
        show (arrV _ _ (fun j => .int (m_I M a0 j))).slots.getD _ _ = _
        rw [Array.getD_eq_getD_getElem?, arrV_read _ _ (by omega)]
        rfl
      exact ⟨by rw [e9]; rfl, by rw [e9]; exact trivial⟩)
    (g := F0 m pc ls (.int n :: .int dp :: .ref (base + a) :: .int sp :: .ref (base + a0) :: st.map (m_v base ad))) rfl (by rw [hml]; exact hl.1) (rest := st.map (m_v base ad)) rfl (by rw [hb]; exact hd) (by omega) (by show 2 * 0 + _ + _ ≤ _; omega)
  have e1 : copied (vp_cell (cy 12) (m_len M a0, .inl (m_I M a0))) (vp_cell (cy 12) (m_len M a, .inl (m_I M a))) sp dp n = vp_cell (cy 12) (m_len M a, .inl (va_cpy (m_I M a0) (m_I M a) sp.toNatClampNeg dp.toNatClampNeg n.toNatClampNeg)) := va_copied (fun z => .int z) (cy 12) (cy 12) (m_I M a0) (m_I M a) h4
  rw [e1] at X' step
  have hlt : base + a < H.size := (Array.getElem?_eq_some_iff.mp he1).1
  obtain ⟨cn, hcn⟩ : ∃ cn, cn = vp_cell (cy 12) (m_len M a, .inl (va_cpy (m_I M a0) (m_I M a) sp.toNatClampNeg dp.toNatClampNeg n.toNatClampNeg)) := ⟨_, rfl⟩
  rw [← hcn] at X' step
  have hheap : ((T.setVm vm').setCell (base + a) cn).heap = H.setIfInBounds (base + a) cn := by rw [← hT]; rfl
  have oq : ∀ q : Nat, q ≠ base + a → (H.setIfInBounds (base + a) cn)[q]? = H[q]? := fun q hq => by simp [Array.getElem?_setIfInBounds, Ne.symm hq]
  have hz : (H.setIfInBounds (base + a) cn).size = H.size := by simp
  have hnew : (H.setIfInBounds (base + a) cn)[base + a]? = some cn := by simp [Array.getElem?_setIfInBounds, hlt]
  obtain ⟨t, a1, c1⟩ := k _ _ ls (hR.put (a := a) rfl (fun j hj => m_E_wI hj) (by
      rw [m_E_int (M := m_wI M a _) (kd := 12) b4 (by omega)]
      show (H.setIfInBounds (base + a) cn)[base + a]? = some (vp_cell _ _)
      rw [hnew, hcn]
      have e2 : m_I (m_wI M a (va_cpy (m_I M a0) (m_I M a) sp.toNatClampNeg dp.toNatClampNeg n.toNatClampNeg)) a = va_cpy (m_I M a0) (m_I M a) sp.toNatClampNeg dp.toNatClampNeg n.toNatClampNeg := by funext j; simp [m_I, m_wI]
      rw [e2]
      rfl) hz oq) ⟨by rw [hz]; exact hS.1, fun q g1 g2 => by
      rw [oq q (fun e => g2 (by rw [e]; exact Nat.le_add_right _ _))]
      exact hS.2.1 q g1 g2, fun q hq => by
      rcases List.mem_append.mp hq with h | h
      · exact hS.2.2 q h
      · obtain ⟨z, -, hz⟩ := List.mem_map.mp h
        rw [← hz]
        exact Nat.le_add_right _ _⟩ hl _ hheap X'
  exact ⟨t, step t a1, c1⟩
theorem j_copyL (C : j_C0 X y cc nL d mc ms) {idx a0 a : Nat} {sp dp n : Int32} (F : j_cpw y.cls idx) (hk0 : m_K M a0 = 13) (hk1 : m_K M a = 13) (h1 : ¬ sp < 0) (h2 : ¬ dp < 0) (h3 : ¬ n < 0) (h4 : sp.toNatClampNeg + n.toNatClampNeg ≤ m_len M a0) (h5 : dp.toNatClampNeg + n.toNatClampNeg ≤ m_len M a) (hdd : 0 < d) (hw : (st.map fun v => v.category).sum ≤ 8) (hd : decode cc pc = .ok (.invokestatic idx, 3))
    (k : j_J X nL (pc + 3) lv st g (m_wL M a (va_cpy (m_L M a0) (m_L M a) sp.toNatClampNeg dp.toNatClampNeg n.toNatClampNeg))) : j_J X nL pc lv (.int n :: .int dp :: .ref a :: .int sp :: .ref a0 :: st) g M := by
  obtain ⟨p, l, e, R, s, m, args, below, meth, c, Q, D, cy, base, ad⟩ := X
  obtain ⟨hx, hb, hml, hown, hts, hK, hbs, hCs, hR0, hname⟩ := C
  intro H locs ls hR hS hl
  obtain ⟨b1, b2⟩ := m_lt hk0 (by omega)
  obtain ⟨b3, b4⟩ := m_lt hk1 (by omega)
  have he0 : H[base + a0]? = some (vp_cell (cy 13) (m_len M a0, .inr (.inl (m_L M a0)))) := j_arr hR b1 b2 (by omega) (m_E_long b2)
  have he1 : H[base + a]? = some (vp_cell (cy 13) (m_len M a, .inr (.inl (m_L M a)))) := j_arr hR b3 b4 (by omega) (m_E_long b4)
  have hw' : ((st.map (m_v base ad)).map fun v => v.category).sum ≤ 8 := by
    rw [List.map_map]
    have e9 : ((fun v : Value => v.category) ∘ m_v base ad) = fun v : Value => v.category := by funext v; exact m_v_cat base ad v
    rw [e9]; exact hw
  simp only [List.map_cons, m_v, m_ad_lt hR b1, m_ad_lt hR b3]
  have nn : ∀ z : Int32, ¬ z < 0 → z.toInt = (z.toNatClampNeg : Int) := by
    intro z hz
    have hz0 : (0 : Int) ≤ z.toInt := by
      have := Int32.not_lt.mp hz
      simpa using Int32.le_iff_toInt_le.mp this
    show z.toInt = ((z.toInt.toNat : Nat) : Int)
    omega
  intro T hT X0
  have ht := m_tys_at cy (kd := 13) (by omega) (by omega)
  obtain ⟨-, k0, hk0', cm0, hkk0⟩ := (hK.2 _ _ ht).1 (m_len M a0) (fun j => .long (m_L M a0 j))
  obtain ⟨-, k1, hk1', cm1, hkk1⟩ := (hK.2 _ _ ht).1 (m_len M a) (fun j => .long (m_L M a j))
  have hlr := hR0.2.1
  have hfr := hR0.1
  have hn5 : nativeFrameWords "java/lang/System" "arraycopy" 5 + 11 + 8 ≤ 64 := by decide +kernel
  obtain ⟨vm', X', step⟩ := X0.arraycopy hx hown (hts _ F.1) (hts _ F.2.1) (hts _ F.2.2.1) (hts _ F.2.2.2) (src := base + a0) (dst := base + a) (cs := vp_cell (cy 13) (m_len M a0, .inr (.inl (m_L M a0)))) (cd := vp_cell (cy 13) (m_len M a, .inr (.inl (m_L M a)))) (srcPos := sp) (destPos := dp) (n := n) (by rw [hT]; exact he0) (by rw [hT]; exact he1)
    (fun _ h => by cases h) (fun _ h => by cases h) (fun h => by cases h) (fun h => by cases h) hk0' hk1' hkk0 hkk1 (by simp [m_aty, refKind]) h1 h2 h3
    (by rw [nn sp h1, nn n h3]; show ¬ _ > ((arrV _ _ (fun j => .long (m_L M a0 j))).slots.size : Int); rw [arrV_size]; omega)
    (by rw [nn dp h2, nn n h3]; show ¬ _ > ((arrV _ _ (fun j => .long (m_L M a j))).slots.size : Int); rw [arrV_size]; omega)
    (fun vm₁ _ i hi => by
      have e9 : (vp_cell (cy 13) (m_len M a0, .inr (.inl (m_L M a0)))).slots.getD (sp.toNatClampNeg + i) .null = .long (m_L M a0 (sp.toNatClampNeg + i)) := by
        show (arrV _ _ (fun j => .long (m_L M a0 j))).slots.getD _ _ = _
        rw [Array.getD_eq_getD_getElem?, arrV_read _ _ (by omega)]
        rfl
      exact ⟨by rw [e9]; rfl, by rw [e9]; exact trivial⟩)
    (g := F0 m pc ls (.int n :: .int dp :: .ref (base + a) :: .int sp :: .ref (base + a0) :: st.map (m_v base ad))) rfl (by rw [hml]; exact hl.1) (rest := st.map (m_v base ad)) rfl (by rw [hb]; exact hd) (by omega) (by show 2 * 0 + _ + _ ≤ _; omega)
  have e1 : copied (vp_cell (cy 13) (m_len M a0, .inr (.inl (m_L M a0)))) (vp_cell (cy 13) (m_len M a, .inr (.inl (m_L M a)))) sp dp n = vp_cell (cy 13) (m_len M a, .inr (.inl (va_cpy (m_L M a0) (m_L M a) sp.toNatClampNeg dp.toNatClampNeg n.toNatClampNeg))) := va_copied (fun z => .long z) (cy 13) (cy 13) (m_L M a0) (m_L M a) h4
  rw [e1] at X' step
  have hlt : base + a < H.size := (Array.getElem?_eq_some_iff.mp he1).1
  obtain ⟨cn, hcn⟩ : ∃ cn, cn = vp_cell (cy 13) (m_len M a, .inr (.inl (va_cpy (m_L M a0) (m_L M a) sp.toNatClampNeg dp.toNatClampNeg n.toNatClampNeg))) := ⟨_, rfl⟩
  rw [← hcn] at X' step
  have hheap : ((T.setVm vm').setCell (base + a) cn).heap = H.setIfInBounds (base + a) cn := by rw [← hT]; rfl
  have oq : ∀ q : Nat, q ≠ base + a → (H.setIfInBounds (base + a) cn)[q]? = H[q]? := fun q hq => by simp [Array.getElem?_setIfInBounds, Ne.symm hq]
  have hz : (H.setIfInBounds (base + a) cn).size = H.size := by simp
  have hnew : (H.setIfInBounds (base + a) cn)[base + a]? = some cn := by simp [Array.getElem?_setIfInBounds, hlt]
  obtain ⟨t, a1, c1⟩ := k _ _ ls (hR.put (a := a) rfl (fun j hj => m_E_wL hj) (by
      rw [m_E_long (M := m_wL M a _) b4]
      show (H.setIfInBounds (base + a) cn)[base + a]? = some (vp_cell _ _)
      rw [hnew, hcn]
      have e2 : m_L (m_wL M a (va_cpy (m_L M a0) (m_L M a) sp.toNatClampNeg dp.toNatClampNeg n.toNatClampNeg)) a = va_cpy (m_L M a0) (m_L M a) sp.toNatClampNeg dp.toNatClampNeg n.toNatClampNeg := by funext j; simp [m_L, m_wL]
      rw [e2]
      rfl) hz oq) ⟨by rw [hz]; exact hS.1, fun q g1 g2 => by
      rw [oq q (fun e => g2 (by rw [e]; exact Nat.le_add_right _ _))]
      exact hS.2.1 q g1 g2, fun q hq => by
      rcases List.mem_append.mp hq with h | h
      · exact hS.2.2 q h
      · obtain ⟨z, -, hz⟩ := List.mem_map.mp h
        rw [← hz]
        exact Nat.le_add_right _ _⟩ hl _ hheap X'
  exact ⟨t, step t a1, c1⟩
theorem j_callN (C : j_C0 X y cc nL d mc ms) {idx d' mc' ms' nL' n : Nat} {y' : MethodName} {cc' : ByteArray} {Φ' : Option Value → m_M → Prop} {a : Nat} {as rest : List Value} (F : j_IN y.cls idx y' cc' nL' n) (hc : j_Ct y' cc' nL' none d' mc' ms' (.ref a :: as) M Φ') (hn : as.length = n) (hst : st = as.reverse ++ .ref a :: rest) (hdd : d' < d) (hg : g.1 + mc' ≤ mc ∧ g.2 + ms' ≤ ms) (hw : (rest.map fun v => v.category).sum ≤ 8) (hd : decode cc pc = .ok (.invokespecial idx, 3)) (k : ∀ (v : Option Value) (M' : m_M), Φ' v M' → j_J X nL (pc + 3) lv (v.toList ++ rest) (g.1 + mc', g.2 + ms') M') : j_J X nL pc lv st g M := by
  obtain ⟨p, l, e, R, s, m, args, below, meth, c, Q, D, cy, base, ad⟩ := X
  obtain ⟨hx, hb, hml, hown, hts, hK, hbs, hCs, hR0, hname⟩ := C
  intro H locs ls hR hS hl
  subst hst
  have hw' : ((rest.map (m_v base ad)).map fun v => v.category).sum ≤ 8 := by
    rw [List.map_map]
    have e9 : ((fun v : Value => v.category) ∘ m_v base ad) = fun v : Value => v.category := by funext v; exact m_v_cat base ad v
    rw [e9]; exact hw
  have hg' : g.1 + mc' ≤ R.cells ∧ g.2 + ms' ≤ R.slots := by rw [hR0.2.2.1, hR0.2.2.2]; exact hg
  obtain ⟨⟨host, F1⟩, F2, F3, F4, F5, F6, F7, F8⟩ := F
  obtain ⟨r1, r2, r3, r4⟩ := hR0
  have hM := hc l D cy base ad
  refine j_run hS hl (va_runIN (b := m_ad base ad a) (As := as.map (m_v base ad)) ⟨hx, hb, hml, hown, hts⟩ hM ⟨va_cnB n hts (j_good F2) rfl rfl rfl (hCs.2.2.2.2.1 _ F1) (hts _ F3) ⟨F4.1, F4.2, F5⟩ ⟨by show d' + 1 ≤ R.frames; omega, by show 8 + (nL' + 11) + 64 * d' ≤ R.locals; omega⟩, F7, hts _ F8⟩ ⟨j_P.blind, fun U hU hW => j_pre (as := .ref a :: as) hR hK hCs hbs hS hU hW⟩ rfl (by rw [List.length_map]; exact hn) hl.1 (by simp [m_v]) (lv_room hw') hd hg') k
end J_MORE
