/-! The words that every contract stands on; a contract; the judgement: from here, with this memory, the method comes to its end as its contract says. -/
abbrev j_rm (d mc ms : Nat) : Room := { frames := d, cells := mc, slots := ms, locals := 64 * d }
/-! what is known of the constants: their cells lie below base and never change: 0 to 19 the Words, 20 Word.ALL, 21 MOST_OF_KIND, 22 the text of the signs, 23 its bytes, 24 the text of the exception -/
def k_wn : List String := ["PLACES", "THING_LINE", "WEIGH", "BEND_LINE", "VERB_LINE", "WEEK", "SILENT", "SPEAKER_LINE", "WANTS", "BRIBE", "NOT_SO", "BOTH", "EITHER", "FIRST", "SECOND", "LIGHT", "HEAVY", "ALIKE", "PLACE", "WEIGHT"]
def k_wl : List Int64 := [235981828, 10793230, 12328316, 43393, 437159, 456500, 277652441, 7593256863, 12253591, 1423796, 10631, 1111, 423, 3379448, 275356804, 6559778, 4351291, 774500, 8740067, 332864552]
def k_wr : List Int32 := [1, 1, 1, 1, 1, 1, 1, 1, 1, 1, 1, 1, 1, 0, 0, 0, 0, 0, 0, 0]
def k_wo : List Int32 := [-1, -1, -1, -1, -1, -1, -1, -1, -1, -1, -1, -1, -1, 2, 2, 2, 2, 2, 1, 1]
def k_wf : List Int32 := [-1, -1, -1, -1, -1, -1, -1, -1, -1, -1, -1, -1, -1, 0, 1, 2, 3, 4, 0, 1]
def k_most : List Int32 := [5, 3, 6, 3]
def k_sg : List Int32 := [40, 41, 60, 61, 43, 45, 42, 59]
def k_W (A : Nat → Prop) (ad : Nat → Nat) (j : Nat) (U : State) (H : Heap) : Prop := va_Z "OneVerb$Word" (k_wn.getD j "") "LOneVerb$Word;" (.ref (ad j)) A U H ∧ va_OF "OneVerb$Word" "letters" "J" (.long (k_wl.getD j 0)) (ad j) A U H ∧ va_OF "OneVerb$Word" "reserved" "Z" (.int (k_wr.getD j 0)) (ad j) A U H ∧ va_OF "OneVerb$Word" "owner" "I" (.int (k_wo.getD j 0)) (ad j) A U H ∧ va_OF "OneVerb$Word" "fact" "I" (.int (k_wf.getD j 0)) (ad j) A U H
theorem k_W.moved {A : Nat → Prop} {ad : Nat → Nat} {j : Nat} {u U : State} {H : Heap} (hvm : u.vm.Alike U.vm) (h : k_W A ad j u H) : k_W A ad j U H := ⟨va_Z.moved hvm h.1, va_OF.moved hvm h.2.1, va_OF.moved hvm h.2.2.1, va_OF.moved hvm h.2.2.2.1, va_OF.moved hvm h.2.2.2.2⟩
theorem k_W.kept {A : Nat → Prop} {ad : Nat → Nat} {j : Nat} {U : State} {H H1 : Heap} (h : k_W A ad j U H) (hq : ∀ a : Nat, a < H.size → ¬ A a → H1[a]? = H[a]?) : k_W A ad j U H1 := ⟨h.1.kept hq, h.2.1.kept hq, h.2.2.1.kept hq, h.2.2.2.1.kept hq, h.2.2.2.2.kept hq⟩
/-- all of the constants but the texts' warm form -/
def k_G (A : Nat → Prop) (ad : Nat → Nat) (U : State) (H : Heap) : Prop := (∀ j, j < 20 → k_W A ad j U H) ∧ (∀ i j, i < 20 → j < 20 → ad i = ad j → i = j) ∧ va_Z "OneVerb$Word" "ALL" "[LOneVerb$Word;" (.ref (ad 20)) A U H ∧ va_T (.object "OneVerb$Word") (ad 20) 20 (fun j => .ref (ad j)) A U H ∧ va_Z "OneVerb" "MOST_OF_KIND" "[I" (.ref (ad 21)) A U H ∧ va_T .int (ad 21) 4 (fun j => .int (k_most.getD j 0)) A U H ∧
  va_Z "java/lang/String" "COMPACT_STRINGS" "Z" (.int 1) A U H ∧ vk_S 1 [8] [k_sg] (fun _ => ad 22) (fun _ => ad 23) A U H
theorem k_G.moved {A : Nat → Prop} {ad : Nat → Nat} {u U : State} {H : Heap} (hvm : u.vm.Alike U.vm) (h : k_G A ad u H) : k_G A ad U H := ⟨fun j hj => (h.1 j hj).moved hvm, h.2.1, va_Z.moved hvm h.2.2.1, va_T.moved hvm h.2.2.2.1, va_Z.moved hvm h.2.2.2.2.1, va_T.moved hvm h.2.2.2.2.2.1, va_Z.moved hvm h.2.2.2.2.2.2.1, vk_S.moved hvm h.2.2.2.2.2.2.2⟩
theorem k_G.kept {A : Nat → Prop} {ad : Nat → Nat} {U : State} {H H1 : Heap} (h : k_G A ad U H) (hq : ∀ a : Nat, a < H.size → ¬ A a → H1[a]? = H[a]?) : k_G A ad U H1 := ⟨fun j hj => (h.1 j hj).kept hq, h.2.1, h.2.2.1.kept hq, h.2.2.2.1.kept hq, h.2.2.2.2.1.kept hq, h.2.2.2.2.2.1.kept hq, h.2.2.2.2.2.2.1.kept hq, h.2.2.2.2.2.2.2.kept hq⟩
/-- the words of links across a nest (they are no words of a contract's list) -/
def k_nests : List Cond := [.fieldLinkNest "OneVerb$LandReader" 126 "OneVerb" "MOST_OF_KIND" "[I" "OneVerb", .methodLinkNest "OneVerb$Meaning" 21 ⟨"OneVerb$WorldSet", "<init>", "()V"⟩ "OneVerb", .methodLinkNest "OneVerb$Finder" 30 ⟨"OneVerb$WorldSet", "<init>", "()V"⟩ "OneVerb", .methodLinkNest "OneVerb" 64 ⟨"OneVerb$Book", "<init>", "()V"⟩ "OneVerb", .methodLinkNest "OneVerb" 79 ⟨"OneVerb$WorldSet", "<init>", "()V"⟩ "OneVerb", .methodLinkNest "OneVerb$Saying" 9 ⟨"OneVerb$WorldSet", "<init>", "()V"⟩ "OneVerb"]
def k_N (U : State) : Prop := ∀ w ∈ k_nests, va_Nw w U
theorem k_N.warm {u U : State} (hW : u.WarmedH U.vm) (h : k_N u) : k_N U := by
  intro w hw
  have h1 := h w hw
  simp only [k_nests, List.mem_cons, List.not_mem_nil, or_false] at hw
  rcases hw with rfl | rfl | rfl | rfl | rfl | rfl
  · exact va_Nw.warmF hW h1
  · exact va_Nw.warmM hW h1
  · exact va_Nw.warmM hW h1
  · exact va_Nw.warmM hW h1
  · exact va_Nw.warmM hW h1
  · exact va_Nw.warmM hW h1
/-- what a throw needs beside good words; arrays of references -/
def k_ew : List Cond := [.castable "java/util/NoSuchElementException" "java/util/NoSuchElementException", .declares ⟨"java/lang/RuntimeException", "<init>", "(Ljava/lang/String;)V"⟩, .declares ⟨"java/lang/Exception", "<init>", "(Ljava/lang/String;)V"⟩, .declares ⟨"java/lang/Throwable", "<init>", "(Ljava/lang/String;)V"⟩]
theorem k_decl {x : MethodName} {u U : State} (hW : u.WarmedH U.vm) (h : va_Nw (.declares x) u) : va_Nw (.declares x) U := va_tabs rfl (rfl : (u.setVm U.vm).vm = U.vm) (by rw [Cond.declares_setVm hW.alike]; exact h)
def k_E (U : State) : Prop := (∀ w ∈ k_ew, va_Nw w U) ∧ va_AO "OneVerb$Book" U ∧ va_AO "OneVerb$Saying" U ∧ va_AO "OneVerb$WorldSet" U
theorem k_E.warm {u U : State} (hW : u.WarmedH U.vm) (h : k_E u) : k_E U := by
  refine ⟨fun w hw => ?_, h.2.1.moved hW.alike, h.2.2.1.moved hW.alike, h.2.2.2.moved hW.alike⟩
  have h1 := h.1 w hw
  simp only [k_ew, List.mem_cons, List.not_mem_nil, or_false] at hw
  rcases hw with rfl | rfl | rfl | rfl
  · exact va_Nw.warmC hW h1
  · exact k_decl hW h1
  · exact k_decl hW h1
  · exact k_decl hW h1
def k_Th (A : Nat → Prop) (U : State) (H : Heap) : Prop := vx_Zq Bundle.tN "UNASSIGNED_STACK" Bundle.steD A U H ∧ vx_Zq Bundle.tN "SUPPRESSED_SENTINEL" Bundle.listD A U H
def j_Cs (base : Nat) (ad : Nat → Nat) (U : State) : Prop := k_G (fun q => base ≤ q) ad U U.heap ∧ (∀ j, j < 25 → ad j < base) ∧ vk_R "OneVerb$Tokens" 84 "()<=+-*;" (ad 22) U ∧ vk_R "OneVerb" 270 "no such choices of the speakers" (ad 24) U ∧ k_N U ∧ k_E U ∧ k_Th (fun q => base ≤ q) U U.heap
theorem j_Cs.moved {base : Nat} {ad : Nat → Nat} {u U : State} (hW : u.WarmedH U.vm) (hz : base ≤ u.heap.size) (hh : ∀ q : Nat, q < base → U.heap[q]? = u.heap[q]?) (h : j_Cs base ad u) : j_Cs base ad U :=
  ⟨(h.1.kept (H1 := U.heap) (fun a _ hA => hh a (Nat.not_le.mp hA))).moved hW.alike, h.2.1, h.2.2.1.warm hW, h.2.2.2.1.warm hW, h.2.2.2.2.1.warm hW, h.2.2.2.2.2.1.warm hW, (h.2.2.2.2.2.2.1.kept (H1 := U.heap) (fun a _ hA => hh a (Nat.not_le.mp hA))).moved hW.alike, (h.2.2.2.2.2.2.2.kept (H1 := U.heap) (fun a _ hA => hh a (Nat.not_le.mp hA))).moved hW.alike⟩
def j_P (D : va_G) (cy : Nat → ClassId) (base : Nat) (ad : Nat → Nat) (as : List Value) (M : m_M) : Array Value → State → Prop := fun a U => a = (as.map (m_v base ad)).toArray ∧ m_Rel D cy base ad M U.heap ∧ va_K D vwCl (m_tys cy) U ∧ j_Cs base ad U
def j_Q (D : va_G) (cy : Nat → ClassId) (base : Nat) (ad : Nat → Nat) (Φ : Option Value → m_M → Prop) : Array Value → State → Outcome → State → Prop := fun _ st oc t => (∃ (v : Option Value) (M' : m_M), oc = .returned (v.map (m_v base ad)) ∧ Φ v M' ∧ m_Rel D cy base ad M' t.heap) ∧ va_F (fun q => base ≤ q) st t
/-- A CONTRACT: called with these arguments in this memory the method returns, and Φ holds of its answer and of the memory then; at most mc cells of ms slots are made; d frames are enough -/
def j_Ct (y : MethodName) (cc : ByteArray) (nL : Nat) (ret : Option FieldType) (d mc ms : Nat) (as : List Value) (M : m_M) (Φ : Option Value → m_M → Prop) : Prop :=
  ∀ (l : Launch) (D : va_G) (cy : Nat → ClassId) (base : Nat) (ad : Nat → Nat), Met l y (Cond.code y cc nL ret :: j_tbl) (j_rm d mc ms) (j_P D cy base ad as M) (j_Q D cy base ad Φ) mc ms (fun q => base ≤ q)
abbrev j_X : Type := Program × Launch × Env × Room × State × MethodId × Array Value × List Frame × Method × Code × (State → Prop) × va_G × (Nat → ClassId) × Nat × (Nat → Nat)
/-- the context of a walk -/
def j_rmok (R : Room) (d mc ms : Nat) : Prop := d ≤ R.frames ∧ 64 * d ≤ R.locals ∧ R.cells = mc ∧ R.slots = ms
def j_C0 (X : j_X) (y : MethodName) (cc : ByteArray) (nL : Nat) (d mc ms : Nat) : Prop := match X with
  | (p, _, _, R, s, m, args, _, meth, c, _, D, cy, base, ad) => p.tables.exec = Jvm.exec ∧ c.code = cc ∧ c.maxLocals = nL ∧ s.vm.findClass y.cls = some m.cls ∧ (∀ w ∈ j_tbl, w.before args s = true) ∧ va_K D vwCl (m_tys cy) s ∧ base ≤ s.heap.size ∧ j_Cs base ad s ∧ j_rmok R d mc ms ∧ meth.name = y.name
def j_C (X : j_X) (y : MethodName) (cc : ByteArray) (nL : Nat) (ret : Option FieldType) (d mc ms : Nat) (Φ : Option Value → m_M → Prop) : Prop := j_C0 X y cc nL d mc ms ∧ match X with
  | (_, _, _, _, s, _, args, below, meth, _, Q, D, cy, base, ad) => meth.sig.returnType = ret ∧ meth.locks = false ∧ Q = MQ below (j_Q D cy base ad Φ) args s mc ms (fun q => base ≤ q)
/-- THE JUDGEMENT -/
def j_J (X : j_X) (nL : Nat) (pc : Nat) (lv : List (Option Value)) (st : List Value) (g : Nat × Nat) (M : m_M) : Prop := match X with
  | (p, l, e, R, s, m, args, below, meth, c, Q, D, cy, base, ad) => ∀ (H : Heap) (locs : List Loc) (ls : Array Slot), m_Rel D cy base ad M H → va_S (fun q => base ≤ q) s.heap H locs → j_lv (m_v base ad) ls nL lv →
    W p l e R s m args below meth c H locs g.1 g.2 Q (F0 m pc ls (st.map (m_v base ad)))
theorem j_Ct.of {y : MethodName} {cc : ByteArray} {nL : Nat} {ret : Option FieldType} {d mc ms : Nat} {as : List Value} {M : m_M} {Φ : Option Value → m_M → Prop} (hy : plainName y.cls = true) (hl : (lg_sl as).length ≤ nL)
    (h : ∀ X : j_X, j_C X y cc nL ret d mc ms Φ → j_J X nL 0 (j_ent nL as) [] (0, 0) M) : j_Ct y cc nL ret d mc ms as M Φ := by
  intro l D cy base ad
  refine Met.ofW (cc := cc) (maxL := nL) (ret := ret) hy rfl ?_
  intro p e s m args below meth c s₁ B hml hv
  obtain ⟨rfl, hR, hK, hCs⟩ := hv
  have hts0 := atoms_spec (ws := Cond.code y cc nL ret :: j_tbl) B.pre
  have hts : ∀ w ∈ j_tbl, w.before ((as.map (m_v base ad)).toArray) s = true := fun w hw => hts0 w (List.mem_cons_of_mem _ hw)
  have hown : s.vm.findClass y.cls = some m.cls := findClass_of_methodNamed B.named
  have hb0 : base ≤ s.heap.size := by rw [hR.1]; omega
  have hl2 : (lg_sl (as.map (m_v base ad))).length ≤ nL := by
    have e : ∀ vs : List Value, (lg_sl (vs.map (m_v base ad))).length = (lg_sl vs).length := by
      intro vs
      induction vs with
      | nil => rfl
      | cons v vs ih =>
        simp only [lg_sl, List.map_cons, List.flatMap_cons, List.length_append, m_v_cat] at ih ⊢
        rw [ih]
        split <;> rfl
    rw [e]; exact hl
  have hj := h (p, l, e, (headSpec (Cond.code y cc nL ret :: j_tbl) (j_rm d mc ms)).room, s, m, (as.map (m_v base ad)).toArray, below, meth, c, MQ below (j_Q D cy base ad Φ) ((as.map (m_v base ad)).toArray) s mc ms (fun q => base ≤ q), D, cy, base, ad)
    ⟨⟨B.exec, B.bytes, hml, hown, hts, hK, hb0, hCs, ⟨Nat.le_refl _, Nat.le_refl _, rfl, rfl⟩, (name_of_methodNamed B.named B.method).1⟩, B.returns, B.notSynchronized, rfl⟩
  rw [lg_entry_eq]
  exact hj s.heap [] _ hR va_S.rf (j_entry (m_v_cat base ad) as hl2)
section J_ROWS
variable {X : j_X} {y : MethodName} {cc : ByteArray} {nL : Nat} {ret : Option FieldType} {d mc ms : Nat} {Φ : Option Value → m_M → Prop} {pc : Nat} {lv : List (Option Value)} {st : List Value} {g : Nat × Nat} {M : m_M}

theorem j_iconst (C : j_C0 X y cc nL d mc ms) {n : Int} {v : Int32} (hd : decode cc pc = .ok (.iconst n, 1)) (hv : Int32.ofInt n = v) (k : j_J X nL (pc + 1) lv (.int v :: st) g M) : j_J X nL pc lv (st) g M := by
  obtain ⟨p, l, e, R, s, m, args, below, meth, c, Q, D, cy, base, ad⟩ := X
  obtain ⟨hx, hb, hml, hown, hts, hK, hbs, hCs, hR0, hname⟩ := C
  intro H locs ls hR hS hl
  exact lv_iconst hx hb hd hv (k H locs ls hR hS hl)

theorem j_bipush (C : j_C0 X y cc nL d mc ms) {n : Int} {v : Int32} (hd : decode cc pc = .ok (.bipush n, 2)) (hv : (Int8.ofInt n).toInt32 = v) (k : j_J X nL (pc + 2) lv (.int v :: st) g M) : j_J X nL pc lv (st) g M := by
  obtain ⟨p, l, e, R, s, m, args, below, meth, c, Q, D, cy, base, ad⟩ := X
  obtain ⟨hx, hb, hml, hown, hts, hK, hbs, hCs, hR0, hname⟩ := C
  intro H locs ls hR hS hl
  exact lv_bipush hx hb hd hv (k H locs ls hR hS hl)

theorem j_sipush (C : j_C0 X y cc nL d mc ms) {n : Int} {v : Int32} (hd : decode cc pc = .ok (.sipush n, 3)) (hv : (Int16.ofInt n).toInt32 = v) (k : j_J X nL (pc + 3) lv (.int v :: st) g M) : j_J X nL pc lv (st) g M := by
  obtain ⟨p, l, e, R, s, m, args, below, meth, c, Q, D, cy, base, ad⟩ := X
  obtain ⟨hx, hb, hml, hown, hts, hK, hbs, hCs, hR0, hname⟩ := C
  intro H locs ls hR hS hl
  exact lv_sipush hx hb hd hv (k H locs ls hR hS hl)

theorem j_lconst (C : j_C0 X y cc nL d mc ms) {n : Fin 2} {v : Int64} (hd : decode cc pc = .ok (.lconst n, 1)) (hv : Int64.ofNat (n : Nat) = v) (k : j_J X nL (pc + 1) lv (.long v :: st) g M) : j_J X nL pc lv (st) g M := by
  obtain ⟨p, l, e, R, s, m, args, below, meth, c, Q, D, cy, base, ad⟩ := X
  obtain ⟨hx, hb, hml, hown, hts, hK, hbs, hCs, hR0, hname⟩ := C
  intro H locs ls hR hS hl
  exact lv_lconst hx hb hd hv (k H locs ls hR hS hl)

theorem j_ldc (C : j_C0 X y cc nL d mc ms) {index : Nat} {v : Int32} (hw : Cond.constant y.cls index v ∈ j_tbl) (hd : decode cc pc = .ok (.ldc index, 2)) (k : j_J X nL (pc + 2) lv (.int v :: st) g M) : j_J X nL pc lv (st) g M := by
  obtain ⟨p, l, e, R, s, m, args, below, meth, c, Q, D, cy, base, ad⟩ := X
  obtain ⟨hx, hb, hml, hown, hts, hK, hbs, hCs, hR0, hname⟩ := C
  intro H locs ls hR hS hl
  exact lv_ldc hx hb hown (hts _ hw) hd (k H locs ls hR hS hl)

theorem j_ldcw (C : j_C0 X y cc nL d mc ms) {index : Nat} {v : Int32} (hw : Cond.constant y.cls index v ∈ j_tbl) (hd : decode cc pc = .ok (.ldc_w index, 3)) (k : j_J X nL (pc + 3) lv (.int v :: st) g M) : j_J X nL pc lv (st) g M := by
  obtain ⟨p, l, e, R, s, m, args, below, meth, c, Q, D, cy, base, ad⟩ := X
  obtain ⟨hx, hb, hml, hown, hts, hK, hbs, hCs, hR0, hname⟩ := C
  intro H locs ls hR hS hl
  exact lv_ldcw hx hb hown (hts _ hw) hd (k H locs ls hR hS hl)

theorem j_ldc2 (C : j_C0 X y cc nL d mc ms) {index : Nat} {v : Int64} (hw : Cond.constantLong y.cls index v ∈ j_tbl) (hd : decode cc pc = .ok (.ldc2_w index, 3)) (k : j_J X nL (pc + 3) lv (.long v :: st) g M) : j_J X nL pc lv (st) g M := by
  obtain ⟨p, l, e, R, s, m, args, below, meth, c, Q, D, cy, base, ad⟩ := X
  obtain ⟨hx, hb, hml, hown, hts, hK, hbs, hCs, hR0, hname⟩ := C
  intro H locs ls hR hS hl
  exact lv_ldc2 hx hb hown (hts _ hw) hd (k H locs ls hR hS hl)

theorem j_null (C : j_C0 X y cc nL d mc ms) (hd : decode cc pc = .ok (.aconst_null, 1)) (k : j_J X nL (pc + 1) lv (.null :: st) g M) : j_J X nL pc lv (st) g M := by
  obtain ⟨p, l, e, R, s, m, args, below, meth, c, Q, D, cy, base, ad⟩ := X
  obtain ⟨hx, hb, hml, hown, hts, hK, hbs, hCs, hR0, hname⟩ := C
  intro H locs ls hR hS hl
  exact lv_null hx hb hd (k H locs ls hR hS hl)

theorem j_iload_n (C : j_C0 X y cc nL d mc ms) {q : Fin 4} {x : Int32} (hd : decode cc pc = .ok (.iload_n q, 1)) (h : lv[(q : Nat)]? = some (some (.int x))) (k : j_J X nL (pc + 1) lv (.int x :: st) g M) : j_J X nL pc lv (st) g M := by
  obtain ⟨p, l, e, R, s, m, args, below, meth, c, Q, D, cy, base, ad⟩ := X
  obtain ⟨hx, hb, hml, hown, hts, hK, hbs, hCs, hR0, hname⟩ := C
  intro H locs ls hR hS hl
  exact lv_iload_n hx hb hd rfl (hl.2.2 _ _ h) (k H locs ls hR hS hl)

theorem j_iload (C : j_C0 X y cc nL d mc ms) {i : Nat} {x : Int32} (hd : decode cc pc = .ok (.iload i, 2)) (h : lv[i]? = some (some (.int x))) (k : j_J X nL (pc + 2) lv (.int x :: st) g M) : j_J X nL pc lv (st) g M := by
  obtain ⟨p, l, e, R, s, m, args, below, meth, c, Q, D, cy, base, ad⟩ := X
  obtain ⟨hx, hb, hml, hown, hts, hK, hbs, hCs, hR0, hname⟩ := C
  intro H locs ls hR hS hl
  exact lv_iload hx hb hd (hl.2.2 _ _ h) (k H locs ls hR hS hl)

theorem j_lload_n (C : j_C0 X y cc nL d mc ms) {q : Fin 4} {x : Int64} (hd : decode cc pc = .ok (.lload_n q, 1)) (h : lv[(q : Nat)]? = some (some (.long x))) (k : j_J X nL (pc + 1) lv (.long x :: st) g M) : j_J X nL pc lv (st) g M := by
  obtain ⟨p, l, e, R, s, m, args, below, meth, c, Q, D, cy, base, ad⟩ := X
  obtain ⟨hx, hb, hml, hown, hts, hK, hbs, hCs, hR0, hname⟩ := C
  intro H locs ls hR hS hl
  exact lv_lload_n hx hb hd rfl (hl.2.2 _ _ h) (k H locs ls hR hS hl)

theorem j_lload (C : j_C0 X y cc nL d mc ms) {i : Nat} {x : Int64} (hd : decode cc pc = .ok (.lload i, 2)) (h : lv[i]? = some (some (.long x))) (k : j_J X nL (pc + 2) lv (.long x :: st) g M) : j_J X nL pc lv (st) g M := by
  obtain ⟨p, l, e, R, s, m, args, below, meth, c, Q, D, cy, base, ad⟩ := X
  obtain ⟨hx, hb, hml, hown, hts, hK, hbs, hCs, hR0, hname⟩ := C
  intro H locs ls hR hS hl
  exact lv_lload hx hb hd (hl.2.2 _ _ h) (k H locs ls hR hS hl)

theorem j_aload_n (C : j_C0 X y cc nL d mc ms) {q : Fin 4} {x : Nat} (hd : decode cc pc = .ok (.aload_n q, 1)) (h : lv[(q : Nat)]? = some (some (.ref x))) (k : j_J X nL (pc + 1) lv (.ref x :: st) g M) : j_J X nL pc lv (st) g M := by
  obtain ⟨p, l, e, R, s, m, args, below, meth, c, Q, D, cy, base, ad⟩ := X
  obtain ⟨hx, hb, hml, hown, hts, hK, hbs, hCs, hR0, hname⟩ := C
  intro H locs ls hR hS hl
  exact lv_aload_n hx hb hd rfl (hl.2.2 _ _ h) (k H locs ls hR hS hl)

theorem j_aload (C : j_C0 X y cc nL d mc ms) {i : Nat} {x : Nat} (hd : decode cc pc = .ok (.aload i, 2)) (h : lv[i]? = some (some (.ref x))) (k : j_J X nL (pc + 2) lv (.ref x :: st) g M) : j_J X nL pc lv (st) g M := by
  obtain ⟨p, l, e, R, s, m, args, below, meth, c, Q, D, cy, base, ad⟩ := X
  obtain ⟨hx, hb, hml, hown, hts, hK, hbs, hCs, hR0, hname⟩ := C
  intro H locs ls hR hS hl
  exact lv_aload hx hb hd (hl.2.2 _ _ h) (k H locs ls hR hS hl)

theorem j_aload_nN (C : j_C0 X y cc nL d mc ms) {q : Fin 4} (hd : decode cc pc = .ok (.aload_n q, 1)) (h : lv[(q : Nat)]? = some (some .null)) (k : j_J X nL (pc + 1) lv (.null :: st) g M) : j_J X nL pc lv (st) g M := by
  obtain ⟨p, l, e, R, s, m, args, below, meth, c, Q, D, cy, base, ad⟩ := X
  obtain ⟨hx, hb, hml, hown, hts, hK, hbs, hCs, hR0, hname⟩ := C
  intro H locs ls hR hS hl
  exact lv_aload_nN hx hb hd rfl (hl.2.2 _ _ h) (k H locs ls hR hS hl)

theorem j_aloadN (C : j_C0 X y cc nL d mc ms) {i : Nat} (hd : decode cc pc = .ok (.aload i, 2)) (h : lv[i]? = some (some .null)) (k : j_J X nL (pc + 2) lv (.null :: st) g M) : j_J X nL pc lv (st) g M := by
  obtain ⟨p, l, e, R, s, m, args, below, meth, c, Q, D, cy, base, ad⟩ := X
  obtain ⟨hx, hb, hml, hown, hts, hK, hbs, hCs, hR0, hname⟩ := C
  intro H locs ls hR hS hl
  exact lv_aloadN hx hb hd (hl.2.2 _ _ h) (k H locs ls hR hS hl)

theorem j_istore_n (C : j_C0 X y cc nL d mc ms) {q : Fin 4} {x : Int32} (hd : decode cc pc = .ok (.istore_n q, 1)) (hn : (q : Nat) < nL) (k : j_J X nL (pc + 1) (j_s1 lv (q : Nat) (.int x)) st g M) : j_J X nL pc lv (.int x :: st) g M := by
  obtain ⟨p, l, e, R, s, m, args, below, meth, c, Q, D, cy, base, ad⟩ := X
  obtain ⟨hx, hb, hml, hown, hts, hK, hbs, hCs, hR0, hname⟩ := C
  intro H locs ls hR hS hl
  obtain ⟨ls', e', h'⟩ := j_store1 (m_v_cat base ad) (v := .int x) hl hn rfl
  intro T hT X
  obtain ⟨t, a, b⟩ := k H locs ls' hR hS h' T hT X
  refine ⟨t, ?_, b⟩
  simp only [m_v] at e'
  jvm_step X.here [X.here.top, ↓top_set X.here.top, hx, hb, hd, e', m_v, List.map_cons]
  exact a

theorem j_istore (C : j_C0 X y cc nL d mc ms) {i : Nat} {x : Int32} (hd : decode cc pc = .ok (.istore i, 2)) (hn : i < nL) (k : j_J X nL (pc + 2) (j_s1 lv i (.int x)) st g M) : j_J X nL pc lv (.int x :: st) g M := by
  obtain ⟨p, l, e, R, s, m, args, below, meth, c, Q, D, cy, base, ad⟩ := X
  obtain ⟨hx, hb, hml, hown, hts, hK, hbs, hCs, hR0, hname⟩ := C
  intro H locs ls hR hS hl
  obtain ⟨ls', e', h'⟩ := j_store1 (m_v_cat base ad) (v := .int x) hl hn rfl
  intro T hT X
  obtain ⟨t, a, b⟩ := k H locs ls' hR hS h' T hT X
  refine ⟨t, ?_, b⟩
  simp only [m_v] at e'
  jvm_step X.here [X.here.top, ↓top_set X.here.top, hx, hb, hd, e', m_v, List.map_cons]
  exact a

theorem j_lstore_n (C : j_C0 X y cc nL d mc ms) {q : Fin 4} {x : Int64} (hd : decode cc pc = .ok (.lstore_n q, 1)) (hn : (q : Nat) + 1 < nL) (k : j_J X nL (pc + 1) (j_s2 lv (q : Nat) (.long x)) st g M) : j_J X nL pc lv (.long x :: st) g M := by
  obtain ⟨p, l, e, R, s, m, args, below, meth, c, Q, D, cy, base, ad⟩ := X
  obtain ⟨hx, hb, hml, hown, hts, hK, hbs, hCs, hR0, hname⟩ := C
  intro H locs ls hR hS hl
  obtain ⟨ls', e', h'⟩ := j_store2 (m_v_cat base ad) (v := .long x) hl hn rfl
  intro T hT X
  obtain ⟨t, a, b⟩ := k H locs ls' hR hS h' T hT X
  refine ⟨t, ?_, b⟩
  simp only [m_v] at e'
  jvm_step X.here [X.here.top, ↓top_set X.here.top, hx, hb, hd, e', m_v, List.map_cons]
  exact a

theorem j_lstore (C : j_C0 X y cc nL d mc ms) {i : Nat} {x : Int64} (hd : decode cc pc = .ok (.lstore i, 2)) (hn : i + 1 < nL) (k : j_J X nL (pc + 2) (j_s2 lv i (.long x)) st g M) : j_J X nL pc lv (.long x :: st) g M := by
  obtain ⟨p, l, e, R, s, m, args, below, meth, c, Q, D, cy, base, ad⟩ := X
  obtain ⟨hx, hb, hml, hown, hts, hK, hbs, hCs, hR0, hname⟩ := C
  intro H locs ls hR hS hl
  obtain ⟨ls', e', h'⟩ := j_store2 (m_v_cat base ad) (v := .long x) hl hn rfl
  intro T hT X
  obtain ⟨t, a, b⟩ := k H locs ls' hR hS h' T hT X
  refine ⟨t, ?_, b⟩
  simp only [m_v] at e'
  jvm_step X.here [X.here.top, ↓top_set X.here.top, hx, hb, hd, e', m_v, List.map_cons]
  exact a

theorem j_astore_n (C : j_C0 X y cc nL d mc ms) {q : Fin 4} {x : Nat} (hd : decode cc pc = .ok (.astore_n q, 1)) (hn : (q : Nat) < nL) (k : j_J X nL (pc + 1) (j_s1 lv (q : Nat) (.ref x)) st g M) : j_J X nL pc lv (.ref x :: st) g M := by
  obtain ⟨p, l, e, R, s, m, args, below, meth, c, Q, D, cy, base, ad⟩ := X
  obtain ⟨hx, hb, hml, hown, hts, hK, hbs, hCs, hR0, hname⟩ := C
  intro H locs ls hR hS hl
  obtain ⟨ls', e', h'⟩ := j_store1 (m_v_cat base ad) (v := .ref x) hl hn rfl
  intro T hT X
  obtain ⟨t, a, b⟩ := k H locs ls' hR hS h' T hT X
  refine ⟨t, ?_, b⟩
  simp only [m_v] at e'
  jvm_step X.here [X.here.top, ↓top_set X.here.top, hx, hb, hd, e', m_v, List.map_cons, Value.isRef]
  exact a

theorem j_astore (C : j_C0 X y cc nL d mc ms) {i : Nat} {x : Nat} (hd : decode cc pc = .ok (.astore i, 2)) (hn : i < nL) (k : j_J X nL (pc + 2) (j_s1 lv i (.ref x)) st g M) : j_J X nL pc lv (.ref x :: st) g M := by
  obtain ⟨p, l, e, R, s, m, args, below, meth, c, Q, D, cy, base, ad⟩ := X
  obtain ⟨hx, hb, hml, hown, hts, hK, hbs, hCs, hR0, hname⟩ := C
  intro H locs ls hR hS hl
  obtain ⟨ls', e', h'⟩ := j_store1 (m_v_cat base ad) (v := .ref x) hl hn rfl
  intro T hT X
  obtain ⟨t, a, b⟩ := k H locs ls' hR hS h' T hT X
  refine ⟨t, ?_, b⟩
  simp only [m_v] at e'
  jvm_step X.here [X.here.top, ↓top_set X.here.top, hx, hb, hd, e', m_v, List.map_cons, Value.isRef]
  exact a

theorem j_astore_nN (C : j_C0 X y cc nL d mc ms) {q : Fin 4} (hd : decode cc pc = .ok (.astore_n q, 1)) (hn : (q : Nat) < nL) (k : j_J X nL (pc + 1) (j_s1 lv (q : Nat) .null) st g M) : j_J X nL pc lv (.null :: st) g M := by
  obtain ⟨p, l, e, R, s, m, args, below, meth, c, Q, D, cy, base, ad⟩ := X
  obtain ⟨hx, hb, hml, hown, hts, hK, hbs, hCs, hR0, hname⟩ := C
  intro H locs ls hR hS hl
  obtain ⟨ls', e', h'⟩ := j_store1 (m_v_cat base ad) (v := .null) hl hn rfl
  intro T hT X
  obtain ⟨t, a, b⟩ := k H locs ls' hR hS h' T hT X
  refine ⟨t, ?_, b⟩
  simp only [m_v] at e'
  jvm_step X.here [X.here.top, ↓top_set X.here.top, hx, hb, hd, e', m_v, List.map_cons, Value.isRef]
  exact a

theorem j_iinc (C : j_C0 X y cc nL d mc ms) {i : Nat} {n : Int} {x v : Int32} (hd : decode cc pc = .ok (.iinc i n, 3)) (h : lv[i]? = some (some (.int x))) (hn : i < nL) (hv : x + Int32.ofInt n = v) (k : j_J X nL (pc + 3) (j_s1 lv i (.int v)) st g M) : j_J X nL pc lv (st) g M := by
  obtain ⟨p, l, e, R, s, m, args, below, meth, c, Q, D, cy, base, ad⟩ := X
  obtain ⟨hx, hb, hml, hown, hts, hK, hbs, hCs, hR0, hname⟩ := C
  intro H locs ls hR hS hl
  subst hv
  obtain ⟨ls', e', h'⟩ := j_store1 (m_v_cat base ad) (v := .int (x + Int32.ofInt n)) hl hn rfl
  have hg := hl.2.2 _ _ h
  intro T hT X
  obtain ⟨t, a, b⟩ := k H locs ls' hR hS h' T hT X
  refine ⟨t, ?_, b⟩
  simp only [m_v] at e' hg
  jvm_step X.here [X.here.top, ↓top_set X.here.top, hx, hb, hd, hg, e']
  exact a

theorem j_iadd (C : j_C0 X y cc nL d mc ms) {x z : Int32} (hd : decode cc pc = .ok (.iadd, 1)) (k : j_J X nL (pc + 1) lv (.int (x + z) :: st) g M) : j_J X nL pc lv (.int z :: .int x :: st) g M := by
  obtain ⟨p, l, e, R, s, m, args, below, meth, c, Q, D, cy, base, ad⟩ := X
  obtain ⟨hx, hb, hml, hown, hts, hK, hbs, hCs, hR0, hname⟩ := C
  intro H locs ls hR hS hl
  exact lv_iadd hx hb hd (k H locs ls hR hS hl)

theorem j_isub (C : j_C0 X y cc nL d mc ms) {x z : Int32} (hd : decode cc pc = .ok (.isub, 1)) (k : j_J X nL (pc + 1) lv (.int (x - z) :: st) g M) : j_J X nL pc lv (.int z :: .int x :: st) g M := by
  obtain ⟨p, l, e, R, s, m, args, below, meth, c, Q, D, cy, base, ad⟩ := X
  obtain ⟨hx, hb, hml, hown, hts, hK, hbs, hCs, hR0, hname⟩ := C
  intro H locs ls hR hS hl
  exact lv_isub hx hb hd (k H locs ls hR hS hl)

theorem j_imul (C : j_C0 X y cc nL d mc ms) {x z : Int32} (hd : decode cc pc = .ok (.imul, 1)) (k : j_J X nL (pc + 1) lv (.int (x * z) :: st) g M) : j_J X nL pc lv (.int z :: .int x :: st) g M := by
  obtain ⟨p, l, e, R, s, m, args, below, meth, c, Q, D, cy, base, ad⟩ := X
  obtain ⟨hx, hb, hml, hown, hts, hK, hbs, hCs, hR0, hname⟩ := C
  intro H locs ls hR hS hl
  exact lv_imul hx hb hd (k H locs ls hR hS hl)

theorem j_iand (C : j_C0 X y cc nL d mc ms) {x z : Int32} (hd : decode cc pc = .ok (.iand, 1)) (k : j_J X nL (pc + 1) lv (.int (x &&& z) :: st) g M) : j_J X nL pc lv (.int z :: .int x :: st) g M := by
  obtain ⟨p, l, e, R, s, m, args, below, meth, c, Q, D, cy, base, ad⟩ := X
  obtain ⟨hx, hb, hml, hown, hts, hK, hbs, hCs, hR0, hname⟩ := C
  intro H locs ls hR hS hl
  exact lv_iand hx hb hd (k H locs ls hR hS hl)

theorem j_ior (C : j_C0 X y cc nL d mc ms) {x z : Int32} (hd : decode cc pc = .ok (.ior, 1)) (k : j_J X nL (pc + 1) lv (.int (x ||| z) :: st) g M) : j_J X nL pc lv (.int z :: .int x :: st) g M := by
  obtain ⟨p, l, e, R, s, m, args, below, meth, c, Q, D, cy, base, ad⟩ := X
  obtain ⟨hx, hb, hml, hown, hts, hK, hbs, hCs, hR0, hname⟩ := C
  intro H locs ls hR hS hl
  exact lv_ior hx hb hd (k H locs ls hR hS hl)

theorem j_ixor (C : j_C0 X y cc nL d mc ms) {x z : Int32} (hd : decode cc pc = .ok (.ixor, 1)) (k : j_J X nL (pc + 1) lv (.int (x ^^^ z) :: st) g M) : j_J X nL pc lv (.int z :: .int x :: st) g M := by
  obtain ⟨p, l, e, R, s, m, args, below, meth, c, Q, D, cy, base, ad⟩ := X
  obtain ⟨hx, hb, hml, hown, hts, hK, hbs, hCs, hR0, hname⟩ := C
  intro H locs ls hR hS hl
  exact lv_ixor hx hb hd (k H locs ls hR hS hl)

theorem j_ishl (C : j_C0 X y cc nL d mc ms) {x z : Int32} (hd : decode cc pc = .ok (.ishl, 1)) (k : j_J X nL (pc + 1) lv (.int (x <<< (z &&& 31)) :: st) g M) : j_J X nL pc lv (.int z :: .int x :: st) g M := by
  obtain ⟨p, l, e, R, s, m, args, below, meth, c, Q, D, cy, base, ad⟩ := X
  obtain ⟨hx, hb, hml, hown, hts, hK, hbs, hCs, hR0, hname⟩ := C
  intro H locs ls hR hS hl
  exact lv_ishl hx hb hd (k H locs ls hR hS hl)

theorem j_ishr (C : j_C0 X y cc nL d mc ms) {x z : Int32} (hd : decode cc pc = .ok (.ishr, 1)) (k : j_J X nL (pc + 1) lv (.int (x >>> (z &&& 31)) :: st) g M) : j_J X nL pc lv (.int z :: .int x :: st) g M := by
  obtain ⟨p, l, e, R, s, m, args, below, meth, c, Q, D, cy, base, ad⟩ := X
  obtain ⟨hx, hb, hml, hown, hts, hK, hbs, hCs, hR0, hname⟩ := C
  intro H locs ls hR hS hl
  exact lv_ishr hx hb hd (k H locs ls hR hS hl)

theorem j_idiv (C : j_C0 X y cc nL d mc ms) {x z : Int32} (hd : decode cc pc = .ok (.idiv, 1)) (hz : ¬ z = 0) (k : j_J X nL (pc + 1) lv (.int (x / z) :: st) g M) : j_J X nL pc lv (.int z :: .int x :: st) g M := by
  obtain ⟨p, l, e, R, s, m, args, below, meth, c, Q, D, cy, base, ad⟩ := X
  obtain ⟨hx, hb, hml, hown, hts, hK, hbs, hCs, hR0, hname⟩ := C
  intro H locs ls hR hS hl
  exact lv_idiv hx hb hd hz (k H locs ls hR hS hl)

theorem j_irem (C : j_C0 X y cc nL d mc ms) {x z : Int32} (hd : decode cc pc = .ok (.irem, 1)) (hz : ¬ z = 0) (k : j_J X nL (pc + 1) lv (.int (x - x / z * z) :: st) g M) : j_J X nL pc lv (.int z :: .int x :: st) g M := by
  obtain ⟨p, l, e, R, s, m, args, below, meth, c, Q, D, cy, base, ad⟩ := X
  obtain ⟨hx, hb, hml, hown, hts, hK, hbs, hCs, hR0, hname⟩ := C
  intro H locs ls hR hS hl
  exact lv_irem hx hb hd hz (k H locs ls hR hS hl)

theorem j_ladd (C : j_C0 X y cc nL d mc ms) {x z : Int64} (hd : decode cc pc = .ok (.ladd, 1)) (k : j_J X nL (pc + 1) lv (.long (x + z) :: st) g M) : j_J X nL pc lv (.long z :: .long x :: st) g M := by
  obtain ⟨p, l, e, R, s, m, args, below, meth, c, Q, D, cy, base, ad⟩ := X
  obtain ⟨hx, hb, hml, hown, hts, hK, hbs, hCs, hR0, hname⟩ := C
  intro H locs ls hR hS hl
  exact lv_ladd hx hb hd (k H locs ls hR hS hl)

theorem j_lsub (C : j_C0 X y cc nL d mc ms) {x z : Int64} (hd : decode cc pc = .ok (.lsub, 1)) (k : j_J X nL (pc + 1) lv (.long (x - z) :: st) g M) : j_J X nL pc lv (.long z :: .long x :: st) g M := by
  obtain ⟨p, l, e, R, s, m, args, below, meth, c, Q, D, cy, base, ad⟩ := X
  obtain ⟨hx, hb, hml, hown, hts, hK, hbs, hCs, hR0, hname⟩ := C
  intro H locs ls hR hS hl
  exact lv_lsub hx hb hd (k H locs ls hR hS hl)

theorem j_lmul (C : j_C0 X y cc nL d mc ms) {x z : Int64} (hd : decode cc pc = .ok (.lmul, 1)) (k : j_J X nL (pc + 1) lv (.long (x * z) :: st) g M) : j_J X nL pc lv (.long z :: .long x :: st) g M := by
  obtain ⟨p, l, e, R, s, m, args, below, meth, c, Q, D, cy, base, ad⟩ := X
  obtain ⟨hx, hb, hml, hown, hts, hK, hbs, hCs, hR0, hname⟩ := C
  intro H locs ls hR hS hl
  exact lv_lmul hx hb hd (k H locs ls hR hS hl)

theorem j_land (C : j_C0 X y cc nL d mc ms) {x z : Int64} (hd : decode cc pc = .ok (.land, 1)) (k : j_J X nL (pc + 1) lv (.long (x &&& z) :: st) g M) : j_J X nL pc lv (.long z :: .long x :: st) g M := by
  obtain ⟨p, l, e, R, s, m, args, below, meth, c, Q, D, cy, base, ad⟩ := X
  obtain ⟨hx, hb, hml, hown, hts, hK, hbs, hCs, hR0, hname⟩ := C
  intro H locs ls hR hS hl
  exact lv_land hx hb hd (k H locs ls hR hS hl)

theorem j_lor (C : j_C0 X y cc nL d mc ms) {x z : Int64} (hd : decode cc pc = .ok (.lor, 1)) (k : j_J X nL (pc + 1) lv (.long (x ||| z) :: st) g M) : j_J X nL pc lv (.long z :: .long x :: st) g M := by
  obtain ⟨p, l, e, R, s, m, args, below, meth, c, Q, D, cy, base, ad⟩ := X
  obtain ⟨hx, hb, hml, hown, hts, hK, hbs, hCs, hR0, hname⟩ := C
  intro H locs ls hR hS hl
  exact lv_lor hx hb hd (k H locs ls hR hS hl)

theorem j_lxor (C : j_C0 X y cc nL d mc ms) {x z : Int64} (hd : decode cc pc = .ok (.lxor, 1)) (k : j_J X nL (pc + 1) lv (.long (x ^^^ z) :: st) g M) : j_J X nL pc lv (.long z :: .long x :: st) g M := by
  obtain ⟨p, l, e, R, s, m, args, below, meth, c, Q, D, cy, base, ad⟩ := X
  obtain ⟨hx, hb, hml, hown, hts, hK, hbs, hCs, hR0, hname⟩ := C
  intro H locs ls hR hS hl
  exact lv_lxor hx hb hd (k H locs ls hR hS hl)

theorem j_ldiv (C : j_C0 X y cc nL d mc ms) {x z : Int64} (hd : decode cc pc = .ok (.ldiv, 1)) (hz : ¬ z = 0) (k : j_J X nL (pc + 1) lv (.long (x / z) :: st) g M) : j_J X nL pc lv (.long z :: .long x :: st) g M := by
  obtain ⟨p, l, e, R, s, m, args, below, meth, c, Q, D, cy, base, ad⟩ := X
  obtain ⟨hx, hb, hml, hown, hts, hK, hbs, hCs, hR0, hname⟩ := C
  intro H locs ls hR hS hl
  exact lv_ldiv hx hb hd hz (k H locs ls hR hS hl)

theorem j_lrem (C : j_C0 X y cc nL d mc ms) {x z : Int64} (hd : decode cc pc = .ok (.lrem, 1)) (hz : ¬ z = 0) (k : j_J X nL (pc + 1) lv (.long (x - x / z * z) :: st) g M) : j_J X nL pc lv (.long z :: .long x :: st) g M := by
  obtain ⟨p, l, e, R, s, m, args, below, meth, c, Q, D, cy, base, ad⟩ := X
  obtain ⟨hx, hb, hml, hown, hts, hK, hbs, hCs, hR0, hname⟩ := C
  intro H locs ls hR hS hl
  exact lv_lrem hx hb hd hz (k H locs ls hR hS hl)

theorem j_lneg (C : j_C0 X y cc nL d mc ms) {x : Int64} (hd : decode cc pc = .ok (.lneg, 1)) (k : j_J X nL (pc + 1) lv (.long (-x) :: st) g M) : j_J X nL pc lv (.long x :: st) g M := by
  obtain ⟨p, l, e, R, s, m, args, below, meth, c, Q, D, cy, base, ad⟩ := X
  obtain ⟨hx, hb, hml, hown, hts, hK, hbs, hCs, hR0, hname⟩ := C
  intro H locs ls hR hS hl
  exact lv_lneg hx hb hd (k H locs ls hR hS hl)

theorem j_ineg (C : j_C0 X y cc nL d mc ms) {x : Int32} (hd : decode cc pc = .ok (.ineg, 1)) (k : j_J X nL (pc + 1) lv (.int (-x) :: st) g M) : j_J X nL pc lv (.int x :: st) g M := by
  obtain ⟨p, l, e, R, s, m, args, below, meth, c, Q, D, cy, base, ad⟩ := X
  obtain ⟨hx, hb, hml, hown, hts, hK, hbs, hCs, hR0, hname⟩ := C
  intro H locs ls hR hS hl
  exact lv_ineg hx hb hd (k H locs ls hR hS hl)

theorem j_i2l (C : j_C0 X y cc nL d mc ms) {x : Int32} {v : Int64} (hd : decode cc pc = .ok (.i2l, 1)) (hv : x.toInt64 = v) (k : j_J X nL (pc + 1) lv (.long v :: st) g M) : j_J X nL pc lv (.int x :: st) g M := by
  obtain ⟨p, l, e, R, s, m, args, below, meth, c, Q, D, cy, base, ad⟩ := X
  obtain ⟨hx, hb, hml, hown, hts, hK, hbs, hCs, hR0, hname⟩ := C
  intro H locs ls hR hS hl
  exact lv_i2l hx hb hd hv (k H locs ls hR hS hl)

theorem j_l2i (C : j_C0 X y cc nL d mc ms) {x : Int64} {v : Int32} (hd : decode cc pc = .ok (.l2i, 1)) (hv : x.toInt32 = v) (k : j_J X nL (pc + 1) lv (.int v :: st) g M) : j_J X nL pc lv (.long x :: st) g M := by
  obtain ⟨p, l, e, R, s, m, args, below, meth, c, Q, D, cy, base, ad⟩ := X
  obtain ⟨hx, hb, hml, hown, hts, hK, hbs, hCs, hR0, hname⟩ := C
  intro H locs ls hR hS hl
  exact lv_l2i hx hb hd hv (k H locs ls hR hS hl)

theorem j_i2c (C : j_C0 X y cc nL d mc ms) {x : Int32} {v : Int32} (hd : decode cc pc = .ok (.i2c, 1)) (hv : (x.toUInt32 % 65536).toInt32 = v) (k : j_J X nL (pc + 1) lv (.int v :: st) g M) : j_J X nL pc lv (.int x :: st) g M := by
  obtain ⟨p, l, e, R, s, m, args, below, meth, c, Q, D, cy, base, ad⟩ := X
  obtain ⟨hx, hb, hml, hown, hts, hK, hbs, hCs, hR0, hname⟩ := C
  intro H locs ls hR hS hl
  exact lv_i2c hx hb hd hv (k H locs ls hR hS hl)

theorem j_iushr (C : j_C0 X y cc nL d mc ms) {x z v : Int32} (hd : decode cc pc = .ok (.iushr, 1)) (hv : (x.toUInt32 >>> (z.toUInt32 &&& Int32.toUInt32 31)).toInt32 = v) (k : j_J X nL (pc + 1) lv (.int v :: st) g M) : j_J X nL pc lv (.int z :: .int x :: st) g M := by
  obtain ⟨p, l, e, R, s, m, args, below, meth, c, Q, D, cy, base, ad⟩ := X
  obtain ⟨hx, hb, hml, hown, hts, hK, hbs, hCs, hR0, hname⟩ := C
  intro H locs ls hR hS hl
  exact lv_iushr hx hb hd hv (k H locs ls hR hS hl)

theorem j_lushr (C : j_C0 X y cc nL d mc ms) {x v : Int64} {z : Int32} (hd : decode cc pc = .ok (.lushr, 1)) (hv : (x.toUInt64 >>> (z.toInt64.toUInt64 &&& Int64.toUInt64 63)).toInt64 = v) (k : j_J X nL (pc + 1) lv (.long v :: st) g M) : j_J X nL pc lv (.int z :: .long x :: st) g M := by
  obtain ⟨p, l, e, R, s, m, args, below, meth, c, Q, D, cy, base, ad⟩ := X
  obtain ⟨hx, hb, hml, hown, hts, hK, hbs, hCs, hR0, hname⟩ := C
  intro H locs ls hR hS hl
  exact lv_lushr hx hb hd hv (k H locs ls hR hS hl)

theorem j_lshl (C : j_C0 X y cc nL d mc ms) {x v : Int64} {z : Int32} (hd : decode cc pc = .ok (.lshl, 1)) (hv : x <<< (z.toInt64 &&& 63) = v) (k : j_J X nL (pc + 1) lv (.long v :: st) g M) : j_J X nL pc lv (.int z :: .long x :: st) g M := by
  obtain ⟨p, l, e, R, s, m, args, below, meth, c, Q, D, cy, base, ad⟩ := X
  obtain ⟨hx, hb, hml, hown, hts, hK, hbs, hCs, hR0, hname⟩ := C
  intro H locs ls hR hS hl
  exact lv_lshl hx hb hd hv (k H locs ls hR hS hl)

theorem j_lshr (C : j_C0 X y cc nL d mc ms) {x v : Int64} {z : Int32} (hd : decode cc pc = .ok (.lshr, 1)) (hv : x >>> (z.toInt64 &&& 63) = v) (k : j_J X nL (pc + 1) lv (.long v :: st) g M) : j_J X nL pc lv (.int z :: .long x :: st) g M := by
  obtain ⟨p, l, e, R, s, m, args, below, meth, c, Q, D, cy, base, ad⟩ := X
  obtain ⟨hx, hb, hml, hown, hts, hK, hbs, hCs, hR0, hname⟩ := C
  intro H locs ls hR hS hl
  exact lv_lshr hx hb hd hv (k H locs ls hR hS hl)

theorem j_lcmp (C : j_C0 X y cc nL d mc ms) {x z : Int64} (hd : decode cc pc = .ok (.lcmp, 1)) (k : j_J X nL (pc + 1) lv (.int (lg_cmp x z) :: st) g M) : j_J X nL pc lv (.long z :: .long x :: st) g M := by
  obtain ⟨p, l, e, R, s, m, args, below, meth, c, Q, D, cy, base, ad⟩ := X
  obtain ⟨hx, hb, hml, hown, hts, hK, hbs, hCs, hR0, hname⟩ := C
  intro H locs ls hR hS hl
  exact W.lcmp hx hb hd (k H locs ls hR hS hl)

theorem j_dup (C : j_C0 X y cc nL d mc ms) {va : Value} (hd : decode cc pc = .ok (.dup, 1)) (hva : va.category = 1) (k : j_J X nL (pc + 1) lv (va :: va :: st) g M) : j_J X nL pc lv (va :: st) g M := by
  obtain ⟨p, l, e, R, s, m, args, below, meth, c, Q, D, cy, base, ad⟩ := X
  obtain ⟨hx, hb, hml, hown, hts, hK, hbs, hCs, hR0, hname⟩ := C
  intro H locs ls hR hS hl
  exact lv_dup hx hb hd (by rw [m_v_cat]; exact hva) (k H locs ls hR hS hl)

theorem j_pop (C : j_C0 X y cc nL d mc ms) {va : Value} (hd : decode cc pc = .ok (.pop, 1)) (hva : va.category = 1) (k : j_J X nL (pc + 1) lv st g M) : j_J X nL pc lv (va :: st) g M := by
  obtain ⟨p, l, e, R, s, m, args, below, meth, c, Q, D, cy, base, ad⟩ := X
  obtain ⟨hx, hb, hml, hown, hts, hK, hbs, hCs, hR0, hname⟩ := C
  intro H locs ls hR hS hl
  exact lv_pop hx hb hd (by rw [m_v_cat]; exact hva) (k H locs ls hR hS hl)

theorem j_dup2 (C : j_C0 X y cc nL d mc ms) {va vb : Value} (hd : decode cc pc = .ok (.dup2, 1)) (hva : va.category = 1) (hvb : vb.category = 1) (k : j_J X nL (pc + 1) lv (va :: vb :: va :: vb :: st) g M) : j_J X nL pc lv (va :: vb :: st) g M := by
  obtain ⟨p, l, e, R, s, m, args, below, meth, c, Q, D, cy, base, ad⟩ := X
  obtain ⟨hx, hb, hml, hown, hts, hK, hbs, hCs, hR0, hname⟩ := C
  intro H locs ls hR hS hl
  exact lv_dup2_11 hx hb hd (by rw [m_v_cat]; exact hva) (by rw [m_v_cat]; exact hvb) (k H locs ls hR hS hl)

theorem j_dup_x1 (C : j_C0 X y cc nL d mc ms) {va vb : Value} (hd : decode cc pc = .ok (.dup_x1, 1)) (hva : va.category = 1) (hvb : vb.category = 1) (k : j_J X nL (pc + 1) lv (va :: vb :: va :: st) g M) : j_J X nL pc lv (va :: vb :: st) g M := by
  obtain ⟨p, l, e, R, s, m, args, below, meth, c, Q, D, cy, base, ad⟩ := X
  obtain ⟨hx, hb, hml, hown, hts, hK, hbs, hCs, hR0, hname⟩ := C
  intro H locs ls hR hS hl
  exact lv_dup_x1 hx hb hd (by rw [m_v_cat]; exact hva) (by rw [m_v_cat]; exact hvb) (k H locs ls hR hS hl)

theorem j_if_eq (C : j_C0 X y cc nL d mc ms) {x : Int32} {off : Int} {tgt : Nat} (hd : decode cc pc = .ok (.ifCond .eq off, 3)) (ht : (pc : Int) + off = (tgt : Int)) (kt : x = 0 → j_J X nL tgt lv st g M) (kf : ¬ x = 0 → j_J X nL (pc + 3) lv st g M) : j_J X nL pc lv (.int x :: st) g M := by
  obtain ⟨p, l, e, R, s, m, args, below, meth, c, Q, D, cy, base, ad⟩ := X
  obtain ⟨hx, hb, hml, hown, hts, hK, hbs, hCs, hR0, hname⟩ := C
  intro H locs ls hR hS hl
  exact lv_if_eq hx hb hd ht (fun h => kt h H locs ls hR hS hl) (fun h => kf h H locs ls hR hS hl)

theorem j_if_ne (C : j_C0 X y cc nL d mc ms) {x : Int32} {off : Int} {tgt : Nat} (hd : decode cc pc = .ok (.ifCond .ne off, 3)) (ht : (pc : Int) + off = (tgt : Int)) (kt : ¬ x = 0 → j_J X nL tgt lv st g M) (kf : x = 0 → j_J X nL (pc + 3) lv st g M) : j_J X nL pc lv (.int x :: st) g M := by
  obtain ⟨p, l, e, R, s, m, args, below, meth, c, Q, D, cy, base, ad⟩ := X
  obtain ⟨hx, hb, hml, hown, hts, hK, hbs, hCs, hR0, hname⟩ := C
  intro H locs ls hR hS hl
  exact lv_if_ne hx hb hd ht (fun h => kt h H locs ls hR hS hl) (fun h => kf h H locs ls hR hS hl)

theorem j_if_lt (C : j_C0 X y cc nL d mc ms) {x : Int32} {off : Int} {tgt : Nat} (hd : decode cc pc = .ok (.ifCond .lt off, 3)) (ht : (pc : Int) + off = (tgt : Int)) (kt : x < 0 → j_J X nL tgt lv st g M) (kf : ¬ x < 0 → j_J X nL (pc + 3) lv st g M) : j_J X nL pc lv (.int x :: st) g M := by
  obtain ⟨p, l, e, R, s, m, args, below, meth, c, Q, D, cy, base, ad⟩ := X
  obtain ⟨hx, hb, hml, hown, hts, hK, hbs, hCs, hR0, hname⟩ := C
  intro H locs ls hR hS hl
  exact lv_if_lt hx hb hd ht (fun h => kt h H locs ls hR hS hl) (fun h => kf h H locs ls hR hS hl)

theorem j_if_ge (C : j_C0 X y cc nL d mc ms) {x : Int32} {off : Int} {tgt : Nat} (hd : decode cc pc = .ok (.ifCond .ge off, 3)) (ht : (pc : Int) + off = (tgt : Int)) (kt : 0 ≤ x → j_J X nL tgt lv st g M) (kf : ¬ 0 ≤ x → j_J X nL (pc + 3) lv st g M) : j_J X nL pc lv (.int x :: st) g M := by
  obtain ⟨p, l, e, R, s, m, args, below, meth, c, Q, D, cy, base, ad⟩ := X
  obtain ⟨hx, hb, hml, hown, hts, hK, hbs, hCs, hR0, hname⟩ := C
  intro H locs ls hR hS hl
  exact lv_if_ge hx hb hd ht (fun h => kt h H locs ls hR hS hl) (fun h => kf h H locs ls hR hS hl)

theorem j_if_gt (C : j_C0 X y cc nL d mc ms) {x : Int32} {off : Int} {tgt : Nat} (hd : decode cc pc = .ok (.ifCond .gt off, 3)) (ht : (pc : Int) + off = (tgt : Int)) (kt : 0 < x → j_J X nL tgt lv st g M) (kf : ¬ 0 < x → j_J X nL (pc + 3) lv st g M) : j_J X nL pc lv (.int x :: st) g M := by
  obtain ⟨p, l, e, R, s, m, args, below, meth, c, Q, D, cy, base, ad⟩ := X
  obtain ⟨hx, hb, hml, hown, hts, hK, hbs, hCs, hR0, hname⟩ := C
  intro H locs ls hR hS hl
  exact lv_if_gt hx hb hd ht (fun h => kt h H locs ls hR hS hl) (fun h => kf h H locs ls hR hS hl)

theorem j_if_le (C : j_C0 X y cc nL d mc ms) {x : Int32} {off : Int} {tgt : Nat} (hd : decode cc pc = .ok (.ifCond .le off, 3)) (ht : (pc : Int) + off = (tgt : Int)) (kt : x ≤ 0 → j_J X nL tgt lv st g M) (kf : ¬ x ≤ 0 → j_J X nL (pc + 3) lv st g M) : j_J X nL pc lv (.int x :: st) g M := by
  obtain ⟨p, l, e, R, s, m, args, below, meth, c, Q, D, cy, base, ad⟩ := X
  obtain ⟨hx, hb, hml, hown, hts, hK, hbs, hCs, hR0, hname⟩ := C
  intro H locs ls hR hS hl
  exact lv_if_le hx hb hd ht (fun h => kt h H locs ls hR hS hl) (fun h => kf h H locs ls hR hS hl)

theorem j_icmp_eq (C : j_C0 X y cc nL d mc ms) {x z : Int32} {off : Int} {tgt : Nat} (hd : decode cc pc = .ok (.if_icmp .eq off, 3)) (ht : (pc : Int) + off = (tgt : Int)) (kt : x = z → j_J X nL tgt lv st g M) (kf : ¬ x = z → j_J X nL (pc + 3) lv st g M) : j_J X nL pc lv (.int z :: .int x :: st) g M := by
  obtain ⟨p, l, e, R, s, m, args, below, meth, c, Q, D, cy, base, ad⟩ := X
  obtain ⟨hx, hb, hml, hown, hts, hK, hbs, hCs, hR0, hname⟩ := C
  intro H locs ls hR hS hl
  exact lv_icmp_eq hx hb hd ht (fun h => kt h H locs ls hR hS hl) (fun h => kf h H locs ls hR hS hl)

theorem j_icmp_ne (C : j_C0 X y cc nL d mc ms) {x z : Int32} {off : Int} {tgt : Nat} (hd : decode cc pc = .ok (.if_icmp .ne off, 3)) (ht : (pc : Int) + off = (tgt : Int)) (kt : ¬ x = z → j_J X nL tgt lv st g M) (kf : x = z → j_J X nL (pc + 3) lv st g M) : j_J X nL pc lv (.int z :: .int x :: st) g M := by
  obtain ⟨p, l, e, R, s, m, args, below, meth, c, Q, D, cy, base, ad⟩ := X
  obtain ⟨hx, hb, hml, hown, hts, hK, hbs, hCs, hR0, hname⟩ := C
  intro H locs ls hR hS hl
  exact lv_icmp_ne hx hb hd ht (fun h => kt h H locs ls hR hS hl) (fun h => kf h H locs ls hR hS hl)

theorem j_icmp_lt (C : j_C0 X y cc nL d mc ms) {x z : Int32} {off : Int} {tgt : Nat} (hd : decode cc pc = .ok (.if_icmp .lt off, 3)) (ht : (pc : Int) + off = (tgt : Int)) (kt : x < z → j_J X nL tgt lv st g M) (kf : ¬ x < z → j_J X nL (pc + 3) lv st g M) : j_J X nL pc lv (.int z :: .int x :: st) g M := by
  obtain ⟨p, l, e, R, s, m, args, below, meth, c, Q, D, cy, base, ad⟩ := X
  obtain ⟨hx, hb, hml, hown, hts, hK, hbs, hCs, hR0, hname⟩ := C
  intro H locs ls hR hS hl
  exact lv_icmp_lt hx hb hd ht (fun h => kt h H locs ls hR hS hl) (fun h => kf h H locs ls hR hS hl)

theorem j_icmp_ge (C : j_C0 X y cc nL d mc ms) {x z : Int32} {off : Int} {tgt : Nat} (hd : decode cc pc = .ok (.if_icmp .ge off, 3)) (ht : (pc : Int) + off = (tgt : Int)) (kt : z ≤ x → j_J X nL tgt lv st g M) (kf : ¬ z ≤ x → j_J X nL (pc + 3) lv st g M) : j_J X nL pc lv (.int z :: .int x :: st) g M := by
  obtain ⟨p, l, e, R, s, m, args, below, meth, c, Q, D, cy, base, ad⟩ := X
  obtain ⟨hx, hb, hml, hown, hts, hK, hbs, hCs, hR0, hname⟩ := C
  intro H locs ls hR hS hl
  exact lv_icmp_ge hx hb hd ht (fun h => kt h H locs ls hR hS hl) (fun h => kf h H locs ls hR hS hl)

theorem j_icmp_gt (C : j_C0 X y cc nL d mc ms) {x z : Int32} {off : Int} {tgt : Nat} (hd : decode cc pc = .ok (.if_icmp .gt off, 3)) (ht : (pc : Int) + off = (tgt : Int)) (kt : z < x → j_J X nL tgt lv st g M) (kf : ¬ z < x → j_J X nL (pc + 3) lv st g M) : j_J X nL pc lv (.int z :: .int x :: st) g M := by
  obtain ⟨p, l, e, R, s, m, args, below, meth, c, Q, D, cy, base, ad⟩ := X
  obtain ⟨hx, hb, hml, hown, hts, hK, hbs, hCs, hR0, hname⟩ := C
  intro H locs ls hR hS hl
  exact lv_icmp_gt hx hb hd ht (fun h => kt h H locs ls hR hS hl) (fun h => kf h H locs ls hR hS hl)

theorem j_icmp_le (C : j_C0 X y cc nL d mc ms) {x z : Int32} {off : Int} {tgt : Nat} (hd : decode cc pc = .ok (.if_icmp .le off, 3)) (ht : (pc : Int) + off = (tgt : Int)) (kt : x ≤ z → j_J X nL tgt lv st g M) (kf : ¬ x ≤ z → j_J X nL (pc + 3) lv st g M) : j_J X nL pc lv (.int z :: .int x :: st) g M := by
  obtain ⟨p, l, e, R, s, m, args, below, meth, c, Q, D, cy, base, ad⟩ := X
  obtain ⟨hx, hb, hml, hown, hts, hK, hbs, hCs, hR0, hname⟩ := C
  intro H locs ls hR hS hl
  exact lv_icmp_le hx hb hd ht (fun h => kt h H locs ls hR hS hl) (fun h => kf h H locs ls hR hS hl)

theorem j_goto (C : j_C0 X y cc nL d mc ms) {off : Int} {tgt : Nat} (hd : decode cc pc = .ok (.goto off, 3)) (ht : (pc : Int) + off = (tgt : Int)) (k : j_J X nL tgt lv st g M) : j_J X nL pc lv (st) g M := by
  obtain ⟨p, l, e, R, s, m, args, below, meth, c, Q, D, cy, base, ad⟩ := X
  obtain ⟨hx, hb, hml, hown, hts, hK, hbs, hCs, hR0, hname⟩ := C
  intro H locs ls hR hS hl
  exact lv_goto hx hb hd ht (k H locs ls hR hS hl)

theorem j_ifnull (C : j_C0 X y cc nL d mc ms) {x : Nat} {off : Int} (hd : decode cc pc = .ok (.ifnull off, 3)) (k : j_J X nL (pc + 3) lv st g M) : j_J X nL pc lv (.ref x :: st) g M := by
  obtain ⟨p, l, e, R, s, m, args, below, meth, c, Q, D, cy, base, ad⟩ := X
  obtain ⟨hx, hb, hml, hown, hts, hK, hbs, hCs, hR0, hname⟩ := C
  intro H locs ls hR hS hl
  exact lv_ifnull hx hb hd (k H locs ls hR hS hl)

theorem j_ifnullN (C : j_C0 X y cc nL d mc ms) {off : Int} {tgt : Nat} (hd : decode cc pc = .ok (.ifnull off, 3)) (ht : (pc : Int) + off = (tgt : Int)) (k : j_J X nL tgt lv st g M) : j_J X nL pc lv (.null :: st) g M := by
  obtain ⟨p, l, e, R, s, m, args, below, meth, c, Q, D, cy, base, ad⟩ := X
  obtain ⟨hx, hb, hml, hown, hts, hK, hbs, hCs, hR0, hname⟩ := C
  intro H locs ls hR hS hl
  exact lv_ifnullN hx hb hd ht (k H locs ls hR hS hl)

theorem j_ifnonnull (C : j_C0 X y cc nL d mc ms) {x : Nat} {off : Int} {tgt : Nat} (hd : decode cc pc = .ok (.ifnonnull off, 3)) (ht : (pc : Int) + off = (tgt : Int)) (k : j_J X nL tgt lv st g M) : j_J X nL pc lv (.ref x :: st) g M := by
  obtain ⟨p, l, e, R, s, m, args, below, meth, c, Q, D, cy, base, ad⟩ := X
  obtain ⟨hx, hb, hml, hown, hts, hK, hbs, hCs, hR0, hname⟩ := C
  intro H locs ls hR hS hl
  exact lv_ifnonnull hx hb hd ht (k H locs ls hR hS hl)

theorem j_ifnonnullN (C : j_C0 X y cc nL d mc ms) {off : Int} (hd : decode cc pc = .ok (.ifnonnull off, 3)) (k : j_J X nL (pc + 3) lv st g M) : j_J X nL pc lv (.null :: st) g M := by
  obtain ⟨p, l, e, R, s, m, args, below, meth, c, Q, D, cy, base, ad⟩ := X
  obtain ⟨hx, hb, hml, hown, hts, hK, hbs, hCs, hR0, hname⟩ := C
  intro H locs ls hR hS hl
  exact lv_ifnonnullN hx hb hd (k H locs ls hR hS hl)

theorem j_lookup (C : j_C0 X y cc nL d mc ms) {dflt : Int} {ps : Array (Int × Int)} {len : Nat} {x : Int32} {off : Int} {tgt : Nat} (hd : decode cc pc = .ok (.lookupswitch dflt ps, len)) (hp : (ps.toList.zip (ps.toList.drop 1)).all (fun (a, next) => a.1 < next.1) = true) (ho : Op.lookupswitch.offset ps.toList dflt x.toInt = off) (ht : (pc : Int) + off = (tgt : Int)) (k : j_J X nL tgt lv st g M) : j_J X nL pc lv (.int x :: st) g M := by
  obtain ⟨p, l, e, R, s, m, args, below, meth, c, Q, D, cy, base, ad⟩ := X
  obtain ⟨hx, hb, hml, hown, hts, hK, hbs, hCs, hR0, hname⟩ := C
  intro H locs ls hR hS hl
  exact lv_lookup hx hb hd hp ho ht (k H locs ls hR hS hl)

theorem j_tableOut (C : j_C0 X y cc nL d mc ms) {dflt lo hi : Int} {offs : Array Int} {len : Nat} {x : Int32} {tgt : Nat} (hd : decode cc pc = .ok (.tableswitch dflt lo hi offs, len)) (h : x.toInt < lo ∨ hi < x.toInt) (ht : (pc : Int) + dflt = (tgt : Int)) (k : j_J X nL tgt lv st g M) : j_J X nL pc lv (.int x :: st) g M := by
  obtain ⟨p, l, e, R, s, m, args, below, meth, c, Q, D, cy, base, ad⟩ := X
  obtain ⟨hx, hb, hml, hown, hts, hK, hbs, hCs, hR0, hname⟩ := C
  intro H locs ls hR hS hl
  exact lv_tableOut hx hb hd h ht (k H locs ls hR hS hl)

theorem j_tableIn (C : j_C0 X y cc nL d mc ms) {dflt lo hi : Int} {offs : Array Int} {len : Nat} {x : Int32} {off : Int} {tgt : Nat} (hd : decode cc pc = .ok (.tableswitch dflt lo hi offs, len)) (h1 : ¬ x.toInt < lo) (h2 : ¬ hi < x.toInt) (ho : offs[(x.toInt - lo).toNat]? = some off) (ht : (pc : Int) + off = (tgt : Int)) (k : j_J X nL tgt lv st g M) : j_J X nL pc lv (.int x :: st) g M := by
  obtain ⟨p, l, e, R, s, m, args, below, meth, c, Q, D, cy, base, ad⟩ := X
  obtain ⟨hx, hb, hml, hown, hts, hK, hbs, hCs, hR0, hname⟩ := C
  intro H locs ls hR hS hl
  exact lv_tableIn hx hb hd h1 h2 ho ht (k H locs ls hR hS hl)

theorem j_iald (C : j_C0 X y cc nL d mc ms) {a : Nat} {i : Int32} (hk : m_K M a = 12) (hin : vp_in i (m_len M a)) (hd : decode cc pc = .ok (.iaload, 1)) (k : j_J X nL (pc + 1) lv (.int (m_I M a i.toNatClampNeg) :: st) g M) : j_J X nL pc lv (.int i :: .ref a :: st) g M := by
  obtain ⟨p, l, e, R, s, m, args, below, meth, c, Q, D, cy, base, ad⟩ := X
  obtain ⟨hx, hb, hml, hown, hts, hK, hbs, hCs, hR0, hname⟩ := C
  intro H locs ls hR hS hl
  obtain ⟨h1, h2⟩ := m_lt hk (by omega)
  have he := hR.2.2 a h1 (by omega)
  rw [m_E_int h2 (by omega)] at he
  have hP : va_P D vwCl [(base + a, .inl (cy 12, m_len M a, .inl (m_I M a)))] H := fun k q hk => by
    match k, hk with
    | 0, hk => cases hk; exact he
  simp only [List.map_cons, m_v, m_ad_lt hR h1]
  exact va_iald hx hb hK hP 0 1 rfl (m_tys_at cy (kd := 12) (by omega) (by omega)) hin hd (by simpa only [List.map_cons, m_v] using k H locs ls hR hS hl)

theorem j_zald (C : j_C0 X y cc nL d mc ms) {a : Nat} {i : Int32} (hk : m_K M a = 14) (hin : vp_in i (m_len M a)) (hd : decode cc pc = .ok (.baload, 1)) (k : j_J X nL (pc + 1) lv (.int (m_I M a i.toNatClampNeg) :: st) g M) : j_J X nL pc lv (.int i :: .ref a :: st) g M := by
  obtain ⟨p, l, e, R, s, m, args, below, meth, c, Q, D, cy, base, ad⟩ := X
  obtain ⟨hx, hb, hml, hown, hts, hK, hbs, hCs, hR0, hname⟩ := C
  intro H locs ls hR hS hl
  obtain ⟨h1, h2⟩ := m_lt hk (by omega)
  have he := hR.2.2 a h1 (by omega)
  rw [m_E_int h2 (by omega)] at he
  have hP : va_P D vwCl [(base + a, .inl (cy 14, m_len M a, .inl (m_I M a)))] H := fun k q hk => by
    match k, hk with
    | 0, hk => cases hk; exact he
  simp only [List.map_cons, m_v, m_ad_lt hR h1]
  exact va_zald hx hb hK hP 0 3 rfl (m_tys_at cy (kd := 14) (by omega) (by omega)) hin hd (by simpa only [List.map_cons, m_v] using k H locs ls hR hS hl)

theorem j_cald (C : j_C0 X y cc nL d mc ms) {a : Nat} {i : Int32} (hk : m_K M a = 11) (hin : vp_in i (m_len M a)) (hd : decode cc pc = .ok (.caload, 1)) (k : j_J X nL (pc + 1) lv (.int (m_I M a i.toNatClampNeg) :: st) g M) : j_J X nL pc lv (.int i :: .ref a :: st) g M := by
  obtain ⟨p, l, e, R, s, m, args, below, meth, c, Q, D, cy, base, ad⟩ := X
  obtain ⟨hx, hb, hml, hown, hts, hK, hbs, hCs, hR0, hname⟩ := C
  intro H locs ls hR hS hl
  obtain ⟨h1, h2⟩ := m_lt hk (by omega)
  have he := hR.2.2 a h1 (by omega)
  rw [m_E_int h2 (by omega)] at he
  have hP : va_P D vwCl [(base + a, .inl (cy 11, m_len M a, .inl (m_I M a)))] H := fun k q hk => by
    match k, hk with
    | 0, hk => cases hk; exact he
  simp only [List.map_cons, m_v, m_ad_lt hR h1]
  exact va_cald hx hb hK hP 0 0 rfl (m_tys_at cy (kd := 11) (by omega) (by omega)) hin hd (by simpa only [List.map_cons, m_v] using k H locs ls hR hS hl)

theorem j_lald (C : j_C0 X y cc nL d mc ms) {a : Nat} {i : Int32} (hk : m_K M a = 13) (hin : vp_in i (m_len M a)) (hd : decode cc pc = .ok (.laload, 1)) (k : j_J X nL (pc + 1) lv (.long (m_L M a i.toNatClampNeg) :: st) g M) : j_J X nL pc lv (.int i :: .ref a :: st) g M := by
  obtain ⟨p, l, e, R, s, m, args, below, meth, c, Q, D, cy, base, ad⟩ := X
  obtain ⟨hx, hb, hml, hown, hts, hK, hbs, hCs, hR0, hname⟩ := C
  intro H locs ls hR hS hl
  obtain ⟨h1, h2⟩ := m_lt hk (by omega)
  have he := hR.2.2 a h1 (by omega)
  rw [m_E_long h2] at he
  have hP : va_P D vwCl [(base + a, .inl (cy 13, m_len M a, .inr (.inl (m_L M a))))] H := fun k q hk => by
    match k, hk with
    | 0, hk => cases hk; exact he
  simp only [List.map_cons, m_v, m_ad_lt hR h1]
  exact va_lald hx hb hK hP 0 2 rfl (m_tys_at cy (kd := 13) (by omega) (by omega)) hin hd (by simpa only [List.map_cons, m_v] using k H locs ls hR hS hl)

theorem j_alen (C : j_C0 X y cc nL d mc ms) {a kd : Nat} {v : Int32} (hk : m_K M a = kd) (h11 : 11 ≤ kd) (h18 : kd < 18) (hv : Int32.ofNat (m_len M a) = v) (hd : decode cc pc = .ok (.arraylength, 1)) (k : j_J X nL (pc + 1) lv (.int v :: st) g M) : j_J X nL pc lv (.ref a :: st) g M := by
  obtain ⟨p, l, e, R, s, m, args, below, meth, c, Q, D, cy, base, ad⟩ := X
  obtain ⟨hx, hb, hml, hown, hts, hK, hbs, hCs, hR0, hname⟩ := C
  intro H locs ls hR hS hl
  obtain ⟨h1, h2⟩ := m_lt hk (by omega)
  have he := hR.2.2 a h1 (by omega)
  simp only [List.map_cons, m_v, m_ad_lt hR h1]
  have h3 : ∃ x : (Nat → Int32) ⊕ (Nat → Int64) ⊕ (Nat → UInt32) ⊕ (Nat → UInt64) ⊕ (Nat → Option Nat), m_E cy (m_ad base ad) M a = .inl (cy kd, m_len M a, x) := by
    by_cases h13 : kd = 13
    · subst h13
      exact ⟨_, m_E_long h2⟩
    · by_cases h15 : kd < 15
      · exact ⟨_, m_E_int h2 (by omega)⟩
      · exact ⟨_, m_E_ref h2 (by omega)⟩
  obtain ⟨x, h3⟩ := h3
  rw [h3] at he
  have hP : va_P D vwCl [(base + a, .inl (cy kd, m_len M a, x))] H := fun k q hk => by
    match k, hk with
    | 0, hk => cases hk; exact he
  exact va_alen hx hb hK hP 0 (kd - 11) rfl (m_tys_at cy h11 h18) hv hd (by simpa only [List.map_cons, m_v] using k H locs ls hR hS hl)

theorem j_arr {D : va_G} {cy : Nat → ClassId} {base : Nat} {ad : Nat → Nat} {H : Heap} {M : m_M} {a kd : Nat} {x : (Nat → Int32) ⊕ (Nat → Int64) ⊕ (Nat → UInt32) ⊕ (Nat → UInt64) ⊕ (Nat → Option Nat)} (hR : m_Rel D cy base ad M H) (h1 : a < m_N M) (h2 : (m_T M a).1 = kd) (h3 : kd < 18) (h : m_E cy (m_ad base ad) M a = .inl (cy kd, m_len M a, x)) : H[base + a]? = some (vp_cell (cy kd) (m_len M a, x)) := by
  have he := hR.2.2 a h1 (by omega)
  rw [h] at he
  exact he

theorem j_iast (C : j_C0 X y cc nL d mc ms) {a : Nat} {i z : Int32} (hk : m_K M a = 12) (hin : vp_in i (m_len M a)) (hd : decode cc pc = .ok (.iastore, 1)) (k : j_J X nL (pc + 1) lv st g (m_sI M a i.toNatClampNeg (z))) : j_J X nL pc lv (.int z :: .int i :: .ref a :: st) g M := by
  obtain ⟨p, l, e, R, s, m, args, below, meth, c, Q, D, cy, base, ad⟩ := X
  obtain ⟨hx, hb, hml, hown, hts, hK, hbs, hCs, hR0, hname⟩ := C
  intro H locs ls hR hS hl
  obtain ⟨h1, h2⟩ := m_lt hk (by omega)
  have he := j_arr hR h1 h2 (by omega) (m_E_int h2 (by omega))
  simp only [List.map_cons, m_v, m_ad_lt hR h1]
  refine W.iast hx hb he ((hK.2 1 _ (m_tys_at cy (kd := 12) (by omega) (by omega))).1 (m_len M a) (fun j => .int (m_I M a j))) (fun q => by cases q) (by show ¬ (i < 0 ∨ (arrV _ _ _).slots.size ≤ _); rw [arrV_size]; exact hin) rfl rfl hd fun H1 e z1 oq => ?_
  refine k H1 _ ls (hR.put (a := a) rfl (fun j hj => m_E_sI hj) ?_ z1 oq) (hS.put z1 oq (Nat.le_add_right base a)) hl
  rw [m_E_int (M := m_sI M a i.toNatClampNeg (z)) (kd := 12) h2 (by omega)]
  show H1[base + a]? = some (vp_cell _ _)
  rw [e]
  rw [vp_cell_i, vp_cell_i, arrV_store]
  show some (arrV _ _ _) = some (arrV _ _ _)
  congr 2
  funext q
  by_cases hq : q = i.toNatClampNeg
  · subst hq
    simp [updV, m_I, m_sI, m_up]
  · simp [updV, m_I, m_sI, m_up, hq]

theorem j_zast (C : j_C0 X y cc nL d mc ms) {a : Nat} {i z : Int32} (hk : m_K M a = 14) (hin : vp_in i (m_len M a)) (hd : decode cc pc = .ok (.bastore, 1)) (k : j_J X nL (pc + 1) lv st g (m_sI M a i.toNatClampNeg (vp_nar .boolean z))) : j_J X nL pc lv (.int z :: .int i :: .ref a :: st) g M := by
  obtain ⟨p, l, e, R, s, m, args, below, meth, c, Q, D, cy, base, ad⟩ := X
  obtain ⟨hx, hb, hml, hown, hts, hK, hbs, hCs, hR0, hname⟩ := C
  intro H locs ls hR hS hl
  obtain ⟨h1, h2⟩ := m_lt hk (by omega)
  have he := j_arr hR h1 h2 (by omega) (m_E_int h2 (by omega))
  simp only [List.map_cons, m_v, m_ad_lt hR h1]
  refine W.zast hx hb he ((hK.2 3 _ (m_tys_at cy (kd := 14) (by omega) (by omega))).1 (m_len M a) (fun j => .int (m_I M a j))) (fun q => by cases q) (by show ¬ (i < 0 ∨ (arrV _ _ _).slots.size ≤ _); rw [arrV_size]; exact hin) rfl rfl hd fun H1 e z1 oq => ?_
  refine k H1 _ ls (hR.put (a := a) rfl (fun j hj => m_E_sI hj) ?_ z1 oq) (hS.put z1 oq (Nat.le_add_right base a)) hl
  rw [m_E_int (M := m_sI M a i.toNatClampNeg (vp_nar .boolean z)) (kd := 14) h2 (by omega)]
  show H1[base + a]? = some (vp_cell _ _)
  rw [e]
  rw [vp_cell_i, vp_cell_i, arrV_store]
  show some (arrV _ _ _) = some (arrV _ _ _)
  congr 2
  funext q
  by_cases hq : q = i.toNatClampNeg
  · subst hq
    simp [updV, m_I, m_sI, m_up, vp_nar, narrow]
  · simp [updV, m_I, m_sI, m_up, hq]

theorem j_cast (C : j_C0 X y cc nL d mc ms) {a : Nat} {i z : Int32} (hk : m_K M a = 11) (hin : vp_in i (m_len M a)) (hd : decode cc pc = .ok (.castore, 1)) (k : j_J X nL (pc + 1) lv st g (m_sI M a i.toNatClampNeg (vp_nar .char z))) : j_J X nL pc lv (.int z :: .int i :: .ref a :: st) g M := by
  obtain ⟨p, l, e, R, s, m, args, below, meth, c, Q, D, cy, base, ad⟩ := X
  obtain ⟨hx, hb, hml, hown, hts, hK, hbs, hCs, hR0, hname⟩ := C
  intro H locs ls hR hS hl
  obtain ⟨h1, h2⟩ := m_lt hk (by omega)
  have he := j_arr hR h1 h2 (by omega) (m_E_int h2 (by omega))
  simp only [List.map_cons, m_v, m_ad_lt hR h1]
  refine W.cast hx hb he ((hK.2 0 _ (m_tys_at cy (kd := 11) (by omega) (by omega))).1 (m_len M a) (fun j => .int (m_I M a j))) (fun q => by cases q) (by show ¬ (i < 0 ∨ (arrV _ _ _).slots.size ≤ _); rw [arrV_size]; exact hin) rfl rfl hd fun H1 e z1 oq => ?_
  refine k H1 _ ls (hR.put (a := a) rfl (fun j hj => m_E_sI hj) ?_ z1 oq) (hS.put z1 oq (Nat.le_add_right base a)) hl
  rw [m_E_int (M := m_sI M a i.toNatClampNeg (vp_nar .char z)) (kd := 11) h2 (by omega)]
  show H1[base + a]? = some (vp_cell _ _)
  rw [e]
  rw [vp_cell_i, vp_cell_i, arrV_store]
  show some (arrV _ _ _) = some (arrV _ _ _)
  congr 2
  funext q
  by_cases hq : q = i.toNatClampNeg
  · subst hq
    simp [updV, m_I, m_sI, m_up, vp_nar, narrow]
  · simp [updV, m_I, m_sI, m_up, hq]

theorem j_last (C : j_C0 X y cc nL d mc ms) {a : Nat} {i : Int32} {z : Int64} (hk : m_K M a = 13) (hin : vp_in i (m_len M a)) (hd : decode cc pc = .ok (.lastore, 1)) (k : j_J X nL (pc + 1) lv st g (m_sL M a i.toNatClampNeg z)) : j_J X nL pc lv (.long z :: .int i :: .ref a :: st) g M := by
  obtain ⟨p, l, e, R, s, m, args, below, meth, c, Q, D, cy, base, ad⟩ := X
  obtain ⟨hx, hb, hml, hown, hts, hK, hbs, hCs, hR0, hname⟩ := C
  intro H locs ls hR hS hl
  obtain ⟨h1, h2⟩ := m_lt hk (by omega)
  have he := j_arr hR h1 h2 (by omega) (m_E_long h2)
  simp only [List.map_cons, m_v, m_ad_lt hR h1]
  refine W.last hx hb he ((hK.2 2 _ (m_tys_at cy (kd := 13) (by omega) (by omega))).1 (m_len M a) (fun j => .long (m_L M a j))) (fun q => by cases q) (by show ¬ (i < 0 ∨ (arrV _ _ _).slots.size ≤ _); rw [arrV_size]; exact hin) rfl rfl hd fun H1 e z1 oq => ?_
  refine k H1 _ ls (hR.put (a := a) rfl (fun j hj => m_E_sL hj) ?_ z1 oq) (hS.put z1 oq (Nat.le_add_right base a)) hl
  rw [m_E_long (M := m_sL M a i.toNatClampNeg z) h2]
  show H1[base + a]? = some (vp_cell _ _)
  rw [e]
  rw [vp_cell_l, vp_cell_l, arrV_store]
  show some (arrV _ _ _) = some (arrV _ _ _)
  congr 2
  funext q
  by_cases hq : q = i.toNatClampNeg
  · subst hq
    simp [updV, m_L, m_sL, m_up]
  · simp [updV, m_L, m_sL, m_up, hq]

end J_ROWS
