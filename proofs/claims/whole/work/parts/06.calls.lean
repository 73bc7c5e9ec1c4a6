theorem j_P.blind {D : va_G} {cy : Nat → ClassId} {base : Nat} {ad : Nat → Nat} {as : List Value} {M : m_M} : FrameBlind (j_P D cy base ad as M) := by
  intro a U gg mk h
  obtain ⟨h1, h2, h3, h4⟩ := h
  exact ⟨h1, h2, va_K.moved (u := U) (U := U.calling gg mk a) (Vm.Alike.refl U.vm) h3, j_Cs.moved (u := U) (U := U.calling gg mk a) (State.WarmedH.refl U) (by have := h2.1; show base ≤ U.heap.size; omega) (fun q _ => rfl) h4⟩
theorem j_Lb.callB {own : String} {idx : Nat} {y' : MethodName} {cc' : ByteArray} {nL' : Nat} {ret' : Option FieldType} {n d' d mc ms mc' ms' : Nat} {R : Room} {s : State} {args : Array Value} (hts : ∀ w ∈ j_tbl, w.before args s = true) (F : j_Lb own idx y' cc' nL' ret' n) (hR0 : j_rmok R d mc ms) (hdd : d' < d) : CallB R s args own idx y' cc' nL' ret' (Cond.code y' cc' nL' ret' :: j_tbl) (j_rm d' mc' ms') mc' ms' n := by
  obtain ⟨h1, h2, h3, h4, h5, h6⟩ := F
  obtain ⟨r1, r2, r3, r4⟩ := hR0
  exact callB_of n hts (j_good h2) rfl rfl rfl (hts _ h3) (hts _ h1) ⟨h4.1, h4.2, h5⟩ ⟨by show d' + 1 ≤ R.frames; omega, by show 8 + (nL' + 11) + 64 * d' ≤ R.locals; omega⟩
theorem m_map_toList (f : Value → Value) (v : Option Value) (rest : List Value) : (v.toList ++ rest).map f = (v.map f).toList ++ rest.map f := by cases v <;> rfl
section J_CALLS
variable {X : j_X} {y : MethodName} {cc : ByteArray} {nL : Nat} {ret : Option FieldType} {d mc ms : Nat} {Φ : Option Value → m_M → Prop} {pc : Nat} {lv : List (Option Value)} {st : List Value} {g : Nat × Nat} {M : m_M}
theorem j_run {p : Program} {l : Launch} {e : Env} {R : Room} {s : State} {m : MethodId} {args : Array Value} {below : List Frame} {meth : Method} {c : Code} {Q : State → Prop} {D : va_G} {cy : Nat → ClassId} {base : Nat} {ad : Nat → Nat} {H : Heap} {locs : List Loc} {ls : Array Slot} {mc' ms' : Nat} {st0 rest : List Value} {Φ' : Option Value → m_M → Prop} {a : Array Value}
    (hS : va_S (fun q => base ≤ q) s.heap H locs) (hl : j_lv (m_v base ad) ls nL lv)
    (hr : va_Run p l e R s m args below meth c H locs g.1 g.2 mc' ms' (F0 m pc ls st0) (rest.map (m_v base ad)) (j_Q D cy base ad Φ' a) (fun q => base ≤ q))
    (k : ∀ (v : Option Value) (M' : m_M), Φ' v M' → j_J (p, l, e, R, s, m, args, below, meth, c, Q, D, cy, base, ad) nL (pc + 3) lv (v.toList ++ rest) (g.1 + mc', g.2 + ms') M') : W p l e R s m args below meth c H locs g.1 g.2 Q (F0 m pc ls st0) := by
  intro T hT X
  obtain ⟨v, st₀, t, T', L, h0, X', hL, e1, e2, ⟨⟨v', M', hv, hΦ, hRel⟩, hz, hk⟩, stp⟩ := hr T hT X
  have hv : v = v'.map (m_v base ad) := Outcome.returned.inj hv
  subst hv
  rw [h0] at hz hk
  have hS' : va_S (fun q => base ≤ q) s.heap T'.heap (locs ++ L) := by
    refine ⟨Nat.le_trans hS.1 (by rw [e1]; exact hz), fun q h1 h2 => ?_, fun q hq => ?_⟩
    · rw [e1, hk q (Nat.lt_of_lt_of_le h1 hS.1) h2]
      exact hS.2.1 q h1 h2
    · rcases List.mem_append.mp hq with h | h
      · exact hS.2.2 q h
      · exact hL q h
  obtain ⟨t2, a1, b1⟩ := k v' M' hΦ T'.heap (locs ++ L) ls (by rw [e1]; exact hRel) hS' hl T' rfl X'
  rw [m_map_toList] at a1
  exact ⟨t2, stp t2 a1, b1⟩
theorem j_pre {s U : State} {D : va_G} {cy : Nat → ClassId} {base : Nat} {ad : Nat → Nat} {H : Heap} {locs : List Loc} {as : List Value} (hR : m_Rel D cy base ad M H) (hK : va_K D vwCl (m_tys cy) s) (hCs : j_Cs base ad s) (hbs : base ≤ s.heap.size) (hS : va_S (fun q => base ≤ q) s.heap H locs) (hU : U.heap = H) (hW : s.WarmedH U.vm) : j_P D cy base ad as M (as.map (m_v base ad)).toArray U :=
  ⟨rfl, by rw [hU]; exact hR, va_K.moved hW.alike hK, j_Cs.moved hW hbs (fun q hq => by rw [hU]; exact hS.2.1 q (by omega) (by omega)) hCs⟩

theorem j_callV (C : j_C0 X y cc nL d mc ms) {idx d' mc' ms' nL' n : Nat} {y' : MethodName} {cc' : ByteArray} {ret' : Option FieldType} {Φ' : Option Value → m_M → Prop} {kd a : Nat} {as rest : List Value} (F : j_V y.cls idx kd y' cc' nL' ret' n) (hc : j_Ct y' cc' nL' ret' d' mc' ms' (.ref a :: as) M Φ') (hk : m_K M a = kd) (hn : as.length = n) (hst : st = as.reverse ++ .ref a :: rest) (hdd : d' < d) (hg : g.1 + mc' ≤ mc ∧ g.2 + ms' ≤ ms) (hw : (rest.map fun v => v.category).sum ≤ 8) (hd : decode cc pc = .ok (.invokevirtual idx, 3)) (k : ∀ (v : Option Value) (M' : m_M), Φ' v M' → j_J X nL (pc + 3) lv (v.toList ++ rest) (g.1 + mc', g.2 + ms') M') : j_J X nL pc lv (st) g M := by
  obtain ⟨p, l, e, R, s, m, args, below, meth, c, Q, D, cy, base, ad⟩ := X
  obtain ⟨hx, hb, hml, hown, hts, hK, hbs, hCs, hR0, hname⟩ := C
  intro H locs ls hR hS hl
  subst hst
  have hw' : ((rest.map (m_v base ad)).map fun v => v.category).sum ≤ 8 := by
    rw [List.map_map]
    have e9 : ((fun v : Value => v.category) ∘ m_v base ad) = fun v : Value => v.category := by funext v; exact m_v_cat base ad v
    rw [e9]; exact hw
  have hg' : g.1 + mc' ≤ R.cells ∧ g.2 + ms' ≤ R.slots := by rw [hR0.2.2.1, hR0.2.2.2]; exact hg
  obtain ⟨FB, hk11, hinst, r, hr1, hsel⟩ := F
  obtain ⟨h1, h2⟩ := m_lt hk (by omega)
  obtain ⟨r2, g1, cell, q1, q2, q3, q4⟩ := j_obj hR h1 h2 hk11
  cases g1.symm.trans hr1
  have hM := hc l D cy base ad
  refine j_run hS hl (va_runV (C := r.1) (b := m_ad base ad a) (As := as.map (m_v base ad)) ⟨hx, hb, hml, hown, hts⟩ hM ⟨j_Lb.callB hts FB hR0 hdd, hts _ hinst, hts _ hsel⟩ ⟨j_P.blind, ⟨cell, by rw [m_ad_lt hR h1]; exact q1, by rw [q3]; rfl, by rw [q2]; exact (hK.1 kd r hr1).2.1⟩, fun U hU hW => j_pre (as := .ref a :: as) hR hK hCs hbs hS hU hW⟩ rfl (by rw [List.length_map]; exact hn) hl.1 (by simp [m_v]) (lv_room hw') hd hg') k

theorem j_callU (C : j_C0 X y cc nL d mc ms) {idx d' mc' ms' nL' n : Nat} {y' : MethodName} {cc' : ByteArray} {ret' : Option FieldType} {Φ' : Option Value → m_M → Prop} {kd a : Nat} {owner : String} {x : MethodName} {as rest : List Value} (F : j_U y.cls idx kd owner x y' cc' nL' ret' n) (hc : j_Ct y' cc' nL' ret' d' mc' ms' (.ref a :: as) M Φ') (hk : m_K M a = kd) (hn : as.length = n) (hst : st = as.reverse ++ .ref a :: rest) (hdd : d' < d) (hg : g.1 + mc' ≤ mc ∧ g.2 + ms' ≤ ms) (hw : (rest.map fun v => v.category).sum ≤ 8) (hd : decode cc pc = .ok (.invokevirtual idx, 3)) (k : ∀ (v : Option Value) (M' : m_M), Φ' v M' → j_J X nL (pc + 3) lv (v.toList ++ rest) (g.1 + mc', g.2 + ms') M') : j_J X nL pc lv (st) g M := by
  obtain ⟨p, l, e, R, s, m, args, below, meth, c, Q, D, cy, base, ad⟩ := X
  obtain ⟨hx, hb, hml, hown, hts, hK, hbs, hCs, hR0, hname⟩ := C
  intro H locs ls hR hS hl
  subst hst
  have hw' : ((rest.map (m_v base ad)).map fun v => v.category).sum ≤ 8 := by
    rw [List.map_map]
    have e9 : ((fun v : Value => v.category) ∘ m_v base ad) = fun v : Value => v.category := by funext v; exact m_v_cat base ad v
    rw [e9]; exact hw
  have hg' : g.1 + mc' ≤ R.cells ∧ g.2 + ms' ≤ R.slots := by rw [hR0.2.2.1, hR0.2.2.2]; exact hg
  obtain ⟨f1, f2, f3, f4, f5, f6, f7, f8, f9, hk11, r, hr1, hsel⟩ := F
  obtain ⟨h1, h2⟩ := m_lt hk (by omega)
  obtain ⟨r2, g1, cell, q1, q2, q3, q4⟩ := j_obj hR h1 h2 hk11
  cases g1.symm.trans hr1
  have hM := hc l D cy base ad
  have hcu : va_CU R s args y.cls r.1 owner idx x y' cc' nL' ret' (Cond.code y' cc' nL' ret' :: j_tbl) (j_rm d' mc' ms') mc' ms' n := by
    obtain ⟨r1, r2, r3, r4⟩ := hR0
    refine ⟨⟨rfl, rfl, by show d' + 1 ≤ R.frames; omega, by show 8 + (nL' + 11) + 64 * d' ≤ R.locals; omega, pay_in hts (j_good f5), List.mem_cons_self⟩, hts _ f5, hts _ f4, f7, fun sig h => ?_, hts _ f1, hts _ f2, by rw [← f6]; exact va_Decl.of (hts _ f3) (hts _ f5), hts _ hsel, hts _ f3⟩
    rw [h] at f8
    exact (Option.some.inj f8).symm
  refine j_run hS hl (va_runU (C := r.1) (owner := owner) (b := m_ad base ad a) (As := as.map (m_v base ad)) ⟨hx, hb, hml, hown, hts⟩ hM hcu ⟨j_P.blind, ⟨cell, by rw [m_ad_lt hR h1]; exact q1, by rw [q3]; rfl, by rw [q2]; exact (hK.1 kd r hr1).2.1⟩, fun U hU hW => j_pre (as := .ref a :: as) hR hK hCs hbs hS hU hW⟩ rfl (by rw [List.length_map]; exact hn) hl.1 (by simp [m_v]) (lv_room hw') hd hg') k

theorem j_callS (C : j_C0 X y cc nL d mc ms) {idx d' mc' ms' nL' n : Nat} {y' : MethodName} {cc' : ByteArray} {ret' : Option FieldType} {Φ' : Option Value → m_M → Prop} {as rest : List Value} (F : j_S y.cls idx y' cc' nL' ret' n) (hc : j_Ct y' cc' nL' ret' d' mc' ms' as M Φ') (hn : as.length = n) (hst : st = as.reverse ++ rest) (hdd : d' < d) (hg : g.1 + mc' ≤ mc ∧ g.2 + ms' ≤ ms) (hw : (rest.map fun v => v.category).sum ≤ 8) (hd : decode cc pc = .ok (.invokestatic idx, 3)) (k : ∀ (v : Option Value) (M' : m_M), Φ' v M' → j_J X nL (pc + 3) lv (v.toList ++ rest) (g.1 + mc', g.2 + ms') M') : j_J X nL pc lv (st) g M := by
  obtain ⟨p, l, e, R, s, m, args, below, meth, c, Q, D, cy, base, ad⟩ := X
  obtain ⟨hx, hb, hml, hown, hts, hK, hbs, hCs, hR0, hname⟩ := C
  intro H locs ls hR hS hl
  subst hst
  have hw' : ((rest.map (m_v base ad)).map fun v => v.category).sum ≤ 8 := by
    rw [List.map_map]
    have e9 : ((fun v : Value => v.category) ∘ m_v base ad) = fun v : Value => v.category := by funext v; exact m_v_cat base ad v
    rw [e9]; exact hw
  have hg' : g.1 + mc' ≤ R.cells ∧ g.2 + ms' ≤ R.slots := by rw [hR0.2.2.1, hR0.2.2.2]; exact hg
  obtain ⟨FB, hstat⟩ := F
  have hM := hc l D cy base ad
  refine j_run hS hl (va_runS (As := as.map (m_v base ad)) ⟨hx, hb, hml, hown, hts⟩ hM ⟨j_Lb.callB hts FB hR0 hdd, hts _ hstat⟩ ⟨j_P.blind, fun U hU hW => j_pre (as := as) hR hK hCs hbs hS hU hW⟩ rfl (by rw [List.length_map]; exact hn) hl.1 (by simp) (lv_room hw') hd hg') k

theorem j_callI (C : j_C0 X y cc nL d mc ms) {idx d' mc' ms' nL' n : Nat} {y' : MethodName} {cc' : ByteArray} {Φ' : Option Value → m_M → Prop} {a : Nat} {as rest : List Value} (F : j_I y.cls idx y' cc' nL' n) (hc : j_Ct y' cc' nL' none d' mc' ms' (.ref a :: as) M Φ') (hn : as.length = n) (hst : st = as.reverse ++ .ref a :: rest) (hdd : d' < d) (hg : g.1 + mc' ≤ mc ∧ g.2 + ms' ≤ ms) (hw : (rest.map fun v => v.category).sum ≤ 8) (hd : decode cc pc = .ok (.invokespecial idx, 3)) (k : ∀ (v : Option Value) (M' : m_M), Φ' v M' → j_J X nL (pc + 3) lv (v.toList ++ rest) (g.1 + mc', g.2 + ms') M') : j_J X nL pc lv (st) g M := by
  obtain ⟨p, l, e, R, s, m, args, below, meth, c, Q, D, cy, base, ad⟩ := X
  obtain ⟨hx, hb, hml, hown, hts, hK, hbs, hCs, hR0, hname⟩ := C
  intro H locs ls hR hS hl
  subst hst
  have hw' : ((rest.map (m_v base ad)).map fun v => v.category).sum ≤ 8 := by
    rw [List.map_map]
    have e9 : ((fun v : Value => v.category) ∘ m_v base ad) = fun v : Value => v.category := by funext v; exact m_v_cat base ad v
    rw [e9]; exact hw
  have hg' : g.1 + mc' ≤ R.cells ∧ g.2 + ms' ≤ R.slots := by rw [hR0.2.2.1, hR0.2.2.2]; exact hg
  obtain ⟨FB, hy1, hinst⟩ := F
  have hM := hc l D cy base ad
  refine j_run hS hl (va_runI (b := m_ad base ad a) (As := as.map (m_v base ad)) ⟨hx, hb, hml, hown, hts⟩ hM ⟨j_Lb.callB hts FB hR0 hdd, hy1, hts _ hinst⟩ ⟨j_P.blind, fun U hU hW => j_pre (as := .ref a :: as) hR hK hCs hbs hS hU hW⟩ rfl (by rw [List.length_map]; exact hn) hl.1 (by simp [m_v]) (lv_room hw') hd hg') k

theorem j_objInit (C : j_C0 X y cc nL d mc ms) {idx a : Nat} (f1 : Cond.methodLink y.cls idx Lib.objectInit ∈ j_tbl) (f2 : Cond.instanceMethod Lib.objectInit ∈ j_tbl) (f3 : Cond.code Lib.objectInit ⟨#[0xb1]⟩ 1 none ∈ j_tbl) (hdd : 0 < d) (hw : (st.map fun v => v.category).sum ≤ 8) (hd : decode cc pc = .ok (.invokespecial idx, 3)) (k : j_J X nL (pc + 3) lv st g M) : j_J X nL pc lv (.ref a :: st) g M := by
  obtain ⟨p, l, e, R, s, m, args, below, meth, c, Q, D, cy, base, ad⟩ := X
  obtain ⟨hx, hb, hml, hown, hts, hK, hbs, hCs, hR0, hname⟩ := C
  intro H locs ls hR hS hl
  have hw' : ((st.map (m_v base ad)).map fun v => v.category).sum ≤ 8 := by
    rw [List.map_map]
    have e9 : ((fun v : Value => v.category) ∘ m_v base ad) = fun v : Value => v.category := by funext v; exact m_v_cat base ad v
    rw [e9]; exact hw
  have hroom := lv_room (m := m) (pc := pc) (ls := ls) (rest := (Value.ref a :: st).map (m_v base ad)) hw'
  refine W.objInit hx hb hown (hts _ f1) (hts _ f2) (hts _ f3) rfl (hl.1.trans hml.symm) (a := m_ad base ad a) (rest := st.map (m_v base ad)) rfl hd (by have := hR0.1; show 1 ≤ R.frames; omega) (by have := hR0.2.1; show _ ≤ R.locals; omega) (k H locs ls hR hS hl)

theorem m_E_new {cy : Nat → ClassId} {f : Nat → Nat} {M : m_M} {kd len i : Nat} (h : i ≠ m_N M) : m_E cy f (m_new M kd len) i = m_E cy f M i := by
  have e1 : m_T (m_new M kd len) i = m_T M i := by simp [m_T, m_new, h]
  have e2 : m_I (m_new M kd len) i = m_I M i := by funext j; simp [m_I, m_new, h]
  have e3 : m_L (m_new M kd len) i = m_L M i := by funext j; simp [m_L, m_new, h]
  have e4 : m_R (m_new M kd len) i = m_R M i := by funext j; simp [m_R, m_new, h]
  simp only [m_E, m_fs, m_fl, e1, e2, e3, e4]
theorem m_Rel.new {D : va_G} {cy : Nat → ClassId} {base : Nat} {ad : Nat → Nat} {M : m_M} {H H1 : Heap} {kd len : Nat} (h : m_Rel D cy base ad M H) (hN : m_N M < 1000000) (he : kd < 18 → va_at D vwCl (base + m_N M, m_E cy (m_ad base ad) (m_new M kd len) (m_N M)) H1) (z : H1.size = H.size + 1) (oq : ∀ q : Nat, q < H.size → H1[q]? = H[q]?) : m_Rel D cy base ad (m_new M kd len) H1 := by
  have e1 : m_N (m_new M kd len) = m_N M + 1 := rfl
  refine ⟨by rw [z, e1, h.1]; omega, by rw [e1]; omega, fun i hi hk => ?_⟩
  rw [e1] at hi
  by_cases hin : i = m_N M
  · subst hin
    exact he (by simpa [m_T, m_new] using hk)
  · have e2 : m_T (m_new M kd len) i = m_T M i := by simp [m_T, m_new, hin]
    rw [m_E_new hin]
    rw [e2] at hk
    exact (h.2.2 i (by omega) hk).kept (oq _ (by rw [h.1]; omega))
theorem m_new_T (M : m_M) (kd len : Nat) : m_T (m_new M kd len) (m_N M) = (kd, len) := by simp [m_T, m_new, m_N]
theorem m_new_I (M : m_M) (kd len j : Nat) : m_I (m_new M kd len) (m_N M) j = 0 := by simp [m_I, m_new, m_N]
theorem m_new_L (M : m_M) (kd len j : Nat) : m_L (m_new M kd len) (m_N M) j = 0 := by simp [m_L, m_new, m_N]
theorem m_new_R (M : m_M) (kd len j : Nat) : m_R (m_new M kd len) (m_N M) j = none := by simp [m_R, m_new, m_N]

theorem j_new (C : j_C0 X y cc nL d mc ms) {idx kd N : Nat} {Cn : String} {T : u_T} {ty0 : Nat → FieldType} (F : j_K kd Cn T N ty0) (f1 : Cond.classLink y.cls idx Cn ∈ j_tbl) (f2 : Cond.instantiable Cn N ∈ j_tbl) (f3 : Cond.initialized Cn ∈ j_tbl) (hN : m_N M < 1000000) (hg : g.1 + 1 ≤ mc ∧ g.2 + N ≤ ms) (hd : decode cc pc = .ok (.new idx, 3)) (k : j_J X nL (pc + 3) lv (.ref (m_N M) :: st) (g.1 + 1, g.2 + N) (m_new M kd 0)) : j_J X nL pc lv (st) g M := by
  obtain ⟨p, l, e, R, s, m, args, below, meth, c, Q, D, cy, base, ad⟩ := X
  obtain ⟨hx, hb, hml, hown, hts, hK, hbs, hCs, hR0, hname⟩ := C
  intro H locs ls hR hS hl
  obtain ⟨hc, hin, hty, hnm, hlen, hk11, hdef⟩ := F
  have hKn := hK.1 kd _ hc
  have hg' : g.1 + 1 ≤ R.cells ∧ g.2 + N ≤ R.slots := by rw [hR0.2.2.1, hR0.2.2.2]; exact hg
  refine W.newcK hx hb hown (hts _ f1) (hts _ f2) (hts _ f3) rfl hd hg'.1 hg'.2 hKn.2.1 rfl fun H1 kC hkC e1 z1 o1 => ?_
  have hsz : H.size = base + m_N M := hR.1
  have hR1 : m_Rel D cy base ad (m_new M kd 0) H1 := by
    refine hR.new hN (fun _ => ?_) z1 o1
    rw [m_E_obj (M := m_new M kd 0) (kd := kd) (by rw [m_new_T]) hk11, ← hsz]
    refine ⟨_, hc, (u_born ty0 hts hin hKn hkC e1 hty).to (fun j hj => ?_)⟩
    obtain ⟨t', ht'⟩ : ∃ t', (m_ty kd)[j]? = some t' := ⟨_, List.getElem?_eq_getElem (by rw [hlen]; exact hj)⟩
    have hg2 : (m_ty kd).getD j 0 = t' := by simp [List.getD, ht']
    rw [hdef j hj, hg2]
    simp only [vp_V, List.getD, m_fs_at ht', m_fl, m_new_I, m_new_L, m_new_R, Option.getD_some]
    rfl
  have hS1 : va_S (fun q => base ≤ q) s.heap H1 locs := ⟨Nat.le_trans hS.1 (by omega), fun x h1 h2 => (o1 x (Nat.lt_of_lt_of_le h1 hS.1)).trans (hS.2.1 x h1 h2), hS.2.2⟩
  have kk := k H1 locs ls hR1 hS1 hl
  have had : m_ad base ad (m_N M) = H.size := by simp only [m_ad, if_pos hN, hsz]
  simp only [List.map_cons, m_v, had] at kk
  exact kk

theorem j_newI (C : j_C0 X y cc nL d mc ms) {n : Int32} {N : Nat} (f1 : Cond.arrayClass .int ∈ j_tbl) (hn : ¬ n < 0) (hnN : n.toNatClampNeg = N) (hby : N ≤ 60000) (hN : m_N M < 1000000) (hg : g.1 + 1 ≤ mc ∧ g.2 + N ≤ ms) (hd : decode cc pc = .ok (.newarray .int, 2)) (k : j_J X nL (pc + 2) lv (.ref (m_N M) :: st) (g.1 + 1, g.2 + N) (m_new M 12 N)) : j_J X nL pc lv (.int n :: st) g M := by
  obtain ⟨p, l, e, R, s, m, args, below, meth, c, Q, D, cy, base, ad⟩ := X
  obtain ⟨hx, hb, hml, hown, hts, hK, hbs, hCs, hR0, hname⟩ := C
  intro H locs ls hR hS hl
  have hg' : g.1 + 1 ≤ R.cells ∧ g.2 + N ≤ R.slots := by rw [hR0.2.2.1, hR0.2.2.2]; exact hg
  refine va_newaK (atype := .int) hx hb (hts _ f1) rfl hd rfl hn hnN (by simp only [newarray.typeOf, componentBytes]; omega) hg'.1 hg'.2 rfl fun H1 cA e1 z1 o1 hAr hNm => ?_
  have hsz : H.size = base + m_N M := hR.1
  have hcA : cA = cy 12 := Option.some.inj (hNm.symm.trans (hK.2 1 _ (m_tys_at cy (kd := 12) (by omega) (by omega))).2)
  subst hcA
  have hlenN : m_len (m_new M 12 N) (m_N M) = N := by simp only [m_len, m_new_T]
  have hR1 : m_Rel D cy base ad (m_new M 12 N) H1 := by
    refine hR.new hN (fun _ => ?_) z1 o1
    rw [m_E_int (M := m_new M 12 N) (kd := 12) (by rw [m_new_T]) (by omega), ← hsz]
    show H1[H.size]? = some (vp_cell _ _)
    rw [e1, vp_cell_i, hlenN]
    congr 2
    funext j
    rw [m_new_I]
    rfl
  have hS1 : va_S (fun q => base ≤ q) s.heap H1 locs := ⟨Nat.le_trans hS.1 (by omega), fun x h1 h2 => (o1 x (Nat.lt_of_lt_of_le h1 hS.1)).trans (hS.2.1 x h1 h2), hS.2.2⟩
  have kk := k H1 locs ls hR1 hS1 hl
  have had : m_ad base ad (m_N M) = H.size := by simp only [m_ad, if_pos hN, hsz]
  simp only [List.map_cons, m_v, had] at kk
  exact kk

theorem j_newJ (C : j_C0 X y cc nL d mc ms) {n : Int32} {N : Nat} (f1 : Cond.arrayClass .long ∈ j_tbl) (hn : ¬ n < 0) (hnN : n.toNatClampNeg = N) (hby : N ≤ 60000) (hN : m_N M < 1000000) (hg : g.1 + 1 ≤ mc ∧ g.2 + N ≤ ms) (hd : decode cc pc = .ok (.newarray .long, 2)) (k : j_J X nL (pc + 2) lv (.ref (m_N M) :: st) (g.1 + 1, g.2 + N) (m_new M 13 N)) : j_J X nL pc lv (.int n :: st) g M := by
  obtain ⟨p, l, e, R, s, m, args, below, meth, c, Q, D, cy, base, ad⟩ := X
  obtain ⟨hx, hb, hml, hown, hts, hK, hbs, hCs, hR0, hname⟩ := C
  intro H locs ls hR hS hl
  have hg' : g.1 + 1 ≤ R.cells ∧ g.2 + N ≤ R.slots := by rw [hR0.2.2.1, hR0.2.2.2]; exact hg
  refine va_newaK (atype := .long) hx hb (hts _ f1) rfl hd rfl hn hnN (by simp only [newarray.typeOf, componentBytes]; omega) hg'.1 hg'.2 rfl fun H1 cA e1 z1 o1 hAr hNm => ?_
  have hsz : H.size = base + m_N M := hR.1
  have hcA : cA = cy 13 := Option.some.inj (hNm.symm.trans (hK.2 2 _ (m_tys_at cy (kd := 13) (by omega) (by omega))).2)
  subst hcA
  have hlenN : m_len (m_new M 13 N) (m_N M) = N := by simp only [m_len, m_new_T]
  have hR1 : m_Rel D cy base ad (m_new M 13 N) H1 := by
    refine hR.new hN (fun _ => ?_) z1 o1
    rw [m_E_long (M := m_new M 13 N) (by rw [m_new_T]), ← hsz]
    show H1[H.size]? = some (vp_cell _ _)
    rw [e1, vp_cell_l, hlenN]
    congr 2
    funext j
    rw [m_new_L]
    rfl
  have hS1 : va_S (fun q => base ≤ q) s.heap H1 locs := ⟨Nat.le_trans hS.1 (by omega), fun x h1 h2 => (o1 x (Nat.lt_of_lt_of_le h1 hS.1)).trans (hS.2.1 x h1 h2), hS.2.2⟩
  have kk := k H1 locs ls hR1 hS1 hl
  have had : m_ad base ad (m_N M) = H.size := by simp only [m_ad, if_pos hN, hsz]
  simp only [List.map_cons, m_v, had] at kk
  exact kk

theorem j_newC (C : j_C0 X y cc nL d mc ms) {n : Int32} {N : Nat} (f1 : Cond.arrayClass .char ∈ j_tbl) (hn : ¬ n < 0) (hnN : n.toNatClampNeg = N) (hby : N ≤ 60000) (hN : m_N M < 1000000) (hg : g.1 + 1 ≤ mc ∧ g.2 + N ≤ ms) (hd : decode cc pc = .ok (.newarray .char, 2)) (k : j_J X nL (pc + 2) lv (.ref (m_N M) :: st) (g.1 + 1, g.2 + N) (m_new M 11 N)) : j_J X nL pc lv (.int n :: st) g M := by
  obtain ⟨p, l, e, R, s, m, args, below, meth, c, Q, D, cy, base, ad⟩ := X
  obtain ⟨hx, hb, hml, hown, hts, hK, hbs, hCs, hR0, hname⟩ := C
  intro H locs ls hR hS hl
  have hg' : g.1 + 1 ≤ R.cells ∧ g.2 + N ≤ R.slots := by rw [hR0.2.2.1, hR0.2.2.2]; exact hg
  refine va_newaK (atype := .char) hx hb (hts _ f1) rfl hd rfl hn hnN (by simp only [newarray.typeOf, componentBytes]; omega) hg'.1 hg'.2 rfl fun H1 cA e1 z1 o1 hAr hNm => ?_
  have hsz : H.size = base + m_N M := hR.1
  have hcA : cA = cy 11 := Option.some.inj (hNm.symm.trans (hK.2 0 _ (m_tys_at cy (kd := 11) (by omega) (by omega))).2)
  subst hcA
  have hlenN : m_len (m_new M 11 N) (m_N M) = N := by simp only [m_len, m_new_T]
  have hR1 : m_Rel D cy base ad (m_new M 11 N) H1 := by
    refine hR.new hN (fun _ => ?_) z1 o1
    rw [m_E_int (M := m_new M 11 N) (kd := 11) (by rw [m_new_T]) (by omega), ← hsz]
    show H1[H.size]? = some (vp_cell _ _)
    rw [e1, vp_cell_i, hlenN]
    congr 2
    funext j
    rw [m_new_I]
    rfl
  have hS1 : va_S (fun q => base ≤ q) s.heap H1 locs := ⟨Nat.le_trans hS.1 (by omega), fun x h1 h2 => (o1 x (Nat.lt_of_lt_of_le h1 hS.1)).trans (hS.2.1 x h1 h2), hS.2.2⟩
  have kk := k H1 locs ls hR1 hS1 hl
  have had : m_ad base ad (m_N M) = H.size := by simp only [m_ad, if_pos hN, hsz]
  simp only [List.map_cons, m_v, had] at kk
  exact kk

theorem j_newZ (C : j_C0 X y cc nL d mc ms) {n : Int32} {N : Nat} (f1 : Cond.arrayClass .boolean ∈ j_tbl) (hn : ¬ n < 0) (hnN : n.toNatClampNeg = N) (hby : N ≤ 60000) (hN : m_N M < 1000000) (hg : g.1 + 1 ≤ mc ∧ g.2 + N ≤ ms) (hd : decode cc pc = .ok (.newarray .boolean, 2)) (k : j_J X nL (pc + 2) lv (.ref (m_N M) :: st) (g.1 + 1, g.2 + N) (m_new M 14 N)) : j_J X nL pc lv (.int n :: st) g M := by
  obtain ⟨p, l, e, R, s, m, args, below, meth, c, Q, D, cy, base, ad⟩ := X
  obtain ⟨hx, hb, hml, hown, hts, hK, hbs, hCs, hR0, hname⟩ := C
  intro H locs ls hR hS hl
  have hg' : g.1 + 1 ≤ R.cells ∧ g.2 + N ≤ R.slots := by rw [hR0.2.2.1, hR0.2.2.2]; exact hg
  refine va_newaK (atype := .boolean) hx hb (hts _ f1) rfl hd rfl hn hnN (by simp only [newarray.typeOf, componentBytes]; omega) hg'.1 hg'.2 rfl fun H1 cA e1 z1 o1 hAr hNm => ?_
  have hsz : H.size = base + m_N M := hR.1
  have hcA : cA = cy 14 := Option.some.inj (hNm.symm.trans (hK.2 3 _ (m_tys_at cy (kd := 14) (by omega) (by omega))).2)
  subst hcA
  have hlenN : m_len (m_new M 14 N) (m_N M) = N := by simp only [m_len, m_new_T]
  have hR1 : m_Rel D cy base ad (m_new M 14 N) H1 := by
    refine hR.new hN (fun _ => ?_) z1 o1
    rw [m_E_int (M := m_new M 14 N) (kd := 14) (by rw [m_new_T]) (by omega), ← hsz]
    show H1[H.size]? = some (vp_cell _ _)
    rw [e1, vp_cell_i, hlenN]
    congr 2
    funext j
    rw [m_new_I]
    rfl
  have hS1 : va_S (fun q => base ≤ q) s.heap H1 locs := ⟨Nat.le_trans hS.1 (by omega), fun x h1 h2 => (o1 x (Nat.lt_of_lt_of_le h1 hS.1)).trans (hS.2.1 x h1 h2), hS.2.2⟩
  have kk := k H1 locs ls hR1 hS1 hl
  have had : m_ad base ad (m_N M) = H.size := by simp only [m_ad, if_pos hN, hsz]
  simp only [List.map_cons, m_v, had] at kk
  exact kk

theorem j_anew (C : j_C0 X y cc nL d mc ms) {idx kd : Nat} {Cn : String} {n : Int32} {N : Nat} (hkd : 15 ≤ kd ∧ kd < 18 ∧ m_aty kd = .object Cn) (f1 : Cond.classLink y.cls idx Cn ∈ j_tbl) (hn : ¬ n < 0) (hnN : n.toNatClampNeg = N) (hby : N ≤ 60000) (hN : m_N M < 1000000) (hg : g.1 + 1 ≤ mc ∧ g.2 + N ≤ ms) (hd : decode cc pc = .ok (.anewarray idx, 3)) (k : j_J X nL (pc + 3) lv (.ref (m_N M) :: st) (g.1 + 1, g.2 + N) (m_new M kd N)) : j_J X nL pc lv (.int n :: st) g M := by
  obtain ⟨p, l, e, R, s, m, args, below, meth, c, Q, D, cy, base, ad⟩ := X
  obtain ⟨hx, hb, hml, hown, hts, hK, hbs, hCs, hR0, hname⟩ := C
  intro H locs ls hR hS hl
  subst hnN
  have hg' : g.1 + 1 ≤ R.cells ∧ g.2 + n.toNatClampNeg ≤ R.slots := by rw [hR0.2.2.1, hR0.2.2.2]; exact hg
  have f2 : (Cond.arrayOver (.object Cn)).before args s = true := by
    obtain ⟨h1, h2, h3⟩ := hkd
    rcases (show kd = 15 ∨ kd = 16 ∨ kd = 17 by omega) with rfl | rfl | rfl
    · cases (show FieldType.object "OneVerb$Book" = .object Cn from h3); exact va_AO.use hCs.2.2.2.2.2.1.2.1
    · cases (show FieldType.object "OneVerb$Saying" = .object Cn from h3); exact va_AO.use hCs.2.2.2.2.2.1.2.2.1
    · cases (show FieldType.object "OneVerb$WorldSet" = .object Cn from h3); exact va_AO.use hCs.2.2.2.2.2.1.2.2.2
  refine W.anew hx hb hown (hts _ f1) f2 rfl hd rfl hn (by omega) hg'.1 hg'.2 fun cA kA comp a1 a2 a3 a4 => ?_
  have hsz : H.size = base + m_N M := hR.1
  have hka := (hK.2 (kd - 11) _ (m_tys_at cy (by omega) (by omega))).2
  simp only [hkd.2.2] at hka
  obtain ⟨-, -, -, -, -, hnm⟩ := hka
  have hcA : cA = cy kd := Option.some.inj (a1.symm.trans hnm)
  subst hcA
  have hlenN : m_len (m_new M kd n.toNatClampNeg) (m_N M) = n.toNatClampNeg := by simp only [m_len, m_new_T]
  have hR1 : m_Rel D cy base ad (m_new M kd n.toNatClampNeg) (H.push { cls := cy kd, slots := Array.replicate n.toNatClampNeg .null, vm := .none }) := by
    refine hR.new hN (fun _ => ?_) (by simp) (fun q hq => by rw [Array.getElem?_push, if_neg (Nat.ne_of_lt hq)])
    rw [m_E_ref (M := m_new M kd n.toNatClampNeg) (kd := kd) (by rw [m_new_T]) (by omega), ← hsz]
    show (H.push _)[H.size]? = some (vp_cell _ _)
    rw [vp_cell_q, hlenN, Array.getElem?_push_size]
    congr 1
    simp only [arrV, m_new_R]
    congr 1
    apply Array.ext
    · simp
    · intro i h1 h2
      simp [va_rf]
  have hS1 : va_S (fun q => base ≤ q) s.heap (H.push { cls := cy kd, slots := Array.replicate n.toNatClampNeg .null, vm := .none }) locs := ⟨by rw [Array.size_push]; exact Nat.le_succ_of_le hS.1, fun x h1 h2 => by rw [Array.getElem?_push, if_neg (by have := hS.1; omega)]; exact hS.2.1 x h1 h2, hS.2.2⟩
  have kk := k _ locs ls hR1 hS1 hl
  have had : m_ad base ad (m_N M) = H.size := by simp only [m_ad, if_pos hN, hsz]
  simp only [List.map_cons, m_v, had] at kk
  exact kk

end J_CALLS
