theorem j_same {s : State} {args : Array Value} (hts : ∀ w ∈ j_tbl, w.before args s = true) {ref o n dd : String} (h : ref = o ∨ Cond.sameField ref o n dd ∈ j_tbl) : ∀ x, s.fieldFound? o n dd = some x → s.fieldFound? ref n dd = some x := by
  intro x hx
  rcases h with rfl | h
  · exact hx
  · exact u_same (hts _ h) x hx
theorem j_obj {D : va_G} {cy : Nat → ClassId} {base : Nat} {ad : Nat → Nat} {H : Heap} {M : m_M} {a kd : Nat} (hR : m_Rel D cy base ad M H) (h1 : a < m_N M) (h2 : (m_T M a).1 = kd) (h3 : kd < 11) : va_at D vwCl (base + a, .inr (kd, m_fs (m_ad base ad) M a kd)) H := by
  have he := hR.2.2 a h1 (by omega)
  rw [m_E_obj h2 h3] at he
  exact he
theorem m_vrf (base : Nat) (ad : Nat → Nat) (r : Option Nat) : va_rf (r.map (m_ad base ad)) = m_v base ad (va_rf r) := by cases r <;> rfl
theorem m_fs_upd {f : Nat → Nat} {M M' : m_M} {a kd k t : Nat} {v : Value} (ht : (m_ty kd)[k]? = some t) (hv : m_fl f M' a k t = v) (ho : ∀ j t', j ≠ k → m_fl f M' a j t' = m_fl f M a j t') : ∀ j, j < (m_ty kd).length → updV (vp_V (m_fs f M a kd)) k v j = vp_V (m_fs f M' a kd) j := by
  intro j hj
  by_cases hjk : j = k
  · subst hjk
    simp only [updV, if_true, vp_V]
    rw [List.getD, m_fs_at ht]
    simp [hv]
  · obtain ⟨t', ht'⟩ : ∃ t', (m_ty kd)[j]? = some t' := ⟨_, List.getElem?_eq_getElem hj⟩
    simp only [updV, if_neg hjk, vp_V]
    rw [List.getD, List.getD, m_fs_at ht', m_fs_at ht', ho j t' hjk]
section J_ROWS2
variable {X : j_X} {y : MethodName} {cc : ByteArray} {nL : Nat} {ret : Option FieldType} {d mc ms : Nat} {Φ : Option Value → m_M → Prop} {pc : Nat} {lv : List (Option Value)} {st : List Value} {g : Nat × Nat} {M : m_M}

theorem j_getI (C : j_C0 X y cc nL d mc ms) {a kd q idx : Nat} {ty : FieldType} {fin : Bool} (F : j_F y.cls idx kd q ty fin) (hk : m_K M a = kd) (ht : (m_ty kd)[q]? = some 0) (hd : decode cc pc = .ok (.getfield idx, 3)) (k : j_J X nL (pc + 3) lv (.int (m_I M a q) :: st) g M) : j_J X nL pc lv (.ref a :: st) g M := by
  obtain ⟨p, l, e, R, s, m, args, below, meth, c, Q, D, cy, base, ad⟩ := X
  obtain ⟨hx, hb, hml, hown, hts, hK, hbs, hCs, hR0, hname⟩ := C
  intro H locs ls hR hS hl
  obtain ⟨Cn, T, N, ty0, ref, ⟨hc, hin, hty, hnm, hlen, hk11, hdef⟩, hq, hlink, hsame, -, -⟩ := F
  obtain ⟨h1, h2⟩ := m_lt hk (by omega)
  have he := j_obj hR h1 h2 hk11
  have hP : va_P D vwCl [(base + a, .inr (kd, m_fs (m_ad base ad) M a kd))] H := fun k q hk => by
    match k, hk with
    | 0, hk => cases hk; exact he
  simp only [List.map_cons, m_v, m_ad_lt hR h1]
  refine va_get hx hb hts hin hown hK hP 0 rfl hc q hq (hts _ hlink) (j_same hts hsame) (m_fs_at ht) hd ?_
  have kk := k H locs ls hR hS hl
  simp only [List.map_cons, m_v] at kk
  simpa only [m_fl, if_true] using kk

theorem j_getL (C : j_C0 X y cc nL d mc ms) {a kd q idx : Nat} {ty : FieldType} {fin : Bool} (F : j_F y.cls idx kd q ty fin) (hk : m_K M a = kd) (ht : (m_ty kd)[q]? = some 1) (hd : decode cc pc = .ok (.getfield idx, 3)) (k : j_J X nL (pc + 3) lv (.long (m_L M a q) :: st) g M) : j_J X nL pc lv (.ref a :: st) g M := by
  obtain ⟨p, l, e, R, s, m, args, below, meth, c, Q, D, cy, base, ad⟩ := X
  obtain ⟨hx, hb, hml, hown, hts, hK, hbs, hCs, hR0, hname⟩ := C
  intro H locs ls hR hS hl
  obtain ⟨Cn, T, N, ty0, ref, ⟨hc, hin, hty, hnm, hlen, hk11, hdef⟩, hq, hlink, hsame, -, -⟩ := F
  obtain ⟨h1, h2⟩ := m_lt hk (by omega)
  have he := j_obj hR h1 h2 hk11
  have hP : va_P D vwCl [(base + a, .inr (kd, m_fs (m_ad base ad) M a kd))] H := fun k q hk => by
    match k, hk with
    | 0, hk => cases hk; exact he
  simp only [List.map_cons, m_v, m_ad_lt hR h1]
  refine va_get hx hb hts hin hown hK hP 0 rfl hc q hq (hts _ hlink) (j_same hts hsame) (m_fs_at ht) hd ?_
  have kk := k H locs ls hR hS hl
  simp only [List.map_cons, m_v] at kk
  simpa only [m_fl, if_true, Nat.one_ne_zero, if_false] using kk

theorem j_getR (C : j_C0 X y cc nL d mc ms) {a kd q idx : Nat} {ty : FieldType} {fin : Bool} {r : Nat} (hr : m_R M a q = some r) (F : j_F y.cls idx kd q ty fin) (hk : m_K M a = kd) (ht : (m_ty kd)[q]? = some 2) (hd : decode cc pc = .ok (.getfield idx, 3)) (k : j_J X nL (pc + 3) lv (.ref r :: st) g M) : j_J X nL pc lv (.ref a :: st) g M := by
  obtain ⟨p, l, e, R, s, m, args, below, meth, c, Q, D, cy, base, ad⟩ := X
  obtain ⟨hx, hb, hml, hown, hts, hK, hbs, hCs, hR0, hname⟩ := C
  intro H locs ls hR hS hl
  obtain ⟨Cn, T, N, ty0, ref, ⟨hc, hin, hty, hnm, hlen, hk11, hdef⟩, hq, hlink, hsame, -, -⟩ := F
  obtain ⟨h1, h2⟩ := m_lt hk (by omega)
  have he := j_obj hR h1 h2 hk11
  have hP : va_P D vwCl [(base + a, .inr (kd, m_fs (m_ad base ad) M a kd))] H := fun k q hk => by
    match k, hk with
    | 0, hk => cases hk; exact he
  simp only [List.map_cons, m_v, m_ad_lt hR h1]
  refine va_get hx hb hts hin hown hK hP 0 rfl hc q hq (hts _ hlink) (j_same hts hsame) (m_fs_at ht) hd ?_
  have kk := k H locs ls hR hS hl
  simp only [List.map_cons, m_v] at kk
  simpa [m_fl, hr, va_rf] using kk

theorem j_getN (C : j_C0 X y cc nL d mc ms) {a kd q idx : Nat} {ty : FieldType} {fin : Bool} (hr : m_R M a q = none) (F : j_F y.cls idx kd q ty fin) (hk : m_K M a = kd) (ht : (m_ty kd)[q]? = some 2) (hd : decode cc pc = .ok (.getfield idx, 3)) (k : j_J X nL (pc + 3) lv (.null :: st) g M) : j_J X nL pc lv (.ref a :: st) g M := by
  obtain ⟨p, l, e, R, s, m, args, below, meth, c, Q, D, cy, base, ad⟩ := X
  obtain ⟨hx, hb, hml, hown, hts, hK, hbs, hCs, hR0, hname⟩ := C
  intro H locs ls hR hS hl
  obtain ⟨Cn, T, N, ty0, ref, ⟨hc, hin, hty, hnm, hlen, hk11, hdef⟩, hq, hlink, hsame, -, -⟩ := F
  obtain ⟨h1, h2⟩ := m_lt hk (by omega)
  have he := j_obj hR h1 h2 hk11
  have hP : va_P D vwCl [(base + a, .inr (kd, m_fs (m_ad base ad) M a kd))] H := fun k q hk => by
    match k, hk with
    | 0, hk => cases hk; exact he
  simp only [List.map_cons, m_v, m_ad_lt hR h1]
  refine va_get hx hb hts hin hown hK hP 0 rfl hc q hq (hts _ hlink) (j_same hts hsame) (m_fs_at ht) hd ?_
  have kk := k H locs ls hR hS hl
  simp only [List.map_cons, m_v] at kk
  simpa [m_fl, hr, va_rf] using kk

theorem j_putI (C : j_C0 X y cc nL d mc ms) {a kd q idx : Nat} {ty : FieldType} {z : Int32} (F : j_F y.cls idx kd q ty false) (hk : m_K M a = kd) (ht : (m_ty kd)[q]? = some 0) (hn : narrow ty (.int z) = .int z) (hfit : fits ty (.int z) = true) (hd : decode cc pc = .ok (.putfield idx, 3)) (k : j_J X nL (pc + 3) lv st g (m_sI M a q z)) : j_J X nL pc lv (.int z :: .ref a :: st) g M := by
  obtain ⟨p, l, e, R, s, m, args, below, meth, c, Q, D, cy, base, ad⟩ := X
  obtain ⟨hx, hb, hml, hown, hts, hK, hbs, hCs, hR0, hname⟩ := C
  intro H locs ls hR hS hl
  obtain ⟨Cn, T, N, ty0, ref, ⟨hc, hin, hty, hnm, hlen, hk11, hdef⟩, hq, hlink, hsame, hty1, hfin⟩ := F
  obtain ⟨h1, h2⟩ := m_lt hk (by omega)
  have hap := va_apart (own := y.cls) hts hin ty0 hty hnm hK hc
  obtain ⟨r', g1, cell, q1, q2, q3, q4⟩ := j_obj hR h1 h2 hk11
  have hr' : r' = (Cn, T, N) := Option.some.inj (g1.symm.trans hc)
  subst hr'
  obtain ⟨hSl, hfc, kC, hkC, hkind⟩ := hK.1 kd _ hc
  obtain ⟨cf, kf, fi, f, hi, hsl⟩ := hSl q hq
  have hlay := hts _ (hin _ (u_in_lay hq))
  unfold u_lay at hlay
  have hst := (u_facts hfc hkC (u_lays hts hin hq) hi).1
  have hnv : narrow ty (m_v base ad (.int z)) = m_v base ad (.int z) := by exact hn
  have hfv : fits ty (m_v base ad (.int z)) = true := by exact hfit
  simp only [List.map_cons, m_ad_lt hR h1]
  show W p l e R s m args below meth c H locs g.1 g.2 Q (F0 m pc ls (m_v base ad (.int z) :: .ref (m_ad base ad a) :: st.map (m_v base ad)))
  rw [m_ad_lt hR h1]
  rw [if_neg (by rw [hfin]; decide)] at hlay
  have h6 := u_store hfc hkC hkind hlay hi (by rw [hty q hq, hty1]) hnv hfv
  refine W.putK hx hb (f := f) ⟨hown, hts _ hlink, ⟨_, _, _, j_same hts hsame _ hi⟩, hst⟩ (by rw [q2]; exact h6) q1 q3 (by rw [hsl]; exact k2_hasslot (q4 q hq)) rfl rfl hd fun H' e1 e2 e3 => ?_
  rw [hsl] at e1 ⊢
  refine k H' _ ls (hR.put (a := a) rfl (fun j hj => m_E_sI hj) ?_ e2 e3) (hS.put e2 e3 (Nat.le_add_right base a)) hl
  rw [m_E_obj (M := m_sI M a q z) (kd := kd) h2 hk11]
  refine ⟨_, hc, t_OB.to (V := updV (vp_V (m_fs (m_ad base ad) M a kd)) q (m_v base ad (.int z))) ⟨_, e1, q2, q3, t_set q4 hap hq _⟩ (fun j hj => ?_)⟩
  exact m_fs_upd ht (by simp [m_fl, m_I, m_sI, m_up, m_v]) (fun j t' hj => by simp [m_fl, m_I, m_L, m_R, m_sI, m_up, hj]) j (by rw [hlen]; exact hj)

theorem j_putIF (C : j_C0 X y cc nL d mc ms) {a kd q idx : Nat} {ty : FieldType} {z : Int32} (F : j_F y.cls idx kd q ty true) (hini : y.name = "<init>") (hdec : j_D y.cls kd q) (hk : m_K M a = kd) (ht : (m_ty kd)[q]? = some 0) (hn : narrow ty (.int z) = .int z) (hfit : fits ty (.int z) = true) (hd : decode cc pc = .ok (.putfield idx, 3)) (k : j_J X nL (pc + 3) lv st g (m_sI M a q z)) : j_J X nL pc lv (.int z :: .ref a :: st) g M := by
  obtain ⟨p, l, e, R, s, m, args, below, meth, c, Q, D, cy, base, ad⟩ := X
  obtain ⟨hx, hb, hml, hown, hts, hK, hbs, hCs, hR0, hname⟩ := C
  intro H locs ls hR hS hl
  obtain ⟨Cn, T, N, ty0, ref, ⟨hc, hin, hty, hnm, hlen, hk11, hdef⟩, hq, hlink, hsame, hty1, hfin⟩ := F
  obtain ⟨h1, h2⟩ := m_lt hk (by omega)
  have hap := va_apart (own := y.cls) hts hin ty0 hty hnm hK hc
  obtain ⟨r', g1, cell, q1, q2, q3, q4⟩ := j_obj hR h1 h2 hk11
  have hr' : r' = (Cn, T, N) := Option.some.inj (g1.symm.trans hc)
  subst hr'
  obtain ⟨hSl, hfc, kC, hkC, hkind⟩ := hK.1 kd _ hc
  obtain ⟨cf, kf, fi, f, hi, hsl⟩ := hSl q hq
  have hlay := hts _ (hin _ (u_in_lay hq))
  unfold u_lay at hlay
  have hst := (u_facts hfc hkC (u_lays hts hin hq) hi).1
  have hnv : narrow ty (m_v base ad (.int z)) = m_v base ad (.int z) := by exact hn
  have hfv : fits ty (m_v base ad (.int z)) = true := by exact hfit
  simp only [List.map_cons, m_ad_lt hR h1]
  show W p l e R s m args below meth c H locs g.1 g.2 Q (F0 m pc ls (m_v base ad (.int z) :: .ref (m_ad base ad a) :: st.map (m_v base ad)))
  rw [m_ad_lt hR h1]
  rw [if_pos hfin] at hlay
  have hcf : m.cls = cf := by
    obtain ⟨_, _, c', _, _, _, -, -, hf', -, -, -, hown2, -⟩ := Cond.laysFinal_spec hlay
    have e1 : c' = cf := by have := hi.symm.trans hf'; simp at this; exact this.1.symm
    obtain ⟨r9, hr9, hdecl⟩ := hdec
    cases hc.symm.trans hr9
    rw [hdecl] at hown2
    rw [← e1]; exact Option.some.inj (hown.symm.trans hown2)
  have h6 := u_fits hfc hkC hkind (Or.inr hlay) hi (by rw [hty q hq, hty1]) hnv hfv
  refine W.putFinK hx hb hown (hts _ hlink) (j_same hts hsame _ hi) hst hcf (hname.trans hini) (by rw [q2]; exact h6) q1 q3 (by rw [hsl]; exact k2_hasslot (q4 q hq)) rfl rfl hd fun H' e1 e2 e3 => ?_
  rw [hsl] at e1 ⊢
  refine k H' _ ls (hR.put (a := a) rfl (fun j hj => m_E_sI hj) ?_ e2 e3) (hS.put e2 e3 (Nat.le_add_right base a)) hl
  rw [m_E_obj (M := m_sI M a q z) (kd := kd) h2 hk11]
  refine ⟨_, hc, t_OB.to (V := updV (vp_V (m_fs (m_ad base ad) M a kd)) q (m_v base ad (.int z))) ⟨_, e1, q2, q3, t_set q4 hap hq _⟩ (fun j hj => ?_)⟩
  exact m_fs_upd ht (by simp [m_fl, m_I, m_sI, m_up, m_v]) (fun j t' hj => by simp [m_fl, m_I, m_L, m_R, m_sI, m_up, hj]) j (by rw [hlen]; exact hj)

theorem j_putL (C : j_C0 X y cc nL d mc ms) {a kd q idx : Nat} {ty : FieldType} {z : Int64} (F : j_F y.cls idx kd q ty false) (hk : m_K M a = kd) (ht : (m_ty kd)[q]? = some 1) (hn : narrow ty (.long z) = .long z) (hfit : fits ty (.long z) = true) (hd : decode cc pc = .ok (.putfield idx, 3)) (k : j_J X nL (pc + 3) lv st g (m_sL M a q z)) : j_J X nL pc lv (.long z :: .ref a :: st) g M := by
  obtain ⟨p, l, e, R, s, m, args, below, meth, c, Q, D, cy, base, ad⟩ := X
  obtain ⟨hx, hb, hml, hown, hts, hK, hbs, hCs, hR0, hname⟩ := C
  intro H locs ls hR hS hl
  obtain ⟨Cn, T, N, ty0, ref, ⟨hc, hin, hty, hnm, hlen, hk11, hdef⟩, hq, hlink, hsame, hty1, hfin⟩ := F
  obtain ⟨h1, h2⟩ := m_lt hk (by omega)
  have hap := va_apart (own := y.cls) hts hin ty0 hty hnm hK hc
  obtain ⟨r', g1, cell, q1, q2, q3, q4⟩ := j_obj hR h1 h2 hk11
  have hr' : r' = (Cn, T, N) := Option.some.inj (g1.symm.trans hc)
  subst hr'
  obtain ⟨hSl, hfc, kC, hkC, hkind⟩ := hK.1 kd _ hc
  obtain ⟨cf, kf, fi, f, hi, hsl⟩ := hSl q hq
  have hlay := hts _ (hin _ (u_in_lay hq))
  unfold u_lay at hlay
  have hst := (u_facts hfc hkC (u_lays hts hin hq) hi).1
  have hnv : narrow ty (m_v base ad (.long z)) = m_v base ad (.long z) := by exact hn
  have hfv : fits ty (m_v base ad (.long z)) = true := by exact hfit
  simp only [List.map_cons, m_ad_lt hR h1]
  show W p l e R s m args below meth c H locs g.1 g.2 Q (F0 m pc ls (m_v base ad (.long z) :: .ref (m_ad base ad a) :: st.map (m_v base ad)))
  rw [m_ad_lt hR h1]
  rw [if_neg (by rw [hfin]; decide)] at hlay
  have h6 := u_store hfc hkC hkind hlay hi (by rw [hty q hq, hty1]) hnv hfv
  refine W.putK hx hb (f := f) ⟨hown, hts _ hlink, ⟨_, _, _, j_same hts hsame _ hi⟩, hst⟩ (by rw [q2]; exact h6) q1 q3 (by rw [hsl]; exact k2_hasslot (q4 q hq)) rfl rfl hd fun H' e1 e2 e3 => ?_
  rw [hsl] at e1 ⊢
  refine k H' _ ls (hR.put (a := a) rfl (fun j hj => m_E_sL hj) ?_ e2 e3) (hS.put e2 e3 (Nat.le_add_right base a)) hl
  rw [m_E_obj (M := m_sL M a q z) (kd := kd) h2 hk11]
  refine ⟨_, hc, t_OB.to (V := updV (vp_V (m_fs (m_ad base ad) M a kd)) q (m_v base ad (.long z))) ⟨_, e1, q2, q3, t_set q4 hap hq _⟩ (fun j hj => ?_)⟩
  exact m_fs_upd ht (by simp [m_fl, m_L, m_sL, m_up, m_v]) (fun j t' hj => by simp [m_fl, m_I, m_L, m_R, m_sL, m_up, hj]) j (by rw [hlen]; exact hj)

theorem j_putR (C : j_C0 X y cc nL d mc ms) {a kd q idx : Nat} {ty : FieldType} {z : Nat} (F : j_F y.cls idx kd q ty false) (hk : m_K M a = kd) (ht : (m_ty kd)[q]? = some 2) (hn : narrow ty (.ref z) = .ref z) (hfit : fits ty (.ref z) = true) (hd : decode cc pc = .ok (.putfield idx, 3)) (k : j_J X nL (pc + 3) lv st g (m_sR M a q (some z))) : j_J X nL pc lv (.ref z :: .ref a :: st) g M := by
  obtain ⟨p, l, e, R, s, m, args, below, meth, c, Q, D, cy, base, ad⟩ := X
  obtain ⟨hx, hb, hml, hown, hts, hK, hbs, hCs, hR0, hname⟩ := C
  intro H locs ls hR hS hl
  obtain ⟨Cn, T, N, ty0, ref, ⟨hc, hin, hty, hnm, hlen, hk11, hdef⟩, hq, hlink, hsame, hty1, hfin⟩ := F
  obtain ⟨h1, h2⟩ := m_lt hk (by omega)
  have hap := va_apart (own := y.cls) hts hin ty0 hty hnm hK hc
  obtain ⟨r', g1, cell, q1, q2, q3, q4⟩ := j_obj hR h1 h2 hk11
  have hr' : r' = (Cn, T, N) := Option.some.inj (g1.symm.trans hc)
  subst hr'
  obtain ⟨hSl, hfc, kC, hkC, hkind⟩ := hK.1 kd _ hc
  obtain ⟨cf, kf, fi, f, hi, hsl⟩ := hSl q hq
  have hlay := hts _ (hin _ (u_in_lay hq))
  unfold u_lay at hlay
  have hst := (u_facts hfc hkC (u_lays hts hin hq) hi).1
  have hnv : narrow ty (m_v base ad (.ref z)) = m_v base ad (.ref z) := by cases ty <;> rfl
  have hfv : fits ty (m_v base ad (.ref z)) = true := by cases ty <;> first | rfl | exact hfit
  simp only [List.map_cons, m_ad_lt hR h1]
  show W p l e R s m args below meth c H locs g.1 g.2 Q (F0 m pc ls (m_v base ad (.ref z) :: .ref (m_ad base ad a) :: st.map (m_v base ad)))
  rw [m_ad_lt hR h1]
  rw [if_neg (by rw [hfin]; decide)] at hlay
  have h6 := u_store hfc hkC hkind hlay hi (by rw [hty q hq, hty1]) hnv hfv
  refine W.putK hx hb (f := f) ⟨hown, hts _ hlink, ⟨_, _, _, j_same hts hsame _ hi⟩, hst⟩ (by rw [q2]; exact h6) q1 q3 (by rw [hsl]; exact k2_hasslot (q4 q hq)) rfl rfl hd fun H' e1 e2 e3 => ?_
  rw [hsl] at e1 ⊢
  refine k H' _ ls (hR.put (a := a) rfl (fun j hj => m_E_sR hj) ?_ e2 e3) (hS.put e2 e3 (Nat.le_add_right base a)) hl
  rw [m_E_obj (M := m_sR M a q (some z)) (kd := kd) h2 hk11]
  refine ⟨_, hc, t_OB.to (V := updV (vp_V (m_fs (m_ad base ad) M a kd)) q (m_v base ad (.ref z))) ⟨_, e1, q2, q3, t_set q4 hap hq _⟩ (fun j hj => ?_)⟩
  exact m_fs_upd ht (by simp [m_fl, m_R, m_sR, m_up, m_v, va_rf]) (fun j t' hj => by simp [m_fl, m_I, m_L, m_R, m_sR, m_up, hj]) j (by rw [hlen]; exact hj)

theorem j_putRF (C : j_C0 X y cc nL d mc ms) {a kd q idx : Nat} {ty : FieldType} {z : Nat} (F : j_F y.cls idx kd q ty true) (hini : y.name = "<init>") (hdec : j_D y.cls kd q) (hk : m_K M a = kd) (ht : (m_ty kd)[q]? = some 2) (hn : narrow ty (.ref z) = .ref z) (hfit : fits ty (.ref z) = true) (hd : decode cc pc = .ok (.putfield idx, 3)) (k : j_J X nL (pc + 3) lv st g (m_sR M a q (some z))) : j_J X nL pc lv (.ref z :: .ref a :: st) g M := by
  obtain ⟨p, l, e, R, s, m, args, below, meth, c, Q, D, cy, base, ad⟩ := X
  obtain ⟨hx, hb, hml, hown, hts, hK, hbs, hCs, hR0, hname⟩ := C
  intro H locs ls hR hS hl
  obtain ⟨Cn, T, N, ty0, ref, ⟨hc, hin, hty, hnm, hlen, hk11, hdef⟩, hq, hlink, hsame, hty1, hfin⟩ := F
  obtain ⟨h1, h2⟩ := m_lt hk (by omega)
  have hap := va_apart (own := y.cls) hts hin ty0 hty hnm hK hc
  obtain ⟨r', g1, cell, q1, q2, q3, q4⟩ := j_obj hR h1 h2 hk11
  have hr' : r' = (Cn, T, N) := Option.some.inj (g1.symm.trans hc)
  subst hr'
  obtain ⟨hSl, hfc, kC, hkC, hkind⟩ := hK.1 kd _ hc
  obtain ⟨cf, kf, fi, f, hi, hsl⟩ := hSl q hq
  have hlay := hts _ (hin _ (u_in_lay hq))
  unfold u_lay at hlay
  have hst := (u_facts hfc hkC (u_lays hts hin hq) hi).1
  have hnv : narrow ty (m_v base ad (.ref z)) = m_v base ad (.ref z) := by cases ty <;> rfl
  have hfv : fits ty (m_v base ad (.ref z)) = true := by cases ty <;> first | rfl | exact hfit
  simp only [List.map_cons, m_ad_lt hR h1]
  show W p l e R s m args below meth c H locs g.1 g.2 Q (F0 m pc ls (m_v base ad (.ref z) :: .ref (m_ad base ad a) :: st.map (m_v base ad)))
  rw [m_ad_lt hR h1]
  rw [if_pos hfin] at hlay
  have hcf : m.cls = cf := by
    obtain ⟨_, _, c', _, _, _, -, -, hf', -, -, -, hown2, -⟩ := Cond.laysFinal_spec hlay
    have e1 : c' = cf := by have := hi.symm.trans hf'; simp at this; exact this.1.symm
    obtain ⟨r9, hr9, hdecl⟩ := hdec
    cases hc.symm.trans hr9
    rw [hdecl] at hown2
    rw [← e1]; exact Option.some.inj (hown.symm.trans hown2)
  have h6 := u_fits hfc hkC hkind (Or.inr hlay) hi (by rw [hty q hq, hty1]) hnv hfv
  refine W.putFinK hx hb hown (hts _ hlink) (j_same hts hsame _ hi) hst hcf (hname.trans hini) (by rw [q2]; exact h6) q1 q3 (by rw [hsl]; exact k2_hasslot (q4 q hq)) rfl rfl hd fun H' e1 e2 e3 => ?_
  rw [hsl] at e1 ⊢
  refine k H' _ ls (hR.put (a := a) rfl (fun j hj => m_E_sR hj) ?_ e2 e3) (hS.put e2 e3 (Nat.le_add_right base a)) hl
  rw [m_E_obj (M := m_sR M a q (some z)) (kd := kd) h2 hk11]
  refine ⟨_, hc, t_OB.to (V := updV (vp_V (m_fs (m_ad base ad) M a kd)) q (m_v base ad (.ref z))) ⟨_, e1, q2, q3, t_set q4 hap hq _⟩ (fun j hj => ?_)⟩
  exact m_fs_upd ht (by simp [m_fl, m_R, m_sR, m_up, m_v, va_rf]) (fun j t' hj => by simp [m_fl, m_I, m_L, m_R, m_sR, m_up, hj]) j (by rw [hlen]; exact hj)

theorem j_putN (C : j_C0 X y cc nL d mc ms) {a kd q idx : Nat} {ty : FieldType} (F : j_F y.cls idx kd q ty false) (hk : m_K M a = kd) (ht : (m_ty kd)[q]? = some 2) (hn : narrow ty (.null) = .null) (hfit : fits ty (.null) = true) (hd : decode cc pc = .ok (.putfield idx, 3)) (k : j_J X nL (pc + 3) lv st g (m_sR M a q none)) : j_J X nL pc lv (.null :: .ref a :: st) g M := by
  obtain ⟨p, l, e, R, s, m, args, below, meth, c, Q, D, cy, base, ad⟩ := X
  obtain ⟨hx, hb, hml, hown, hts, hK, hbs, hCs, hR0, hname⟩ := C
  intro H locs ls hR hS hl
  obtain ⟨Cn, T, N, ty0, ref, ⟨hc, hin, hty, hnm, hlen, hk11, hdef⟩, hq, hlink, hsame, hty1, hfin⟩ := F
  obtain ⟨h1, h2⟩ := m_lt hk (by omega)
  have hap := va_apart (own := y.cls) hts hin ty0 hty hnm hK hc
  obtain ⟨r', g1, cell, q1, q2, q3, q4⟩ := j_obj hR h1 h2 hk11
  have hr' : r' = (Cn, T, N) := Option.some.inj (g1.symm.trans hc)
  subst hr'
  obtain ⟨hSl, hfc, kC, hkC, hkind⟩ := hK.1 kd _ hc
  obtain ⟨cf, kf, fi, f, hi, hsl⟩ := hSl q hq
  have hlay := hts _ (hin _ (u_in_lay hq))
  unfold u_lay at hlay
  have hst := (u_facts hfc hkC (u_lays hts hin hq) hi).1
  have hnv : narrow ty (m_v base ad (.null)) = m_v base ad (.null) := by cases ty <;> rfl
  have hfv : fits ty (m_v base ad (.null)) = true := by cases ty <;> first | rfl | exact hfit
  simp only [List.map_cons, m_ad_lt hR h1]
  show W p l e R s m args below meth c H locs g.1 g.2 Q (F0 m pc ls (m_v base ad (.null) :: .ref (m_ad base ad a) :: st.map (m_v base ad)))
  rw [m_ad_lt hR h1]
  rw [if_neg (by rw [hfin]; decide)] at hlay
  have h6 := u_store hfc hkC hkind hlay hi (by rw [hty q hq, hty1]) hnv hfv
  refine W.putK hx hb (f := f) ⟨hown, hts _ hlink, ⟨_, _, _, j_same hts hsame _ hi⟩, hst⟩ (by rw [q2]; exact h6) q1 q3 (by rw [hsl]; exact k2_hasslot (q4 q hq)) rfl rfl hd fun H' e1 e2 e3 => ?_
  rw [hsl] at e1 ⊢
  refine k H' _ ls (hR.put (a := a) rfl (fun j hj => m_E_sR hj) ?_ e2 e3) (hS.put e2 e3 (Nat.le_add_right base a)) hl
  rw [m_E_obj (M := m_sR M a q none) (kd := kd) h2 hk11]
  refine ⟨_, hc, t_OB.to (V := updV (vp_V (m_fs (m_ad base ad) M a kd)) q (m_v base ad (.null))) ⟨_, e1, q2, q3, t_set q4 hap hq _⟩ (fun j hj => ?_)⟩
  exact m_fs_upd ht (by simp [m_fl, m_R, m_sR, m_up, m_v, va_rf]) (fun j t' hj => by simp [m_fl, m_I, m_L, m_R, m_sR, m_up, hj]) j (by rw [hlen]; exact hj)

theorem j_aald (C : j_C0 X y cc nL d mc ms) {a kd : Nat} {i : Int32} {r : Nat} (hr : m_R M a i.toNatClampNeg = some r) (hk : m_K M a = kd) (h15 : 15 ≤ kd ∧ kd < 18) (hin : vp_in i (m_len M a)) (hd : decode cc pc = .ok (.aaload, 1)) (k : j_J X nL (pc + 1) lv (.ref r :: st) g M) : j_J X nL pc lv (.int i :: .ref a :: st) g M := by
  obtain ⟨p, l, e, R, s, m, args, below, meth, c, Q, D, cy, base, ad⟩ := X
  obtain ⟨hx, hb, hml, hown, hts, hK, hbs, hCs, hR0, hname⟩ := C
  intro H locs ls hR hS hl
  obtain ⟨h1, h2⟩ := m_lt hk (by omega)
  have he := hR.2.2 a h1 (by omega)
  rw [m_E_ref h2 h15.1] at he
  have hP : va_P D vwCl [(base + a, .inl (cy kd, m_len M a, .inr (.inr (.inr (.inr (fun j => (m_R M a j).map (m_ad base ad)))))))] H := fun k q hk => by
    match k, hk with
    | 0, hk => cases hk; exact he
  obtain ⟨Cn, hCn⟩ : ∃ Cn, m_aty kd = .object Cn := by
    rcases (show kd = 15 ∨ kd = 16 ∨ kd = 17 by omega) with rfl | rfl | rfl <;> exact ⟨_, rfl⟩
  simp only [List.map_cons, m_v, m_ad_lt hR h1]
  refine va_aldq hx hb hK hP 0 (kd - 11) rfl (by rw [m_tys_at cy (by omega) h15.2, hCn]) hin hd ?_
  have kk := k H locs ls hR hS hl
  simp only [List.map_cons, m_v] at kk
  simpa [hr, va_rf] using kk

theorem j_aaldN (C : j_C0 X y cc nL d mc ms) {a kd : Nat} {i : Int32} (hr : m_R M a i.toNatClampNeg = none) (hk : m_K M a = kd) (h15 : 15 ≤ kd ∧ kd < 18) (hin : vp_in i (m_len M a)) (hd : decode cc pc = .ok (.aaload, 1)) (k : j_J X nL (pc + 1) lv (.null :: st) g M) : j_J X nL pc lv (.int i :: .ref a :: st) g M := by
  obtain ⟨p, l, e, R, s, m, args, below, meth, c, Q, D, cy, base, ad⟩ := X
  obtain ⟨hx, hb, hml, hown, hts, hK, hbs, hCs, hR0, hname⟩ := C
  intro H locs ls hR hS hl
  obtain ⟨h1, h2⟩ := m_lt hk (by omega)
  have he := hR.2.2 a h1 (by omega)
  rw [m_E_ref h2 h15.1] at he
  have hP : va_P D vwCl [(base + a, .inl (cy kd, m_len M a, .inr (.inr (.inr (.inr (fun j => (m_R M a j).map (m_ad base ad)))))))] H := fun k q hk => by
    match k, hk with
    | 0, hk => cases hk; exact he
  obtain ⟨Cn, hCn⟩ : ∃ Cn, m_aty kd = .object Cn := by
    rcases (show kd = 15 ∨ kd = 16 ∨ kd = 17 by omega) with rfl | rfl | rfl <;> exact ⟨_, rfl⟩
  simp only [List.map_cons, m_v, m_ad_lt hR h1]
  refine va_aldq hx hb hK hP 0 (kd - 11) rfl (by rw [m_tys_at cy (by omega) h15.2, hCn]) hin hd ?_
  have kk := k H locs ls hR hS hl
  simp only [List.map_cons, m_v] at kk
  simpa [hr, va_rf] using kk

theorem j_aast (C : j_C0 X y cc nL d mc ms) {a r kd kr : Nat} {i : Int32} (hk : m_K M a = kd) (hr : m_K M r = kr) (hcc : (kd = 15 ∧ kr = 1) ∨ (kd = 16 ∧ kr = 6) ∨ (kd = 17 ∧ kr = 8)) (hin : vp_in i (m_len M a)) (hd : decode cc pc = .ok (.aastore, 1)) (k : j_J X nL (pc + 1) lv st g (m_sR M a i.toNatClampNeg (some r))) : j_J X nL pc lv (.ref r :: .int i :: .ref a :: st) g M := by
  obtain ⟨p, l, e, R, s, m, args, below, meth, c, Q, D, cy, base, ad⟩ := X
  obtain ⟨hx, hb, hml, hown, hts, hK, hbs, hCs, hR0, hname⟩ := C
  intro H locs ls hR hS hl
  obtain ⟨h1, h2⟩ := m_lt hk (by omega)
  obtain ⟨h3, h4⟩ := m_lt hr (by omega)
  have he := j_arr hR h1 h2 (by omega) (m_E_ref h2 (by omega))
  have hlt : i.toNatClampNeg < m_len M a := Nat.not_le.mp fun q => hin (Or.inr q)
  have h0 : ¬ i < 0 := fun q => hin (Or.inl q)
  obtain ⟨rw', hrw, cellV, g1, g2, g3, -⟩ := j_obj hR h3 h4 (by omega)
  have hcls := (hK.1 kr rw' hrw).2
  obtain ⟨Cn, hCn, hCr⟩ : ∃ Cn, m_aty kd = .object Cn ∧ rw'.1 = Cn := by
    rcases hcc with ⟨rfl, rfl⟩ | ⟨rfl, rfl⟩ | ⟨rfl, rfl⟩ <;> exact ⟨_, rfl, by cases hrw; rfl⟩
  have hka := (hK.2 (kd - 11) _ (m_tys_at cy (by omega) (by omega))).2
  simp only [hCn] at hka
  obtain ⟨kA, comp, k1, k2, k3, -⟩ := hka
  have hcomp : comp = D.1 kr := by
    rw [← hCr] at k3
    exact Option.some.inj (k3.symm.trans hcls.1)
  subst hcomp
  obtain ⟨kC, hkC, -⟩ := hcls.2
  simp only [List.map_cons, m_v, m_ad_lt hR h1, m_ad_lt hR h3]
  refine W.aast hx hb he (fun q h => by cases h) (fun h => by cases h) k1 k2 rfl hkC ⟨h0, by show _ < (arrV _ _ _).slots.size; rw [arrV_size]; exact hlt⟩ g1 (fun q h => by rw [g3] at h; cases h) (by rw [g2]; exact hkC) (by rw [g2]; exact va_assign hcls) rfl rfl hd fun H1 e z1 oq => ?_
  refine k H1 _ ls (hR.put (a := a) rfl (fun j hj => m_E_sR hj) ?_ z1 oq) (hS.put z1 oq (Nat.le_add_right base a)) hl
  rw [m_E_ref (M := m_sR M a i.toNatClampNeg (some r)) (kd := kd) h2 (by omega)]
  show H1[base + a]? = some (vp_cell _ _)
  rw [e]
  rw [vp_cell_q, vp_cell_q, arrV_store]
  show some (arrV _ _ _) = some (arrV _ _ _)
  congr 2
  funext q
  by_cases hq : q = i.toNatClampNeg
  · subst hq
    simp [updV, m_R, m_sR, m_up, va_rf, m_ad_lt hR h3]
  · simp [updV, m_R, m_sR, m_up, hq]

theorem j_iret (C : j_C X y cc nL ret d mc ms Φ) {v : Int32} (hr : ret = some .int) (hΦ : Φ (some (.int v)) M) (hd : decode cc pc = .ok (.ireturn, 1)) (hg : g.1 ≤ mc ∧ g.2 ≤ ms) : j_J X nL pc lv [.int v] g M := by
  obtain ⟨p, l, e, R, s, m, args, below, meth, c, Q, D, cy, base, ad⟩ := X
  obtain ⟨⟨hx, hb, hml, hown, hts, hK, hbs, hCs, hR0, hname⟩, hret, hlocks, hQ⟩ := C
  intro H locs ls hR hS hl
  subst hQ
  refine W.widen hg.1 hg.2 ?_
  exact W.iret hx hb (hret.trans hr) (fun t ht hW => ⟨⟨some (.int v), M, rfl, hΦ, by rw [ht]; exact hR⟩, hS.F ht⟩) (fun q hq => hS.2.2 q hq) hd

theorem j_zret (C : j_C X y cc nL ret d mc ms Φ) {v : Int32} {ty : FieldType} (hr : ret = some ty) (hn : narrow ty (.int v) = .int v) (hΦ : Φ (some (.int v)) M) (hd : decode cc pc = .ok (.ireturn, 1)) (hg : g.1 ≤ mc ∧ g.2 ≤ ms) : j_J X nL pc lv [.int v] g M := by
  obtain ⟨p, l, e, R, s, m, args, below, meth, c, Q, D, cy, base, ad⟩ := X
  obtain ⟨⟨hx, hb, hml, hown, hts, hK, hbs, hCs, hR0, hname⟩, hret, hlocks, hQ⟩ := C
  intro H locs ls hR hS hl
  subst hQ
  refine W.widen hg.1 hg.2 ?_
  exact W.zret hx hb (hret.trans hr) hn (fun t ht hW => ⟨⟨some (.int v), M, rfl, hΦ, by rw [ht]; exact hR⟩, hS.F ht⟩) (fun q hq => hS.2.2 q hq) hd

theorem j_lret (C : j_C X y cc nL ret d mc ms Φ) {v : Int64} (hr : ret = some .long) (hΦ : Φ (some (.long v)) M) (hd : decode cc pc = .ok (.lreturn, 1)) (hg : g.1 ≤ mc ∧ g.2 ≤ ms) : j_J X nL pc lv [.long v] g M := by
  obtain ⟨p, l, e, R, s, m, args, below, meth, c, Q, D, cy, base, ad⟩ := X
  obtain ⟨⟨hx, hb, hml, hown, hts, hK, hbs, hCs, hR0, hname⟩, hret, hlocks, hQ⟩ := C
  intro H locs ls hR hS hl
  subst hQ
  refine W.widen hg.1 hg.2 ?_
  exact W.lret hx hb (hret.trans hr) (fun t ht hW => ⟨⟨some (.long v), M, rfl, hΦ, by rw [ht]; exact hR⟩, hS.F ht⟩) (fun q hq => hS.2.2 q hq) hd

theorem j_vret (C : j_C X y cc nL ret d mc ms Φ) (hr : ret = none) (hΦ : Φ none M) (hd : decode cc pc = .ok (.return_, 1)) (hg : g.1 ≤ mc ∧ g.2 ≤ ms) : j_J X nL pc lv [] g M := by
  obtain ⟨p, l, e, R, s, m, args, below, meth, c, Q, D, cy, base, ad⟩ := X
  obtain ⟨⟨hx, hb, hml, hown, hts, hK, hbs, hCs, hR0, hname⟩, hret, hlocks, hQ⟩ := C
  intro H locs ls hR hS hl
  subst hQ
  refine W.widen hg.1 hg.2 ?_
  exact W.vret hx hb (hret.trans hr) (fun t ht hW => ⟨⟨none, M, rfl, hΦ, by rw [ht]; exact hR⟩, hS.F ht⟩) (fun q hq => hS.2.2 q hq) hd

theorem j_aret (C : j_C X y cc nL ret d mc ms Φ) {a : Nat} {rt : FieldType} (hr : ret = some rt) (hrt : (∃ n, rt = .object n) ∨ ∃ t, rt = .array t) (hΦ : Φ (some (.ref a)) M) (hd : decode cc pc = .ok (.areturn, 1)) (hg : g.1 ≤ mc ∧ g.2 ≤ ms) : j_J X nL pc lv [.ref a] g M := by
  obtain ⟨p, l, e, R, s, m, args, below, meth, c, Q, D, cy, base, ad⟩ := X
  obtain ⟨⟨hx, hb, hml, hown, hts, hK, hbs, hCs, hR0, hname⟩, hret, hlocks, hQ⟩ := C
  intro H locs ls hR hS hl
  subst hQ
  refine W.widen hg.1 hg.2 ?_
  exact W.aret hx hb (hret.trans hr) hrt (Or.inr ⟨_, rfl⟩) (fun t ht hW => ⟨⟨some (.ref a), M, rfl, hΦ, by rw [ht]; exact hR⟩, hS.F ht⟩) (fun q hq => hS.2.2 q hq) hd

theorem j_aretN (C : j_C X y cc nL ret d mc ms Φ) {rt : FieldType} (hr : ret = some rt) (hrt : (∃ n, rt = .object n) ∨ ∃ t, rt = .array t) (hΦ : Φ (some .null) M) (hd : decode cc pc = .ok (.areturn, 1)) (hg : g.1 ≤ mc ∧ g.2 ≤ ms) : j_J X nL pc lv [.null] g M := by
  obtain ⟨p, l, e, R, s, m, args, below, meth, c, Q, D, cy, base, ad⟩ := X
  obtain ⟨⟨hx, hb, hml, hown, hts, hK, hbs, hCs, hR0, hname⟩, hret, hlocks, hQ⟩ := C
  intro H locs ls hR hS hl
  subst hQ
  refine W.widen hg.1 hg.2 ?_
  exact W.aret hx hb (hret.trans hr) hrt (Or.inl rfl) (fun t ht hW => ⟨⟨some .null, M, rfl, hΦ, by rw [ht]; exact hR⟩, hS.F ht⟩) (fun q hq => hS.2.2 q hq) hd

end J_ROWS2
