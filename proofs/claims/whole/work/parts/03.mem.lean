/-! A memory of numbered cells. Cell i has a kind and a length (m_T): kinds 0 to 10 are the objects of vwCl's classes, 11 char[], 12 int[], 13 long[], 14 boolean[], 15 Book[], 16 Saying[], 17 WorldSet[], 18 and more: of no matter.
Its ints stand in m_I, its longs in m_L, its references (numbers of cells, or 1000000 + the number of a constant) in m_R. The cell i lies at the address base + i. -/
abbrev m_M : Type := (Nat × (Nat → Nat × Nat)) × (Nat → Nat → Int32) × (Nat → Nat → Int64) × (Nat → Nat → Option Nat)
def m_N (M : m_M) : Nat := M.1.1
def m_T (M : m_M) : Nat → Nat × Nat := M.1.2
def m_I (M : m_M) : Nat → Nat → Int32 := M.2.1
def m_L (M : m_M) : Nat → Nat → Int64 := M.2.2.1
def m_R (M : m_M) : Nat → Nat → Option Nat := M.2.2.2
def m_K (M : m_M) (a : Nat) : Nat := if a < m_N M then (m_T M a).1 else 99
def m_len (M : m_M) (a : Nat) : Nat := (m_T M a).2
def m_up {α : Type} (f : Nat → Nat → α) (a k : Nat) (v : α) : Nat → Nat → α := fun b j => if b = a ∧ j = k then v else f b j
def m_sI (M : m_M) (a k : Nat) (v : Int32) : m_M := (M.1, m_up M.2.1 a k v, M.2.2)
def m_sL (M : m_M) (a k : Nat) (v : Int64) : m_M := (M.1, M.2.1, m_up M.2.2.1 a k v, M.2.2.2)
def m_sR (M : m_M) (a k : Nat) (v : Option Nat) : m_M := (M.1, M.2.1, M.2.2.1, m_up M.2.2.2 a k v)
def m_new (M : m_M) (kd len : Nat) : m_M := ((m_N M + 1, fun b => if b = m_N M then (kd, len) else m_T M b), (fun b j => if b = m_N M then 0 else m_I M b j), (fun b j => if b = m_N M then 0 else m_L M b j), (fun b j => if b = m_N M then none else m_R M b j))

/-- the fields of a class: 0 an int, 1 a long, 2 a reference -/
def m_ty (kd : Nat) : List Nat := match kd with
  | 0 => [2, 2, 2]
  | 1 => [0, 0, 0, 0, 0, 2, 2, 2, 2, 2, 2, 2, 2]
  | 2 => [0, 0, 0, 0, 2, 2, 2, 2, 2, 2, 2, 2]
  | 3 => [0, 0, 0, 0, 0, 0, 2, 2, 2, 2, 2, 2, 2, 2, 2, 2, 2, 2, 2]
  | 4 => [2, 0, 0, 0, 0, 0, 0, 1, 2, 0, 2, 0]
  | 5 => [2, 2]
  | 6 => [2, 0, 0, 2]
  | 7 => [2, 0, 0, 0, 0, 0, 0, 1, 2, 0, 2, 2, 0]
  | 8 => [2]
  | 9 => [2, 0, 2, 2, 2, 2, 2, 2, 2, 2, 2, 2, 2, 2, 2, 1]
  | 10 => [0, 0, 2, 0, 0, 0, 0, 1, 0, 0, 2, 2, 2, 2, 2, 2, 2, 2, 2, 2, 2, 0, 0, 0, 0, 2, 2, 2, 2, 2, 2, 2, 2, 2, 2, 2, 2, 0, 2, 0, 0, 0, 0, 0, 2, 2, 2, 2, 2, 2, 2, 2, 0, 0, 2, 2, 2, 2, 2, 2, 2, 2, 2, 2, 2, 2, 0, 0, 0, 0, 2, 2, 2, 1]
  | _ => []
/-- the component's type of an array's kind -/
def m_aty (kd : Nat) : FieldType := match kd with
  | 11 => .char
  | 12 => .int
  | 13 => .long
  | 14 => .boolean
  | 15 => .object "OneVerb$Book"
  | 16 => .object "OneVerb$Saying"
  | _ => .object "OneVerb$WorldSet"
def m_tys (cy : Nat → ClassId) : List (ClassId × FieldType) := (List.range 7).map (fun i => (cy (11 + i), m_aty (11 + i)))
theorem m_tys_at (cy : Nat → ClassId) {kd : Nat} (h1 : 11 ≤ kd) (h2 : kd < 18) : (m_tys cy)[kd - 11]? = some (cy kd, m_aty kd) := by
  have e : 11 + (kd - 11) = kd := by omega
  have h3 : kd - 11 < 7 := by omega
  simp [m_tys, List.getElem?_map, List.getElem?_range h3, e]
/-- the address of a cell, or of a constant -/
def m_ad (base : Nat) (ad : Nat → Nat) (i : Nat) : Nat := if i < 1000000 then base + i else ad (i - 1000000)
def m_v (base : Nat) (ad : Nat → Nat) (v : Value) : Value := match v with
  | .ref i => .ref (m_ad base ad i)
  | w => w
theorem m_v_cat (base : Nat) (ad : Nat → Nat) (v : Value) : (m_v base ad v).category = v.category := by cases v <;> rfl
def m_fl (f : Nat → Nat) (M : m_M) (i k t : Nat) : Value := if t = 0 then .int (m_I M i k) else if t = 1 then .long (m_L M i k) else va_rf ((m_R M i k).map f)
def m_fs (f : Nat → Nat) (M : m_M) (i kd : Nat) : List Value := (List.range (m_ty kd).length).map (fun k => m_fl f M i k ((m_ty kd).getD k 0))
def m_E (cy : Nat → ClassId) (f : Nat → Nat) (M : m_M) (i : Nat) : va_E :=
  if (m_T M i).1 < 11 then .inr ((m_T M i).1, m_fs f M i (m_T M i).1)
  else if (m_T M i).1 = 13 then .inl (cy (m_T M i).1, (m_T M i).2, .inr (.inl (m_L M i)))
  else if (m_T M i).1 < 15 then .inl (cy (m_T M i).1, (m_T M i).2, .inl (m_I M i))
  else .inl (cy (m_T M i).1, (m_T M i).2, .inr (.inr (.inr (.inr (fun j => (m_R M i j).map f)))))
/-- the heap holds the memory -/
def m_Rel (D : va_G) (cy : Nat → ClassId) (base : Nat) (ad : Nat → Nat) (M : m_M) (H : Heap) : Prop :=
  H.size = base + m_N M ∧ m_N M ≤ 1000000 ∧ ∀ i, i < m_N M → (m_T M i).1 < 18 → va_at D vwCl (base + i, m_E cy (m_ad base ad) M i) H
theorem m_lt {M : m_M} {a kd : Nat} (h : m_K M a = kd) (hk : kd < 99) : a < m_N M ∧ (m_T M a).1 = kd := by
  unfold m_K at h
  split at h
  · exact ⟨by assumption, h⟩
  · omega
theorem m_ad_lt {base : Nat} {ad : Nat → Nat} {D : va_G} {cy : Nat → ClassId} {M : m_M} {H : Heap} (hR : m_Rel D cy base ad M H) {a : Nat} (h : a < m_N M) : m_ad base ad a = base + a := by
  have := hR.2.1
  simp only [m_ad]
  rw [if_pos (by omega)]
theorem m_E_obj {cy : Nat → ClassId} {f : Nat → Nat} {M : m_M} {a kd : Nat} (h : (m_T M a).1 = kd) (hk : kd < 11) : m_E cy f M a = .inr (kd, m_fs f M a kd) := by
  simp only [m_E, h]
  rw [if_pos hk]
theorem m_E_int {cy : Nat → ClassId} {f : Nat → Nat} {M : m_M} {a kd : Nat} (h : (m_T M a).1 = kd) (hk : kd = 11 ∨ kd = 12 ∨ kd = 14) : m_E cy f M a = .inl (cy kd, m_len M a, .inl (m_I M a)) := by
  simp only [m_E, h, m_len]
  rw [if_neg (by omega), if_neg (by omega), if_pos (by omega)]
theorem m_E_long {cy : Nat → ClassId} {f : Nat → Nat} {M : m_M} {a : Nat} (h : (m_T M a).1 = 13) : m_E cy f M a = .inl (cy 13, m_len M a, .inr (.inl (m_L M a))) := by
  simp only [m_E, h, m_len]
  rw [if_neg (by omega), if_pos trivial]
theorem m_E_ref {cy : Nat → ClassId} {f : Nat → Nat} {M : m_M} {a kd : Nat} (h : (m_T M a).1 = kd) (hk : 15 ≤ kd) : m_E cy f M a = .inl (cy kd, m_len M a, .inr (.inr (.inr (.inr (fun j => (m_R M a j).map f))))) := by
  simp only [m_E, h, m_len]
  rw [if_neg (by omega), if_neg (by omega), if_neg (by omega)]
theorem m_fs_at {f : Nat → Nat} {M : m_M} {i kd k t : Nat} (h : (m_ty kd)[k]? = some t) : (m_fs f M i kd)[k]? = some (m_fl f M i k t) := by
  have hl : k < (m_ty kd).length := (List.getElem?_eq_some_iff.mp h).1
  simp only [m_fs, List.getElem?_map, List.getElem?_range hl, Option.map_some]
  rw [show (m_ty kd).getD k 0 = t by simp [List.getD, h]]
/-- cells that are not written stay as they are -/
theorem m_E_sI {cy : Nat → ClassId} {f : Nat → Nat} {M : m_M} {a k : Nat} {v : Int32} {i : Nat} (h : i ≠ a) : m_E cy f (m_sI M a k v) i = m_E cy f M i := by
  have e : m_I (m_sI M a k v) i = m_I M i := by funext j; simp [m_I, m_sI, m_up, h]
  simp only [m_E, m_fs, m_fl, e]
  rfl
theorem m_E_sL {cy : Nat → ClassId} {f : Nat → Nat} {M : m_M} {a k : Nat} {v : Int64} {i : Nat} (h : i ≠ a) : m_E cy f (m_sL M a k v) i = m_E cy f M i := by
  have e : m_L (m_sL M a k v) i = m_L M i := by funext j; simp [m_L, m_sL, m_up, h]
  simp only [m_E, m_fs, m_fl, e]
  rfl
theorem m_E_sR {cy : Nat → ClassId} {f : Nat → Nat} {M : m_M} {a k : Nat} {v : Option Nat} {i : Nat} (h : i ≠ a) : m_E cy f (m_sR M a k v) i = m_E cy f M i := by
  have e : m_R (m_sR M a k v) i = m_R M i := by funext j; simp [m_R, m_sR, m_up, h]
  simp only [m_E, m_fs, m_fl, e]
  rfl
/-- one cell is written -/
theorem m_Rel.put {D : va_G} {cy : Nat → ClassId} {base : Nat} {ad : Nat → Nat} {M M' : m_M} {H H1 : Heap} (h : m_Rel D cy base ad M H) (hT : M'.1 = M.1) {a : Nat} (hE : ∀ i, i ≠ a → m_E cy (m_ad base ad) M' i = m_E cy (m_ad base ad) M i)
    (he : va_at D vwCl (base + a, m_E cy (m_ad base ad) M' a) H1) (z : H1.size = H.size) (oq : ∀ q : Nat, q ≠ base + a → H1[q]? = H[q]?) : m_Rel D cy base ad M' H1 := by
  have hN : m_N M' = m_N M := by simp only [m_N, hT]
  have hTT : m_T M' = m_T M := by simp only [m_T, hT]
  refine ⟨by rw [z, hN]; exact h.1, by rw [hN]; exact h.2.1, fun i hi hk => ?_⟩
  rw [hN] at hi
  rw [hTT] at hk
  by_cases hia : i = a
  · subst hia
    exact he
  · rw [hE i hia]
    exact (h.2.2 i hi hk).kept (oq _ (by omega))
/-! the locals: what is known of them, by their places -/
def j_lv (f : Value → Value) (ls : Array Slot) (nL : Nat) (lv : List (Option Value)) : Prop := ls.size = nL ∧ lv_wf ls ∧ ∀ (k : Nat) (v : Value), lv[k]? = some (some v) → ls[k]? = some (.val (f v))
def j_long (o : Option (Option Value)) : Bool := match o with
  | some (some (.long _)) => true
  | some (some (.double _)) => true
  | _ => false
/-- a store of a word -/
def j_s1 (lv : List (Option Value)) (i : Nat) (v : Value) : List (Option Value) := match i with
  | 0 => lv.set 0 (some v)
  | j + 1 => if j_long lv[j]? then (lv.set j none).set (j + 1) (some v) else lv.set (j + 1) (some v)
def j_s2 (lv : List (Option Value)) (i : Nat) (v : Value) : List (Option Value) := (j_s1 lv i v).set (i + 1) none
theorem j_long_cat {o : Value} (h : j_long (some (some o)) = false) : o.category = 1 := by cases o <;> first | rfl | (simp [j_long] at h)
theorem j_s1_at {lv : List (Option Value)} {i : Nat} {v : Value} {k : Nat} {w : Value} (h : (j_s1 lv i v)[k]? = some (some w)) : (k = i ∧ w = v) ∨ (k ≠ i ∧ lv[k]? = some (some w) ∧ (k + 1 = i → w.category = 1)) := by
  by_cases hk : k = i
  · subst hk
    left
    refine ⟨rfl, ?_⟩
    cases k with
    | zero =>
      simp only [j_s1, List.getElem?_set] at h
      split at h <;> simp_all
    | succ j =>
      simp only [j_s1] at h
      split at h
      · simp only [List.getElem?_set] at h
        split at h <;> simp_all
      · simp only [List.getElem?_set] at h
        split at h <;> simp_all
  · right
    refine ⟨hk, ?_⟩
    cases i with
    | zero =>
      simp only [j_s1] at h
      rw [List.getElem?_set_ne (Ne.symm hk)] at h
      exact ⟨h, fun h => by omega⟩
    | succ j =>
      simp only [j_s1] at h
      split at h
      · rename_i hlong
        rw [List.getElem?_set_ne (Ne.symm hk)] at h
        by_cases hj : k = j
        · subst hj
          rw [List.getElem?_set] at h
          split at h
          · split at h <;> simp_all
          · simp_all
        · rw [List.getElem?_set_ne (Ne.symm hj)] at h
          exact ⟨h, fun h => by omega⟩
      · rename_i hlong
        rw [List.getElem?_set_ne (Ne.symm hk)] at h
        refine ⟨h, fun hkj => ?_⟩
        have hkj : k = j := by omega
        subst hkj
        rw [h] at hlong
        exact j_long_cat (by simpa using hlong)
theorem j_store1 {f : Value → Value} (hf : ∀ v, (f v).category = v.category) {ls : Array Slot} {nL : Nat} {lv : List (Option Value)} {i : Nat} {v : Value} (h : j_lv f ls nL lv) (hi : i < nL) (hc : v.category = 1) :
    ∃ ls', storeLocals ls i (f v) = some ls' ∧ j_lv f ls' nL (j_s1 lv i v) := by
  have h0 : lv_has ls nL [] := ⟨h.1, h.2.1, fun q hq => by cases hq⟩
  obtain ⟨ls', e, h1⟩ := lv_store1 (v := f v) h0 hi (by rw [hf]; exact hc)
  refine ⟨ls', e, h1.1, h1.2.1, fun k w hk => ?_⟩
  rcases j_s1_at hk with ⟨rfl, rfl⟩ | ⟨hki, hkw, hcat⟩
  · exact h1.2.2 (k, f w) List.mem_cons_self
  · have h2 : lv_has ls nL [(k, f w)] := ⟨h.1, h.2.1, fun q hq => by
      rw [List.mem_singleton.mp hq]; exact h.2.2 k w hkw⟩
    obtain ⟨ls2, e2, h3⟩ := lv_store1 (v := f v) h2 hi (by rw [hf]; exact hc)
    have hls : ls2 = ls' := Option.some.inj (e2.symm.trans e)
    subst hls
    refine h3.2.2 (k, f w) (List.mem_cons_of_mem _ (List.mem_filter.mpr ⟨List.mem_cons_self, ?_⟩))
    simp only [Bool.and_eq_true, Bool.not_eq_true', beq_eq_false_iff_ne, Bool.and_eq_false_imp, beq_iff_eq]
    refine ⟨hki, fun h4 => ?_⟩
    have := hcat h4
    simp [hf, this]
theorem j_store2 {f : Value → Value} (hf : ∀ v, (f v).category = v.category) {ls : Array Slot} {nL : Nat} {lv : List (Option Value)} {i : Nat} {v : Value} (h : j_lv f ls nL lv) (hi : i + 1 < nL) (hc : v.category = 2) :
    ∃ ls', storeLocals ls i (f v) = some ls' ∧ j_lv f ls' nL (j_s2 lv i v) := by
  have h0 : lv_has ls nL [] := ⟨h.1, h.2.1, fun q hq => by cases hq⟩
  obtain ⟨ls', e, h1⟩ := lv_store2 (v := f v) h0 hi (by rw [hf]; exact hc)
  refine ⟨ls', e, h1.1, h1.2.1, fun k w hk => ?_⟩
  have hne : k ≠ i + 1 := by
    intro h
    subst h
    simp only [j_s2] at hk
    rw [List.getElem?_set] at hk
    split at hk
    · split at hk <;> simp_all
    · simp_all
  simp only [j_s2] at hk
  rw [List.getElem?_set_ne (Ne.symm hne)] at hk
  rcases j_s1_at hk with ⟨rfl, rfl⟩ | ⟨hki, hkw, hcat⟩
  · exact h1.2.2 (k, f w) List.mem_cons_self
  · have h2 : lv_has ls nL [(k, f w)] := ⟨h.1, h.2.1, fun q hq => by
      rw [List.mem_singleton.mp hq]; exact h.2.2 k w hkw⟩
    obtain ⟨ls2, e2, h3⟩ := lv_store2 (v := f v) h2 hi (by rw [hf]; exact hc)
    have hls : ls2 = ls' := Option.some.inj (e2.symm.trans e)
    subst hls
    refine h3.2.2 (k, f w) (List.mem_cons_of_mem _ (List.mem_filter.mpr ⟨List.mem_cons_self, ?_⟩))
    simp only [Bool.and_eq_true, Bool.not_eq_true', beq_eq_false_iff_ne, Bool.and_eq_false_imp, beq_iff_eq]
    refine ⟨hki, hne, fun h4 => ?_⟩
    have := hcat h4
    simp [hf, this]
/-- the locals at a method's entry -/
def j_args : List Value → List (Option Value)
  | [] => []
  | v :: vs => if v.category = 2 then some v :: none :: j_args vs else some v :: j_args vs
def j_ent (nL : Nat) (vs : List Value) : List (Option Value) := j_args vs ++ List.replicate (nL - (j_args vs).length) none
theorem j_args_in {f : Value → Value} (hf : ∀ v, (f v).category = v.category) : ∀ (vs : List Value) (i k : Nat) (w : Value), (j_args vs)[k]? = some (some w) → (i + k, f w) ∈ lv_args i (vs.map f)
  | [], i, k, w, h => by simp [j_args] at h
  | v :: vs, i, k, w, h => by
    simp only [j_args] at h
    simp only [List.map_cons, lv_args, hf]
    split at h
    · rename_i hc
      rw [if_pos hc]
      match k, h with
      | 0, h => simp at h; subst h; exact List.mem_cons_self
      | 1, h => simp at h
      | k + 2, h =>
        refine List.mem_cons_of_mem _ ?_
        have := j_args_in hf vs (i + 2) k w (by simpa using h)
        rwa [show i + 2 + k = i + (k + 2) by omega] at this
    · rename_i hc
      rw [if_neg hc]
      match k, h with
      | 0, h => simp at h; subst h; exact List.mem_cons_self
      | k + 1, h =>
        refine List.mem_cons_of_mem _ ?_
        have := j_args_in hf vs (i + 1) k w (by simpa using h)
        rwa [show i + 1 + k = i + (k + 1) by omega] at this
theorem j_entry {f : Value → Value} (hf : ∀ v, (f v).category = v.category) (vs : List Value) {n : Nat} (h : (lg_sl (vs.map f)).length ≤ n) : j_lv f ((lg_sl (vs.map f) ++ List.replicate (n - (lg_sl (vs.map f)).length) Slot.unset).toArray) n (j_ent n vs) := by
  obtain ⟨h1, h2, h3⟩ := lv_entry (vs.map f) h
  refine ⟨h1, h2, fun k w hk => ?_⟩
  simp only [j_ent] at hk
  by_cases hl : k < (j_args vs).length
  · rw [List.getElem?_append_left hl] at hk
    have := j_args_in hf vs 0 k w hk
    rw [Nat.zero_add] at this
    exact h3 _ this
  · rw [List.getElem?_append_right (by omega), List.getElem?_replicate] at hk
    split at hk <;> simp at hk
