/-! a deed more on the class's side -/
def unPush (u : Un) (t : Tl) : Un := if u.1 < 12 then (u.1 + 1, fun j => if j = u.1 then t else u.2 j) else (12, fun j => if j = 11 then t else u.2 (j + 1))
def stTell (s : St) (t : Tl) : St := (s.1, s.2.1, (s.2.2.1.1, t, s.2.2.1.2.2), unPush s.2.2.2.1 s.2.2.1.2.1, s.2.2.2.2)
section PUSH
variable {M M' : m_M} {s : St}
/-- the deeds' rows after a deed more -/
theorem push_rows {l : Ld} {u : Un} {now t : Tl} {a b : Int32} {r : Nat} (hu : u.1 ≤ 12) (h : ∀ j, j < u.1 → dRel l (u.2 j) (unAt u now (j + 1)) (m_I M 85 j) (m_I M 86 j) (m_R M 87 j) M) (hd : dRel l now t a b (some r) M) {A : Nat → Nat → Int32} {R : Nat → Option Nat}
    (h1 : u.1 < 12 → (∀ j, j < u.1 → A 85 j = m_I M 85 j ∧ A 86 j = m_I M 86 j ∧ R j = m_R M 87 j) ∧ A 85 u.1 = a ∧ A 86 u.1 = b ∧ R u.1 = some r)
    (h2 : ¬ u.1 < 12 → (∀ j, j < 11 → A 85 j = m_I M 85 (j + 1) ∧ A 86 j = m_I M 86 (j + 1) ∧ R j = m_R M 87 (j + 1)) ∧ A 85 11 = a ∧ A 86 11 = b ∧ R 11 = some r) :
    ∀ j, j < (unPush u now).1 → dRel l ((unPush u now).2 j) (unAt (unPush u now) t (j + 1)) (A 85 j) (A 86 j) (R j) M := by
  unfold unPush
  by_cases q : u.1 < 12
  · obtain ⟨k1, k2, k3, k4⟩ := h1 q
    rw [if_pos q]
    intro j hj
    have hj' : j < u.1 + 1 := hj
    show dRel l (if j = u.1 then now else u.2 j) (if j + 1 < u.1 + 1 then (if j + 1 = u.1 then now else u.2 (j + 1)) else t) _ _ _ M
    by_cases z : j = u.1
    · rw [if_pos z, if_neg (by omega), z, k2, k3, k4]
      exact hd
    · obtain ⟨m1, m2, m3⟩ := k1 j (by omega)
      rw [if_neg z, if_pos (by omega), m1, m2, m3]
      have e := h j (by omega)
      have e2 : unAt u now (j + 1) = if j + 1 = u.1 then now else u.2 (j + 1) := by
        unfold unAt
        by_cases w : j + 1 = u.1
        · rw [if_neg (by omega), if_pos w]
        · rw [if_pos (by omega), if_neg w]
      rw [e2] at e
      exact e
  · obtain ⟨k1, k2, k3, k4⟩ := h2 q
    rw [if_neg q]
    intro j hj
    have hj' : j < 12 := hj
    show dRel l (if j = 11 then now else u.2 (j + 1)) (if j + 1 < 12 then (if j + 1 = 11 then now else u.2 (j + 1 + 1)) else t) _ _ _ M
    by_cases z : j = 11
    · rw [if_pos z, if_neg (by omega), z, k2, k3, k4]
      exact hd
    · obtain ⟨m1, m2, m3⟩ := k1 j (by omega)
      rw [if_neg z, if_pos (by omega), m1, m2, m3]
      have e := h (j + 1) (by omega)
      have e2 : unAt u now (j + 1 + 1) = if j + 1 = 11 then now else u.2 (j + 1 + 1) := by
        unfold unAt
        by_cases w : j + 1 = 11
        · rw [if_neg (by omega), if_pos w]
        · rw [if_pos (by omega), if_neg w]
      rw [e2] at e
      exact e
/-- the class's part of the state, with t told now and the deed not yet noted -/
def CIm (s : St) (t : Tl) (M : m_M) : Prop := (LCi s.2.1 (m_I M) ∧ LCs s.2.1 (m_L M 13) ∧ NmC s.2.1 M) ∧ (m_I M 0 1 = nI s.1.1 ∧ ∀ i, i < s.1.1 → m_I M 1 i = nI (s.1.2 i)) ∧ BkC s.2.1 (s.2.2.1.1, t, s.2.2.1.2.2) 80 M ∧ UnC s.2.1 s.2.2.2.1 s.2.2.1.2.1 M
  ∧ ∀ i, i < 4 → m_I M 89 i = bI (s.2.2.2.2 i).isSome ∧ ∀ b, s.2.2.2.2 i = some b → BkC s.2.1 b (96 + 8 * i) M
theorem CIm.fin {t : Tl} (hc : CIm s t M) (hR : ∀ a, a ≠ 87 → m_R M' a = m_R M a) (hT : M'.1 = M.1) (hL : m_L M' = m_L M) (hI : ∀ a, a ≠ 80 → a ≠ 85 → a ≠ 86 → m_I M' a = m_I M a) (i80 : ∀ j, j ≠ 4 → m_I M' 80 j = m_I M 80 j) (i4 : m_I M' 80 4 = nI (unPush s.2.2.2.1 s.2.2.1.2.1).1) (hu : ∀ j, j < (unPush s.2.2.2.1 s.2.2.1.2.1).1 → dRel s.2.1 ((unPush s.2.2.2.1 s.2.2.1.2.1).2 j) (unAt (unPush s.2.2.2.1 s.2.2.1.2.1) t (j + 1)) (m_I M' 85 j) (m_I M' 86 j) (m_R M' 87 j) M) : CI (stTell s t) M' := by
  have hh : hiK M M' := ⟨by unfold m_N; rw [hT]; exact Nat.le_refl _, fun a ha _ => ⟨by unfold m_T; rw [hT], hI a (by omega) (by omega) (by omega), by rw [hL], hR a (by omega)⟩⟩
  have hK : ∀ a, m_K M' a = m_K M a ∧ m_len M' a = m_len M a := fun a => by
    unfold m_K m_len m_N m_T
    rw [hT]
    exact ⟨rfl, rfl⟩
  obtain ⟨⟨c0, c1, c2⟩, ⟨c3, c4⟩, ⟨b1, ⟨t1, ⟨t2, t3⟩, t4, t5⟩, ⟨fr, q1, q2, q3⟩, q4, q5⟩, ⟨c6, c7, c8⟩, c9⟩ := hc
  refine ⟨⟨c0.cong (fun a _ h2 => hI a (by omega) (by omega) (by omega)), by rw [hL]; exact c1, by unfold NmC; rw [hL]; exact c2⟩, ⟨by rw [hI 0 (by omega) (by omega) (by omega)]; exact c3, by rw [hI 1 (by omega) (by omega) (by omega)]; exact c4⟩, ⟨by rw [i80 0 (by omega)]; exact b1, ⟨t1, ⟨by rw [i80 1 (by omega)]; exact t2, by rw [i80 2 (by omega)]; exact t3⟩, fun i hi => ?_, fun i hi => ?_⟩, ⟨fr, by rw [hR 80 (by omega)]; exact q1, fun q => by rw [(hK fr).1, (hK fr).2]; exact q2 q, fun f hf => (q3 f hf).hi hh⟩, by rw [i80 3 (by omega)]; exact q4, by rw [hI (80 + 4) (by omega) (by omega) (by omega)]; exact q5⟩, ⟨?_, i4, fun j hj => (hu j hj).hi hh⟩, fun i hi => ⟨by rw [hI 89 (by omega) (by omega) (by omega)]; exact (c9 i hi).1, fun b hb => ((c9 i hi).2 b hb).congr hh hK (hI _ (by omega) (by omega) (by omega)) (hR _ (by omega)) (hR _ (by omega)) (hR _ (by omega)) (hI _ (by omega) (by omega) (by omega))⟩⟩
  · obtain ⟨r, r1, r2⟩ := t4 i hi
    exact ⟨r, (congrFun (hR (80 + 2) (by omega)) i).trans r1, r2.hi hh⟩
  · obtain ⟨r, r1, r2⟩ := t5 i hi
    exact ⟨r, (congrFun (hR (80 + 3) (by omega)) i).trans r1, r2.hi hh⟩
  · show (unPush s.2.2.2.1 s.2.2.1.2.1).1 ≤ 12
    unfold unPush
    split
    · show s.2.2.2.1.1 + 1 ≤ 12
      omega
    · exact Nat.le_refl 12
end PUSH
