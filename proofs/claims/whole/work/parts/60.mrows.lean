/-! the model's rows: counted, compared; all worlds -/
section MROWS
variable {M : m_M} {l : Ld}
theorem S_allOf (h : G M) (hl : LMi l (m_I M)) (ho : lOk l) {k : Nat} (hk : k < 16) : F_X12_allOf 128 (nI k) M = some (wlL (wN l) k, M) := by
  have hn := wN_le ho
  have I42 : m_I M 128 42 = nI (wN l) := hl.2.2.2.2.2.1
  have I43 : m_I M 128 43 = nI ((wN l + 63) / 64) := hl.2.2.2.2.2.2
  have K0 : m_K M 128 = 10 := by simp only [gK h]
  unfold F_X12_allOf wlL
  rw [x_gI_ok K0, I43]
  by_cases q : k < (wN l + 63) / 64
  · rw [if_pos (nI_lt q (by omega)), x_gI_ok K0, I42, x_nz_eq, if_neg (by decide), show nI (wN l) / (64 : Int32) = nI (wN l / 64) from i32_div (b := 64) (by omega) (by omega)]
    by_cases q2 : 64 * k + 64 ≤ wN l
    · rw [if_neg (nI_ge (by omega) (by omega)), if_pos q2]
    · rw [if_pos (nI_le (by omega) (by omega)), if_neg q2, if_pos (by omega), x_gI_ok K0, I42, x_nz_eq, if_neg (by decide), show nI (wN l) / (64 : Int32) = nI (wN l / 64) from i32_div (b := 64) (by omega) (by omega), show nI (wN l) - nI (wN l / 64) * (64 : Int32) = nI (wN l % 64) from by rw [show (64 : Int32) = nI 64 from rfl, nI_mul, i32_rem2], show wN l % 64 = wN l - 64 * k by omega]
  · rw [if_neg (nI_nlt (by omega) (by omega)), if_neg (by omega), if_neg (by omega)]
theorem S_countOf (h : G M) (hl : LMi l (m_I M)) (ho : lOk l) {row at0 len : Nat} (K : m_K M row = 13) (hL : m_len M row = len) (hlen : at0 + 16 ≤ len) (hl2 : len < 20000) {P : Nat → Bool} (hP : Rw (wN l) P (fun k => m_L M row (at0 + k))) : F_X12_countOf 128 row (nI at0) M = some (nI (cnt P (wN l)), M) := by
  have hn := wN_le ho
  have I43 : m_I M 128 43 = nI ((wN l + 63) / 64) := hl.2.2.2.2.2.2
  have K0 : m_K M 128 = 10 := by simp only [gK h]
  rw [← sumL_lw hP hn]
  unfold F_X12_countOf
  refine up_0 (fun f k s => F_X12_countOf_5 f 128 row (nI at0) s (nI k) M = some (nI (sumL (fun k => m_L M row (at0 + k)) ((wN l + 63) / 64)), M)) ((wN l + 63) / 64) (fun k s => s = nI (sumL (fun k => m_L M row (at0 + k)) k)) (by omega) rfl ?_ ?_
  · intro f k s hk hs ih
    have e := ih (nI (sumL (fun k => m_L M row (at0 + k)) (k + 1))) rfl
    rw [F_X12_countOf_5, x_gI_ok K0, I43, if_neg (nI_ge hk (by omega)), nI_add, x_aL_ok K (by rw [hL]; omega) (by omega), x_bd_ok (S_ones _ _), m_let_eq, m_let_eq, nI_1, hs, nI_add, pc_lb]
    exact e
  · intro f s hs
    rw [F_X12_countOf_5, x_gI_ok K0, I43, if_pos (nI_le (Nat.le_refl _) (by omega)), hs]
theorem S_isAny (h : G M) (hl : LMi l (m_I M)) (ho : lOk l) {row len : Nat} (K : m_K M row = 13) (hL : m_len M row = len) (hlen : 16 ≤ len) (hl2 : len < 20000) {P : Nat → Bool} (hP : Rw (wN l) P (m_L M row)) : F_X12_isAny 128 row M = some (if cnt P (wN l) = 0 then nI 0 else nI 1, M) := by
  have hn := wN_le ho
  have I43 : m_I M 128 43 = nI ((wN l + 63) / 64) := hl.2.2.2.2.2.2
  have K0 : m_K M 128 = 10 := by simp only [gK h]
  unfold F_X12_isAny
  refine up_0 (fun f k (_ : Unit) => F_X12_isAny_2 f 128 row (nI k) M = some (if cnt P (wN l) = 0 then nI 0 else nI 1, M)) ((wN l + 63) / 64) (fun k (_ : Unit) => ∀ j, j < k → m_L M row j = 0) (by omega) (s := ()) (fun j hj => absurd hj (by omega)) ?_ ?_
  · intro f k s hk hs ih
    rw [F_X12_isAny_2, x_gI_ok K0, I43, if_neg (nI_ge hk (by omega)), x_aL_ok K (by rw [hL]; omega) (by omega)]
    by_cases q : m_L M row k = 0
    · rw [if_pos ((lg_cmp_eq _ _).mpr q), m_let_eq, nI_1]
      exact ih () (fun j hj => if e : j = k then by rw [e]; exact q else hs j (by omega))
    · rw [if_neg (fun z => q ((lg_cmp_eq _ _).mp z)), if_neg (fun z => q ((hP.zl hn).mpr (cnt_0.mp z) k hk))]
      rfl
  · intro f s hs
    rw [F_X12_isAny_2, x_gI_ok K0, I43, if_pos (nI_le (Nat.le_refl _) (by omega)), if_pos (cnt_0.mpr ((hP.zl hn).mp hs))]
    rfl
theorem S_areAlike (h : G M) (hl : LMi l (m_I M)) (ho : lOk l) {row1 at1 len1 row2 at2 len2 : Nat} (K1 : m_K M row1 = 13) (hL1 : m_len M row1 = len1) (hlen1 : at1 + 16 ≤ len1) (hl1 : len1 < 20000) (K2 : m_K M row2 = 13) (hL2 : m_len M row2 = len2) (hlen2 : at2 + 16 ≤ len2) (hl2 : len2 < 20000) {P Q : Nat → Bool} (hP : Rw (wN l) P (fun k => m_L M row1 (at1 + k))) (hQ : Rw (wN l) Q (fun k => m_L M row2 (at2 + k))) : F_X12_areAlike 128 row1 (nI at1) row2 (nI at2) M = some (if ∀ w, w < wN l → P w = Q w then nI 1 else nI 0, M) := by
  have hn := wN_le ho
  have I43 : m_I M 128 43 = nI ((wN l + 63) / 64) := hl.2.2.2.2.2.2
  have K0 : m_K M 128 = 10 := by simp only [gK h]
  unfold F_X12_areAlike
  refine up_0 (fun f k (_ : Unit) => F_X12_areAlike_3 f 128 row1 (nI at1) row2 (nI at2) (nI k) M = some (if ∀ w, w < wN l → P w = Q w then nI 1 else nI 0, M)) ((wN l + 63) / 64) (fun k (_ : Unit) => ∀ j, j < k → m_L M row1 (at1 + j) = m_L M row2 (at2 + j)) (by omega) (s := ()) (fun j hj => absurd hj (by omega)) ?_ ?_
  · intro f k s hk hs ih
    rw [F_X12_areAlike_3, x_gI_ok K0, I43, if_neg (nI_ge hk (by omega)), nI_add, nI_add, x_aL_ok K1 (by rw [hL1]; omega) (by omega), x_aL_ok K2 (by rw [hL2]; omega) (by omega)]
    by_cases q : m_L M row1 (at1 + k) = m_L M row2 (at2 + k)
    · rw [if_pos ((lg_cmp_eq _ _).mpr q), m_let_eq, nI_1]
      exact ih () (fun j hj => if e : j = k then by rw [e]; exact q else hs j (by omega))
    · rw [if_neg (fun z => q ((lg_cmp_eq _ _).mp z)), if_neg (fun z => q ((hP.eql hQ hn).mpr z k hk))]
      rfl
  · intro f s hs
    rw [F_X12_areAlike_3, x_gI_ok K0, I43, if_pos (nI_le (Nat.le_refl _) (by omega)), if_pos ((hP.eql hQ hn).mp hs)]
    rfl
end MROWS
