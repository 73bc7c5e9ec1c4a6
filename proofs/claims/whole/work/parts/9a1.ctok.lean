/-! the class goes a token on -/
def m_x4 (M : m_M) (A : IA) (B : Nat → Nat → Int64) (R : Nat → Nat → Option Nat) : m_M := (M.1, A, B, R)
section X4
variable {M : m_M} {A : IA} {B : Nat → Nat → Int64} {R : Nat → Nat → Option Nat}
theorem x4_I : m_I (m_x4 M A B R) = A := rfl
theorem x4_L : m_L (m_x4 M A B R) = B := rfl
theorem x4_R : m_R (m_x4 M A B R) = R := rfl
theorem x4_K : m_K (m_x4 M A B R) = m_K M := rfl
theorem x4_n : m_len (m_x4 M A B R) = m_len M := rfl
theorem x4_sI {a k : Nat} {v : Int32} : m_sI (m_x4 M A B R) a k v = m_x4 M (m_up A a k v) B R := rfl
theorem x4_sL {a k : Nat} {v : Int64} : m_sL (m_x4 M A B R) a k v = m_x4 M A (upB B a k v) R := rfl
theorem x4_sR {a k : Nat} {v : Option Nat} : m_sR (m_x4 M A B R) a k v = m_x4 M A B (m_up R a k v) := rfl
theorem x4_0 : m_x4 M (m_I M) (m_L M) (m_R M) = M := rfl
theorem up_up {A : IA} {a k : Nat} {v w : Int32} : m_up (m_up A a k v) a k w = m_up A a k w := by
  funext b j
  rw [up_at, up_at, up_at]
  split <;> rfl
theorem upB_up {B : Nat → Nat → Int64} {a k : Nat} {v w : Int64} : upB (upB B a k v) a k w = upB B a k w := by
  funext b j
  rw [upB_at, upB_at, upB_at]
  split <;> rfl
theorem up_self {A : IA} {a k : Nat} {v : Int32} (h : A a k = v) : m_up A a k v = A := by
  funext b j
  rw [up_at]
  split
  · rename_i q; rw [q.1, q.2, h]
  · rfl
end X4
section CTOK
variable {M : m_M} {T : Nat → Nat} {n kd r : Nat}
theorem S_isLetter {c : Nat} (hc : c < 127) : F_X8_isLetter (nI c) M = some (bI (isLt c), M) := by
  unfold F_X8_isLetter isLt
  rw [m_let_eq]
  by_cases h1 : c < 97
  · rw [if_pos (show nI c < (97 : Int32) from nI_lt (b := 97) h1 (by omega)), decide_eq_false (by omega)]; rfl
  · rw [if_neg (show ¬ nI c < (97 : Int32) from nI_nlt (b := 97) (by omega) (by omega)), decide_eq_true (show 97 ≤ c by omega)]
    by_cases h2 : 122 < c
    · rw [if_pos (show (122 : Int32) < nI c from nI_lt (a := 122) h2 (by omega)), decide_eq_false (by omega)]; rfl
    · rw [if_neg (show ¬ (122 : Int32) < nI c from nI_nlt (a := 122) (by omega) (by omega)), decide_eq_true (show c ≤ 122 by omega)]; rfl
theorem S_isDigit {c : Nat} (hc : c < 127) : F_X8_isDigit (nI c) M = some (bI (isDg c), M) := by
  unfold F_X8_isDigit isDg
  rw [m_let_eq]
  by_cases h1 : c < 48
  · rw [if_pos (show nI c < (48 : Int32) from nI_lt (b := 48) h1 (by omega)), decide_eq_false (by omega)]; rfl
  · rw [if_neg (show ¬ nI c < (48 : Int32) from nI_nlt (b := 48) (by omega) (by omega)), decide_eq_true (show 48 ≤ c by omega)]
    by_cases h2 : 57 < c
    · rw [if_pos (show (57 : Int32) < nI c from nI_lt (a := 57) h2 (by omega)), decide_eq_false (by omega)]; rfl
    · rw [if_neg (show ¬ (57 : Int32) < nI c from nI_nlt (a := 57) (by omega) (by omega)), decide_eq_true (show c ≤ 57 by omega)]; rfl
theorem x_ki_ok {β : Type} {n k : Nat} {f : Nat → Option β} (h : k < n) (h2 : k < 2147483648) : x_ki n (nI k) f = f k := by
  unfold x_ki
  rw [nI_cl h2, if_pos ⟨nI_pos' h2, h⟩]
theorem S_idx7 {v : Int32} : ∀ (d k f : Nat), k + d = 8 → d < f → (∃ j, k ≤ j ∧ j < 8 ∧ k_sg.getD j 0 = v ∧ F_J1_indexOfChar_4cfef_7 f (nI 8) v (nI k) M = some (nI j, M)) ∨ ((∀ j, k ≤ j → j < 8 → k_sg.getD j 0 ≠ v) ∧ F_J1_indexOfChar_4cfef_7 f (nI 8) v (nI k) M = some (-1, M)) := by
  intro d
  induction d with
  | zero =>
    intro k f hk hf
    obtain ⟨f, rfl⟩ : ∃ f', f = f' + 1 := ⟨f - 1, by omega⟩
    refine .inr ⟨fun j h1 h2 => absurd h2 (by omega), ?_⟩
    rw [F_J1_indexOfChar_4cfef_7, if_pos (nI_le (by omega) (by omega))]
  | succ d ih =>
    intro k f hk hf
    obtain ⟨f, rfl⟩ : ∃ f', f = f' + 1 := ⟨f - 1, by omega⟩
    rw [F_J1_indexOfChar_4cfef_7, if_neg (nI_ge (by omega) (by omega)), x_ki_ok (by omega) (by omega)]
    by_cases q : k_sg.getD k 0 = v
    · exact .inl ⟨k, by omega, by omega, q, by rw [if_pos q]⟩
    · rw [if_neg q, m_let_eq, nI_1]
      rcases ih (k + 1) f (by omega) (by omega) with ⟨j, h1, h2, h3, h4⟩ | ⟨h1, h2⟩
      · exact .inl ⟨j, by omega, h2, h3, h4⟩
      · refine .inr ⟨fun j h3 h4 => ?_, h2⟩
        by_cases z : j = k
        · rw [z]; exact q
        · exact h1 j (by omega) h4
theorem sg_byte : ∀ c, c < 127 → (nI c).toInt8.toInt32 = nI c := by decide +kernel
theorem sg_is : ∀ c, c < 127 → ((∃ j, j < 8 ∧ k_sg.getD j 0 = nI c) ↔ isSg c = true) := by decide +kernel
theorem S_isSign {c : Nat} (hc : c < 127) : F_X8_isSign (nI c) M = some (bI (isSg c), M) := by
  have e1 : F_J0_isLatin1_aae02 M = some (1, M) := rfl
  have e2 : F_J0_length_8abf5 M = some (nI 8, M) := by
    unfold F_J0_length_8abf5 F_J0_coder_7d493
    exact congrArg (fun v => some (v, M)) (show (8 : Int32) >>> ((0 : Int32) &&& 31) = nI 8 from by decide)
  have e3 : F_J1_canEncode_9a6ad (nI c) M = some (1, M) := by
    unfold F_J1_canEncode_9a6ad
    rw [m_let_eq, if_neg (nI_pos (by omega)), if_neg (show ¬ (255 : Int32) < nI c from nI_nlt (a := 255) (by omega) (by omega))]
  have e4 : F_J9_max_7cf53 (0 : Int32) (0 : Int32) M = some (nI 0, M) := by
    unfold F_J9_max_7cf53
    rfl
  have e5 : F_J9_min_7cf53 (nI 8) (8 : Int32) M = some (nI 8, M) := by
    unfold F_J9_min_7cf53
    rfl
  have key := S_idx7 (M := M) (v := nI c) 8 0 m_FU (by omega) (m_FU_lt (by omega))
  unfold F_X8_isSign F_J0_indexOf_0f7a4 F_J0_indexOf_7cf53
  rw [x_bd_ok e1, if_neg (by decide), x_bd_ok e2]
  unfold F_J1_indexOf_4cfef
  rw [x_bd_ok e3, if_neg (by decide), x_bd_ok e4, x_bd_ok e5, if_pos (by decide)]
  unfold F_J1_indexOfChar_4cfef
  rw [m_let_eq, sg_byte c hc]
  rcases key with ⟨j, _, h2, h3, h4⟩ | ⟨h1, h2⟩
  · rw [(sg_is c hc).mp ⟨j, h2, h3⟩, h4]
    simp only [x_bd_some]
    rw [if_neg (nI_pos (by omega))]
    rfl
  · rw [show isSg c = false from Bool.eq_false_iff.mpr (fun q => by
      obtain ⟨j, h3, h4⟩ := (sg_is c hc).mpr q
      exact h1 j (Nat.zero_le _) h3 h4), h2]
    simp only [x_bd_some]
    rfl
end CTOK
