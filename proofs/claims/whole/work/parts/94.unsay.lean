/-! unsay -/
section UNSAY
variable {M : m_M} {s : St} {D : Nat}
def uA (A : IA) (i n : Nat) : IA := m_up (mvR A 157 (i + 1) i (11 - i)) 161 0 (nI (n - 1))
def uB (B : Nat → Nat → Int64) (i : Nat) : Nat → Nat → Int64 := mvR B 156 (16 * i + 16) (16 * i) (176 - 16 * i)
theorem TlM.rm {l : Ld} {t : Tl} {A : IA} {B : Nat → Nat → Int64} (h : TlM l t 0 A B) {i : Nat} (hi : i < t.1.1) : TlM l (rmT t i) 0 (uA A i t.1.1) (uB B i) := by
  obtain ⟨⟨h1, h2⟩, ⟨h3, h4⟩, h5, h6⟩ := h
  unfold uA uB
  refine ⟨⟨by show t.1.1 - 1 ≤ 12; omega, h2⟩, ⟨?_, ?_⟩, fun j hj => ?_, fun j hj => ⟨?_, ?_, ?_⟩⟩
  · rw [up_at, if_pos ⟨rfl, rfl⟩]; rfl
  · rw [up_at, if_neg (by omega), mvR_fr (by omega)]; exact h4
  · have hj' : j < t.1.1 - 1 := hj
    show _ = nI (if j < i then t.1.2 j else t.1.2 (j + 1)).2.1 ∧ Rw (wN l) (bdS l (if j < i then t.1.2 j else t.1.2 (j + 1))) _
    by_cases z : j < i
    · rw [if_pos z, up_fr (by omega), mvR_out (by omega)]
      refine ⟨(h5 j (by omega)).1, (h5 j (by omega)).2.of (fun k hk => ?_)⟩
      rw [mvR_out (by omega)]
    · rw [if_neg z, up_fr (by omega), mvR_at, if_pos ⟨rfl, by omega, by omega⟩]
      refine ⟨?_, (h5 (j + 1) (by omega)).2.of (fun k hk => ?_)⟩
      · rw [show i + 1 + (12 * 0 + j - i) = 12 * 0 + (j + 1) by omega]; exact (h5 (j + 1) (by omega)).1
      · rw [mvR_at, if_pos ⟨rfl, by omega, by omega⟩, show 16 * i + 16 + (192 * 0 + 16 * j + k - 16 * i) = 192 * 0 + 16 * (j + 1) + k by omega]
  · rw [up_fr (by omega), mvR_fr (by omega)]; exact (h6 j hj).1
  · refine (h6 j hj).2.1.of (fun k hk => ?_)
    rw [mvR_fr (by omega)]
  · refine (h6 j hj).2.2.of (fun k hk => ?_)
    rw [mvR_fr (by omega)]
theorem TlM.rmo {l : Ld} {t : Tl} {A : IA} {B : Nat → Nat → Int64} {r : Nat} (h : TlM l t r A B) {i n : Nat} (hi : i < 12) (hr : r ≠ 0) : TlM l t r (uA A i n) (uB B i) := by
  obtain ⟨⟨h1, h2⟩, ⟨h3, h4⟩, h5, h6⟩ := h
  unfold uA uB
  refine ⟨⟨h1, h2⟩, ⟨?_, ?_⟩, fun j hj => ⟨?_, ?_⟩, fun j hj => ⟨?_, ?_, ?_⟩⟩
  · rw [up_at, if_neg (by omega), mvR_fr (by omega)]; exact h3
  · rw [up_at, if_neg (by omega), mvR_fr (by omega)]; exact h4
  · rw [up_fr (by omega), mvR_out (by omega)]; exact (h5 j hj).1
  · refine (h5 j hj).2.of (fun k hk => ?_)
    rw [mvR_out (by omega)]
  · rw [up_fr (by omega), mvR_fr (by omega)]; exact (h6 j hj).1
  · refine (h6 j hj).2.1.of (fun k hk => ?_)
    rw [mvR_fr (by omega)]
  · refine (h6 j hj).2.2.of (fun k hk => ?_)
    rw [mvR_fr (by omega)]
end UNSAY
