/-! sums of bits -/
theorem and_split8 (a b c d : Nat) (hb : b < 256) (hd : d < 256) : (a * 256 + b) &&& (c * 256 + d) = (a &&& c) * 256 + (b &&& d) := by
  have h1 := Nat.div_add_mod ((a * 256 + b) &&& (c * 256 + d)) (2 ^ 8)
  rw [Nat.and_div_two_pow, Nat.and_mod_two_pow] at h1
  rw [show (a * 256 + b) / 2 ^ 8 = a by omega, show (c * 256 + d) / 2 ^ 8 = c by omega, show (a * 256 + b) % 2 ^ 8 = b by omega, show (c * 256 + d) % 2 ^ 8 = d by omega] at h1
  omega
def rep8 (m : Nat) : Nat → Nat
  | 0 => 0
  | n + 1 => rep8 m n * 256 + m
def pc : Nat → Nat → Nat
  | 0, _ => 0
  | n + 1, v => v % 2 + pc n (v / 2)
def sw1 (n x : Nat) : Nat := x - ((x / 2) &&& rep8 0x55 n)
def sw2 (n x : Nat) : Nat := (x &&& rep8 0x33 n) + ((x / 4) &&& rep8 0x33 n)
def sw3 (n x : Nat) : Nat := (x + x / 16) &&& rep8 0x0f n
def pb : Nat → Nat → Nat
  | 0, _ => 0
  | n + 1, x => pb n (x / 256) * 256 + pc 8 (x % 256)
theorem and_le (a b : Nat) : a &&& b ≤ a := Nat.and_le_left
theorem q1 : ∀ h, h < 2 → ∀ b, b < 256 → ((h * 128 + b / 2) &&& 0x55) = ((b / 2) &&& 0x55) := by decide +kernel
theorem sw1_s (n h b : Nat) (hb : b < 256) : sw1 (n + 1) (h * 256 + b) = sw1 n h * 256 + sw1 1 b := by
  have e : (h * 256 + b) / 2 = (h / 2) * 256 + ((h % 2) * 128 + b / 2) := by omega
  unfold sw1
  rw [e]
  show h * 256 + b - (((h / 2) * 256 + ((h % 2) * 128 + b / 2)) &&& (rep8 0x55 n * 256 + 0x55)) = _
  rw [and_split8 _ _ _ _ (by omega) (by omega), q1 (h % 2) (by omega) b hb]
  show _ = (h - (h / 2 &&& rep8 0x55 n)) * 256 + (b - (b / 2 &&& 0x55))
  have h1 := and_le (h / 2) (rep8 0x55 n)
  have h2 := and_le (b / 2) 0x55
  have h3 : h / 2 ≤ h := Nat.div_le_self _ _
  have h4 : b / 2 ≤ b := Nat.div_le_self _ _
  generalize (h / 2 &&& rep8 0x55 n) = y at *
  generalize (b / 2 &&& 0x55) = z at *
  omega
theorem q2 : ∀ h, h < 4 → ∀ b, b < 256 → ((h * 64 + b / 4) &&& 0x33) = ((b / 4) &&& 0x33) := by decide +kernel
theorem sw2_s (n h b : Nat) (hb : b < 256) : sw2 (n + 1) (h * 256 + b) = sw2 n h * 256 + sw2 1 b := by
  have e : (h * 256 + b) / 4 = (h / 4) * 256 + ((h % 4) * 64 + b / 4) := by omega
  unfold sw2
  rw [e]
  show ((h * 256 + b) &&& (rep8 0x33 n * 256 + 0x33)) + (((h / 4) * 256 + ((h % 4) * 64 + b / 4)) &&& (rep8 0x33 n * 256 + 0x33)) = ((h &&& rep8 0x33 n) + (h / 4 &&& rep8 0x33 n)) * 256 + ((b &&& 0x33) + (b / 4 &&& 0x33))
  rw [and_split8 _ _ _ _ (by omega) (by omega), and_split8 _ _ _ _ (by omega) (by omega), q2 (h % 4) (by omega) b hb]
  generalize (h / 4 &&& rep8 0x33 n) = y at *
  generalize (h &&& rep8 0x33 n) = z at *
  omega
theorem q3 : ∀ h, h < 5 → ∀ b, b < 69 → ((b + (h * 16 + b / 16)) &&& 0x0f) = ((b + b / 16) &&& 0x0f) := by decide +kernel
theorem sw3_s (n h b : Nat) (hb : b < 69) (h9 : h % 16 < 5) : sw3 (n + 1) (h * 256 + b) = sw3 n h * 256 + sw3 1 b := by
  have e : h * 256 + b + (h * 256 + b) / 16 = (h + h / 16) * 256 + (b + ((h % 16) * 16 + b / 16)) := by omega
  unfold sw3
  rw [e]
  show (((h + h / 16) * 256 + (b + ((h % 16) * 16 + b / 16))) &&& (rep8 0x0f n * 256 + 0x0f)) = ((h + h / 16) &&& rep8 0x0f n) * 256 + ((b + b / 16) &&& 0x0f)
  rw [and_split8 _ _ _ _ (by omega) (by omega), q3 (h % 16) h9 b hb]
theorem q4 : ∀ b, b < 256 → sw2 1 (sw1 1 b) < 69 ∧ sw1 1 b < 256 ∧ sw3 1 (sw2 1 (sw1 1 b)) = pc 8 b := by decide +kernel
theorem q5 : ∀ b, b < 256 → sw2 1 (sw1 1 b) % 16 < 5 := by decide +kernel
theorem sw_nib (n : Nat) (x : Nat) (hx : x < 256 ^ n) : sw2 n (sw1 n x) % 16 < 5 := by
  cases n with
  | zero => have : x = 0 := by simpa using hx
            subst this; decide
  | succ n =>
    have e : x = (x / 256) * 256 + x % 256 := by omega
    have hb : x % 256 < 256 := Nat.mod_lt _ (by omega)
    rw [e, sw1_s n _ _ hb, sw2_s n _ _ (q4 (x % 256) hb).2.1]
    have := q5 (x % 256) hb
    omega
theorem sw_all (n : Nat) : ∀ x, x < 256 ^ n → sw3 n (sw2 n (sw1 n x)) = pb n x := by
  induction n with
  | zero => intro x hx; have : x = 0 := by simpa using hx
            subst this; decide
  | succ n ih =>
    intro x hx
    have e : x = (x / 256) * 256 + x % 256 := by omega
    have hb : x % 256 < 256 := Nat.mod_lt _ (by omega)
    obtain ⟨a1, a2, a3⟩ := q4 (x % 256) hb
    have h2 : x / 256 < 256 ^ n := by rw [Nat.pow_succ] at hx; omega
    rw [e, sw1_s n _ _ hb, sw2_s n _ _ a2, sw3_s n _ _ a1 (sw_nib n _ h2), ih _ h2, a3]
    show _ = pb n ((x / 256 * 256 + x % 256) / 256) * 256 + pc 8 ((x / 256 * 256 + x % 256) % 256)
    rw [← e]
theorem pc_le (n : Nat) : ∀ v, pc n v ≤ n := by
  induction n with
  | zero => intro v; exact Nat.le_refl _
  | succ n ih => intro v; have := ih (v / 2); show v % 2 + pc n (v / 2) ≤ _; omega
theorem pc_split (m : Nat) : ∀ n v, pc (m + n) v = pc m (v % 2 ^ m) + pc n (v / 2 ^ m) := by
  induction m with
  | zero => intro n v; simp [pc]
  | succ m ih =>
    intro n v
    rw [show m + 1 + n = (m + n) + 1 by omega]
    show v % 2 + pc (m + n) (v / 2) = ((v % 2 ^ (m + 1)) % 2 + pc m (v % 2 ^ (m + 1) / 2)) + pc n (v / 2 ^ (m + 1))
    rw [ih, Nat.pow_succ, Nat.mul_comm (2 ^ m) 2, Nat.mod_mul_right_div_self, Nat.div_div_eq_div_mul, Nat.mod_mul_right_mod]
    omega
theorem pc_and (n : Nat) : ∀ v, v ≠ 0 → v < 2 ^ n → pc n v = pc n (v &&& (v - 1)) + 1 := by
  induction n with
  | zero => intro v h0 h; simp at h; omega
  | succ n ih =>
    intro v h0 h
    show v % 2 + pc n (v / 2) = ((v &&& (v - 1)) % 2 + pc n ((v &&& (v - 1)) / 2)) + 1
    have e1 : (v &&& (v - 1)) / 2 = v / 2 &&& (v - 1) / 2 := by simpa using Nat.and_div_two_pow (a := v) (b := v - 1) (n := 1)
    have e2 : (v &&& (v - 1)) % 2 = (v % 2) &&& ((v - 1) % 2) := by simpa using Nat.and_mod_two_pow (a := v) (b := v - 1) (n := 1)
    rw [e1, e2]
    rcases Nat.mod_two_eq_zero_or_one v with h1 | h1
    · have h2 : (v - 1) / 2 = v / 2 - 1 := by omega
      rw [h1, h2, Nat.zero_and, ih (v / 2) (by omega) (by rw [Nat.pow_succ] at h; omega)]
      omega
    · have h2 : (v - 1) / 2 = v / 2 := by omega
      have h3 : (v - 1) % 2 = 0 := by omega
      rw [h1, h2, h3, Nat.and_self, Nat.and_zero]
      omega
theorem u64_sub (a b : Int64) (h : b.toUInt64.toNat ≤ a.toUInt64.toNat) : (a - b).toUInt64.toNat = a.toUInt64.toNat - b.toUInt64.toNat := by
  rw [Int64.toUInt64_sub, UInt64.toNat_sub_of_le _ _ (UInt64.le_iff_toNat_le.mpr h)]
theorem u64_and (a b : Int64) : (a &&& b).toUInt64.toNat = a.toUInt64.toNat &&& b.toUInt64.toNat := by
  rw [Int64.toUInt64_and, UInt64.toNat_and]
theorem u64_add (a b : Int64) (h : a.toUInt64.toNat + b.toUInt64.toNat < 2 ^ 64) : (a + b).toUInt64.toNat = a.toUInt64.toNat + b.toUInt64.toNat := by
  rw [Int64.toUInt64_add, UInt64.toNat_add, Nat.mod_eq_of_lt h]
theorem u64_shr (a : UInt64) (k : UInt64) (n : Nat) (hn : n < 64) (hk : k.toNat = n) : ((a >>> k).toInt64).toUInt64.toNat = a.toNat / 2 ^ n := by
  rw [UInt64.toUInt64_toInt64, UInt64.toNat_shiftRight, hk, Nat.mod_eq_of_lt hn, Nat.shiftRight_eq_div_pow]
theorem i32_and127 (v : Int64) : v.toInt32 &&& (127 : Int32) = nI (v.toUInt64.toNat % 128) := by
  apply Int32.toBitVec_inj.mp
  apply BitVec.eq_of_toNat_eq
  rw [Int32.toBitVec_and, BitVec.toNat_and]
  have e1 : v.toInt32.toBitVec.toNat = v.toUInt64.toNat % 2 ^ 32 := by
    show (BitVec.signExtend 32 v.toBitVec).toNat = _
    rw [BitVec.signExtend_eq_setWidth_of_le _ (by decide), BitVec.toNat_setWidth]
    rfl
  have e2 : (nI (v.toUInt64.toNat % 128)).toBitVec.toNat = v.toUInt64.toNat % 128 := by
    simp [nI]
    omega
  have e3 : (127 : Int32).toBitVec.toNat = 127 := by decide
  rw [e1, e2, e3]
  have := Nat.and_two_pow_sub_one_eq_mod (v.toUInt64.toNat % 2 ^ 32) 7
  simp at this
  rw [this]

theorem pc8s (n x : Nat) : pc (8 + n) x = pc 8 (x % 256) + pc n (x / 256) := pc_split 8 n x
theorem sw1_le (n x : Nat) : sw1 n x ≤ x := Nat.sub_le _ _
theorem dv1 (p r : Nat) (h : p < 256) : (r * 256 + p) / 256 = r := by omega
theorem dv2 (a b r : Nat) (h : a < 256) (h2 : b < 256) : (a + 256 * (b + 256 * r)) / 65536 = r := by omega
theorem dv4 (a b c d r : Nat) (h : a < 256) (h2 : b < 256) (h3 : c < 256) (h4 : d < 256) : (a + 256 * (b + 256 * (c + 256 * (d + 256 * r)))) / 4294967296 = r := by omega
theorem md1 (s r : Nat) (h : s < 128) : (s + 256 * r) % 128 = s := by omega
theorem ln1 (p0 p1 p2 p3 p4 p5 p6 p7 : Nat) : (((((((0 * 256 + p7) * 256 + p6) * 256 + p5) * 256 + p4) * 256 + p3) * 256 + p2) * 256 + p1) * 256 + p0 + (((((((0 * 256 + p7) * 256 + p6) * 256 + p5) * 256 + p4) * 256 + p3) * 256 + p2) * 256 + p1) = (p0 + p1) + 256 * ((p1 + p2) + 256 * ((p2 + p3) + 256 * ((p3 + p4) + 256 * ((p4 + p5) + 256 * ((p5 + p6) + 256 * ((p6 + p7) + 256 * p7)))))) := by omega
theorem ln2 (p0 p1 p2 p3 p4 p5 p6 p7 : Nat) : (p0 + p1) + 256 * ((p1 + p2) + 256 * ((p2 + p3) + 256 * ((p3 + p4) + 256 * ((p4 + p5) + 256 * ((p5 + p6) + 256 * ((p6 + p7) + 256 * p7)))))) + ((p2 + p3) + 256 * ((p3 + p4) + 256 * ((p4 + p5) + 256 * ((p5 + p6) + 256 * ((p6 + p7) + 256 * p7))))) = (p0 + p1 + p2 + p3) + 256 * ((p1 + p2 + p3 + p4) + 256 * ((p2 + p3 + p4 + p5) + 256 * ((p3 + p4 + p5 + p6) + 256 * ((p4 + p5 + p6 + p7) + 256 * ((p5 + p6 + p7) + 256 * ((p6 + p7) + 256 * p7)))))) := by omega
theorem ln3 (p0 p1 p2 p3 p4 p5 p6 p7 : Nat) : (p0 + p1 + p2 + p3) + 256 * ((p1 + p2 + p3 + p4) + 256 * ((p2 + p3 + p4 + p5) + 256 * ((p3 + p4 + p5 + p6) + 256 * ((p4 + p5 + p6 + p7) + 256 * ((p5 + p6 + p7) + 256 * ((p6 + p7) + 256 * p7)))))) + ((p4 + p5 + p6 + p7) + 256 * ((p5 + p6 + p7) + 256 * ((p6 + p7) + 256 * p7))) = (p0 + p1 + p2 + p3 + p4 + p5 + p6 + p7) + 256 * ((p1 + p2 + p3 + p4 + p5 + p6 + p7) + 256 * ((p2 + p3 + p4 + p5 + p6 + p7) + 256 * ((p3 + p4 + p5 + p6 + p7) + 256 * ((p4 + p5 + p6 + p7) + 256 * ((p5 + p6 + p7) + 256 * ((p6 + p7) + 256 * p7)))))) := by omega
theorem nst (a b : Nat) (n : Nat) (h : a < 256) (h2 : b < n) : a + 256 * b < 256 * n := by omega
theorem bs1 {a0 : Nat} (h0 : a0 ≤ 8) : a0 < 128 := by omega
theorem bs2 {a0 a1 : Nat} (h0 : a0 ≤ 8) (h1 : a1 ≤ 8) : a0 + a1 < 128 := by omega
theorem bs3 {a0 a1 a2 : Nat} (h0 : a0 ≤ 8) (h1 : a1 ≤ 8) (h2 : a2 ≤ 8) : a0 + a1 + a2 < 128 := by omega
theorem bs4 {a0 a1 a2 a3 : Nat} (h0 : a0 ≤ 8) (h1 : a1 ≤ 8) (h2 : a2 ≤ 8) (h3 : a3 ≤ 8) : a0 + a1 + a2 + a3 < 128 := by omega
theorem bs5 {a0 a1 a2 a3 a4 : Nat} (h0 : a0 ≤ 8) (h1 : a1 ≤ 8) (h2 : a2 ≤ 8) (h3 : a3 ≤ 8) (h4 : a4 ≤ 8) : a0 + a1 + a2 + a3 + a4 < 128 := by omega
theorem bs6 {a0 a1 a2 a3 a4 a5 : Nat} (h0 : a0 ≤ 8) (h1 : a1 ≤ 8) (h2 : a2 ≤ 8) (h3 : a3 ≤ 8) (h4 : a4 ≤ 8) (h5 : a5 ≤ 8) : a0 + a1 + a2 + a3 + a4 + a5 < 128 := by omega
theorem bs7 {a0 a1 a2 a3 a4 a5 a6 : Nat} (h0 : a0 ≤ 8) (h1 : a1 ≤ 8) (h2 : a2 ≤ 8) (h3 : a3 ≤ 8) (h4 : a4 ≤ 8) (h5 : a5 ≤ 8) (h6 : a6 ≤ 8) : a0 + a1 + a2 + a3 + a4 + a5 + a6 < 128 := by omega
theorem bs8 {a0 a1 a2 a3 a4 a5 a6 a7 : Nat} (h0 : a0 ≤ 8) (h1 : a1 ≤ 8) (h2 : a2 ≤ 8) (h3 : a3 ≤ 8) (h4 : a4 ≤ 8) (h5 : a5 ≤ 8) (h6 : a6 ≤ 8) (h7 : a7 ≤ 8) : a0 + a1 + a2 + a3 + a4 + a5 + a6 + a7 < 128 := by omega
theorem sum8a (p0 p1 p2 p3 p4 p5 p6 p7 v3 v4 v5 v6 : Nat) (b0 : p0 ≤ 8) (b1 : p1 ≤ 8) (b2 : p2 ≤ 8) (b3 : p3 ≤ 8) (b4 : p4 ≤ 8) (b5 : p5 ≤ 8) (b6 : p6 ≤ 8) (b7 : p7 ≤ 8) (h3 : v3 = (((((((0 * 256 + p7) * 256 + p6) * 256 + p5) * 256 + p4) * 256 + p3) * 256 + p2) * 256 + p1) * 256 + p0) (h4 : v4 = v3 + v3 / 256) (h5 : v5 = v4 + v4 / 65536) (h6 : v6 = v5 + v5 / 4294967296) : v6 % 128 = p0 + p1 + p2 + p3 + p4 + p5 + p6 + p7 ∧ v4 < 18446744073709551616 ∧ v5 < 18446744073709551616 ∧ v6 < 18446744073709551616 := by
  rw [h3, dv1 _ _ (Nat.lt_trans (bs1 b0) (by decide)), ln1] at h4
  rw [h4, dv2 _ _ _ (Nat.lt_trans (bs2 b0 b1) (by decide)) (Nat.lt_trans (bs2 b1 b2) (by decide)), ln2] at h5
  rw [h5, dv4 _ _ _ _ _ (Nat.lt_trans (bs4 b0 b1 b2 b3) (by decide)) (Nat.lt_trans (bs4 b1 b2 b3 b4) (by decide)) (Nat.lt_trans (bs4 b2 b3 b4 b5) (by decide)) (Nat.lt_trans (bs4 b3 b4 b5 b6) (by decide)), ln3] at h6
  refine ⟨?_, ?_, ?_, ?_⟩
  · rw [h6, md1 _ _ (bs8 b0 b1 b2 b3 b4 b5 b6 b7)]
  · rw [h4]; exact nst _ _ 72057594037927936 (Nat.lt_trans (bs2 b0 b1) (by decide)) (nst _ _ 281474976710656 (Nat.lt_trans (bs2 b1 b2) (by decide)) (nst _ _ 1099511627776 (Nat.lt_trans (bs2 b2 b3) (by decide)) (nst _ _ 4294967296 (Nat.lt_trans (bs2 b3 b4) (by decide)) (nst _ _ 16777216 (Nat.lt_trans (bs2 b4 b5) (by decide)) (nst _ _ 65536 (Nat.lt_trans (bs2 b5 b6) (by decide)) (nst _ _ 256 (Nat.lt_trans (bs2 b6 b7) (by decide)) (Nat.lt_trans (bs1 b7) (by decide))))))))
  · rw [h5]; exact nst _ _ 72057594037927936 (Nat.lt_trans (bs4 b0 b1 b2 b3) (by decide)) (nst _ _ 281474976710656 (Nat.lt_trans (bs4 b1 b2 b3 b4) (by decide)) (nst _ _ 1099511627776 (Nat.lt_trans (bs4 b2 b3 b4 b5) (by decide)) (nst _ _ 4294967296 (Nat.lt_trans (bs4 b3 b4 b5 b6) (by decide)) (nst _ _ 16777216 (Nat.lt_trans (bs4 b4 b5 b6 b7) (by decide)) (nst _ _ 65536 (Nat.lt_trans (bs3 b5 b6 b7) (by decide)) (nst _ _ 256 (Nat.lt_trans (bs2 b6 b7) (by decide)) (Nat.lt_trans (bs1 b7) (by decide))))))))
  · rw [h6]; exact nst _ _ 72057594037927936 (Nat.lt_trans (bs8 b0 b1 b2 b3 b4 b5 b6 b7) (by decide)) (nst _ _ 281474976710656 (Nat.lt_trans (bs7 b1 b2 b3 b4 b5 b6 b7) (by decide)) (nst _ _ 1099511627776 (Nat.lt_trans (bs6 b2 b3 b4 b5 b6 b7) (by decide)) (nst _ _ 4294967296 (Nat.lt_trans (bs5 b3 b4 b5 b6 b7) (by decide)) (nst _ _ 16777216 (Nat.lt_trans (bs4 b4 b5 b6 b7) (by decide)) (nst _ _ 65536 (Nat.lt_trans (bs3 b5 b6 b7) (by decide)) (nst _ _ 256 (Nat.lt_trans (bs2 b6 b7) (by decide)) (Nat.lt_trans (bs1 b7) (by decide))))))))
theorem sum8 (x v4 v5 v6 : Nat) (h4 : v4 = pb 8 x + pb 8 x / 256) (h5 : v5 = v4 + v4 / 65536) (h6 : v6 = v5 + v5 / 4294967296) : v6 % 128 = pc 64 x ∧ v4 < 18446744073709551616 ∧ v5 < 18446744073709551616 ∧ v6 < 18446744073709551616 := by
  have e : pc 64 x = pc 8 (x % 256) + (pc 8 (x / 256 % 256) + (pc 8 (x / 256 / 256 % 256) + (pc 8 (x / 256 / 256 / 256 % 256) + (pc 8 (x / 256 / 256 / 256 / 256 % 256) + (pc 8 (x / 256 / 256 / 256 / 256 / 256 % 256) + (pc 8 (x / 256 / 256 / 256 / 256 / 256 / 256 % 256) + (pc 8 (x / 256 / 256 / 256 / 256 / 256 / 256 / 256 % 256) + 0))))))) := by
    rw [show (64 : Nat) = 8 + (8 + (8 + (8 + (8 + (8 + (8 + (8 + 0))))))) by rfl]
    simp only [pc8s]
    rfl
  have := sum8a _ _ _ _ _ _ _ _ (pb 8 x) v4 v5 v6 (pc_le 8 (x % 256)) (pc_le 8 (x / 256 % 256)) (pc_le 8 (x / 256 / 256 % 256)) (pc_le 8 (x / 256 / 256 / 256 % 256)) (pc_le 8 (x / 256 / 256 / 256 / 256 % 256)) (pc_le 8 (x / 256 / 256 / 256 / 256 / 256 % 256)) (pc_le 8 (x / 256 / 256 / 256 / 256 / 256 / 256 % 256)) (pc_le 8 (x / 256 / 256 / 256 / 256 / 256 / 256 / 256 % 256)) rfl h4 h5 h6
  rw [e, this.1]
  refine ⟨?_, this.2⟩
  simp only [Nat.add_assoc, Nat.add_zero]

theorem bc64a (x : Nat) (v1 v2 v3 v4 v5 v6 : Nat) (hx : x < 18446744073709551616) (h1 : v1 = x - ((x / 2) &&& 6148914691236517205)) (h2 : v2 = (v1 &&& 3689348814741910323) + ((v1 / 4) &&& 3689348814741910323)) (h3 : v3 = (v2 + v2 / 16) &&& 1085102592571150095) (h4 : v4 = v3 + v3 / 256) (h5 : v5 = v4 + v4 / 65536) (h6 : v6 = v5 + v5 / 4294967296) : v6 % 128 = pc 64 x ∧ v4 < 18446744073709551616 ∧ v5 < 18446744073709551616 ∧ v6 < 18446744073709551616 := by
  have e : v3 = pb 8 x := by
    rw [← sw_all 8 x (Nat.lt_of_lt_of_le hx (by decide))]
    have r5 : rep8 0x55 8 = 6148914691236517205 := by decide
    have r3 : rep8 0x33 8 = 3689348814741910323 := by decide
    have rf : rep8 0x0f 8 = 1085102592571150095 := by decide
    unfold sw3 sw2 sw1
    rw [r5, r3, rf, ← h1, ← h2, ← h3]
  rw [e] at h4
  exact sum8 x v4 v5 v6 h4 h5 h6

theorem bc64 (a : Int64) (M : m_M) : F_J13_bitCount_95d88 a M = some (nI (pc 64 a.toUInt64.toNat), M) := by
  have hx : a.toUInt64.toNat < 18446744073709551616 := a.toUInt64.toNat_lt
  obtain ⟨v1, e1⟩ : ∃ v, v = a - (((a.toUInt64 >>> ((1 : Int32).toInt64.toUInt64 &&& Int64.toUInt64 63)).toInt64) &&& (6148914691236517205 : Int64)) := ⟨_, rfl⟩
  obtain ⟨v2, e2⟩ : ∃ v, v = (v1 &&& (3689348814741910323 : Int64)) + (((v1.toUInt64 >>> ((2 : Int32).toInt64.toUInt64 &&& Int64.toUInt64 63)).toInt64) &&& (3689348814741910323 : Int64)) := ⟨_, rfl⟩
  obtain ⟨v3, e3⟩ : ∃ v, v = (v2 + ((v2.toUInt64 >>> ((4 : Int32).toInt64.toUInt64 &&& Int64.toUInt64 63)).toInt64)) &&& (1085102592571150095 : Int64) := ⟨_, rfl⟩
  obtain ⟨v4, e4⟩ : ∃ v, v = v3 + ((v3.toUInt64 >>> ((8 : Int32).toInt64.toUInt64 &&& Int64.toUInt64 63)).toInt64) := ⟨_, rfl⟩
  obtain ⟨v5, e5⟩ : ∃ v, v = v4 + ((v4.toUInt64 >>> ((16 : Int32).toInt64.toUInt64 &&& Int64.toUInt64 63)).toInt64) := ⟨_, rfl⟩
  obtain ⟨v6, e6⟩ : ∃ v, v = v5 + ((v5.toUInt64 >>> ((32 : Int32).toInt64.toUInt64 &&& Int64.toUInt64 63)).toInt64) := ⟨_, rfl⟩
  have h0 : F_J13_bitCount_95d88 a M = some (v6.toInt32 &&& (127 : Int32), M) := by
    rw [e6, e5, e4, e3, e2, e1]; rfl
  rw [h0, i32_and127]
  have m5 : ((6148914691236517205 : Int64)).toUInt64.toNat = 6148914691236517205 := by decide
  have m3 : ((3689348814741910323 : Int64)).toUInt64.toNat = 3689348814741910323 := by decide
  have mf : ((1085102592571150095 : Int64)).toUInt64.toNat = 1085102592571150095 := by decide
  have s1 := u64_shr a.toUInt64 ((1 : Int32).toInt64.toUInt64 &&& Int64.toUInt64 63) 1 (by decide) (by decide)
  have n1 : v1.toUInt64.toNat = a.toUInt64.toNat - ((a.toUInt64.toNat / 2) &&& 6148914691236517205) := by
    rw [e1, u64_sub, u64_and, s1, m5]
    rw [u64_and, s1, m5]
    exact Nat.le_trans Nat.and_le_left (Nat.div_le_self _ _)
  have n2 : v2.toUInt64.toNat = (v1.toUInt64.toNat &&& 3689348814741910323) + ((v1.toUInt64.toNat / 4) &&& 3689348814741910323) := by
    rw [e2, u64_add, u64_and, u64_and, u64_shr v1.toUInt64 _ 2 (by decide) (by decide), m3]
    rw [u64_and, u64_and, u64_shr v1.toUInt64 _ 2 (by decide) (by decide), m3]
    exact Nat.lt_of_le_of_lt (Nat.add_le_add Nat.and_le_right Nat.and_le_right) (by decide)
  have l2 : v2.toUInt64.toNat ≤ 7378697629483820646 := by
    rw [n2]; exact Nat.le_trans (Nat.add_le_add Nat.and_le_right Nat.and_le_right) (by decide)
  have n3 : v3.toUInt64.toNat = (v2.toUInt64.toNat + v2.toUInt64.toNat / 16) &&& 1085102592571150095 := by
    rw [e3, u64_and, u64_add, u64_shr v2.toUInt64 _ 4 (by decide) (by decide), mf]
    rw [u64_shr v2.toUInt64 _ 4 (by decide) (by decide)]
    exact Nat.lt_of_le_of_lt (Nat.add_le_add l2 (Nat.le_trans (Nat.div_le_self _ _) l2)) (by decide)
  have hh := bc64a a.toUInt64.toNat v1.toUInt64.toNat v2.toUInt64.toNat v3.toUInt64.toNat (v3.toUInt64.toNat + v3.toUInt64.toNat / 256) _ _ hx n1 n2 n3 rfl rfl rfl
  obtain ⟨q1, q2, q3, q4⟩ := hh
  have n4 : v4.toUInt64.toNat = v3.toUInt64.toNat + v3.toUInt64.toNat / 256 := by
    rw [e4, u64_add, u64_shr v3.toUInt64 _ 8 (by decide) (by decide)]
    rw [u64_shr v3.toUInt64 _ 8 (by decide) (by decide)]
    exact q2
  rw [← n4] at q1 q3 q4
  have n5 : v5.toUInt64.toNat = v4.toUInt64.toNat + v4.toUInt64.toNat / 65536 := by
    rw [e5, u64_add, u64_shr v4.toUInt64 _ 16 (by decide) (by decide)]
    rw [u64_shr v4.toUInt64 _ 16 (by decide) (by decide)]
    exact q3
  rw [← n5] at q1 q4
  have n6 : v6.toUInt64.toNat = v5.toUInt64.toNat + v5.toUInt64.toNat / 4294967296 := by
    rw [e6, u64_add, u64_shr v5.toUInt64 _ 32 (by decide) (by decide)]
    rw [u64_shr v5.toUInt64 _ 32 (by decide) (by decide)]
    exact q4
  rw [← n6] at q1
  rw [q1]
