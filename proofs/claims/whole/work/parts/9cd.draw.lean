/-! a year: what is drawn; the class's turn -/
theorem nx_ex (g : Nat) : ∃ n, n = (g * 1103515245 + 12345) % 2147483648 := ⟨_, rfl⟩
noncomputable def nx (g : Nat) : Nat := Classical.choose (nx_ex g)
theorem nx_eq (g : Nat) : nx g = (g * 1103515245 + 12345) % 2147483648 := Classical.choose_spec (nx_ex g)
def bt (g m : Nat) : Nat := g / 65536 % m
def lI (n : Nat) : Int64 := Int64.ofNat n
theorem nx_lt (g : Nat) : nx g < 2147483648 := by
  rw [nx_eq]
  exact Nat.mod_lt _ (by omega)
theorem bt_lt {g m : Nat} (h : 0 < m) : bt g m < m := Nat.mod_lt _ h
theorem lI_rem {a b : Nat} (ha : a < 2 ^ 63) (hb : b < 2 ^ 63) : lI a - lI a / lI b * lI b = lI (a % b) := by
  unfold lI
  rw [← Int64.ofNat_div ha hb, ← Int64.ofNat_mul, ← Int64.ofNat_sub _ _ (Nat.div_mul_le_self a b)]
  congr 1
  have := Nat.div_add_mod a b
  rw [Nat.mul_comm] at this
  omega
theorem lI_nx {g : Nat} (h : g < 2147483648) : ((lI g * (1103515245 : Int64)) + (12345 : Int64)) - ((lI g * (1103515245 : Int64)) + (12345 : Int64)) / (2147483648 : Int64) * (2147483648 : Int64) = lI (nx g) := by
  have e : (lI g * (1103515245 : Int64)) + (12345 : Int64) = lI (g * 1103515245 + 12345) := by
    unfold lI
    rw [Int64.ofNat_add, Int64.ofNat_mul]
    rfl
  rw [e, nx_eq]
  exact lI_rem (b := 2147483648) (by omega) (by omega)
theorem nI_64 {m : Nat} (h : m < 2147483648) : (nI m).toInt64 = lI m := Int32.toInt64_ofNat' (by
  show (m : Int) ≤ 2147483647
  omega)
theorem lI_bt {g m : Nat} (h : g < 2147483648) (hm : m < 2147483648) : (lI g / (65536 : Int64) - lI g / (65536 : Int64) / (nI m).toInt64 * (nI m).toInt64).toInt32 = nI (bt g m) := by
  have e : lI g / (65536 : Int64) = lI (g / 65536) := by
    unfold lI
    rw [Int64.ofNat_div (by omega) (by omega)]
    rfl
  rw [e, nI_64 hm, lI_rem (by omega) (by omega)]
  exact Int64.toInt32_ofNat'
theorem lI_nz {m : Nat} (h : m < 2147483648) (h0 : 0 < m) : ¬ (nI m).toInt64 = 0 := by
  rw [nI_64 h]
  intro z
  have := congrArg Int64.toInt z
  unfold lI at this
  rw [Int64.toInt_ofNat_of_lt (by omega)] at this
  have e : (0 : Int64).toInt = 0 := by decide
  rw [e] at this
  omega
theorem x_nzL_ne {β : Type} {z : Int64} {f : Option β} (h : ¬ z = 0) : x_nzL z f = f := if_neg h
/-- which verb is drawn, and the number after -/
noncomputable def yrV (l : Ld) (d g : Nat) : Option Nat × Nat := if bt (nx g) 10 = 0 then (none, nx g) else if bt (nx g) 10 = 1 then (some (bt (nx (nx g)) (lH l 3)), nx (nx g)) else (vOf l d, nx g)
def yrT (l : Ld) (v f s : Nat) (L : Nat → Bool) (w : Nat) : Bool := hby l (some v) f s w && L w
def yrO (l : Ld) (t : Tl) (dawn n : Nat) (L : Nat → Bool) (w : Nat) : Bool := L w && anN n (fun o => !decide ((t.2.2 o).2.1 = dawn) || bdS l (t.2.2 o) w)
noncomputable def yrC (l : Ld) (v g : Nat) (L : Nat → Bool) : Nat × ((Nat → Bool) × Nat) := if cnt (yrT l v (bt (nx g) (lH l 1)) (bt (nx (nx g)) (lH l 1)) L) (wN l) = 0 then (nx (nx g), L, 0) else (nx (nx g), yrT l v (bt (nx g) (lH l 1)) (bt (nx (nx g)) (lH l 1)) L, 1)
noncomputable def yrS (l : Ld) (t : Tl) (day i : Nat) (y : Nat × ((Nat → Bool) × (Nat × Nat))) : Nat × ((Nat → Bool) × (Nat × Nat)) := match yrV l (day + i) y.1 with
  | (none, g) => (g, yrO l t (day + i + 1) t.2.1 y.2.1, y.2.2.1, y.2.2.2 + 1)
  | (some v, g) => ((yrC l v g y.2.1).1, yrO l t (day + i + 1) t.2.1 (yrC l v g y.2.1).2.1, y.2.2.1 + (yrC l v g y.2.1).2.2, y.2.2.2)
theorem yrV_in {l : Ld} (ho : lOk l) (h3 : 0 < lH l 3) {d g v : Nat} (h : (yrV l d g).1 = some v) : v < lH l 3 := by
  unfold yrV at h
  split at h
  · cases h
  · split at h
    · cases h; exact bt_lt h3
    · exact vOf_in ho d v h
theorem yrV_lt {l : Ld} {d g : Nat} : (yrV l d g).2 < 2147483648 := by
  unfold yrV
  split
  · exact nx_lt _
  · split
    · exact nx_lt _
    · exact nx_lt _
section DRAW
variable {M M' : m_M} {l : Ld} {t : Tl}
theorem wB_sL {B : Nat → Nat → Int64} {a k : Nat} {v : Int64} : m_sL (m_wB M B) a k v = m_wB M (upB B a k v) := Eq.trans rfl rfl
theorem S_dB (h : G M) {B : Nat → Nat → Int64} {g m : Nat} (hB : B 0 15 = lI g) (hg : g < 2147483648) (hm : m < 2147483648) (h0 : 0 < m) : F_X11_drawBelow 0 (nI m) (m_wB M B) = some (nI (bt (nx g) m), m_wB M (upB B 0 15 (lI (nx g)))) := by
  have K0 : ∀ B, m_K (m_wB M B) 0 = 9 := fun B => by simp only [wB_K, gK h]
  unfold F_X11_drawBelow
  rw [x_gL_ok (K0 _), wB_L, hB, x_nzL_ne (by decide), lI_nx hg, x_pL_ok (K0 _), wB_sL, if_neg (fun z => absurd ((nI_le0 hm).mp z) (by omega)), x_gL_ok (K0 _), wB_L, upB_at, if_pos ⟨rfl, rfl⟩, x_nzL_ne (by decide), x_nzL_ne (lI_nz hm h0), lI_bt (nx_lt g) hm]
theorem S_drawVerb (h : G M) (hl : LCi l (m_I M)) (ho : lOk l) (h3 : 0 < lH l 3) {B : Nat → Nat → Int64} {g d : Nat} (hB : B 0 15 = lI g) (hg : g < 2147483648) (hd : d < 2147483648) :
    ∃ B', F_X11_drawVerb 0 (nI d) (m_wB M B) = some (iO (yrV l d g).1, m_wB M B') ∧ B' 0 15 = lI (yrV l d g).2 ∧ ∀ b, b ≠ 0 → B' b = B b := by
  have K0 : ∀ B, m_K (m_wB M B) 0 = 9 := fun B => by simp only [wB_K, gK h]
  have R2 : ∀ B, m_R (m_wB M B) 0 2 = some 2 := fun B => by simp only [wB_R, gR h]
  have K2 : ∀ B, m_K (m_wB M B) 2 = 3 := fun B => by simp only [wB_K, gK h]
  have R6 : ∀ B, m_R (m_wB M B) 2 6 = some 3 := fun B => by simp only [wB_R, gR h]
  have K3 : ∀ B, m_K (m_wB M B) 3 = 12 := fun B => by simp only [wB_K, gK h]
  have L3 : ∀ B, m_len (m_wB M B) 3 = 4 := fun B => by simp only [wB_n, gl h]
  have b6 := ho.2.2.2.1
  have e1 := S_dB h hB hg (m := 10) (by omega) (by omega)
  have e1' : F_X11_drawBelow 0 (10 : Int32) (m_wB M B) = _ := e1
  have hlt : bt (nx g) 10 < 10 := bt_lt (by omega)
  have hB1 : upB B 0 15 (lI (nx g)) 0 15 = lI (nx g) := by rw [upB_at, if_pos ⟨rfl, rfl⟩]
  unfold F_X11_drawVerb yrV
  rw [x_cV_ok (K0 _) e1']
  by_cases q0 : bt (nx g) 10 = 0
  · rw [if_pos q0, if_pos (show nI (bt (nx g) 10) = (0 : Int32) from by rw [q0]; rfl)]
    exact ⟨_, rfl, hB1, fun b hb => upB_fr hb⟩
  rw [if_neg q0, if_neg (nI_nz q0 (by omega))]
  by_cases q1 : bt (nx g) 10 = 1
  · have e2 := S_dB h hB1 (nx_lt g) (m := lH l 3) (by omega) h3
    rw [if_pos q1, if_pos (show nI (bt (nx g) 10) = (1 : Int32) from by rw [q1]; rfl), x_gN_ok (K0 _) (R2 _), x_gN_ok (K2 _) (R6 _), aI_lit (x := (2 : Int32)) (n := 2) (K3 _) (by rw [L3]; omega) rfl (by omega), wB_I, hl.2.1.2.2.1, x_cV_ok (K0 _) e2]
    exact ⟨_, rfl, by rw [upB_at, if_pos ⟨rfl, rfl⟩], fun b hb => by rw [upB_fr hb, upB_fr hb]⟩
  · rw [if_neg q1, if_neg (show ¬ nI (bt (nx g) 10) = (1 : Int32) from fun z => q1 ((nI_eq (b := 1) (by omega) (by omega)).mp z)), x_gN_ok (K0 _) (R2 _), x_cV_ok (K2 _) (S_verbOfC (M := m_wB M (upB B 0 15 (lI (nx g)))) h hl ho hd)]
    exact ⟨_, rfl, hB1, fun b hb => upB_fr hb⟩
theorem wB_w16 {B : Nat → Nat → Int64} {la : Nat} {g : Nat → Int64} : w16 (m_wB M B) la g = m_wB M (fun b k => if b = la then (if k < 16 then g k else B la k) else B b k) := Eq.trans rfl rfl
theorem partN4 {f : Nat} : partN (f * 4) = f := by unfold partN; omega
theorem S_drawClause (h : G M) (hl : LCi l (m_I M)) (ho : lOk l) (h1 : 0 < lH l 1) {v g : Nat} (hv : v < lH l 3) (hg : g < 2147483648) {B : Nat → Nat → Int64} (hs : LCs l (B 13)) (hB : B 0 15 = lI g) {L : Nat → Bool} (hL : Rw (wN l) L (B 91)) :
    ∃ B', F_X11_drawClause 0 (nI v) (m_wB M B) = some (nI (yrC l v g L).2.2, m_wB M B') ∧ B' 0 15 = lI (yrC l v g L).1 ∧ Rw (wN l) (yrC l v g L).2.1 (B' 91) ∧ ∀ b, b ≠ 0 → b ≠ 91 → b ≠ 93 → B' b = B b := by
  have hn := wN_le ho
  have K0 : ∀ B, m_K (m_wB M B) 0 = 9 := fun B => by simp only [wB_K, gK h]
  have R2 : ∀ B, m_R (m_wB M B) 0 2 = some 2 := fun B => by simp only [wB_R, gR h]
  have K2 : ∀ B, m_K (m_wB M B) 2 = 3 := fun B => by simp only [wB_K, gK h]
  have R6 : ∀ B, m_R (m_wB M B) 2 6 = some 3 := fun B => by simp only [wB_R, gR h]
  have K3 : ∀ B, m_K (m_wB M B) 3 = 12 := fun B => by simp only [wB_K, gK h]
  have L3 : ∀ B, m_len (m_wB M B) 3 = 4 := fun B => by simp only [wB_n, gl h]
  have R12 : ∀ B, m_R (m_wB M B) 0 12 = some 90 := fun B => by simp only [wB_R, gR h]
  have R13 : ∀ B, m_R (m_wB M B) 0 13 = some 92 := fun B => by simp only [wB_R, gR h]
  have W90 : ∀ B, Ws (m_wB M B) 90 91 := fun B => ⟨by simp only [wB_K, gK h], by simp only [wB_R, gR h], by simp only [wB_K, gK h], by simp only [wB_n, gl h]⟩
  have W92 : ∀ B, Ws (m_wB M B) 92 93 := fun B => ⟨by simp only [wB_K, gK h], by simp only [wB_R, gR h], by simp only [wB_K, gK h], by simp only [wB_n, gl h]⟩
  have b1 := ho.2.1
  have b6 := ho.2.2.2.1
  have I30 : m_I M 3 0 = nI (lH l 1) := hl.2.1.1
  obtain ⟨f, hf⟩ : ∃ f, f = bt (nx g) (lH l 1) := ⟨_, rfl⟩
  obtain ⟨s, hs2⟩ : ∃ s, s = bt (nx (nx g)) (lH l 1) := ⟨_, rfl⟩
  have hf1 : f < lH l 1 := by rw [hf]; exact bt_lt h1
  have hs1 : s < lH l 1 := by rw [hs2]; exact bt_lt h1
  have e1 := S_dB h hB hg (m := lH l 1) (by omega) h1
  rw [← hf] at e1
  have hB1 : upB B 0 15 (lI (nx g)) 0 15 = lI (nx g) := by rw [upB_at, if_pos ⟨rfl, rfl⟩]
  have e2 := S_dB h hB1 (nx_lt g) (m := lH l 1) (by omega) h1
  rw [← hs2] at e2
  obtain ⟨B2, hB2⟩ : ∃ B2, B2 = upB (upB B 0 15 (lI (nx g))) 0 15 (lI (nx (nx g))) := ⟨_, rfl⟩
  rw [← hB2] at e2
  have fr2 : ∀ b, b ≠ 0 → B2 b = B b := fun b hb => by rw [hB2, upB_fr hb, upB_fr hb]
  have c0 : B2 0 15 = lI (nx (nx g)) := by rw [hB2, upB_at, if_pos ⟨rfl, rfl⟩]
  have nc : ∀ x, x < lH l 1 → ncOk l (x * 4) := fun x hx => ⟨by omega, by omega⟩
  obtain ⟨x1, g1, g2⟩ := S_nounOk (M := m_wB M (upB B 0 15 (lI (nx g)))) h hl ho (c := f * 4) (by omega) (nc f hf1)
  obtain ⟨x2, k1, k2⟩ := S_nounOk (M := m_wB M B2) h hl ho (c := s * 4) (by omega) (nc s hs1)
  rw [partN4] at g2 k2
  obtain ⟨fr, p1, p2⟩ := S_spread (M := m_wB M B2) h hl ho (by rw [wB_L, fr2 13 (by omega)]; exact hs) (v := some v) (fun j hj => by cases hj; exact hv) (m1 := f) (m2 := s) (by omega) (by omega) g2 k2 (W92 B2) (by omega)
  have p1' : F_X3_spread 2 (nI x1) (nI x2) (nI v) 92 (m_wB M B2) = _ := p1
  rw [wB_w] at p1'
  obtain ⟨B3, hB3⟩ : ∃ B3 : Nat → Nat → Int64, B3 = (fun b => if b = 93 then fr else B2 b) := ⟨_, rfl⟩
  rw [← hB3] at p1'
  have kp := S_keep (W92 B3) (W90 B3) (by omega)
  rw [wB_w16] at kp
  obtain ⟨B4, hB4⟩ : ∃ B4 : Nat → Nat → Int64, B4 = (fun b k => if b = 93 then (if k < 16 then m_L (m_wB M B3) 93 k &&& m_L (m_wB M B3) 91 k else B3 93 k) else B3 b k) := ⟨_, rfl⟩
  rw [← hB4] at kp
  have f3 : ∀ b, b ≠ 93 → B3 b = B2 b := fun b hb => by rw [hB3]; exact if_neg hb
  have f4 : ∀ b, b ≠ 93 → B4 b = B3 b := fun b hb => by rw [hB4]; funext k; exact if_neg hb
  have r3 : Rw (wN l) (hby l (some v) f s) (B3 93) := by rw [hB3]; rw [show (fun b => if b = 93 then fr else B2 b) 93 = fr from if_pos rfl]; exact p2
  have l3 : Rw (wN l) L (B3 91) := by rw [f3 91 (by omega), fr2 91 (by omega)]; exact hL
  have r4 : Rw (wN l) (yrT l v f s L) (B4 93) := (r3.and l3).of (fun k hk => by
    rw [hB4]
    dsimp only
    rw [if_pos rfl, if_pos hk]
    rfl)
  have em := S_isEmpty (W92 B4) hn (by rw [wB_L]; exact r4)
  have c4 : B4 0 15 = lI (nx (nx g)) := by rw [f4 0 (by omega), f3 0 (by omega)]; exact c0
  have fr4 : ∀ b, b ≠ 0 → b ≠ 93 → B4 b = B b := fun b x y => by rw [f4 b y, f3 b y, fr2 b x]
  unfold F_X11_drawClause yrC
  rw [x_gN_ok (K0 _) (R2 _), x_gN_ok (K0 _) (R2 _), x_gN_ok (K2 _) (R6 _), aI_lit (x := (0 : Int32)) (n := 0) (K3 _) (by rw [L3]; omega) rfl (by omega), wB_I, I30, x_cV_ok (K0 _) e1, show (4 : Int32) = nI 4 from rfl, nI_mul, x_cV_ok (K2 _) g1, x_gN_ok (K0 _) (R2 _), x_gN_ok (K0 _) (R2 _), x_gN_ok (K2 _) (R6 _), aI_lit (x := (0 : Int32)) (n := 0) (K3 _) (by rw [L3]; omega) rfl (by omega), wB_I, I30, x_cV_ok (K0 _) e2, nI_mul, x_cV_ok (K2 _) k1, x_gN_ok (K0 _) (R2 _), x_gN_ok (K0 _) (R13 _), x_cV_ok (K2 _) p1', x_gN_ok (K0 _) (R13 _), x_gN_ok (K0 _) (R12 _), x_cV_ok (W92 _).1 kp, x_gN_ok (K0 _) (R13 _), x_cV_ok (W92 _).1 em, ← hf, ← hs2]
  by_cases q : cnt (yrT l v f s L) (wN l) = 0
  · rw [if_pos q, if_pos q, if_neg (by decide)]
    exact ⟨B4, rfl, c4, by rw [f4 91 (by omega)]; exact l3, fun b x _ z => fr4 b x z⟩
  · have tk := S_take (W90 B4) (W92 B4)
    rw [wB_w16] at tk
    rw [if_neg q, if_neg q, if_pos (by decide), x_gN_ok (K0 _) (R12 _), x_gN_ok (K0 _) (R13 _), x_cV_ok (W90 _).1 tk]
    refine ⟨_, rfl, ?_, ?_, fun b x y z => ?_⟩
    · rw [if_neg (by omega)]; exact c4
    · refine r4.of (fun k hk => ?_)
      rw [if_pos rfl, if_pos hk]; rfl
    · funext k
      rw [if_neg y, fr4 b x z]
theorem S_keepOrders (h : G M) (ho : lOk l) {dawn : Nat} (hdw : dawn < 2147483648) (hd : TlD t) (ht : TlC l t 80 M) {L : Nat → Bool} : ∀ (d o f : Nat) (B : Nat → Nat → Int64), o + d = t.2.1 → d < f → (∀ b, 178 ≤ b → B b = m_L M b) → Rw (wN l) (yrO l t dawn o L) (B 91) →
    ∃ B', F_X1_keepOrdersOf_2 f 80 (nI dawn) 90 (nI o) (m_wB M B) = some ((), m_wB M B') ∧ (∀ b, b ≠ 91 → B' b = B b) ∧ Rw (wN l) (yrO l t dawn t.2.1 L) (B' 91) := by
  have hb := ht.1.2
  have K80 : ∀ B, m_K (m_wB M B) 80 = 1 := fun B => by simp only [wB_K, gK h]
  have W90 : ∀ B, Ws (m_wB M B) 90 91 := fun B => ⟨by simp only [wB_K, gK h], by simp only [wB_R, gR h], by simp only [wB_K, gK h], by simp only [wB_n, gl h]⟩
  intro d
  induction d with
  | zero =>
    intro o f B hk hf hhi hP
    obtain ⟨f, rfl⟩ : ∃ f', f = f' + 1 := ⟨f - 1, by omega⟩
    obtain rfl : o = t.2.1 := by omega
    refine ⟨B, ?_, fun _ _ => rfl, hP⟩
    rw [F_X1_keepOrdersOf_2, x_gI_ok (K80 _), wB_I, ht.2.1.2, if_pos (nI_le (Nat.le_refl _) (by omega))]
  | succ d ih =>
    intro o f B hk hf hhi hP
    obtain ⟨f, rfl⟩ : ∃ f', f = f' + 1 := ⟨f - 1, by omega⟩
    have htg : TlC l t 80 (m_wB M B) := ht.hi (hiK_wB hhi) rfl rfl rfl
    obtain ⟨r, e1, ⟨r178, Kr, fr, st, la, hf1, ⟨_, hd2⟩, hr3, hws, s178, l178, hrow⟩, _⟩ := S_orderAt (M := m_wB M B) h htg (i := o) (by omega)
    have hdy := (hd.2 o (by omega)).2
    have hdr : m_I M r 2 = nI (t.2.2 o).2.1 := hd2
    rw [F_X1_keepOrdersOf_2, x_gI_ok (K80 _), wB_I, ht.2.1.2, if_neg (nI_ge (by omega) (by omega))]
    refine m_let_P (fun z => ∃ B', z = some ((), m_wB M B') ∧ (∀ b, b ≠ 91 → B' b = B b) ∧ Rw (wN l) (yrO l t dawn t.2.1 L) (B' 91)) ?_
    intro K hK
    rw [x_cV_ok (K80 _) e1, x_nul_some, x_gI_ok Kr, wB_I, hdr]
    have nxt : ∀ B1, (∀ b, b ≠ 91 → B1 b = B b) → Rw (wN l) (yrO l t dawn (o + 1) L) (B1 91) → ∃ B', K 80 (nI dawn) 90 (nI o) (m_wB M B1) = some ((), m_wB M B') ∧ (∀ b, b ≠ 91 → B' b = B b) ∧ Rw (wN l) (yrO l t dawn t.2.1 L) (B' 91) := by
      intro B1 h1 h2
      obtain ⟨B', g, g1, g2⟩ := ih (o + 1) f B1 (by omega) (by omega) (fun b hb => by rw [h1 b (by omega), hhi b hb]) h2
      rw [hK]
      dsimp only
      rw [m_let_eq, nI_1]
      exact ⟨B', g, fun b hb => by rw [g1 b hb, h1 b hb], g2⟩
    have hS : ∀ w, yrO l t dawn (o + 1) L w = (yrO l t dawn o L w && (!decide ((t.2.2 o).2.1 = dawn) || bdS l (t.2.2 o) w)) := fun w => by
      show (L w && (anN o _ && _)) = _
      rw [← Bool.and_assoc]; rfl
    by_cases q : (t.2.2 o).2.1 = dawn
    · have kp := S_keep (W90 B) hws (by omega)
      rw [wB_w16] at kp
      rw [if_pos (by rw [q]), x_gN_ok Kr hr3, x_cV_ok (W90 _).1 kp]
      refine nxt _ (fun b hb => by funext k; exact if_neg hb) (((hP.and hrow).of (fun k hk => ?_)).cong (fun w _ => ?_))
      · rw [if_pos rfl, if_pos hk]; rfl
      · rw [hS, decide_eq_true q]; rfl
    · rw [if_neg (fun z => q ((nI_eq (by omega) hdw).mp z))]
      refine nxt B (fun _ _ => rfl) (hP.cong (fun w _ => ?_))
      rw [hS, decide_eq_false q]; simp
end DRAW
