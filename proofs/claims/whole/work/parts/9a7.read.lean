/-! sayings are read: states in the midst, nouns, clauses -/
abbrev PS : Type := Nat × (Nat → Nat) × Nat
def CS (l : Ld) (T : Nat → Nat) (n : Nat) (s : PS) (M : m_M) : Prop := (G M ∧ LCi l (m_I M) ∧ NmC l M) ∧ TX T n (m_I M 1) ∧ TC T n 31 (tokAt T n s.1) M ∧ (m_I M 31 12 = nI s.2.2 ∧ m_I M 31 9 = nI 0) ∧ ∀ i, i < s.2.2 → cPt l (s.2.1 i) (m_I M 32 i)
def csF (M M' : m_M) : Prop := M'.1 = M.1 ∧ (∀ a, a ≠ 31 → a ≠ 32 → m_I M' a = m_I M a) ∧ (∀ a, a ≠ 31 → m_L M' a = m_L M a ∧ m_R M' a = m_R M a) ∧ ∀ k, k ≠ 8 → m_R M' 31 k = m_R M 31 k
def MS (l : Ld) (T : Nat → Nat) (n d : Nat) (s : PS) (M : m_M) : Prop := (G M ∧ LMi l (m_I M) ∧ NmM l M) ∧ TX T n (m_I M 129) ∧ TM n (tokAt T n s.1) M ∧ (m_I M 128 39 = nI s.2.2 ∧ m_I M 128 40 = nI d) ∧ ∀ i, i < s.2.2 → m_I M 153 i = nI (s.2.1 i)
def msF (M M' : m_M) : Prop := M'.1 = M.1 ∧ m_R M' = m_R M ∧ (∀ a, a ≠ 128 → a ≠ 153 → m_I M' a = m_I M a) ∧ (∀ a, a ≠ 128 → m_L M' a = m_L M a) ∧ ∀ k, (k < 3 ∨ (9 < k ∧ k < 39) ∨ 41 < k) → m_I M' 128 k = m_I M 128 k
def apP (p : Nat → Nat) (m x : Nat) : Nat → Nat := fun i => if i = m then x else p i
section READ
variable {M M' : m_M} {l : Ld} {T : Nat → Nat} {n d : Nat} {s : PS}
theorem csF.rfl' : csF M M := ⟨rfl, fun _ _ _ => rfl, fun _ _ => ⟨rfl, rfl⟩, fun _ _ => rfl⟩
theorem csF.trans {M1 M2 M3 : m_M} (h1 : csF M1 M2) (h2 : csF M2 M3) : csF M1 M3 := by
  obtain ⟨a1, a2, a3, a4⟩ := h1
  obtain ⟨b1, b2, b3, b4⟩ := h2
  exact ⟨b1.trans a1, fun a h h' => (b2 a h h').trans (a2 a h h'), fun a h => ⟨(b3 a h).1.trans (a3 a h).1, (b3 a h).2.trans (a3 a h).2⟩, fun k h => (b4 k h).trans (a4 k h)⟩
theorem msF.rfl' : msF M M := ⟨rfl, rfl, fun _ _ _ => rfl, fun _ _ => rfl, fun _ _ => rfl⟩
theorem msF.trans {M1 M2 M3 : m_M} (h1 : msF M1 M2) (h2 : msF M2 M3) : msF M1 M3 := by
  obtain ⟨a1, a2, a3, a4, a5⟩ := h1
  obtain ⟨b1, b2, b3, b4, b5⟩ := h2
  exact ⟨b1.trans a1, b2.trans a2, fun a h h' => (b3 a h h').trans (a3 a h h'), fun a h => (b4 a h).trans (a4 a h), fun k h => (b5 k h).trans (a5 k h)⟩
theorem g_Rl_31 : ∀ x ∈ g_Rl, x.1 = 31 → x.2.1 ≠ 8 := by decide +kernel
theorem csF.g (h : csF M M') (hG : G M) : G M' := by
  obtain ⟨a1, a2, a3, a4⟩ := h
  refine ⟨by unfold m_N; rw [a1]; exact hG.1, fun i hi => by unfold m_T; rw [a1]; exact hG.2.1 i hi, fun x hx => ?_⟩
  by_cases q : x.1 = 31
  · rw [q, a4 _ (g_Rl_31 x hx q), ← q]; exact hG.2.2 x hx
  · rw [(a3 _ q).2]; exact hG.2.2 x hx
theorem msF.g (h : msF M M') (hG : G M) : G M' := by
  obtain ⟨a1, a2, _⟩ := h
  unfold G m_N m_T
  rw [a1, a2]
  exact hG
theorem tkF.cs (h : tkF 31 M M') : csF M M' := ⟨h.1, fun a h1 _ => (h.2.1 a h1).1, fun a h1 => (h.2.1 a h1).2, h.2.2.2.2⟩
theorem tmF.ms (h : tmF M M') : msF M M' := ⟨h.1, h.2.1, fun a h1 _ => (h.2.2.1 a h1).1, fun a h1 => (h.2.2.1 a h1).2, fun k hk => h.2.2.2.1 k (by omega)⟩
theorem csF.land (h : csF M M') (hl : LCi l (m_I M)) (hn : NmC l M) : LCi l (m_I M') ∧ NmC l M' := ⟨hl.cong (fun a _ ha => h.2.1 a (by omega) (by omega)), by unfold NmC; rw [(h.2.2.1 7 (by omega)).1]; exact hn⟩
theorem msF.land (h : msF M M') (hl : LMi l (m_I M)) (hn : NmM l M) : LMi l (m_I M') ∧ NmM l M' := ⟨hl.cong (fun a _ ha => h.2.2.1 a (by omega) (by omega)) (by rw [h.2.2.2.2 42 (by omega)]) (by rw [h.2.2.2.2 43 (by omega)]), by unfold NmM; rw [h.2.2.2.1 131 (by omega), h.2.2.2.1 132 (by omega)]; exact hn⟩
theorem rd31 (hG : G M) : RdC 7 31 M ∧ m_R M 31 10 = some 2 ∧ m_R M 31 11 = some 32 ∧ m_K M 2 = 3 ∧ m_K M 32 = 12 ∧ m_len M 32 = 1000 := by
  refine ⟨⟨?_, ?_, ?_, ?_, by omega⟩, ?_, ?_, ?_, ?_, ?_⟩ <;> simp only [gK hG, gR hG, gl hG]
theorem CS.t (h : CS l T n s M) (hq : s.1 ≤ n) : (tokAt T n s.1).2.2.1 = 4 → T (tokAt T n s.1).1 < 127 := fun q => (h.2.1.lt ((tok_ok s.1 hq).2.2.2.2.2.2.2 (by omega))).2
theorem CS.adv (h : CS l T n s M) (hn : n ≤ 1000) (hq : s.1 ≤ n) : ∃ M', F_X8_advance 7 31 M = some ((), M') ∧ CS l T n ((tokAt T n s.1).2.1, s.2) M' ∧ csF M M' := by
  obtain ⟨⟨hG, hl, hm⟩, hx, ht, ⟨h12, h9⟩, hp⟩ := h
  obtain ⟨hr, _⟩ := rd31 hG
  have hb := (tok_ok (T := T) s.1 hq).2.2.2.1
  obtain ⟨M', e, e1, e2, e9⟩ := S_adv hr hn hx hb ht.1.1 ht.1.2.2.1
  have f := e2.cs
  obtain ⟨hl', hm'⟩ := f.land hl hm
  exact ⟨M', e, ⟨⟨f.g hG, hl', hm'⟩, e2.X (by omega) hx, e1, ⟨by rw [e2.2.2.1 12 (by omega)]; exact h12, e9.trans h9⟩, by rw [(e2.2.1 32 (by omega)).1]; exact hp⟩, f⟩
theorem CS.W (h : CS l T n s M) (hq : s.1 ≤ n) {j : Nat} (hj : j < 20) : F_X8_isAt 7 31 (1000000 + j) M = some (bI (tkW (k_wl.getD j 0) (tokAt T n s.1)), M) := S_isAtW (rd31 h.1.1).1.1 h.2.2.1 (tok_ok s.1 hq).2.2.2.2.2.1 hj
theorem CS.S (h : CS l T n s M) (hq : s.1 ≤ n) {c : Nat} (hc : c < 127) : F_X8_isAt_ 7 31 (nI c) M = some (bI (tkS T c (tokAt T n s.1)), M) := S_isAtS (rd31 h.1.1).1.1 h.2.2.1 (tok_ok s.1 hq).2.2.2.2.2.1 (h.t hq) hc
theorem CS.Nm (h : CS l T n s M) (hq : s.1 ≤ n) : F_X8_isAtName 7 31 M = some (bI (tkNm (tokAt T n s.1)), M) := S_isAtNm (rd31 h.1.1).1.1 h.2.2.1 (tok_ok s.1 hq).2.2.2.2.2.1
theorem CS.fail (h : CS l T n s M) {k : Nat} : ∃ M', F_X8_fail 7 31 (nI k) M = some (nI 0, M') ∧ m_I M' 31 9 = nI (k + 16 * (tokAt T n s.1).1) ∧ csF M M' := ⟨_, S_fail (rd31 h.1.1).1.1 h.2.2.1, by rw [mI_sI, if_pos ⟨rfl, rfl⟩], tkF_sI9.cs⟩
theorem tkNm_k {t : Tok} (h : tkNm t = true) : t.2.2.1 = 2 := by
  unfold tkNm at h
  rw [Bool.and_eq_true, decide_eq_true_eq] at h
  exact h.1
theorem CS.w (h : CS l T n s M) (hk : (tokAt T n s.1).2.2.1 = 2) : m_L M 31 7 = (tokAt T n s.1).2.2.2.1 := (h.2.2.1.2.1 hk).1
theorem CS.add (h : CS l T n s M) (hm : s.2.2 < 1000) {x : Nat} {c : Int32} (hc : cPt l x c) : ∃ M', F_X7_add 31 c M = some ((), M') ∧ CS l T n (s.1, apP s.2.1 s.2.2 x, s.2.2 + 1) M' ∧ csF M M' := by
  obtain ⟨⟨hG, hl, hm1⟩, hx, ht, ⟨h12, h9⟩, hp⟩ := h
  obtain ⟨⟨K31, _, _, _, _⟩, _, R11, _, K32, L32⟩ := rd31 hG
  have e12 : m_I (m_sI M 32 s.2.2 c) 31 12 = nI s.2.2 := by rw [sI_ne (by omega)]; exact h12
  have f : csF M (m_sI (m_sI M 32 s.2.2 c) 31 12 (nI (s.2.2 + 1))) := ⟨rfl, fun a h1 h2 => by rw [sI_ne h1, sI_ne h2], fun _ _ => ⟨rfl, rfl⟩, fun _ _ => rfl⟩
  obtain ⟨hl', hm'⟩ := f.land hl hm1
  have g : ∀ k, k ≠ 12 → m_I (m_sI (m_sI M 32 s.2.2 c) 31 12 (nI (s.2.2 + 1))) 31 k = m_I M 31 k := fun k hk => by rw [mI_sI, if_neg (fun z => hk z.2), sI_ne (by omega)]
  obtain ⟨⟨c1, c2, c3, c4⟩, c5, c6, c7, c8⟩ := ht
  refine ⟨_, ?_, ⟨⟨f.g hG, hl', hm'⟩, by rw [sI_ne (by omega), sI_ne (by omega)]; exact hx, ⟨⟨by rw [g 1 (by omega)]; exact c1, by rw [g 2 (by omega)]; exact c2, by rw [g 3 (by omega)]; exact c3, by rw [g 4 (by omega)]; exact c4⟩, c5, by rw [g 5 (by omega)]; exact c6, by rw [g 6 (by omega)]; exact c7, c8⟩, ⟨by rw [mI_sI, if_pos ⟨rfl, rfl⟩], by rw [g 9 (by omega)]; exact h9⟩, fun i hi => ?_⟩, f⟩
  · unfold F_X7_add
    rw [x_gI_ok K31, h12, x_gN_ok K31 R11, x_len_ok K32, L32, if_neg (nI_ge hm (by omega)), x_gN_ok K31 R11, x_gI_ok K31, h12, x_sI_ok K32 (by rw [L32]; exact hm) (by omega), x_gI_ok (show m_K (m_sI M 32 s.2.2 c) 31 = 7 from K31), e12, nI_1, x_pI_ok (show m_K (m_sI M 32 s.2.2 c) 31 = 7 from K31)]
  · have hi' : i < s.2.2 + 1 := hi
    show cPt l (if i = s.2.2 then x else s.2.1 i) _
    rw [sI_ne (by omega), mI_sI]
    by_cases q : i = s.2.2
    · rw [if_pos q, if_pos ⟨rfl, q⟩]; exact hc
    · rw [if_neg q, if_neg (fun z => q z.2)]; exact hp i (by omega)
theorem MS.next (h : MS l T n d s M) (hn : n ≤ 1000) (hq : s.1 ≤ n) : ∃ M', F_X12_nextToken 128 M = some ((), M') ∧ MS l T n d ((tokAt T n s.1).2.1, s.2) M' ∧ msF M M' ∧ m_I M' 128 41 = m_I M 128 41 := by
  obtain ⟨⟨hG, hl, hm⟩, hx, ht, ⟨h39, h40⟩, hp⟩ := h
  have hb := (tok_ok (T := T) s.1 hq).2.2.2.1
  obtain ⟨M', e, e1, e2, _⟩ := S_next hG hn hx hb ht.1.1 ht.1.2.1
  have f := e2.ms
  obtain ⟨hl', hm'⟩ := f.land hl hm
  exact ⟨M', e, ⟨⟨f.g hG, hl', hm'⟩, by rw [(e2.2.2.1 129 (by omega)).1]; exact hx, e1, ⟨by rw [e2.2.2.2.1 39 (by omega)]; exact h39, by rw [e2.2.2.2.1 40 (by omega)]; exact h40⟩, by rw [(e2.2.2.1 153 (by omega)).1]; exact hp⟩, f, e2.2.2.2.1 41 (by omega)⟩
theorem MS.K (h : MS l T n d s M) : m_K M 128 = 10 := by simp only [gK h.1.1]
theorem CS.K (h : CS l T n s M) : m_K M 31 = 7 := (rd31 h.1.1).1.1
theorem MS.W (h : MS l T n d s M) (hq : s.1 ≤ n) {c : Int64} : F_X12_isWord 128 c M = some (bI (tkW c (tokAt T n s.1)), M) := S_misW h.1.1 h.2.2.1 (tok_ok s.1 hq).2.2.2.2.2.1
theorem MS.S (h : MS l T n d s M) (hn : n ≤ 1000) (hq : s.1 ≤ n) {c : Nat} (hc : c < 127) : F_X12_isSign 128 (nI c) M = some (bI (tkS T c (tokAt T n s.1)), M) := S_misS h.1.1 h.2.2.1 (tok_ok s.1 hq).2.2.2.2.2.1 hn h.2.1 (fun q => (tok_ok s.1 hq).2.2.2.2.2.2.2 (by omega)) hc
theorem MS.Nm (h : MS l T n d s M) (hq : s.1 ≤ n) : F_X12_isKept 128 M = some (bI (!tkNm (tokAt T n s.1)), M) := S_mkept h.1.1 h.2.2.1 (tok_ok s.1 hq).2.2.2.2.2.1
theorem MS.fail (h : MS l T n d s M) {k : Nat} : ∃ M', F_X12_fails 128 (nI k) M = some (nI 0, M') ∧ m_I M' 128 9 = nI (k + 16 * (tokAt T n s.1).1) ∧ msF M M' := ⟨_, S_mfails h.1.1 h.2.2.1, by rw [mI_sI, if_pos ⟨rfl, rfl⟩], ⟨rfl, rfl, fun a h1 _ => sI_ne h1, fun _ _ => rfl, fun k hk => by rw [mI_sI, if_neg (by omega)]⟩⟩
theorem MS.w (h : MS l T n d s M) (hk : (tokAt T n s.1).2.2.1 = 2) : m_L M 128 7 = (tokAt T n s.1).2.2.2.1 := h.2.2.1.2.1 hk
/-- a field of the model's that is of no matter to the tokens -/
theorem MS.sI (h : MS l T n d s M) {v : Int32} : MS l T n d s (m_sI M 128 41 v) ∧ msF M (m_sI M 128 41 v) := by
  obtain ⟨⟨hG, hl, hm⟩, hx, ht, ⟨h39, h40⟩, hp⟩ := h
  have f : msF M (m_sI M 128 41 v) := ⟨rfl, rfl, fun a h1 _ => sI_ne h1, fun _ _ => rfl, fun k hk => by rw [mI_sI, if_neg (by omega)]⟩
  obtain ⟨hl', hm'⟩ := f.land hl hm
  exact ⟨⟨⟨f.g hG, hl', hm'⟩, by rw [sI_ne (by omega)]; exact hx, ht.sI (by omega), ⟨by rw [mI_sI, if_neg (by omega)]; exact h39, by rw [mI_sI, if_neg (by omega)]; exact h40⟩, by rw [sI_ne (by omega)]; exact hp⟩, f⟩
theorem MS.sD (h : MS l T n d s M) {d' : Nat} : MS l T n d' s (m_sI M 128 40 (nI d')) ∧ msF M (m_sI M 128 40 (nI d')) := by
  obtain ⟨⟨hG, hl, hm⟩, hx, ht, ⟨h39, h40⟩, hp⟩ := h
  have f : msF M (m_sI M 128 40 (nI d')) := ⟨rfl, rfl, fun a h1 _ => sI_ne h1, fun _ _ => rfl, fun k hk => by rw [mI_sI, if_neg (by omega)]⟩
  obtain ⟨hl', hm'⟩ := f.land hl hm
  exact ⟨⟨⟨f.g hG, hl', hm'⟩, by rw [sI_ne (by omega)]; exact hx, ht.sI (by omega), ⟨by rw [mI_sI, if_neg (by omega)]; exact h39, by rw [mI_sI, if_pos ⟨rfl, rfl⟩]⟩, by rw [sI_ne (by omega)]; exact hp⟩, f⟩
theorem MS.add (h : MS l T n d s M) (hm : s.2.2 < 1000) {x : Nat} : ∃ M', F_X12_adds 128 (nI x) M = some ((), M') ∧ MS l T n d (s.1, apP s.2.1 s.2.2 x, s.2.2 + 1) M' ∧ msF M M' := by
  obtain ⟨⟨hG, hl, hm1⟩, hx, ht, ⟨h39, h40⟩, hp⟩ := h
  have K : m_K M 128 = 10 := by simp only [gK hG]
  have R38 : m_R M 128 38 = some 153 := by simp only [gR hG]
  have K153 : m_K M 153 = 12 := by simp only [gK hG]
  have L153 : m_len M 153 = 1000 := by simp only [gl hG]
  have e39 : m_I (m_sI M 153 s.2.2 (nI x)) 128 39 = nI s.2.2 := by rw [sI_ne (by omega)]; exact h39
  have f : msF M (m_sI (m_sI M 153 s.2.2 (nI x)) 128 39 (nI (s.2.2 + 1))) := ⟨rfl, rfl, fun a h1 h2 => by rw [sI_ne h1, sI_ne h2], fun _ _ => rfl, fun k hk => by rw [mI_sI, if_neg (by omega), sI_ne (by omega)]⟩
  obtain ⟨hl', hm'⟩ := f.land hl hm1
  refine ⟨_, ?_, ⟨⟨f.g hG, hl', hm'⟩, by rw [sI_ne (by omega), sI_ne (by omega)]; exact hx, ?_, ⟨by rw [mI_sI, if_pos ⟨rfl, rfl⟩], by rw [mI_sI, if_neg (by omega), sI_ne (by omega)]; exact h40⟩, fun i hi => ?_⟩, f⟩
  · unfold F_X12_adds
    rw [x_gN_ok K R38, x_gI_ok K, h39, x_sI_ok K153 (by rw [L153]; exact hm) (by omega), x_gI_ok (show m_K (m_sI M 153 s.2.2 (nI x)) 128 = 10 from K), e39, nI_1, x_pI_ok (show m_K (m_sI M 153 s.2.2 (nI x)) 128 = 10 from K)]
  · have ht2 : TM n (tokAt T n s.1) (m_sI M 153 s.2.2 (nI x)) := by
      obtain ⟨⟨c1, c2, c3, c4⟩, c5, c6⟩ := ht
      exact ⟨⟨by rw [sI_ne (by omega)]; exact c1, by rw [sI_ne (by omega)]; exact c2, by rw [sI_ne (by omega)]; exact c3, by rw [sI_ne (by omega)]; exact c4⟩, c5, by rw [sI_ne (by omega)]; exact c6⟩
    exact ht2.sI (by omega)
  · have hi' : i < s.2.2 + 1 := hi
    show _ = nI (if i = s.2.2 then x else s.2.1 i)
    rw [sI_ne (by omega), mI_sI]
    by_cases q : i = s.2.2
    · rw [if_pos q, if_pos ⟨rfl, q⟩]
    · rw [if_neg q, if_neg (fun z => q z.2)]; exact hp i (by omega)
end READ
