/-! sayings are read: nouns and clauses, both sides -/
noncomputable def cK18 : Nat → m_M → Option (Int32 × m_M) := fun (v1 : Nat) (M1 : m_M) =>
    x_cV 7 M1 v1 (F_X8_fail 7 v1 (1 : Int32) M1) fun v2 M2 =>
    some ((-1 : Int32), M2)
noncomputable def cK46 : Nat → Int32 → Int32 → Int32 → m_M → Option (Int32 × m_M) := fun (v3 : Nat) (v4 : Int32) (v5 : Int32) (v6 : Int32) (M3 : m_M) =>
    x_cV 7 M3 v3 (F_X8_advance 7 v3 M3) fun _ M4 =>
    x_gN 7 M4 v3 10 fun v7 =>
    x_cV 3 M4 v7 (F_X3_bendNoun v7 v6 v5 v4 M4) fun v8 M5 =>
    some (v8, M5)
noncomputable def cK87 : Nat → Int32 → m_M → Option (Int32 × m_M) := fun (v9 : Nat) (v10 : Int32) (M6 : m_M) =>
    m_let (fun (v11 : Nat) (v12 : Int32) (M7 : m_M) =>
      x_cV 7 M7 v11 (F_X8_fail 7 v11 v12 M7) fun v13 M8 =>
      some ((-1 : Int32), M8)
    ) fun (k99 : Nat → Int32 → m_M → Option (Int32 × m_M)) =>
    if v10 = (-1 : Int32) then (
      k99 v9 (2 : Int32) M6
    ) else
    k99 v9 (5 : Int32) M6
noncomputable def mK14 : Nat → m_M → Option (Int32 × m_M) := fun (v1 : Nat) (M2 : m_M) =>
    x_cV 10 M2 v1 (F_X12_fails v1 (1 : Int32) M2) fun v2 M3 =>
    x_b v2 <| some (v2, M3)
noncomputable def mK30 : Nat → Int32 → m_M → Option (Int32 × m_M) := fun (v3 : Nat) (v4 : Int32) (M4 : m_M) =>
    x_gI 10 M4 v3 41 fun v5 =>
    x_pI 10 M4 v3 41 (v5 + v4) fun M5 =>
    x_cV 10 M5 v3 (F_X12_nextToken v3 M5) fun _ M6 =>
    some ((1 : Int32), M6)
noncomputable def mK56 : Nat → m_M → Option (Int32 × m_M) := fun (v6 : Nat) (M7 : m_M) =>
    x_cV 10 M7 v6 (F_X12_fails v6 (2 : Int32) M7) fun v7 M8 =>
    x_b v7 <| some (v7, M8)
noncomputable def mK67 : Nat → m_M → Option (Int32 × m_M) := fun (v8 : Nat) (M9 : m_M) =>
    x_cV 10 M9 v8 (F_X12_fails v8 (5 : Int32) M9) fun v9 M10 =>
    x_b v9 <| some (v9, M10)
section NOUN
variable {M M' : m_M} {l : Ld} {T : Nat → Nat} {n : Nat}
theorem rnC_eq : F_X7_readNoun 31 M = F_X7_readNoun_6 cK18 cK46 cK87 m_FU 31 (-1 : Int32) (-1 : Int32) (0 : Int32) M := by
  unfold F_X7_readNoun cK18 cK46 cK87
  rw [m_let_eq, m_let_eq, m_let_eq]
theorem rnM_eq : F_X12_readsNoun 128 M = x_pI 10 M 128 41 (0 : Int32) fun M1 => F_X12_readsNoun_7 mK14 mK30 mK56 mK67 m_FU 128 (0 : Int32) M1 := by
  unfold F_X12_readsNoun mK14 mK30 mK56 mK67
  simp only [m_let_eq]
theorem iO_no {o : Option Nat} (h : ∀ k, o = some k → k < 2147483648) : (iO o = (-1 : Int32)) = (o = none) := by
  cases o with
  | none => exact propext ⟨fun _ => rfl, fun _ => rfl⟩
  | some k =>
    refine propext ⟨fun q => ?_, fun q => by cases q⟩
    have q' : nI k = (-1 : Int32) := q
    have := nI_pos (h k rfl)
    rw [q'] at this
    exact absurd (by decide) this
/-- what a noun comes to -/
def nOut (l : Ld) (T : Nat → Nat) (n q : Nat) (o : Nat ⊕ (Nat × Nat)) : Prop := match o with
  | .inl k => 0 < k ∧ k < 20000
  | .inr x => q < x.1 ∧ x.1 ≤ n ∧ nOk l x.2 ∧ x.2 < 128
def nOutC (l : Ld) (T : Nat → Nat) (n : Nat) (s : PS) (o : Nat ⊕ (Nat × Nat)) (M M' : m_M) (v : Int32) : Prop := csF M M' ∧ match o with
  | .inl k => v = NO ∧ m_I M' 31 9 = nI k
  | .inr x => (∃ y, v = nI y ∧ isN l x.2 y) ∧ CS l T n (x.1, s.2) M'
def nOutM (l : Ld) (T : Nat → Nat) (n d : Nat) (s : PS) (o : Nat ⊕ (Nat × Nat)) (M M' : m_M) (v : Int32) : Prop := msF M M' ∧ match o with
  | .inl k => v = nI 0 ∧ m_I M' 128 9 = nI k
  | .inr x => v = nI 1 ∧ m_I M' 128 41 = nI x.2 ∧ MS l T n d (x.1, s.2) M'
theorem J_noun_l (ho : lOk l) (hn : n ≤ 1000) : ∀ (e i q : Nat) (a b : Option Nat), i + e = 2 → q ≤ n → bOk l a → bOk l b → ∃ o, nOut l T n q o
    ∧ (∀ (s : PS) (f : Nat) (M : m_M), s.1 = q → e < f → CS l T n s M → ∃ v M', F_X7_readNoun_6 cK18 cK46 cK87 f 31 (iO b) (iO a) (nI i) M = some (v, M') ∧ nOutC l T n s o M M' v)
    ∧ ∀ (d : Nat) (s : PS) (f : Nat) (M : m_M), s.1 = q → e < f → MS l T n d s M → m_I M 128 41 = nI (8 * cnO a + 32 * cnO b) → ∃ v M', F_X12_readsNoun_7 mK14 mK30 mK56 mK67 f 128 (nI i) M = some (v, M') ∧ nOutM l T n d s o M M' v := by
  have b1 := ho.2.1
  have b2 := ho.2.2.1
  intro e
  induction e using Nat.strongRecOn with
  | _ e ih =>
    intro i q a b hi hq ha hb
    obtain ⟨t1, t2, t3, t4, t5, t6, t7, t8⟩ := tok_ok (T := T) (n := n) q hq
    -- the model's fault, the class's
    have fl : ∀ k, 0 < k → k ≤ 5 → nOut l T n q (.inl (k + 16 * (tokAt T n q).1)) := fun k h1 h2 => ⟨by omega, by omega⟩
    have mf : ∀ (k : Nat) (d : Nat) (s : PS) (M : m_M) (K : Nat → m_M → Option (Int32 × m_M)), s.1 = q → MS l T n d s M → (∀ M, K 128 M = x_cV 10 M 128 (F_X12_fails 128 (nI k) M) fun v2 M3 => x_b v2 <| some (v2, M3)) → ∃ v M', K 128 M = some (v, M') ∧ nOutM l T n d s (.inl (k + 16 * (tokAt T n q).1)) M M' v := by
      intro k d s M K hs hm hK
      obtain ⟨M', e, e1, e2⟩ := hm.fail (k := k)
      rw [hs] at e1
      refine ⟨nI 0, M', ?_, e2, rfl, e1⟩
      rw [hK, x_cV_ok hm.K e]
      rfl
    have cf : ∀ (k : Nat) (s : PS) (M : m_M), s.1 = q → CS l T n s M → ∃ v M', (x_cV 7 M 31 (F_X8_fail 7 31 (nI k) M) fun v2 M2 => some ((-1 : Int32), M2)) = some (v, M') ∧ nOutC l T n s (.inl (k + 16 * (tokAt T n q).1)) M M' v := by
      intro k s M hs hm
      obtain ⟨M', e, e1, e2⟩ := hm.fail (k := k)
      rw [hs] at e1
      refine ⟨NO, M', ?_, e2, rfl, e1⟩
      rw [x_cV_ok hm.K e]
      rfl
    by_cases nm : tkNm (tokAt T n q) = true
    · have hk := tkNm_k nm
      have t5' : (tokAt T n q).1 < (tokAt T n q).2.1 := by omega
      -- thing
      cases hth : fdN (lM l) (lH l 1) (tokAt T n q).2.2.2.1 with
      | some t =>
        obtain ⟨ht, _⟩ := fdN_lt hth
        obtain ⟨n1, n2⟩ := nOk_nnO ho ht ha hb
        refine ⟨.inr ((tokAt T n q).2.1, nnO t a b), ⟨by show q < (tokAt T n q).2.1; omega, t4, n1, n2⟩, fun s f M hs hf hc => ?_, fun d s f M hs hf hm h41 => ?_⟩
        · obtain ⟨f, rfl⟩ : ∃ f', f = f' + 1 := ⟨f - 1, by omega⟩
          obtain ⟨_, R10, _, K2, _⟩ := rd31 hc.1.1
          have e1 := hc.Nm (by omega)
          have e2 := S_thingC hc.1.1 ho hc.1.2.1 hc.1.2.2 (w := (tokAt T n q).2.2.2.1)
          obtain ⟨M1, e3, e4, e5⟩ := hc.adv hn (by omega)
          obtain ⟨y, e6, e7⟩ := S_bendNoun e4.1.1 ho e4.1.2.1 ht ha hb
          rw [hs] at e1 e4
          refine ⟨nI y, M1, ?_, e5, ⟨y, rfl, e7⟩, e4⟩
          rw [F_X7_readNoun_6, if_neg (show ¬ (3 : Int32) ≤ nI i from nI_ge (b := 3) (by omega) (by omega)), x_cV_ok hc.K e1, nm, if_neg (by decide), x_gN_ok hc.K R10, x_gL_ok hc.K, hc.w (by rw [hs]; exact hk), hs, show (0 : Int32) = nI 0 from rfl, x_cV_ok K2 e2, hth, if_neg (by rw [iO_no (fun k hk => by cases hk; omega)]; exact fun z => by cases z)]
          unfold cK46
          obtain ⟨_, R10', _, K2', _⟩ := rd31 e4.1.1
          rw [x_cV_ok hc.K e3, x_gN_ok e4.K R10', show iO (some t) = nI t from rfl, x_cV_ok K2' e6]
        · obtain ⟨f, rfl⟩ : ∃ f', f = f' + 1 := ⟨f - 1, by omega⟩
          have e1 := hm.Nm (by omega)
          have e2 := S_thingM hm.1.1 ho hm.1.2.1 hm.1.2.2 (hm.w (by rw [hs]; exact hk))
          obtain ⟨g1, g2⟩ := hm.sI (v := nI (8 * cnO a + 32 * cnO b + t))
          obtain ⟨M1, e3, e4, e5, e6⟩ := g1.next hn (by omega)
          rw [hs] at e1 e2 e4
          refine ⟨nI 1, M1, ?_, g2.trans e5, rfl, ?_, e4⟩
          · rw [F_X12_readsNoun_7, x_cV_ok hm.K e1, nm, if_pos (by decide), show (0 : Int32) = nI 0 from rfl, x_cV_ok hm.K e2, hth, show iO (some t) = nI t from rfl, if_neg (show ¬ nI t < nI 0 from nI_pos (by omega))]
            unfold mK30
            rw [x_gI_ok hm.K, h41, nI_add, x_pI_ok hm.K, x_cV_ok g1.K e3]
            rfl
          · rw [e6, mI_sI, if_pos ⟨rfl, rfl⟩]
            unfold nnO
            congr 1
            omega
      | none =>
        -- bend
        cases hbn : fdN (fun j => lM l (8 + j)) (lH l 2) (tokAt T n q).2.2.2.1 with
        | none =>
          refine ⟨.inl (2 + 16 * (tokAt T n q).1), fl 2 (by omega) (by omega), fun s f M hs hf hc => ?_, fun d s f M hs hf hm h41 => ?_⟩
          · obtain ⟨f, rfl⟩ : ∃ f', f = f' + 1 := ⟨f - 1, by omega⟩
            obtain ⟨_, R10, _, K2, _⟩ := rd31 hc.1.1
            have e1 := hc.Nm (by omega)
            have e2 := S_thingC hc.1.1 ho hc.1.2.1 hc.1.2.2 (w := (tokAt T n q).2.2.2.1)
            have e3 : F_X3_find 2 (1 : Int32) (tokAt T n q).2.2.2.1 M = _ := S_bendC hc.1.1 ho hc.1.2.1 hc.1.2.2 (w := (tokAt T n q).2.2.2.1)
            rw [hs] at e1
            rw [F_X7_readNoun_6, if_neg (show ¬ (3 : Int32) ≤ nI i from nI_ge (b := 3) (by omega) (by omega)), x_cV_ok hc.K e1, nm, if_neg (by decide), x_gN_ok hc.K R10, x_gL_ok hc.K, hc.w (by rw [hs]; exact hk), hs, show (0 : Int32) = nI 0 from rfl, x_cV_ok K2 e2, hth, if_pos (by decide), x_gN_ok hc.K R10, x_gL_ok hc.K, hc.w (by rw [hs]; exact hk), hs, x_cV_ok K2 e3, hbn, if_pos (by decide)]
            unfold cK87
            rw [m_let_eq, if_pos (by decide)]
            exact cf 2 s M hs hc
          · obtain ⟨f, rfl⟩ : ∃ f', f = f' + 1 := ⟨f - 1, by omega⟩
            have e1 := hm.Nm (by omega)
            have e2 := S_thingM hm.1.1 ho hm.1.2.1 hm.1.2.2 (hm.w (by rw [hs]; exact hk))
            have e3 := S_bendM hm.1.1 ho hm.1.2.1 hm.1.2.2 (hm.w (by rw [hs]; exact hk))
            rw [hs] at e1 e2 e3
            rw [F_X12_readsNoun_7, x_cV_ok hm.K e1, nm, if_pos (by decide), show (0 : Int32) = nI 0 from rfl, x_cV_ok hm.K e2, hth, if_pos (by decide), x_cV_ok hm.K e3, hbn, if_neg (by decide)]
            exact mf 2 d s M mK56 hs hm (fun _ => rfl)
        | some j =>
          obtain ⟨hj, _⟩ := fdN_lt hbn
          by_cases hi2 : i = 2
          ·    obtain rfl := hi2
               refine ⟨.inl (5 + 16 * (tokAt T n q).1), fl 5 (by omega) (by omega), fun s f M hs hf hc => ?_, fun d s f M hs hf hm h41 => ?_⟩
               · obtain ⟨f, rfl⟩ : ∃ f', f = f' + 1 := ⟨f - 1, by omega⟩
                 obtain ⟨_, R10, _, K2, _⟩ := rd31 hc.1.1
                 have e1 := hc.Nm (by omega)
                 have e2 := S_thingC hc.1.1 ho hc.1.2.1 hc.1.2.2 (w := (tokAt T n q).2.2.2.1)
                 have e3 : F_X3_find 2 (1 : Int32) (tokAt T n q).2.2.2.1 M = _ := S_bendC hc.1.1 ho hc.1.2.1 hc.1.2.2 (w := (tokAt T n q).2.2.2.1)
                 rw [hs] at e1
                 rw [F_X7_readNoun_6, if_neg (by decide), x_cV_ok hc.K e1, nm, if_neg (by decide), x_gN_ok hc.K R10, x_gL_ok hc.K, hc.w (by rw [hs]; exact hk), hs, show (0 : Int32) = nI 0 from rfl, x_cV_ok K2 e2, hth, if_pos (by decide), x_gN_ok hc.K R10, x_gL_ok hc.K, hc.w (by rw [hs]; exact hk), hs, x_cV_ok K2 e3, hbn, if_neg (by rw [iO_no (fun k hk => by cases hk; omega)]; exact fun z => by cases z), if_pos (by decide)]
                 unfold cK87
                 rw [m_let_eq, if_neg (by rw [iO_no (fun k hk => by cases hk; omega)]; exact fun z => by cases z)]
                 exact cf 5 s M hs hc
               · obtain ⟨f, rfl⟩ : ∃ f', f = f' + 1 := ⟨f - 1, by omega⟩
                 have e1 := hm.Nm (by omega)
                 have e2 := S_thingM hm.1.1 ho hm.1.2.1 hm.1.2.2 (hm.w (by rw [hs]; exact hk))
                 have e3 := S_bendM hm.1.1 ho hm.1.2.1 hm.1.2.2 (hm.w (by rw [hs]; exact hk))
                 rw [hs] at e1 e2 e3
                 rw [F_X12_readsNoun_7, x_cV_ok hm.K e1, nm, if_pos (by decide), show (0 : Int32) = nI 0 from rfl, x_cV_ok hm.K e2, hth, if_pos (by decide), x_cV_ok hm.K e3, hbn, if_pos (show nI 0 ≤ iO (some j) from nI_pos' (by omega)), if_pos (by decide)]
                 exact mf 5 d s M mK67 hs hm (fun _ => rfl)
          ·    obtain ⟨o, o1, o2, o3⟩ := ih (e - 1) (by omega) (i + 1) (tokAt T n q).2.1 (some j) a (by omega) t4 (fun k hk => by cases hk; exact hj) ha
               refine ⟨o, ?_, fun s f M hs hf hc => ?_, fun d s f M hs hf hm h41 => ?_⟩
               · unfold nOut at o1 ⊢
                 cases o with
                 | inl k => exact o1
                 | inr x =>
                   have o11 : (tokAt T n q).2.1 < x.1 := o1.1
                   exact ⟨show q < x.1 by omega, o1.2⟩
               · obtain ⟨f, rfl⟩ : ∃ f', f = f' + 1 := ⟨f - 1, by omega⟩
                 obtain ⟨_, R10, _, K2, _⟩ := rd31 hc.1.1
                 have e1 := hc.Nm (by omega)
                 have e2 := S_thingC hc.1.1 ho hc.1.2.1 hc.1.2.2 (w := (tokAt T n q).2.2.2.1)
                 have e3 : F_X3_find 2 (1 : Int32) (tokAt T n q).2.2.2.1 M = _ := S_bendC hc.1.1 ho hc.1.2.1 hc.1.2.2 (w := (tokAt T n q).2.2.2.1)
                 obtain ⟨M1, e4, e5, e6⟩ := hc.adv hn (by omega)
                 rw [hs] at e1 e5
                 obtain ⟨v, M', g1, g2, g3⟩ := o2 ((tokAt T n q).2.1, s.2) f M1 rfl (by omega) e5
                 refine ⟨v, M', ?_, e6.trans g2, g3⟩
                 rw [F_X7_readNoun_6, if_neg (show ¬ (3 : Int32) ≤ nI i from nI_ge (b := 3) (by omega) (by omega)), x_cV_ok hc.K e1, nm, if_neg (by decide), x_gN_ok hc.K R10, x_gL_ok hc.K, hc.w (by rw [hs]; exact hk), hs, show (0 : Int32) = nI 0 from rfl, x_cV_ok K2 e2, hth, if_pos (by decide), x_gN_ok hc.K R10, x_gL_ok hc.K, hc.w (by rw [hs]; exact hk), hs, x_cV_ok K2 e3, hbn, if_neg (by rw [iO_no (fun k hk => by cases hk; omega)]; exact fun z => by cases z), if_neg (show ¬ nI i = (2 : Int32) from fun z => by have := (nI_eq (b := 2) (by omega) (by omega)).mp z; omega), x_cV_ok hc.K e4, m_let_eq, nI_1]
                 exact g1
               · obtain ⟨f, rfl⟩ : ∃ f', f = f' + 1 := ⟨f - 1, by omega⟩
                 have e1 := hm.Nm (by omega)
                 have e2 := S_thingM hm.1.1 ho hm.1.2.1 hm.1.2.2 (hm.w (by rw [hs]; exact hk))
                 have e3 := S_bendM hm.1.1 ho hm.1.2.1 hm.1.2.2 (hm.w (by rw [hs]; exact hk))
                 obtain ⟨h1, h2⟩ := hm.sI (v := nI (8 * cnO (some j) + 32 * cnO a))
                 obtain ⟨M1, e4, e5, e6, e7⟩ := h1.next hn (by omega)
                 rw [hs] at e1 e2 e3 e5
                 obtain ⟨v, M', g1, g2, g3⟩ := o3 d ((tokAt T n q).2.1, s.2) f M1 rfl (by omega) e5 (by rw [e7, mI_sI, if_pos ⟨rfl, rfl⟩])
                 have ca : cnO a ≤ 3 := by
                   cases a with
                   | none => exact Nat.zero_le _
                   | some c => have := ha c rfl; show 1 + c ≤ _; omega
                 have cb : cnO b ≤ 3 := by
                   cases b with
                   | none => exact Nat.zero_le _
                   | some c => have := hb c rfl; show 1 + c ≤ _; omega
                 have hv : (32 : Int32) * (nI (8 * cnO a + 32 * cnO b) / (8 : Int32) - nI (8 * cnO a + 32 * cnO b) / (8 : Int32) / (4 : Int32) * (4 : Int32)) + (8 : Int32) * ((1 : Int32) + iO (some j)) = nI (8 * cnO (some j) + 32 * cnO a) := by
                   rw [show iO (some j) = nI j from rfl, show nI (8 * cnO a + 32 * cnO b) / (8 : Int32) = nI ((8 * cnO a + 32 * cnO b) / 8) from i32_div (b := 8) (by omega) (by omega), show (4 : Int32) = nI 4 from rfl, i32_div (b := 4) (by omega) (by omega), nI_mul, i32_rem2, show (32 : Int32) = nI 32 from rfl, show (8 : Int32) = nI 8 from rfl, show (1 : Int32) = nI 1 from rfl, nI_mul, nI_add, nI_mul, nI_add]
                   show _ = nI (8 * (1 + j) + 32 * cnO a)
                   congr 1
                   omega
                 refine ⟨v, M', ?_, (h2.trans e6).trans g2, g3⟩
                 rw [F_X12_readsNoun_7, x_cV_ok hm.K e1, nm, if_pos (by decide), show (0 : Int32) = nI 0 from rfl, x_cV_ok hm.K e2, hth, if_pos (by decide), x_cV_ok hm.K e3, hbn, if_pos (show nI 0 ≤ iO (some j) from nI_pos' (by omega)), if_neg (show ¬ nI i = (2 : Int32) from fun z => by have := (nI_eq (b := 2) (by omega) (by omega)).mp z; omega), x_gI_ok hm.K, h41, x_nz_eq, if_neg (by decide), x_nz_eq, if_neg (by decide), hv, x_pI_ok hm.K, m_let_eq, nI_1, x_cV_ok h1.K e4]
                 exact g1
    · refine ⟨.inl (1 + 16 * (tokAt T n q).1), fl 1 (by omega) (by omega), fun s f M hs hf hc => ?_, fun d s f M hs hf hm h41 => ?_⟩
      · obtain ⟨f, rfl⟩ : ∃ f', f = f' + 1 := ⟨f - 1, by omega⟩
        have e1 := hc.Nm (by omega)
        rw [hs] at e1
        rw [F_X7_readNoun_6, if_neg (show ¬ (3 : Int32) ≤ nI i from nI_ge (b := 3) (by omega) (by omega)), x_cV_ok hc.K e1, Bool.eq_false_iff.mpr nm, if_pos (by decide)]
        exact cf 1 s M hs hc
      · obtain ⟨f, rfl⟩ : ∃ f', f = f' + 1 := ⟨f - 1, by omega⟩
        have e1 := hm.Nm (by omega)
        rw [hs] at e1
        rw [F_X12_readsNoun_7, x_cV_ok hm.K e1, Bool.eq_false_iff.mpr nm, if_neg (by decide)]
        exact mf 1 d s M mK14 hs hm (fun _ => rfl)
end NOUN
