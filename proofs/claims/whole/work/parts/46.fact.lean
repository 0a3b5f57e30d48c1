/-! PURE: fact, facts, feed -/
def g5 : Nat → Bool := fun n => n == 0 || n == 1 || n == 5
theorem x_R.fts {μ μ' : xMu} (h : x_R μ) (hs : gs (fun k j => g5 (x_gr k j)) μ μ') (e : μ' 0 10 = μ' 162 1) (o : FT μ') : x_R μ' := h.grp g5 hs (Or.inr e) (Or.inl rfl) (Or.inl rfl) (Or.inl rfl) (Or.inr o) (Or.inl rfl) (Or.inl rfl) (Or.inl ⟨rfl, rfl⟩)
theorem t_isFV {x : Int32} : (rb x 10 → f2_isFactValue x = some 1 ∧ f12_in x.toInt64 0 9 = some 1) ∧ (¬ rb x 10 → f2_isFactValue x = some 0 ∧ f12_in x.toInt64 0 9 = some 0) := by
  unfold f2_isFactValue
  exact ⟨fun h => ⟨c_rng (n := 10) (by decide) h, m_rng (n := 10) (by decide) h⟩, fun h => ⟨c_rngN (n := 10) (by decide) h, m_rngN (n := 10) (by decide) h⟩⟩
theorem s_fact : x_S_fact x_R := by
  intro v1 v2 μ h
  rcases rb_dec v1 4 with hv | hv
  · rcases rb_dec v2 10 with hw | hw
    · obtain ⟨f, hf, rfl⟩ := rb_of hv
      obtain ⟨v, hl, rfl⟩ := rb_of hw
      obtain ⟨o, ho, o1, o2⟩ := h.2.2.2.2.1 f hf
      refine ⟨nI o, x_wr μ 128 f (nI v), x_wr (x_wr (x_wr μ 128 f (nI v)) 162 0 0) 183 f (nI v), ?_, ?_, ?_⟩
      · refine (c_rng (n := 4) (by decide) hv).trans ?_
        unfold f2_tell
        simp only [(t_isFV.1 hw).1, Option.bind_some, e10, if_false, a_ald hf (show 4 < 2 ^ 31 by decide), a_ast hf (show 4 < 2 ^ 31 by decide), o1]
      · unfold f12_fact
        simp only [a_put, m_rng (n := 4) (hi := 3) (by decide) hv, (t_isFV.1 hw).2, Option.bind_some, e10, if_false, a_ald hf (show 4 < 2 ^ 31 by decide), a_ast hf (show 4 < 2 ^ 31 by decide)]
        rw [show (x_wr (x_wr μ 128 f (nI v)) 162 0 0) 183 f = nI o from o2]
      · refine h.fts (((gs.refl.wr rfl).wr rfl).wr rfl) h.1 ?_
        intro t ht
        by_cases e : t = f
        · subst e
          exact ⟨v, hl, by simp [x_wr], by simp [x_wr]⟩
        · obtain ⟨o, ho, o1, o2⟩ := h.2.2.2.2.1 t ht
          exact ⟨o, ho, by simp [x_wr, e, o1], by simp [x_wr, e, o2]⟩
    · refine e_no (f := f11_fact v1 v2) (g := f12_fact v1 v2) h ?_ ?_
      · refine (c_rng (n := 4) (by decide) hv).trans ?_
        simp only [(t_isFV.2 hw).1, Option.bind_some, e00, if_true]
      · unfold f12_fact
        simp only [a_put, m_rng (n := 4) (hi := 3) (by decide) hv, (t_isFV.2 hw).2, Option.bind_some, e10, if_false, e00, if_true]
  · refine e_no (f := f11_fact v1 v2) (g := f12_fact v1 v2) h ?_ ?_
    · exact c_rngN (n := 4) (by decide) hv
    · unfold f12_fact
      simp only [a_put, m_rngN (n := 4) (hi := 3) (by decide) hv, Option.bind_some, e00, if_true]
theorem cp_step {μ : xMu} {a i b j n : Nat} (h : a ≠ b) : x_cp (x_wr μ b j (μ a i)) a (i + 1) b (j + 1) n = x_cp μ a i b j (n + 1) := by
  funext c k
  unfold x_cp
  by_cases h1 : c = b ∧ k = j
  · obtain ⟨rfl, rfl⟩ := h1
    rw [if_neg (by omega), if_pos (by omega), w_wr, if_pos ⟨rfl, rfl⟩, show i + (k - k) = i by omega]
  · by_cases h2 : c = b ∧ j + 1 ≤ k ∧ k < j + 1 + n
    · rw [if_pos h2, if_pos (by omega), w_wr, if_neg (fun q => h q.1), show i + 1 + (k - (j + 1)) = i + (k - j) by omega]
    · rw [if_neg h2, if_neg (by omega), w_wr, if_neg h1]
theorem t_item {μ : xMu} {s i : Nat} (hs : s < 8) (hi : i < 40) : f8_item μ (nI s) (nI i) = some (μ (6 + s) i) := by
  unfold f8_item
  rw [a_rld hs (by decide) (r_item s hs).1, a_chk (r_item s hs).2.1, (r_item s hs).2.2, a_ald hi (by decide)]
theorem l_fc1 (k : Int32 → Int32 → Int32 → xMu → Option (Int32 × xMu)) {s a c : Nat} (hs : s < 8) (ha : a + c ≤ 40) (μ : xMu) : ∀ (f i : Nat), i ≤ c → c < i + f →
    ((∀ j, i ≤ j → j < c → rb (μ (6 + s) (a + j)) 10) → f11_facts_l59 k f (nI s) (nI a) (nI c) (nI i) μ = k (nI s) (nI a) (nI c) μ) ∧
    ((∃ j, i ≤ j ∧ j < c ∧ ¬ rb (μ (6 + s) (a + j)) 10) → f11_facts_l59 k f (nI s) (nI a) (nI c) (nI i) μ = some (-1000001, μ)) := by
  intro f
  induction f with
  | zero => intro i _ h; omega
  | succ f ih =>
    intro i hi h
    unfold f11_facts_l59
    by_cases ci : c ≤ i
    · rw [if_pos (nI_le ci (by omega))]
      exact ⟨fun _ => rfl, fun ⟨j, a, b, _⟩ => by omega⟩
    · rw [if_neg (nI_ge (by omega) (by omega)), nI_add, t_item hs (by omega)]
      simp only [Option.bind_some]
      rcases rb_dec (μ (6 + s) (a + i)) 10 with q | q
      · rw [(t_isFV.1 q).1]
        simp only [Option.bind_some, e10, if_false]
        rw [nI_1]
        refine ⟨fun q2 => (ih (i + 1) (by omega) (by omega)).1 fun j a b => q2 j (by omega) b, fun ⟨j, a, b, d⟩ => (ih (i + 1) (by omega) (by omega)).2 ⟨j, ?_, b, d⟩⟩
        rcases Nat.lt_or_ge i j with z | z
        · exact z
        · obtain rfl : i = j := by omega
          exact absurd q d
      · rw [(t_isFV.2 q).1]
        simp only [Option.bind_some, e00, if_true]
        exact ⟨fun q2 => absurd (q2 i (by omega) (by omega)) q, fun _ => trivial⟩
theorem l_fm1 (k : Int32 → Int32 → Int32 → xMu → Option (Int32 × xMu)) {s a c : Nat} (hs : s < 8) (ha : a + c ≤ 40) (μ : xMu) : ∀ (f i : Nat), i ≤ c → c < i + f →
    ((∀ j, i ≤ j → j < c → rb (μ 165 (40 * s + (a + j))) 10) → f12_facts_l71 k f (nI s) (nI a) (nI c) (nI i) μ = k (nI s) (nI a) (nI c) μ) ∧
    ((∃ j, i ≤ j ∧ j < c ∧ ¬ rb (μ 165 (40 * s + (a + j))) 10) → f12_facts_l71 k f (nI s) (nI a) (nI c) (nI i) μ = some (-1000001, μ)) := by
  intro f
  induction f with
  | zero => intro i _ h; omega
  | succ f ih =>
    intro i hi h
    unfold f12_facts_l71
    by_cases ci : c ≤ i
    · rw [if_pos (nI_le ci (by omega))]
      exact ⟨fun _ => rfl, fun ⟨j, a, b, _⟩ => by omega⟩
    · rw [if_neg (nI_ge (by omega) (by omega)), show (40 : Int32) = nI 40 from rfl, pk_mul, nI_add, nI_add, show 40 * s + a + i = 40 * s + (a + i) by omega, a_ald (by omega) (by decide)]
      rcases rb_dec (μ 165 (40 * s + (a + i))) 10 with q | q
      · rw [(t_isFV.1 q).2]
        simp only [Option.bind_some, e10, if_false]
        rw [nI_1]
        refine ⟨fun q2 => (ih (i + 1) (by omega) (by omega)).1 fun j a b => q2 j (by omega) b, fun ⟨j, a, b, d⟩ => (ih (i + 1) (by omega) (by omega)).2 ⟨j, ?_, b, d⟩⟩
        rcases Nat.lt_or_ge i j with z | z
        · exact z
        · obtain rfl : i = j := by omega
          exact absurd q d
      · rw [(t_isFV.2 q).2]
        simp only [Option.bind_some, e00, if_true]
        exact ⟨fun q2 => absurd (q2 i (by omega) (by omega)) q, fun _ => trivial⟩
theorem l_fc2 (k : Int32 → xMu → Option (Int32 × xMu)) {s a c : Nat} (hs : s < 8) (ha : a + c ≤ 40) (hc : c ≤ 4) : ∀ (f i : Nat) (μ : xMu), i ≤ c → c < i + f → f11_facts_l95 k f (nI s) (nI a) (nI c) (nI i) μ = k (nI c) (x_cp μ (6 + s) (a + i) 128 i (c - i)) := by
  intro f
  induction f with
  | zero => intro i μ _ h; omega
  | succ f ih =>
    intro i μ hi h
    unfold f11_facts_l95 f2_tell
    by_cases ci : c ≤ i
    · rw [if_pos (nI_le ci (by omega)), show c - i = 0 by omega, cp_nil]
    · rw [if_neg (nI_ge (by omega) (by omega)), nI_add, t_item hs (by omega)]
      simp only [Option.bind_some, a_ald (show i < 4 by omega) (show 4 < 2 ^ 31 by decide), a_ast (show i < 4 by omega) (show 4 < 2 ^ 31 by decide)]
      rw [nI_1, ih (i + 1) _ (by omega) (by omega), show a + (i + 1) = a + i + 1 by omega, cp_step (by omega), show c - (i + 1) + 1 = c - i by omega]
theorem l_fm2 (k : Int32 → xMu → Option (Int32 × xMu)) {s a c : Nat} (hs : s < 8) (ha : a + c ≤ 40) (hc : c ≤ 4) : ∀ (f i : Nat) (μ : xMu), i ≤ c → c < i + f → f12_facts_l119 k f (nI s) (nI a) (nI c) (nI i) μ = k (nI c) (x_cp μ 165 (40 * s + (a + i)) 183 i (c - i)) := by
  intro f
  induction f with
  | zero => intro i μ _ h; omega
  | succ f ih =>
    intro i μ hi h
    unfold f12_facts_l119
    by_cases ci : c ≤ i
    · rw [if_pos (nI_le ci (by omega)), show c - i = 0 by omega, cp_nil]
    · rw [if_neg (nI_ge (by omega) (by omega)), show (40 : Int32) = nI 40 from rfl, pk_mul, nI_add, nI_add, show 40 * s + a + i = 40 * s + (a + i) by omega, a_ald (by omega) (by decide), a_ast (by omega) (by decide)]
      rw [nI_1, ih (i + 1) _ (by omega) (by omega), show 40 * s + (a + (i + 1)) = 40 * s + (a + i) + 1 by omega, cp_step (by omega), show c - (i + 1) + 1 = c - i by omega]
theorem i4 : (4 : Int32).toInt = 4 := by decide
theorem s_facts : x_S_facts x_R := by
  intro v1 v2 v3 μ h
  have no : f11_facts v1 v2 v3 μ = some (-1000001, μ) → f12_facts v1 v2 v3 μ = some (-1000001, x_wr μ 162 0 0) → ∃ (r : Int32) (μ1 μ2 : xMu), f11_facts v1 v2 v3 μ = some (r, μ1) ∧ f12_facts v1 v2 v3 μ1 = some (r, μ2) ∧ x_R μ2 := fun a b => ⟨_, _, _, a, b, h.t0⟩
  have fin : ∀ v : Int32, f11_facts v1 v2 v3 μ = some (-1000010 - v, x_wr μ 0 10 v) → f12_facts v1 v2 v3 (x_wr μ 0 10 v) = some (-1000010 - v, x_wr (x_wr (x_wr μ 0 10 v) 162 0 0) 162 1 v) → ∃ (r : Int32) (μ1 μ2 : xMu), f11_facts v1 v2 v3 μ = some (r, μ1) ∧ f12_facts v1 v2 v3 μ1 = some (r, μ2) ∧ x_R μ2 := fun v a b => ⟨_, _, _, a, b, h.fin (((gs.refl.wr rfl).wr rfl).wr rfl) rfl⟩
  rcases rb_dec v1 8 with hv | hv
  · have b1 := t_isSheet.1 hv
    by_cases cw : 1 ≤ v3.toInt ∧ v3.toInt ≤ 4
    · obtain ⟨c, hc, rfl⟩ : ∃ c, c < 5 ∧ v3 = nI c := i_of (by rw [i_le, i0]; omega) (by omega)
      rw [nI_toInt (by omega)] at cw
      have c1 : ¬ nI c < 1 := nI_nlt (b := 1) (by omega) (by omega)
      have c2 : nI c ≤ 4 := nI_le (b := 4) (by omega) (by omega)
      have c3 : f12_in (nI c).toInt64 1 4 = some 1 := by
        rw [m_inI, if_pos]
        rw [nI_toInt (by omega), show (1 : Int64).toInt = 1 by decide, show (4 : Int64).toInt = 4 by decide]
        omega
      obtain ⟨s, hs, rfl⟩ := rb_of hv
      rcases h.2.2.1.cases hs with ⟨q1, q2⟩ | ⟨q1, la, n, hla, hn, q3, q4, q5, q6, q7⟩
      · refine fin 1 ?_ ?_
        · unfold f11_facts
          simp only [b1.1, Option.bind_some, e10, if_false, if_neg c1, if_pos c2, t_mis hs, q1, if_true, finC]
        · unfold f12_facts
          simp only [a_put, b1.2, c3, Option.bind_some, e10, if_false, a_ald hs (show 8 < 2 ^ 31 by decide)]
          rw [show (x_wr (x_wr μ 0 10 1) 162 0 0) 163 s = -1 from q2, if_neg (by decide)]
          rfl
      · by_cases cp : 0 ≤ v2.toInt ∧ 0 ≤ (nI c).toInt ∧ v2.toInt + (nI c).toInt ≤ n
        · have c0 := t_hasP (v := v2) (w := nI c) hs hn q5
          rw [if_pos cp] at c0
          obtain ⟨a, ha, rfl⟩ : ∃ j, j < n + 1 ∧ v2 = nI j := i_of (by rw [i_le, i0]; omega) (by omega)
          rw [nI_toInt (by omega), nI_toInt (by omega)] at cp
          have hac : a + c ≤ n := by omega
          have mm : ∀ μ', μ' 163 = μ 163 → μ' 164 = μ 164 → f12_facts (nI s) (nI a) (nI c) μ' = (f12_facts_l71 (fun (y9 : Int32) (y10 : Int32) (y11 : Int32) (μ12 : xMu) => (x_put μ12 162 1 (0 : Int32) fun μ13 => (f12_facts_l119 (fun (y16 : Int32) (μ17 : xMu) => (some (y16, μ17))) 1000 y9 y10 y11 (0 : Int32) μ13))) 1000 (nI s) (nI a) (nI c) (0 : Int32) (x_wr μ' 162 0 0)) := by
            intro μ' e1 e2
            unfold f12_facts
            simp only [a_put, b1.2, c3, Option.bind_some, e10, if_false, a_ald hs (show 8 < 2 ^ 31 by decide)]
            rw [show (x_wr μ' 162 0 0) 163 s = nI la by rw [x_wr_ne (by decide), e1, q4], if_pos (nI_pos' (by omega)), if_neg (nI_pos (by omega)), show (x_wr μ' 162 0 0) 164 s = nI n by rw [x_wr_ne (by decide), e2, q6], if_pos]
            rw [lc_le, Int64.lt_iff_toInt_lt, l_add, l_of, nI_toInt (by omega), nI_toInt (by omega), nI_toInt (by omega)]
            omega
          have cc : f11_facts (nI s) (nI a) (nI c) μ = (f11_facts_l59 (fun (y6 : Int32) (y7 : Int32) (y8 : Int32) (μ9 : xMu) => (f11_facts_l95 (fun (y12 : Int32) (μ13 : xMu) => ((f11_withoutFinding y12 μ13).bind fun q14 => (some (q14.1, q14.2)))) 1000 y6 y7 y8 (0 : Int32) μ9)) 1000 (nI s) (nI a) (nI c) (0 : Int32) μ) := by
            unfold f11_facts
            simp only [b1.1, Option.bind_some, e10, if_false, if_neg c1, if_pos c2, t_mis hs, q1, if_true, e00, c0]
          by_cases al : ∀ j, 0 ≤ j → j < c → rb (μ (6 + s) (a + j)) 10
          · refine ⟨nI c, x_wr (x_cp μ (6 + s) (a + 0) 128 0 (c - 0)) 0 10 0, x_cp (x_wr (x_wr (x_wr (x_cp μ (6 + s) (a + 0) 128 0 (c - 0)) 0 10 0) 162 0 0) 162 1 0) 165 (40 * s + (a + 0)) 183 0 (c - 0), ?_, ?_, ?_⟩
            · rw [cc]
              refine ((l_fc1 _ hs (by omega) μ 1000 0 (by omega) (by omega)).1 al).trans ?_
              refine (l_fc2 _ hs (by omega) (by omega) 1000 0 μ (by omega) (by omega)).trans rfl
            · rw [mm _ (by rw [x_wr_ne (by decide), x_cp_ne (by decide)]) (by rw [x_wr_ne (by decide), x_cp_ne (by decide)])]
              refine ((l_fm1 _ hs (by omega) _ 1000 0 (by omega) (by omega)).1 ?_).trans ?_
              · intro j hj hjc
                rw [x_wr_ne (by decide), x_wr_ne (by decide), x_cp_ne (by decide), ← q7 _ (by omega)]
                exact al j hj hjc
              · exact (l_fm2 _ hs (by omega) (by omega) 1000 0 _ (by omega) (by omega)).trans rfl
            · refine h.fts (((((gs.refl.cp fun j => rfl).wr rfl).wr rfl).wr rfl).cp fun j => rfl) rfl ?_
              intro t ht
              by_cases e : t < c
              · obtain ⟨v, hv1, hv2⟩ := rb_of (al t (by omega) e)
                refine ⟨v, hv1, ?_, ?_⟩
                · simp [x_cp, x_wr, e, hv2]
                · have n1 : ¬ 165 = 128 := by decide
                  simp [x_cp, x_wr, e, ← hv2, q7 _ (show a + t < n by omega), Nat.add_assoc]
              · obtain ⟨o, ho, o1, o2⟩ := h.2.2.2.2.1 t ht
                exact ⟨o, ho, by simp [x_cp, x_wr, e, o1], by simp [x_cp, x_wr, e, o2]⟩
          · have ex : ∃ j, 0 ≤ j ∧ j < c ∧ ¬ rb (μ (6 + s) (a + j)) 10 := by
              apply Classical.byContradiction
              intro q
              apply al
              intro j h0 h1
              apply Classical.byContradiction
              intro q2
              exact q ⟨j, h0, h1, q2⟩
            refine no ?_ ?_
            · rw [cc]
              exact (l_fc1 _ hs (by omega) μ 1000 0 (by omega) (by omega)).2 ex
            · rw [mm _ rfl rfl]
              refine (l_fm1 _ hs (by omega) _ 1000 0 (by omega) (by omega)).2 ?_
              obtain ⟨j, h0, h1, h2⟩ := ex
              refine ⟨j, h0, h1, ?_⟩
              rw [x_wr_ne (by decide), ← q7 _ (by omega)]
              exact h2
        · have c0 := t_hasP (v := v2) (w := nI c) hs hn q5
          rw [if_neg cp] at c0
          refine fin 2 ?_ ?_
          · unfold f11_facts
            simp only [b1.1, Option.bind_some, e10, if_false, if_neg c1, if_pos c2, t_mis hs, q1, if_true, e00, finC, c0]
          · unfold f12_facts f12_facts_j62
            simp only [a_put, b1.2, c3, Option.bind_some, e10, if_false, a_ald hs (show 8 < 2 ^ 31 by decide)]
            rw [show (x_wr (x_wr μ 0 10 2) 162 0 0) 163 s = nI la from q4, if_pos (nI_pos' (by omega)), show (x_wr (x_wr μ 0 10 2) 162 0 0) 164 s = nI n from q6]
            by_cases cn : v2 < 0
            · rw [if_pos cn]; rfl
            · rw [if_neg cn, if_neg]
              · rfl
              · rw [i_lt, i0] at cn
                rw [lc_le, Int64.lt_iff_toInt_lt, l_add, l_of, nI_toInt (show n < 2 ^ 31 by omega)]
                rw [nI_toInt (by omega)] at cp ⊢
                omega
    · have c3 : f12_in v3.toInt64 1 4 = some 0 := by
        rw [m_inI, if_neg]
        rw [show (1 : Int64).toInt = 1 by decide, show (4 : Int64).toInt = 4 by decide]
        exact cw
      refine no ?_ ?_
      · unfold f11_facts
        simp only [b1.1, Option.bind_some, e10, if_false]
        by_cases c1 : v3 < 1
        · rw [if_pos c1]
        · rw [if_neg c1, if_neg]
          rw [i_lt, i1] at c1
          rw [i_le, i4]
          omega
      · unfold f12_facts
        simp only [a_put, b1.2, c3, Option.bind_some, e10, if_false, e00, if_true]
  · have b1 := t_isSheet.2 hv
    refine no ?_ ?_
    · unfold f11_facts
      simp only [b1.1, Option.bind_some, e00, if_true]
    · unfold f12_facts
      simp only [a_put, b1.2, Option.bind_some, e00, if_true]
