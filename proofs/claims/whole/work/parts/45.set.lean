/-! PURE: set, drop, copy -/
theorem e_no {f g : xMu → Option (Int32 × xMu)} {μ : xMu} (h : x_R μ) (a : f μ = some (-1000001, μ)) (b : g μ = some (-1000001, x_wr μ 162 0 0)) : ∃ (r : Int32) (μ1 μ2 : xMu), f μ = some (r, μ1) ∧ g μ1 = some (r, μ2) ∧ x_R μ2 := ⟨_, _, _, a, b, h.t0⟩
theorem e_fin {f g : xMu → Option (Int32 × xMu)} {μ : xMu} (h : x_R μ) (v : Int32) (a : f μ = some (-1000010 - v, x_wr μ 0 10 v)) (b : g (x_wr μ 0 10 v) = some (-1000010 - v, x_fn μ v)) : ∃ (r : Int32) (μ1 μ2 : xMu), f μ = some (r, μ1) ∧ g μ1 = some (r, μ2) ∧ x_R μ2 := ⟨_, _, _, a, b, h.fnd v⟩
theorem i1 : (1 : Int32).toInt = 1 := by decide
theorem t_hasP {μ : xMu} {s n : Nat} {v w : Int32} (hs : s < 8) (hn : n ≤ 40) (e : μ 4 s = nI n) : f8_hasPlaces μ (nI s) v w = some (if 0 ≤ v.toInt ∧ 0 ≤ w.toInt ∧ v.toInt + w.toInt ≤ n then 1 else 0) := by
  unfold f8_hasPlaces
  have h0 := i0
  rw [a_ald hs (by decide), e]
  by_cases c1 : v < 0
  · rw [if_pos c1, if_neg]; rw [i_lt] at c1; omega
  · rw [if_neg c1]
    by_cases c2 : w < 0
    · rw [if_pos c2, if_neg]; rw [i_lt] at c2; omega
    · rw [if_neg c2]
      have hN := nI_toInt (n := n) (by omega)
      by_cases c3 : nI n < v
      · rw [if_pos c3, if_neg]; rw [i_lt] at c1 c2 c3; omega
      · rw [if_neg c3]
        obtain ⟨j, hj, rfl⟩ : ∃ j, j < n + 1 ∧ v = nI j := i_of (by rw [i_lt] at c1; rw [i_le]; omega) (by rw [i_lt] at c3; omega)
        rw [pk_sub (by omega)]
        have hJ := nI_toInt (n := j) (by omega)
        have hD := nI_toInt (n := n - j) (by omega)
        by_cases c4 : nI (n - j) < w
        · rw [if_pos c4, if_neg]; rw [i_lt] at c2 c4; omega
        · rw [if_neg c4, if_pos]; rw [i_lt] at c2 c4; omega
theorem SH.cases {μ : xMu} (h : SH μ) {s : Nat} (hs : s < 8) : (μ 2 s = 0 ∧ μ 163 s = -1) ∨ (μ 2 s = 1 ∧ ∃ la n, la < 3 ∧ n ≤ 40 ∧ μ 3 s = nI la ∧ μ 163 s = nI la ∧ μ 4 s = nI n ∧ μ 164 s = nI n ∧ ∀ i, i < n → μ (6 + s) i = μ 165 (40 * s + i)) := h s hs
theorem t_mis {μ : xMu} {s : Nat} (hs : s < 8) : f8_isMissing μ (nI s) = some (if μ 2 s = 0 then 1 else 0) := by
  unfold f8_isMissing
  rw [a_ald hs (by decide)]
  split <;> rfl
theorem s_drop : x_S_drop x_R := by
  intro v1 μ h
  rcases rb_dec v1 8 with hv | hv
  · have b1 := t_isSheet.1 hv
    obtain ⟨s, hs, rfl⟩ := rb_of hv
    rcases h.2.2.1.cases hs with ⟨q1, q2⟩ | ⟨q1, la, n, hla, hn, q3, q4, q5, q6, q7⟩
    · refine e_fin (f := f11_drop (nI s)) (g := f12_drop (nI s)) h 1 ?_ ?_
      · unfold f11_drop
        simp only [b1.1, Option.bind_some, e10, if_false, t_mis hs, q1, if_true, finC]
      · unfold f12_drop
        simp only [a_put, b1.2, Option.bind_some, e10, if_false, a_ald hs (show 8 < 2 ^ 31 by decide)]
        rw [show (x_wr (x_wr (x_wr μ 0 10 1) 162 0 0) 162 1 0) 163 s = -1 from q2, if_neg (by decide)]
        rfl
    · refine ⟨nI n, x_wr (x_wr μ 2 s 0) 0 10 0, x_wr (x_wr (x_wr (x_wr (x_wr μ 2 s 0) 0 10 0) 162 0 0) 162 1 0) 163 s (-1), ?_, ?_, ?_⟩
      · unfold f11_drop f8_lose
        simp only [b1.1, Option.bind_some, e10, if_false, t_mis hs, q1, if_true, finO, e00, a_ast hs (show 8 < 2 ^ 31 by decide), a_ald hs (show 8 < 2 ^ 31 by decide)]
        rw [show (x_wr μ 2 s 0) 4 s = nI n from q5]
      · unfold f12_drop
        simp only [a_put, b1.2, Option.bind_some, e10, if_false, a_ald hs (show 8 < 2 ^ 31 by decide)]
        rw [show (x_wr (x_wr (x_wr (x_wr μ 2 s 0) 0 10 0) 162 0 0) 162 1 0) 163 s = nI la from q4, if_pos (nI_pos' (by omega)), a_ast hs (by decide)]
        rw [show (x_wr (x_wr (x_wr (x_wr (x_wr μ 2 s 0) 0 10 0) 162 0 0) 162 1 0) 163 s (-1)) 164 s = nI n from q6]
      · refine h.shs (((((gs.refl.wr rfl).wr rfl).wr rfl).wr rfl).wr rfl) rfl ?_
        intro t ht
        by_cases e : t = s
        · subst e
          exact Or.inl ⟨by simp [x_wr], by simp [x_wr]⟩
        · refine SH1.of (h.2.2.1 t ht) ?_ ?_ ?_ ?_ ?_ (fun i hi => ?_) (fun i hi => ?_) <;> simp [x_wr, e, n6 ht]
  · have b1 := t_isSheet.2 hv
    refine e_no (f := f11_drop v1) (g := f12_drop v1) h ?_ ?_
    · unfold f11_drop
      simp only [b1.1, Option.bind_some, e00, if_true]
    · unfold f12_drop
      simp only [a_put, b1.2, Option.bind_some, e00, if_true]
/-- what a lane keeps of a number -/
def lnv (la : Nat) (v : Int32) : Int32 := if la = 0 then v.toInt8.toInt32 else if la = 1 then v.toInt16.toInt32 else v
theorem s_set : x_S_set x_R := by
  intro v1 v2 v3 μ h
  rcases rb_dec v1 8 with hv | hv
  · have b1 := t_isSheet.1 hv
    obtain ⟨s, hs, rfl⟩ := rb_of hv
    rcases h.2.2.1.cases hs with ⟨q1, q2⟩ | ⟨q1, la, n, hla, hn, q3, q4, q5, q6, q7⟩
    · refine e_fin (f := f11_set (nI s) v2 v3) (g := f12_set (nI s) v2 v3) h 1 ?_ ?_
      · unfold f11_set
        simp only [b1.1, Option.bind_some, e10, if_false, t_mis hs, q1, if_true, finC]
      · unfold f12_set
        simp only [a_put, b1.2, Option.bind_some, e10, if_false, a_ald hs (show 8 < 2 ^ 31 by decide)]
        rw [show (x_wr (x_wr (x_wr μ 0 10 1) 162 0 0) 162 1 0) 163 s = -1 from q2, if_neg (by decide)]
        rfl
    · rcases rb_dec v2 n with hp | hp
      · obtain ⟨j, hj, rfl⟩ := rb_of hp
        have c0 := t_hasP (v := nI j) (w := 1) hs hn q5
        rw [if_pos (by rw [nI_toInt (by omega), i1]; omega)] at c0
        have pu : f8_put (nI s) (nI j) v3 μ = some (lnv la v3, x_wr μ (6 + s) j (lnv la v3)) := by
          unfold f8_put f8_put_j33 lnv
          simp only [a_ald hs (show 8 < 2 ^ 31 by decide), q3, a_rld hs (show 8 < 2 ^ 31 by decide) (r_item s hs).1, a_chk (r_item s hs).2.1, (r_item s hs).2.2, a_ast (show j < 40 by omega) (show 40 < 2 ^ 31 by decide)]
          rcases (show la = 0 ∨ la = 1 ∨ la = 2 by omega) with rfl | rfl | rfl <;> rfl
        refine ⟨lnv la v3, x_wr (x_wr μ (6 + s) j (lnv la v3)) 0 10 0, x_wr (x_wr (x_wr (x_wr (x_wr μ (6 + s) j (lnv la v3)) 0 10 0) 162 0 0) 162 1 0) 165 (40 * s + j) (lnv la v3), ?_, ?_, ?_⟩
        · unfold f11_set
          simp only [b1.1, Option.bind_some, e10, if_false, t_mis hs, q1, if_true, finO, e00, c0, pu]
        · unfold f12_set f12_set_j99 lnv
          simp only [a_put, b1.2, Option.bind_some, e10, if_false, a_ald hs (show 8 < 2 ^ 31 by decide)]
          have k1 : ∀ v, (x_wr (x_wr (x_wr (x_wr μ (6 + s) j v) 0 10 0) 162 0 0) 162 1 0) 163 s = nI la := fun v => by simp [x_wr, n6 hs, q4]
          have k2 : ∀ v, (x_wr (x_wr (x_wr (x_wr μ (6 + s) j v) 0 10 0) 162 0 0) 162 1 0) 164 s = nI n := fun v => by simp [x_wr, n6 hs, q6]
          simp only [k1, k2, if_pos (nI_pos' (show la < 2 ^ 31 by omega)), m_rng (hi_sub (show n < 2 ^ 30 by omega)) hp, Option.bind_some, e10, if_false]
          rw [show (40 : Int32) = nI 40 from rfl, pk_mul, nI_add]
          simp only [a_ast (show 40 * s + j < 320 by omega) (show 320 < 2 ^ 31 by decide), a_ald (show 40 * s + j < 320 by omega) (show 320 < 2 ^ 31 by decide)]
          rcases (show la = 0 ∨ la = 1 ∨ la = 2 by omega) with rfl | rfl | rfl
          · rw [if_pos rfl, if_pos (show nI 0 = 0 from rfl), x_wr_row, pk_us]
          · rw [if_neg (by decide), if_pos (by decide), if_neg (by decide), if_pos rfl, x_wr_row, pk_us]
          · rw [if_neg (by decide), if_neg (by decide), if_neg (by decide), if_neg (by decide), x_wr_row, pk_us]
        · refine h.shs (((((gs.refl.wr (g3i hs)).wr rfl).wr rfl).wr rfl).wr rfl) ?_ ?_
          · simp [x_wr, n6 hs]
          intro t ht
          by_cases e : t = s
          · subst e
            refine Or.inr ⟨?_, la, n, hla, hn, ?_, ?_, ?_, ?_, fun i hi => ?_⟩
            · simp [x_wr, n6 hs, q1]
            · simp [x_wr, n6 hs, q3]
            · simp [x_wr, n6 hs, q4]
            · simp [x_wr, n6 hs, q5]
            · simp [x_wr, n6 hs, q6]
            · by_cases ei : i = j
              · subst ei
                simp [x_wr, n6 hs]
              · simp [x_wr, n6 hs, ei, q7 i hi]
          · refine SH1.of (h.2.2.1 t ht) ?_ ?_ ?_ ?_ ?_ (fun i hi => ?_) (fun i hi => ?_)
            · simp [x_wr, e, n6 hs]
            · simp [x_wr, e, n6 hs]
            · simp [x_wr, e, n6 hs]
            · simp [x_wr, e, n6 hs]
            · simp [x_wr, e, n6 hs]
            · simp [x_wr, e, n6 hs, n6 ht]
            · have : ¬ (40 * t + i = 40 * s + j) := by omega
              simp [x_wr, e, n6 hs, this]
      · have c0 := t_hasP (v := v2) (w := 1) hs hn q5
        rw [if_neg (by unfold rb at hp; rw [i1]; omega)] at c0
        refine e_fin (f := f11_set (nI s) v2 v3) (g := f12_set (nI s) v2 v3) h 2 ?_ ?_
        · unfold f11_set
          simp only [b1.1, Option.bind_some, e10, if_false, t_mis hs, q1, if_true, finC, c0, e00]
        · unfold f12_set
          simp only [a_put, b1.2, Option.bind_some, e10, if_false, a_ald hs (show 8 < 2 ^ 31 by decide)]
          rw [show (x_wr (x_wr (x_wr μ 0 10 2) 162 0 0) 162 1 0) 163 s = nI la from q4, if_pos (nI_pos' (by omega)), show (x_wr (x_wr (x_wr μ 0 10 2) 162 0 0) 162 1 0) 164 s = nI n from q6, m_rngN (hi_sub (by omega)) hp]
          rfl
  · have b1 := t_isSheet.2 hv
    refine e_no (f := f11_set v1 v2 v3) (g := f12_set v1 v2 v3) h ?_ ?_
    · unfold f11_set
      simp only [b1.1, Option.bind_some, e00, if_true]
    · unfold f12_set
      simp only [a_put, b1.2, Option.bind_some, e00, if_true]
/-! copy -/
theorem l_add {a b : Int32} : (a.toInt64 + b.toInt64).toInt = a.toInt + b.toInt := by
  have a1 := a.toInt_lt; have a2 := a.le_toInt
  have b1 := b.toInt_lt; have b2 := b.le_toInt
  rw [Int64.toInt_add, l_of, l_of]
  apply Int.bmod_eq_of_le <;> omega
theorem cp_nil (μ : xMu) (a i b j : Nat) : x_cp μ a i b j 0 = μ := by
  funext c k
  unfold x_cp
  rw [if_neg (by omega)]
theorem cp_up {μ : xMu} {i j n : Nat} (h : j ≤ i ∨ i + n < j ∨ j + n < i + 1) : x_wr (x_cp μ 165 i 165 j n) 165 (j + n) (x_cp μ 165 i 165 j n 165 (i + n)) = x_cp μ 165 i 165 j (n + 1) := by
  have e : x_cp μ 165 i 165 j n 165 (i + n) = μ 165 (i + n) := by
    unfold x_cp
    rw [if_neg (by omega)]
  rw [e]
  funext c k
  unfold x_wr x_cp
  by_cases h1 : c = 165 ∧ k = j + n
  · rw [if_pos h1, if_pos (by omega), show i + (k - j) = i + n by omega]
  · rw [if_neg h1]
    by_cases h2 : c = 165 ∧ j ≤ k ∧ k < j + n
    · rw [if_pos h2, if_pos (by omega)]
    · rw [if_neg h2, if_neg (by omega)]
theorem cp_dn {μ : xMu} {i j n : Nat} (h : i ≤ j ∨ j + n < i ∨ i + n < j) : x_wr (x_cp μ 165 (i + 1) 165 (j + 1) n) 165 j (x_cp μ 165 (i + 1) 165 (j + 1) n 165 i) = x_cp μ 165 i 165 j (n + 1) := by
  have e : x_cp μ 165 (i + 1) 165 (j + 1) n 165 i = μ 165 i := by
    unfold x_cp
    rw [if_neg (by omega)]
  rw [e]
  funext c k
  unfold x_wr x_cp
  by_cases h1 : c = 165 ∧ k = j
  · rw [if_pos h1, if_pos (by omega), show i + (k - j) = i by omega]
  · rw [if_neg h1]
    by_cases h2 : c = 165 ∧ j + 1 ≤ k ∧ k < j + 1 + n
    · rw [if_pos h2, if_pos (by omega), show i + 1 + (k - (j + 1)) = i + (k - j) by omega]
    · rw [if_neg h2, if_neg (by omega)]
theorem l_cup (k : Int32 → xMu → Option (Int32 × xMu)) {s t a b n : Nat} (hs : s < 8) (ht : t < 8) (ha : a + n ≤ 40) (hb : b + n ≤ 40) (μ : xMu) (hab : b ≤ a) : ∀ (f i : Nat), i ≤ n → n < i + f → f12_copy_l143 k f (nI s) (nI a) (nI t) (nI b) (nI n) 1 (nI i) (x_cp μ 165 (40 * s + a) 165 (40 * t + b) i) = k (nI n) (x_cp μ 165 (40 * s + a) 165 (40 * t + b) n) := by
  intro f
  induction f with
  | zero => intro i _ h; omega
  | succ f ih =>
    intro i hi h
    unfold f12_copy_l143
    by_cases c : n ≤ i
    · rw [if_pos (nI_le c (by omega)), show i = n by omega]
    · rw [if_neg (nI_ge (by omega) (by omega)), if_neg (by decide)]
      unfold f12_copy_j167
      rw [show (40 : Int32) = nI 40 from rfl, pk_mul, nI_add, nI_add, pk_mul, nI_add, nI_add, a_ald (by omega) (by decide), a_ast (by omega) (by decide), nI_1]
      rw [cp_up (by omega)]
      exact ih (i + 1) (by omega) (by omega)
theorem l_cdn (k : Int32 → xMu → Option (Int32 × xMu)) {s t a b n : Nat} (hs : s < 8) (ht : t < 8) (ha : a + n ≤ 40) (hb : b + n ≤ 40) (μ : xMu) (hab : a < b) : ∀ (f i : Nat), i ≤ n → n < i + f → f12_copy_l143 k f (nI s) (nI a) (nI t) (nI b) (nI n) 0 (nI i) (x_cp μ 165 (40 * s + a + (n - i)) 165 (40 * t + b + (n - i)) i) = k (nI n) (x_cp μ 165 (40 * s + a) 165 (40 * t + b) n) := by
  intro f
  induction f with
  | zero => intro i _ h; omega
  | succ f ih =>
    intro i hi h
    unfold f12_copy_l143
    by_cases c : n ≤ i
    · obtain rfl : i = n := by omega
      rw [if_pos (nI_le c (by omega)), show 40 * s + a + (i - i) = 40 * s + a by omega, show 40 * t + b + (i - i) = 40 * t + b by omega]
    · rw [if_neg (nI_ge (by omega) (by omega)), if_pos rfl]
      unfold f12_copy_j167
      have e1 : nI n - 1 - nI i = nI (n - (i + 1)) := by
        rw [show (1 : Int32) = nI 1 from rfl, pk_sub (by omega), pk_sub (by omega), show n - 1 - i = n - (i + 1) by omega]
      rw [e1, show (40 : Int32) = nI 40 from rfl, pk_mul, nI_add, nI_add, pk_mul, nI_add, nI_add, a_ald (by omega) (by decide), a_ast (by omega) (by decide), nI_1]
      rw [show 40 * s + a + (n - i) = 40 * s + a + (n - (i + 1)) + 1 by omega, show 40 * t + b + (n - i) = 40 * t + b + (n - (i + 1)) + 1 by omega, cp_dn (by omega)]
      exact ih (i + 1) (by omega) (by omega)
theorem a_cpy {α : Type} {μ : xMu} {a i b j n : Nat} {f : xMu → Option α} (h1 : i + n ≤ x_sz a) (h2 : j + n ≤ x_sz b) (h3 : x_sz a < 2 ^ 31) (h4 : x_sz b < 2 ^ 31) : x_cpy μ a (nI i) b (nI j) (nI n) f = f (x_cp μ a i b j n) := by
  unfold x_cpy
  rw [nI_clamp (by omega), nI_clamp (by omega), nI_clamp (by omega)]
  have a1 := nI_pos (n := i) (by omega)
  have a2 := nI_pos (n := j) (by omega)
  have a3 := nI_pos (n := n) (by omega)
  simp [a1, a2, a3, h1, h2]
theorem lc_le (a b : Int64) : (lg_cmp a b ≤ 0) = ¬ b < a := by
  apply propext
  rw [← lc_gt, i_le, i_lt]
  omega
theorem gs.cp {p : Nat → Nat → Bool} {μ μ' : xMu} {a i b j n : Nat} (h : gs p μ μ') (hk : ∀ j, p b j = true) : gs p μ (x_cp μ' a i b j n) := fun x y hp => by
  rw [x_cp_ne]
  · exact h x y hp
  · rintro rfl
    rw [hk] at hp
    cases hp
theorem s_copy : x_S_copy x_R := by
  intro v1 v2 v3 v4 v5 μ h
  rcases rb_dec v1 8 with hv | hv
  · have b1 := t_isSheet.1 hv
    obtain ⟨s, hs, rfl⟩ := rb_of hv
    rcases rb_dec v3 8 with hw | hw
    · have b2 := t_isSheet.1 hw
      obtain ⟨t, ht, rfl⟩ := rb_of hw
      have fin : ∀ v : Int32, f11_copy (nI s) v2 (nI t) v4 v5 μ = some (-1000010 - v, x_wr μ 0 10 v) → f12_copy (nI s) v2 (nI t) v4 v5 (x_wr μ 0 10 v) = some (-1000010 - v, x_fn μ v) → ∃ (r : Int32) (μ1 μ2 : xMu), f11_copy (nI s) v2 (nI t) v4 v5 μ = some (r, μ1) ∧ f12_copy (nI s) v2 (nI t) v4 v5 μ1 = some (r, μ2) ∧ x_R μ2 := fun v a b => e_fin h v a b
      have r1 : ∀ v, (x_wr (x_wr (x_wr μ 0 10 v) 162 0 0) 162 1 0) 163 = μ 163 := fun _ => rfl
      have r2 : ∀ v, (x_wr (x_wr (x_wr μ 0 10 v) 162 0 0) 162 1 0) 164 = μ 164 := fun _ => rfl
      rcases h.2.2.1.cases hs with ⟨q1, q2⟩ | ⟨q1, la, n, hla, hn, q3, q4, q5, q6, q7⟩
      · refine fin 1 ?_ ?_
        · unfold f11_copy f11_copy_j39
          simp only [b1.1, b2.1, Option.bind_some, e10, if_false, t_mis hs, q1, if_true, finC]
        · unfold f12_copy f12_copy_j45
          simp only [a_put, b1.2, b2.2, Option.bind_some, e10, if_false, a_ald hs (show 8 < 2 ^ 31 by decide), r1, q2]
          rw [if_pos (by decide)]
          rfl
      · rcases h.2.2.1.cases ht with ⟨p1, p2⟩ | ⟨p1, lb, m, hlb, hm, p3, p4, p5, p6, p7⟩
        · refine fin 1 ?_ ?_
          · unfold f11_copy f11_copy_j39
            simp only [b1.1, b2.1, Option.bind_some, e10, if_false, t_mis hs, t_mis ht, q1, p1, if_true, finC, e00]
          · unfold f12_copy f12_copy_j45
            simp only [a_put, b1.2, b2.2, Option.bind_some, e10, if_false, a_ald hs (show 8 < 2 ^ 31 by decide), a_ald ht (show 8 < 2 ^ 31 by decide), r1, q4, p2]
            rw [if_neg (nI_pos (by omega)), if_neg (by decide)]
            rfl
        · by_cases el : la = lb
          · subst el
            by_cases cp : (0 ≤ v2.toInt ∧ 0 ≤ v5.toInt ∧ v2.toInt + v5.toInt ≤ n) ∧ (0 ≤ v4.toInt ∧ 0 ≤ v5.toInt ∧ v4.toInt + v5.toInt ≤ m)
            · obtain ⟨⟨a1, a2, a3⟩, a4, -, a5⟩ := cp
              obtain ⟨a, ha, rfl⟩ : ∃ j, j < n + 1 ∧ v2 = nI j := i_of (by rw [i_le, i0]; omega) (by omega)
              obtain ⟨b, hb, rfl⟩ : ∃ j, j < m + 1 ∧ v4 = nI j := i_of (by rw [i_le, i0]; omega) (by omega)
              obtain ⟨c, hc, rfl⟩ : ∃ j, j < n + 1 ∧ v5 = nI j := i_of (by rw [i_le, i0]; omega) (by omega)
              have cA : 0 ≤ (nI a).toInt ∧ 0 ≤ (nI c).toInt ∧ (nI a).toInt + (nI c).toInt ≤ n := ⟨a1, a2, a3⟩
              have cB : 0 ≤ (nI b).toInt ∧ 0 ≤ (nI c).toInt ∧ (nI b).toInt + (nI c).toInt ≤ m := ⟨a4, a2, a5⟩
              rw [nI_toInt (by omega), nI_toInt (by omega)] at a3 a5
              have hac : a + c ≤ n := by omega
              have hbc : b + c ≤ m := by omega
              have cls : f11_copy (nI s) (nI a) (nI t) (nI b) (nI c) μ = some (nI c, x_wr (x_cp μ (6 + s) a (6 + t) b c) 0 10 0) := by
                unfold f11_copy f8_haveOneLane f8_move
                simp only [b1.1, b2.1, Option.bind_some, e10, if_false, t_mis hs, t_mis ht, q1, p1, if_true, finO, e00, a_ald hs (show 8 < 2 ^ 31 by decide), a_ald ht (show 8 < 2 ^ 31 by decide), q3, p3, t_hasP hs hn q5, t_hasP ht hm p5]
                rw [if_pos cA, if_neg (by decide), if_pos cB, if_neg (by decide), a_rld hs (by decide) (r_item s hs).1, a_rld ht (by decide) (r_item t ht).1, a_chk (r_item s hs).2.1, a_chk (r_item t ht).2.1, a_cpy (by rw [(r_item s hs).2.2]; omega) (by rw [(r_item t ht).2.2]; omega) (by rw [(r_item s hs).2.2]; decide) (by rw [(r_item t ht).2.2]; decide)]
                rfl
              have g1' : ∀ k, k = 163 ∨ k = 164 → (x_wr (x_wr (x_wr (x_cp μ (6 + s) a (6 + t) b c) 0 10 0) 162 0 0) 162 1 0) k = μ k := by
                intro k hk
                rw [x_wr_ne (by omega), x_wr_ne (by omega), x_wr_ne (by omega), x_cp_ne (by omega)]
              refine ⟨_, _, x_cp (x_wr (x_wr (x_wr (x_cp μ (6 + s) a (6 + t) b c) 0 10 0) 162 0 0) 162 1 0) 165 (40 * s + a) 165 (40 * t + b) c, cls, ?_, ?_⟩
              · unfold f12_copy f12_copy_j138
                simp only [a_put, b1.2, b2.2, Option.bind_some, e10, if_false, a_ald hs (show 8 < 2 ^ 31 by decide), a_ald ht (show 8 < 2 ^ 31 by decide), g1' 163 (Or.inl rfl), g1' 164 (Or.inr rfl), q4, p4, q6, p6, if_true]
                rw [if_neg (nI_pos (by omega)), if_pos (nI_pos' (by omega)), if_neg (nI_pos (by omega)), if_neg (nI_pos (by omega)), if_neg (nI_pos (by omega))]
                simp only [lc_gt, lc_le, Int64.lt_iff_toInt_lt, l_add, l_of, nI_toInt (show n < 2 ^ 31 by omega), nI_toInt (show m < 2 ^ 31 by omega), nI_toInt (show a < 2 ^ 31 by omega), nI_toInt (show b < 2 ^ 31 by omega), nI_toInt (show c < 2 ^ 31 by omega)]
                rw [if_neg (by omega), if_pos (by omega)]
                by_cases o : a < b
                · rw [if_pos (nI_lt o (by omega))]
                  have := l_cdn (fun (y15 : Int32) (μ16 : xMu) => (some (y15, μ16))) (a := a) (b := b) (n := c) hs ht (by omega) (by omega) (x_wr (x_wr (x_wr (x_cp μ (6 + s) a (6 + t) b c) 0 10 0) 162 0 0) 162 1 0) o 1000 0 (by omega) (by omega)
                  rw [cp_nil] at this
                  exact this
                · rw [if_neg (nI_nlt (by omega) (by omega))]
                  have := l_cup (fun (y15 : Int32) (μ16 : xMu) => (some (y15, μ16))) (a := a) (b := b) (n := c) hs ht (by omega) (by omega) (x_wr (x_wr (x_wr (x_cp μ (6 + s) a (6 + t) b c) 0 10 0) 162 0 0) 162 1 0) (by omega) 1000 0 (by omega) (by omega)
                  rw [cp_nil] at this
                  exact this
              · refine h.shs (((((gs.refl.cp fun j => g3i ht).wr rfl).wr rfl).wr rfl).cp fun j => rfl) ?_ ?_
                · simp [x_cp, x_wr, n6 hs, n6 ht]
                · intro u hu
                  have wv : ∀ k j, k = 6 + u ∨ k = 2 ∨ k = 3 ∨ k = 4 ∨ k = 163 ∨ k = 164 → x_cp (x_wr (x_wr (x_wr (x_cp μ (6 + s) a (6 + t) b c) 0 10 0) 162 0 0) 162 1 0) 165 (40 * s + a) 165 (40 * t + b) c k j = x_cp μ (6 + s) a (6 + t) b c k j := fun k j hk => by
                    rw [x_cp_ne (by omega), x_wr_ne (by omega), x_wr_ne (by omega), x_wr_ne (by omega)]
                  have wm : ∀ j, x_cp (x_wr (x_wr (x_wr (x_cp μ (6 + s) a (6 + t) b c) 0 10 0) 162 0 0) 162 1 0) 165 (40 * s + a) 165 (40 * t + b) c 165 j = x_cp μ 165 (40 * s + a) 165 (40 * t + b) c 165 j := fun j => by
                    have z : ∀ y, (x_wr (x_wr (x_wr (x_cp μ (6 + s) a (6 + t) b c) 0 10 0) 162 0 0) 162 1 0) 165 y = μ 165 y := fun y => by
                      rw [x_wr_ne (by omega), x_wr_ne (by omega), x_wr_ne (by omega), x_cp_ne (by omega)]
                    show (if _ then _ else _) = (if _ then _ else _)
                    rw [z, z]
                  by_cases e : u = t
                  · subst e
                    refine Or.inr ⟨?_, la, m, hla, hm, ?_, ?_, ?_, ?_, fun i hi => ?_⟩
                    · rw [wv 2 _ (by omega), x_cp_ne (by omega)]; exact p1
                    · rw [wv 3 _ (by omega), x_cp_ne (by omega)]; exact p3
                    · rw [wv 163 _ (by omega), x_cp_ne (by omega)]; exact p4
                    · rw [wv 4 _ (by omega), x_cp_ne (by omega)]; exact p5
                    · rw [wv 164 _ (by omega), x_cp_ne (by omega)]; exact p6
                    · rw [wv (6 + u) _ (by omega), wm]
                      unfold x_cp
                      by_cases k : b ≤ i ∧ i < b + c
                      · rw [if_pos ⟨rfl, k⟩, if_pos (by omega), q7 _ (by omega), show 40 * s + (a + (i - b)) = 40 * s + a + (40 * u + i - (40 * u + b)) by omega]
                      · rw [if_neg (by omega), if_neg (by omega)]
                        exact p7 i hi
                  · refine SH1.of (h.2.2.1 u hu) ?_ ?_ ?_ ?_ ?_ (fun i hi => ?_) (fun i hi => ?_)
                    · rw [wv 2 _ (by omega), x_cp_ne (by omega)]
                    · rw [wv 3 _ (by omega), x_cp_ne (by omega)]
                    · rw [wv 4 _ (by omega), x_cp_ne (by omega)]
                    · rw [wv 163 _ (by omega), x_cp_ne (by omega)]
                    · rw [wv 164 _ (by omega), x_cp_ne (by omega)]
                    · rw [wv (6 + u) _ (by omega), x_cp_ne (by omega)]
                    · rw [wm]
                      unfold x_cp
                      rw [if_neg (by omega)]
            · refine fin 2 ?_ ?_
              · unfold f11_copy f11_copy_j92 f8_haveOneLane
                simp only [b1.1, b2.1, Option.bind_some, e10, if_false, t_mis hs, t_mis ht, q1, p1, if_true, finC, e00, a_ald hs (show 8 < 2 ^ 31 by decide), a_ald ht (show 8 < 2 ^ 31 by decide), q3, p3, t_hasP hs hn q5, t_hasP ht hm p5]
                by_cases ca : 0 ≤ v2.toInt ∧ 0 ≤ v5.toInt ∧ v2.toInt + v5.toInt ≤ n
                · rw [if_pos ca, if_neg (by decide), if_neg (fun q => cp ⟨ca, q⟩), if_pos rfl]
                · rw [if_neg ca, if_pos rfl]
              · unfold f12_copy f12_copy_j121
                simp only [a_put, b1.2, b2.2, Option.bind_some, e10, if_false, a_ald hs (show 8 < 2 ^ 31 by decide), a_ald ht (show 8 < 2 ^ 31 by decide), r1, r2, q4, p4, q6, p6, finM, if_true]
                rw [if_neg (nI_pos (by omega)), if_pos (nI_pos' (by omega))]
                have h0 := i0
                by_cases c1 : v2 < 0
                · rw [if_pos c1]; rfl
                rw [if_neg c1]
                by_cases c2 : v4 < 0
                · rw [if_pos c2]; rfl
                rw [if_neg c2]
                by_cases c3 : v5 < 0
                · rw [if_pos c3]; rfl
                rw [if_neg c3]
                rw [i_lt] at c1 c2 c3
                simp only [lc_gt, lc_le, Int64.lt_iff_toInt_lt, l_add, l_of, nI_toInt (show n < 2 ^ 31 by omega), nI_toInt (show m < 2 ^ 31 by omega)]
                by_cases c4 : (n : Int) < v2.toInt + v5.toInt
                · rw [if_pos c4]; rfl
                · rw [if_neg c4, if_neg (by omega)]; rfl
          · refine fin 5 ?_ ?_
            · unfold f11_copy f8_haveOneLane
              simp only [b1.1, b2.1, Option.bind_some, e10, if_false, t_mis hs, t_mis ht, q1, p1, if_true, finC, e00, a_ald hs (show 8 < 2 ^ 31 by decide), a_ald ht (show 8 < 2 ^ 31 by decide), q3, p3]
              rw [if_neg (nI_ne (by omega) (by omega) el)]
              rfl
            · unfold f12_copy
              simp only [a_put, b1.2, b2.2, Option.bind_some, e10, if_false, a_ald hs (show 8 < 2 ^ 31 by decide), a_ald ht (show 8 < 2 ^ 31 by decide), r1, q4, p4]
              rw [if_neg (nI_pos (by omega)), if_pos (nI_pos' (by omega)), if_neg (nI_ne (by omega) (by omega) el)]
              rfl
    · have b2 := t_isSheet.2 hw
      refine e_no (f := f11_copy (nI s) v2 v3 v4 v5) (g := f12_copy (nI s) v2 v3 v4 v5) h ?_ ?_
      · unfold f11_copy
        simp only [b1.1, b2.1, Option.bind_some, e00, e10, if_false, if_true]
      · unfold f12_copy
        simp only [a_put, b1.2, b2.2, Option.bind_some, e00, e10, if_false, if_true]
  · have b1 := t_isSheet.2 hv
    refine e_no (f := f11_copy v1 v2 v3 v4 v5) (g := f12_copy v1 v2 v3 v4 v5) h ?_ ?_
    · unfold f11_copy
      simp only [b1.1, Option.bind_some, e00, if_true]
    · unfold f12_copy
      simp only [a_put, b1.2, Option.bind_some, e00, if_true]
