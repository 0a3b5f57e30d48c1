/-! PURE: kind tests -/
theorem t_isKind {x : Int32} : (rb x 6 → f0_isKind x = some 1) ∧ (¬ rb x 6 → f0_isKind x = some 0) := by
  have e : f0_isKind x = (if x < 0 then some 0 else if (6 : Int32) ≤ x then some 0 else some 1) := by
    unfold f0_isKind
    by_cases c : x < 0
    · rw [if_pos c, if_pos c]
    · rw [if_neg c, if_neg c]
      by_cases d : (5 : Int32) < x
      · rw [if_pos d, if_pos]
        rw [i_lt] at d; rw [i_le]
        have e5 : (5 : Int32).toInt = 5 := by decide
        have e6 : (6 : Int32).toInt = 6 := by decide
        omega
      · rw [if_neg d, if_neg]
        rw [i_lt] at d; rw [i_le]
        have e5 : (5 : Int32).toInt = 5 := by decide
        have e6 : (6 : Int32).toInt = 6 := by decide
        omega
  rw [e]
  exact ⟨fun h => c_rng (n := 6) (by decide) h, fun h => c_rngN (n := 6) (by decide) h⟩
theorem kOf_lt (P : xP) (l : Nat) : kOf P l < 6 := by
  unfold kOf
  split
  · decide
  · split
    · decide
    · split
      · split <;> decide
      · decide
def isOf (a b : Nat) : Bool := a == b || b == 0 || (b == 3 && a == 4) || (b == 1 && a == 2)
theorem t_isOne (μ : xMu) : ∀ a b : Nat, a < 6 → b < 6 → 0 < a → f0_isOne μ (nI a) (nI b) = some (if isOf a b then 1 else 0) ∧ f12_isOf (nI a) (nI b) = some (if isOf a b then 1 else 0) := by
  intro a b ha hb h0
  rcases (show a = 1 ∨ a = 2 ∨ a = 3 ∨ a = 4 ∨ a = 5 by omega) with rfl | rfl | rfl | rfl | rfl <;>
  rcases (show b = 0 ∨ b = 1 ∨ b = 2 ∨ b = 3 ∨ b = 4 ∨ b = 5 by omega) with rfl | rfl | rfl | rfl | rfl | rfl <;> exact ⟨rfl, rfl⟩
theorem kOf_pos (P : xP) (l : Nat) : 0 < kOf P l := by
  unfold kOf
  split
  · decide
  · split
    · decide
    · split
      · split <;> decide
      · decide
theorem s_as : x_S_as x_R := by
  intro v1 v2 μ h
  obtain ⟨P, O, F, w, pc, pm, ow, fw, cc, cm⟩ := h.2.2.2.2.2.2.2
  rcases rb_dec v1 (pL P) with hv | hv
  · have b1 := (t_isLayer w pc).1 hv
    rcases rb_dec v2 6 with hk | hk
    · obtain ⟨l, hl, rfl⟩ := rb_of hv
      obtain ⟨q, hq, rfl⟩ := rb_of hk
      have h8 := p8 w hl
      have b2 := t_isKind.1 hk
      have b3 := t_kindOf w pc hl
      have b4 := (t_isOne μ (kOf P l) q (kOf_lt P l) hq (kOf_pos P l))
      have m3 : f12_in (nI q).toInt64 0 5 = some 1 := m_rng (n := 6) (by decide) hk
      have cls : f11_as (nI l) (nI q) μ = if isOf (kOf P l) q then some (nI (P 3 l 1), x_wr μ 0 10 0) else some (-1000010 - 3, x_wr μ 0 10 3) := by
        unfold f11_as
        simp only [b1, b2, Option.bind_some, e10, if_false, a_rld h8 (show 8 < 2 ^ 31 by decide) (r_layer l h8).1, b3, b4.1, a_chk (r_layer l h8).2, finC, finO, (pc.2.2.2.1 l hl).2.1]
        cases isOf (kOf P l) q
        · rw [if_neg Bool.false_ne_true, if_pos rfl, if_neg Bool.false_ne_true]
        · rw [if_pos rfl, if_neg (show ¬ (1 : Int32) = 0 by decide), if_pos rfl]
      have ref : ∀ μ1, PM P μ1 → f12_as (nI l) (nI q) μ1 = if isOf (kOf P l) q then some (nI (P 3 l 1), x_wr (x_wr μ1 162 0 0) 162 1 0) else some (-1000010 - 3, x_wr (x_wr (x_wr μ1 162 0 0) 162 1 0) 162 1 3) := by
        intro μ1 pm1
        have p1 : PM P (x_wr μ1 162 0 0) := pm1.t0
        have p2 : PM P (x_wr (x_wr μ1 162 0 0) 162 1 0) := gPM (g := g1) p1 (gs.refl.wr rfl) rfl
        unfold f12_as
        simp only [a_put, (u_isLayer w p1).1 hv, m3, Option.bind_some, e10, if_false, u_kindOf w p2 hl, b4.2, finM, a_ald h8 (show 8 < 2 ^ 31 by decide), (p2.2.2.2.1 l hl).2.1]
        cases isOf (kOf P l) q
        · rw [if_neg Bool.false_ne_true, if_pos rfl, if_neg Bool.false_ne_true]
        · rw [if_pos rfl, if_neg (show ¬ (1 : Int32) = 0 by decide), if_pos rfl]
      rw [cls]
      cases e : isOf (kOf P l) q with
      | true =>
        refine ⟨_, _, _, rfl, ?_, h.fn0⟩
        rw [ref _ (gPM (g := g1) pm (gs.refl.wr rfl) rfl), e, if_pos rfl]
      | false =>
        refine ⟨_, _, _, rfl, ?_, h.fnd 3⟩
        rw [ref _ (gPM (g := g1) pm (gs.refl.wr rfl) rfl), e, if_neg Bool.false_ne_true]
        rfl
    · refine ⟨-1000001, μ, x_wr μ 162 0 0, ?_, ?_, h.t0⟩
      · unfold f11_as
        rw [b1, t_isKind.2 hk]
        rfl
      · unfold f12_as
        simp only [a_put]
        rw [(u_isLayer w pm.t0).1 hv, m_rngN (n := 6) (hi := 5) (by decide) hk]
        rfl
  · refine ⟨-1000001, μ, x_wr μ 162 0 0, ?_, ?_, h.t0⟩
    · unfold f11_as
      rw [(t_isLayer w pc).2 hv]
      rfl
    · unfold f12_as
      simp only [a_put]
      rw [(u_isLayer w pm.t0).2 hv]
      rfl
/-! sheets -/
theorem t_isSheet {x : Int32} : (rb x 8 → f8_isSheet x = some 1 ∧ f12_isSheet x = some 1) ∧ (¬ rb x 8 → f8_isSheet x = some 0 ∧ f12_isSheet x = some 0) := by
  unfold f8_isSheet f12_isSheet
  refine ⟨fun h => ⟨c_rng (n := 8) (by decide) h, ?_⟩, fun h => ⟨c_rngN (n := 8) (by decide) h, ?_⟩⟩
  · rw [m_rng (n := 8) (by decide) h]; rfl
  · rw [m_rngN (n := 8) (by decide) h]; rfl
theorem i3 : (3 : Int32).toInt = 3 := by decide
theorem i2 : (2 : Int32).toInt = 2 := by decide
theorem t_isLane {x : Int32} : (rb x 3 → f8_isLane x = some 1 ∧ f12_in x.toInt64 0 2 = some 1) ∧ (¬ rb x 3 → f8_isLane x = some 0 ∧ f12_in x.toInt64 0 2 = some 0) := by
  have e : f8_isLane x = (if x < 0 then some 0 else if (3 : Int32) ≤ x then some 0 else some 1) := by
    unfold f8_isLane
    by_cases c : x < 0
    · rw [if_pos c, if_pos c]
    · rw [if_neg c, if_neg c]
      have := i2; have := i3
      by_cases d : (2 : Int32) < x
      · rw [if_pos d, if_pos]
        rw [i_lt] at d; rw [i_le]
        omega
      · rw [if_neg d, if_neg]
        rw [i_lt] at d; rw [i_le]
        omega
  rw [e]
  exact ⟨fun h => ⟨c_rng (n := 3) (by decide) h, m_rng (n := 3) (by decide) h⟩, fun h => ⟨c_rngN (n := 3) (by decide) h, m_rngN (n := 3) (by decide) h⟩⟩
/-- a run of places filled -/
def x_fl (μ : xMu) (k a b : Nat) (v : Int32) : xMu := fun x y => if x = k ∧ a ≤ y ∧ y < b then v else μ x y
theorem x_fl_nil {μ : xMu} {k a b : Nat} {v : Int32} (h : b ≤ a) : x_fl μ k a b v = μ := by
  funext x y
  unfold x_fl
  rw [if_neg (by omega)]
theorem x_fl_cons {μ : xMu} {k a b : Nat} {v : Int32} (h : a < b) : x_fl (x_wr μ k a v) k (a + 1) b v = x_fl μ k a b v := by
  funext x y
  unfold x_fl x_wr
  by_cases c : x = k ∧ a ≤ y ∧ y < b
  · rw [if_pos c]
    by_cases d : y = a
    · rw [if_neg (by omega), if_pos ⟨c.1, d⟩]
    · rw [if_pos (by omega)]
  · rw [if_neg c, if_neg (by omega), if_neg (by omega)]
theorem gs.fl {p : Nat → Nat → Bool} {μ μ' : xMu} {k a b : Nat} {v : Int32} (h : gs p μ μ') (hk : ∀ j, p k j = true) : gs p μ (x_fl μ' k a b v) := fun x y hp => by
  unfold x_fl
  rw [if_neg]
  · exact h x y hp
  · rintro ⟨rfl, -⟩
    rw [hk] at hp
    cases hp
theorem l_lay (k : xMu → Option xMu) {s n : Nat} (hs : s < 8) (hn : n ≤ 40) : ∀ (f i : Nat) (μ : xMu), i ≤ n → n < i + f → f8_lay_l24 k f (nI s) (nI n) (nI i) μ = k (x_fl μ (6 + s) i n 0) := by
  intro f
  induction f with
  | zero =>
    intro i μ _ h
    omega
  | succ f ih =>
    intro i μ hi h
    unfold f8_lay_l24
    by_cases c : n ≤ i
    · rw [if_pos (nI_le c (by omega)), x_fl_nil c]
    · rw [if_neg (nI_ge (by omega) (by omega)), a_rld hs (by decide) (r_item s hs).1, a_chk (r_item s hs).2.1, (r_item s hs).2.2, a_ast (by omega) (by decide), nI_1, ih _ _ (by omega) (by omega), x_fl_cons (by omega)]
theorem l_she (k : Int32 → xMu → Option (Int32 × xMu)) {s : Nat} {v : Int32} (hs : s < 8) : ∀ (f i : Nat) (μ : xMu), i ≤ 40 → 40 < i + f → f12_sheet_l65 k f (nI s) v (nI i) μ = k v (x_fl μ 165 (40 * s + i) (40 * s + 40) 0) := by
  intro f
  induction f with
  | zero =>
    intro i μ _ h
    omega
  | succ f ih =>
    intro i μ hi h
    unfold f12_sheet_l65
    by_cases c : 40 ≤ i
    · rw [if_pos (show (40 : Int32) ≤ nI i from nI_le (a := 40) c (by omega)), x_fl_nil (by omega)]
    · rw [if_neg (show ¬ (40 : Int32) ≤ nI i from nI_ge (b := 40) (by omega) (by decide)), show (40 : Int32) = nI 40 from rfl, pk_mul, nI_add, a_ast (by omega) (by decide), nI_1, ih _ _ (by omega) (by omega), show 40 * s + (i + 1) = (40 * s + i) + 1 by omega, x_fl_cons (by omega)]
theorem i40 : (40 : Int32).toInt = 40 := by decide
def g3 : Nat → Bool := fun n => n == 0 || n == 1 || n == 3
theorem x_R.shs {μ μ' : xMu} (h : x_R μ) (hs : gs (fun k j => g3 (x_gr k j)) μ μ') (e : μ' 0 10 = μ' 162 1) (o : SH μ') : x_R μ' := h.grp g3 hs (Or.inr e) (Or.inl rfl) (Or.inr o) (Or.inl rfl) (Or.inl rfl) (Or.inl rfl) (Or.inl rfl) (Or.inl ⟨rfl, rfl⟩)
theorem g3i {s j : Nat} (hs : s < 8) : g3 (x_gr (6 + s) j) = true := by rw [gr3 (by omega) (by omega)]; rfl
def SH1 (μ : xMu) (s : Nat) : Prop := (μ 2 s = 0 ∧ μ 163 s = -1) ∨ (μ 2 s = 1 ∧ ∃ la n, la < 3 ∧ n ≤ 40 ∧ μ 3 s = nI la ∧ μ 163 s = nI la ∧ μ 4 s = nI n ∧ μ 164 s = nI n ∧ ∀ i, i < n → μ (6 + s) i = μ 165 (40 * s + i))
theorem n6 {s : Nat} (hs : s < 8) : (¬ 0 = 6 + s) ∧ (¬ 2 = 6 + s) ∧ (¬ 3 = 6 + s) ∧ (¬ 4 = 6 + s) ∧ (¬ 162 = 6 + s) ∧ (¬ 163 = 6 + s) ∧ (¬ 164 = 6 + s) ∧ (¬ 165 = 6 + s) ∧ (¬ 6 + s = 0) ∧ (¬ 6 + s = 2) ∧ (¬ 6 + s = 3) ∧ (¬ 6 + s = 4) ∧ (¬ 6 + s = 162) ∧ (¬ 6 + s = 163) ∧ (¬ 6 + s = 164) ∧ (¬ 6 + s = 165) := by omega
theorem SH1.of {μ μ' : xMu} {s : Nat} (h : SH1 μ s) (h2 : μ' 2 s = μ 2 s) (h3 : μ' 3 s = μ 3 s) (h4 : μ' 4 s = μ 4 s) (h5 : μ' 163 s = μ 163 s) (h6 : μ' 164 s = μ 164 s) (h7 : ∀ i, i < 40 → μ' (6 + s) i = μ (6 + s) i) (h8 : ∀ i, i < 40 → μ' 165 (40 * s + i) = μ 165 (40 * s + i)) : SH1 μ' s := by
  unfold SH1 at h ⊢
  rw [h2, h3, h4, h5, h6]
  rcases h with h | ⟨a, la, n, b, c, d, e, f, g, i⟩
  · exact Or.inl h
  · refine Or.inr ⟨a, la, n, b, c, d, e, f, g, fun j hj => ?_⟩
    rw [h7 j (by omega), h8 j (by omega)]
    exact i j hj
theorem s_sheet : x_S_sheet x_R := by
  intro v1 v2 v3 μ h
  have no : f11_sheet v1 v2 v3 μ = some (-1000001, μ) → f12_sheet v1 v2 v3 μ = some (-1000001, x_wr μ 162 0 0) → ∃ (r : Int32) (μ1 μ2 : xMu), f11_sheet v1 v2 v3 μ = some (r, μ1) ∧ f12_sheet v1 v2 v3 μ1 = some (r, μ2) ∧ x_R μ2 := fun a b => ⟨_, _, _, a, b, h.t0⟩
  rcases rb_dec v1 8 with hv | hv
  · have b1 := t_isSheet.1 hv
    rcases rb_dec v2 3 with hl | hl
    · have b2 := t_isLane.1 hl
      by_cases c : v3 ≤ 40
      · by_cases d : 0 ≤ v3
        · obtain ⟨s, hs, rfl⟩ := rb_of hv
          obtain ⟨la, hla, rfl⟩ := rb_of hl
          obtain ⟨n, hn, rfl⟩ : ∃ n, n < 41 ∧ v3 = nI n := i_of d (by rw [i_le, i40] at c; omega)
          have cls : f11_sheet (nI s) (nI la) (nI n) μ = some (nI n, x_wr (x_fl (x_wr (x_wr (x_wr μ 2 s 1) 3 s (nI la)) 4 s (nI n)) (6 + s) 0 n 0) 0 10 0) := by
            unfold f11_sheet f8_lay
            simp only [b1.1, b2.1, Option.bind_some, e10, if_false, if_pos c, if_pos d, a_ast hs (show 8 < 2 ^ 31 by decide)]
            rw [show (0 : Int32) = nI 0 from rfl, l_lay _ hs (by omega) _ _ _ (by omega) (by omega)]
            rfl
          refine ⟨_, _, ?m2, cls, ?_, ?_⟩
          case m2 => exact x_fl (x_wr (x_wr (x_wr (x_wr (x_wr (x_fl (x_wr (x_wr (x_wr μ 2 s 1) 3 s (nI la)) 4 s (nI n)) (6 + s) 0 n 0) 0 10 0) 162 0 0) 162 1 0) 163 s (nI la)) 164 s (nI n)) 165 (40 * s + 0) (40 * s + 40) 0
          · unfold f12_sheet
            simp only [a_put, b1.2, b2.2, Option.bind_some, e10, if_false, if_pos c, if_pos d, a_ast hs (show 8 < 2 ^ 31 by decide)]
            rw [show ∀ k v μ, f12_sheet_l65 k 1000 (nI s) v 0 μ = f12_sheet_l65 k 1000 (nI s) v (nI 0) μ from fun _ _ _ => rfl, l_she _ hs _ _ _ (by omega) (by omega)]
          · refine h.shs ?_ ?_ ?_
            · exact ((((((((((gs.refl.wr rfl).wr rfl).wr rfl).fl fun j => g3i hs).wr rfl).wr rfl).wr rfl).wr rfl).wr rfl).fl fun j => rfl)
            · rfl
            · intro t ht
              by_cases e : t = s
              · subst e
                refine Or.inr ⟨?_, la, n, hla, by omega, ?_, ?_, ?_, ?_, fun i hi => ?_⟩
                · simp [x_fl, x_wr, n6 hs]
                · simp [x_fl, x_wr, n6 hs]
                · simp [x_fl, x_wr, n6 hs]
                · simp [x_fl, x_wr, n6 hs]
                · simp [x_fl, x_wr, n6 hs]
                · have q1 : i < 40 := by omega
                  have q2 : ¬ 6 + t = 165 := by omega
                  have q3 : ¬ 6 + t = 164 := by omega
                  have q4 : ¬ 6 + t = 163 := by omega
                  have q5 : ¬ 6 + t = 162 := by omega
                  simp [x_fl, x_wr, hi, q1, q2, q3, q4, q5]
              · refine SH1.of (h.2.2.1 t ht) ?_ ?_ ?_ ?_ ?_ (fun i hi => ?_) (fun i hi => ?_)
                · simp [x_fl, x_wr, e, n6 hs]
                · simp [x_fl, x_wr, e, n6 hs]
                · simp [x_fl, x_wr, e, n6 hs]
                · simp [x_fl, x_wr, e, n6 hs]
                · simp [x_fl, x_wr, e, n6 hs]
                · have q2 : ¬ 6 + t = 165 := by omega
                  have q3 : ¬ 6 + t = 164 := by omega
                  have q4 : ¬ 6 + t = 163 := by omega
                  have q5 : ¬ 6 + t = 162 := by omega
                  have q6 : ¬ 6 + t = 2 := by omega
                  have q7 : ¬ 6 + t = 3 := by omega
                  have q8 : ¬ 6 + t = 4 := by omega
                  simp [x_fl, x_wr, e, q2, q3, q4, q5, q6, q7, q8]
                · have q1 : ¬ (40 * s ≤ 40 * t + i ∧ 40 * t + i < 40 * s + 40) := by omega
                  have q2 : ¬ 165 = 6 + s := by omega
                  simp [x_fl, x_wr, q1, q2]
        · refine ⟨-1000010 - 4, x_wr μ 0 10 4, x_fn μ 4, ?_, ?_, h.fnd 4⟩
          · unfold f11_sheet
            simp only [b1.1, b2.1, Option.bind_some, e10, if_false, if_pos c, if_neg d, finC]
          · unfold f12_sheet
            simp only [a_put, b1.2, b2.2, Option.bind_some, e10, if_false, if_pos c, if_neg d, finM]
            rfl
      · refine no ?_ ?_
        · unfold f11_sheet
          simp only [b1.1, b2.1, Option.bind_some, e10, if_false, if_neg c]
        · unfold f12_sheet
          simp only [a_put, b1.2, b2.2, Option.bind_some, e10, if_false, if_neg c]
    · have b2 := t_isLane.2 hl
      refine no ?_ ?_
      · unfold f11_sheet
        simp only [b1.1, b2.1, Option.bind_some, e10, if_false, e00, if_true]
      · unfold f12_sheet
        simp only [a_put, b1.2, b2.2, Option.bind_some, e10, if_false, e00, if_true]
  · have b1 := t_isSheet.2 hv
    refine no ?_ ?_
    · unfold f11_sheet
      simp only [b1.1, Option.bind_some, e00, if_true]
    · unfold f12_sheet
      simp only [a_put, b1.2, Option.bind_some, e00, if_true]
