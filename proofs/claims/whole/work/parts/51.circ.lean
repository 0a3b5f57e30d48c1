/-! PURE: layer, count, point, wake -/
theorem sw_at {α : Type} {d : Option α} : ∀ (L : List (Option α)) (a j : Nat) (h : j < L.length), a + j < 2 ^ 31 → x_sw (nI (a + j)) (nI a) L d = L[j] := by
  intro L
  induction L with
  | nil => intro a j h; cases h
  | cons x L ih =>
    intro a j h hb
    unfold x_sw
    cases j with
    | zero => rw [show a + 0 = a from rfl, if_pos rfl]; rfl
    | succ j =>
      rw [if_neg (nI_ne (by omega) (by omega) (by omega)), nI_1, show a + (j + 1) = a + 1 + j by omega, ih (a + 1) j (by simpa using h) (by omega)]
      rfl
theorem sw_no {α : Type} {d : Option α} {x : Int32} : ∀ (L : List (Option α)) (a : Nat), a + L.length < 2 ^ 31 → ¬ ((a : Int) ≤ x.toInt ∧ x.toInt < a + L.length) → x_sw x (nI a) L d = d := by
  intro L
  induction L with
  | nil => intro a _ _; rfl
  | cons y L ih =>
    intro a hb hx
    simp only [List.length_cons] at hb hx
    unfold x_sw
    rw [if_neg, nI_1]
    · refine ih (a + 1) (by omega) ?_
      intro q
      apply hx
      omega
    · intro e
      apply hx
      rw [e, nI_toInt (by omega)]
      omega
def g9 : Nat → Bool := fun n => n == 0 || n == 9
theorem x_R.cir {P : xP} {O : xO} {F : Nat} {μ μ' : xMu} (h : x_R μ) (w : Pwf P) (pc : PC P μ) (pm : PM P μ) (hs : gs (fun k j => g9 (x_gr k j)) μ μ') (ow : Owf P O) (fw : Fwf P F) (cc : CC O F μ') (cm : CM O F μ') : x_R μ' :=
  h.grp g9 hs (Or.inl rfl) (Or.inl rfl) (Or.inl rfl) (Or.inl rfl) (Or.inl rfl) (Or.inl rfl) (Or.inl rfl) (Or.inr ⟨P, O, F, w, gPC w pc hs rfl, gPM pm hs rfl, ow, fw, cc, cm⟩)
theorem t_aw {P : xP} {O : xO} {F : Nat} {μ : xMu} (w : Pwf P) (pc : PC P μ) (ow : Owf P O) (fw : Fwf P F) (cc : CC O F μ) : ∃ M, f2_awakeSet μ = some (nI M) ∧ M < 256 ∧ ∀ l, M.testBit l = aw P O F l := by
  obtain ⟨A, a1, a2, a3⟩ := t_au w pc ow cc
  refine ⟨A ||| F, ?_, or_lt a2 fw.1, fun l => ?_⟩
  · unfold f2_awakeSet
    rw [a1, cc.2.1]
    simp only [Option.bind_some]
    rw [b_or]
  · rw [Nat.testBit_or, a3]
    rfl
theorem t_isAw {P : xP} {O : xO} {F : Nat} {μ : xMu} (w : Pwf P) (pc : PC P μ) (ow : Owf P O) (fw : Fwf P F) (cc : CC O F μ) {l : Nat} (h8 : l < 8) : f2_isAwake μ (nI l) = some (if aw P O F l then 1 else 0) := by
  obtain ⟨M, a1, a2, a3⟩ := t_aw w pc ow fw cc
  unfold f2_isAwake
  rw [a1]
  simp only [Option.bind_some, b_tb1 (show M < 2 ^ 31 by omega) h8, a3]
  split <;> rfl
theorem CM.t0 {O : xO} {F : Nat} {μ : xMu} (h : CM O F μ) : CM O F (x_wr μ 162 0 0) := ⟨h.1, h.2.1, h.2.2⟩
theorem s_layer : x_S_layer x_R := by
  intro v1 v2 μ h
  obtain ⟨P, O, F, w, pc, pm, ow, fw, cc, cm⟩ := h.2.2.2.2.2.2.2
  refine ro_of (f := fun μ => f11_layer μ v1 v2) (g := fun μ => f12_layer v1 v2 μ) ?_
  rcases rb_dec v1 (pL P) with hv | hv
  · have b1 := (t_isLayer w pc).1 hv
    have b2 := (u_isLayer w pm.t0).1 hv
    obtain ⟨l, hl, rfl⟩ := rb_of hv
    have h8 := p8 w hl
    obtain ⟨a1, a2, a3, a4, -, -⟩ := pc.2.2.2.1 l hl
    obtain ⟨d1, d2, d3, d4, -, -⟩ := pm.t0.2.2.2.1 l hl
    rcases rb_dec v2 6 with hk | hk
    · have k1 : f12_in v2.toInt64 0 5 = some 1 := m_rng (n := 6) (by decide) hk
      obtain ⟨q, hq, rfl⟩ := rb_of hk
      have go : ∀ r, f11_layer μ (nI l) (nI q) = some r → f12_layer (nI l) (nI q) μ = some (r, x_wr μ 162 0 0) → ∃ (r : Int32) (μ2 : xMu), f11_layer μ (nI l) (nI q) = some r ∧ f12_layer (nI l) (nI q) μ = some (r, μ2) ∧ x_R μ2 := fun r x y => ⟨r, _, x, y, h.t0⟩
      unfold f11_layer f12_layer at go ⊢
      simp only [a_put, b1, b2, k1, Option.bind_some, e10, if_false, a_rld h8 (show 8 < 2 ^ 31 by decide) (r_layer l h8).1, a_chk (r_layer l h8).2, a_ald h8 (show 8 < 2 ^ 31 by decide), a1, a2, a3, a4, d1, d2, d3, d4, t_isAw w pc ow fw cc h8, u_aw w pm.t0 ow fw cm.t0 hl, t_opn w ow cc hl, u_opn w ow cm.t0 hl] at go ⊢
      rcases (show q = 0 ∨ q = 1 ∨ q = 2 ∨ q = 3 ∨ q = 4 ∨ q = 5 by omega) with rfl | rfl | rfl | rfl | rfl | rfl
      · exact go _ rfl rfl
      · exact go _ rfl rfl
      · exact go _ rfl rfl
      · exact go _ rfl rfl
      · refine go (if aw P O F l then 1 else 0) ?_ ?_
        · cases aw P O F l <;> rfl
        · cases aw P O F l <;> rfl
      · exact go _ rfl rfl
    · refine ⟨-1000001, x_wr μ 162 0 0, ?_, ?_, h.t0⟩
      · unfold f11_layer
        simp only [b1, Option.bind_some, e10, if_false, a_rld h8 (show 8 < 2 ^ 31 by decide) (r_layer l h8).1]
        refine sw_no _ 0 (by simp only [List.length_cons, List.length_nil]; omega) ?_
        unfold rb at hk
        simp only [List.length_cons, List.length_nil]
        omega
      · unfold f12_layer
        simp only [a_put, b2, Option.bind_some, e10, if_false, m_rngN (n := 6) (hi := 5) (by decide) hk, e00, if_true]
  · refine ⟨-1000001, x_wr μ 162 0 0, ?_, ?_, h.t0⟩
    · unfold f11_layer
      simp only [(t_isLayer w pc).2 hv, Option.bind_some, e00, if_true]
    · unfold f12_layer
      simp only [a_put, (u_isLayer w pm.t0).2 hv, Option.bind_some, e00, if_true]
theorem l_pt (k : xMu → Option (Int32 × xMu)) : ∀ (f i : Nat) (μ : xMu), i ≤ 4 → 4 < i + f → f12_point_l7 k f (nI i) μ = k (x_cp μ 183 i 184 i (4 - i)) := by
  intro f
  induction f with
  | zero => intro i μ _ h; omega
  | succ f ih =>
    intro i μ hi h
    unfold f12_point_l7
    by_cases c : 4 ≤ i
    · rw [if_pos (show (4 : Int32) ≤ nI i from nI_le (a := 4) c (by omega)), show 4 - i = 0 by omega, cp_nil]
    · rw [if_neg (show ¬ (4 : Int32) ≤ nI i from nI_ge (b := 4) (by omega) (by decide)), a_ald (by omega) (by decide), a_ast (by omega) (by decide), nI_1, ih (i + 1) _ (by omega) (by omega), cp_step (by decide), show 4 - (i + 1) + 1 = 4 - i by omega]
def fv (μ : xMu) (f : Nat) : Nat := (μ 128 f).toNatClampNeg
theorem fv_c {μ : xMu} (h : FT μ) : fc (fv μ) 128 μ ∧ fc (fv μ) 183 μ := by
  refine ⟨fun f hf => ?_, fun f hf => ?_⟩
  · obtain ⟨v, hv, e1, e2⟩ := h f hf
    unfold fv
    rw [e1, nI_clamp (by omega)]
    exact ⟨hv, rfl⟩
  · obtain ⟨v, hv, e1, e2⟩ := h f hf
    unfold fv
    rw [e1, e2, nI_clamp (by omega)]
    exact ⟨hv, rfl⟩
theorem s_point : x_S_point x_R := by
  intro μ h
  obtain ⟨P, O, F, w, pc, pm, ow, fw, cc, cm⟩ := h.2.2.2.2.2.2.2
  obtain ⟨A, a1, a2, a3⟩ := t_au w pc ow cc
  obtain ⟨f1, f2⟩ := fv_c h.2.2.2.2.1
  have q := t_fpt w pc ow cc (c := 128) (by decide) (by decide) f1 a1
  have pm1 : PM P (x_cp (x_wr (x_wr μ 127 5 (nI (fpt P A (fv μ)))) 162 0 0) 183 0 184 0 4) := gPM (g := g9) pm (((gs.refl.wr rfl).wr rfl).cp fun j => rfl) rfl
  have cm1 : CM O F (x_cp (x_wr (x_wr μ 127 5 (nI (fpt P A (fv μ)))) 162 0 0) 183 0 184 0 4) := cm.of rfl rfl rfl rfl
  have fc1 : fc (fv μ) 184 (x_cp (x_wr (x_wr μ 127 5 (nI (fpt P A (fv μ)))) 162 0 0) 183 0 184 0 4) := by
    intro f hf
    refine ⟨(f2 f hf).1, ?_⟩
    unfold x_cp
    rw [if_pos (by omega), show 0 + (f - 0) = f by omega]
    exact (f2 f hf).2
  refine ⟨nI (fpt P A (fv μ)), x_wr μ 127 5 (nI (fpt P A (fv μ))), x_wr (x_cp (x_wr (x_wr μ 127 5 (nI (fpt P A (fv μ)))) 162 0 0) 183 0 184 0 4) 162 44 (nI (fpt P A (fv μ))), ?_, ?_, ?_⟩
  · unfold f11_point f2_takePoint
    rw [q]
    rfl
  · unfold f12_point
    rw [a_put]
    refine (l_pt _ 1000 0 _ (by omega) (by omega)).trans ?_
    rw [u_fnd w pm1 ow cm1 fc1 a3]
    rfl
  · refine h.cir w pc pm ((((gs.refl.wr rfl).wr rfl).cp fun j => rfl).wr rfl) ow (fpt_wf (A := A) (v := fv μ) w) ?_ ?_
    · exact ⟨cc.1, rfl, cc.2.2⟩
    · exact ⟨cm.1, rfl, cm.2.2⟩
