/-! PURE: call -/
def gQ : Nat → Bool := fun n => n == 0 || n == 6 || n == 9
theorem gr0m {k j : Nat} (h : (187 ≤ k ∧ k ≤ 198) ∨ k = 184 ∨ k = 200 ∨ k = 201) : x_gr k j = 0 := by
  unfold x_gr
  rw [if_neg (by omega), if_neg (by omega), if_neg (by omega), if_neg (by omega), if_neg (by omega), if_neg (by omega), if_neg (by omega), if_neg (by omega), if_neg (by omega), if_neg (by omega), if_neg (by omega), if_neg (by omega)]
theorem pCQ {v s : Nat} (hv : rnr v) : ∀ k j, pC v s k j = true → gQ (x_gr k j) = true := by
  intro k j q
  have h' : v = 135 ∨ v = 147 := hv
  have := pCi q
  by_cases c : (136 ≤ k ∧ k ≤ 144) ∨ (146 ≤ k ∧ k ≤ 159) ∨ (131 ≤ k ∧ k ≤ 134)
  · rw [gr0 c]; rfl
  · rcases (show k = 135 ∧ (j = 7 ∨ j = 8) ∨ k = 145 ∨ k = 127 ∨ k = 129 ∨ k = 130 by omega) with ⟨rfl, rfl | rfl⟩ | rfl | rfl | rfl | rfl
    · rfl
    · rfl
    · rfl
    · show gQ (if j = 4 ∨ j = 5 then 9 else 0) = true
      split <;> rfl
    · rfl
    · rfl
theorem pDQ {h s : Nat} : ∀ k j, pD h s k j = true → g9 (x_gr k j) = true := by
  intro k j q
  have := pDi q
  by_cases c : (187 ≤ k ∧ k ≤ 198) ∨ k = 184 ∨ k = 200 ∨ k = 201
  · rw [gr0m c]; rfl
  · rcases (show k = 162 ∧ (j = 41 ∨ j = 44 ∨ j = 48 ∨ j = 57 ∨ j = 59 ∨ j = 60 ∨ j = 61 ∨ j = 62 ∨ j = 63 ∨ j = 64) ∨ k = 185 ∨ k = 186 by omega) with ⟨rfl, rfl | rfl | rfl | rfl | rfl | rfl | rfl | rfl | rfl | rfl⟩ | rfl | rfl <;> rfl
theorem q_call {P : xP} {O : xO} {F v0 t r v : Nat} {μc μm : xMu} (w : Pwf P) (hv : rnr v0) (pc : PC P μc) (cc : CC O F μc) (pm : PM P μm) (cm : CM O F μm) (ow : Owf P O) (fw : Fwf P F) (ht : t < pT P) (hr : r < 4) (hv3 : v < 1000003) :
    ∃ (a : Int32) (F' n : Nat) (μc' μm' : xMu), f7_callOutermost v0 (nI t) (nI r) (nI v) μc = some (a, μc') ∧ f12_outermost (nI t) (nI r) (nI v) μm = some (a, μm') ∧ CC O F' μc' ∧ CM O F' μm' ∧ Fwf P F' ∧ n ≤ 60 ∧ μc' v0 7 = nI n ∧ μm' 162 57 = nI n ∧ (∀ i, i < n → i < 40 → μc' (v0 + 10) i = μm' 198 i) ∧ gs (pC v0 0) μc μc' ∧ gs (pD 0 0) μm μm' := by
  have h' : v0 = 135 ∨ v0 = 147 := hv
  have gc : gs (pC v0 0) μc (x_wr (x_wr μc v0 7 0) v0 8 0) := (gs.refl.wr (pCy (by omega))).wr (pCy (by omega))
  have cc1 : CC O F (x_wr (x_wr μc v0 7 0) v0 8 0) := cc.of (by rw [x_wr_rd (by omega), x_wr_rd (by omega)]) (by rw [x_wr_rd (by omega), x_wr_rd (by omega)]) (by rw [x_wr_ne (by omega), x_wr_ne (by omega)]) (by rw [x_wr_ne (by omega), x_wr_ne (by omega)])
  obtain ⟨μc0, a1, a2, a3⟩ := t_call (v := v) (s := 0) w hv (pCP hv w pc gc) ow fw cc1 (by decide) ht hr (f7_runFrom 64)
  have a3' : ∀ a b, ¬ ((131 ≤ a ∧ a ≤ 133) ∨ a = v0 + 2 + 0 ∨ ((a = v0 + 8 ∨ a = v0 + 9) ∧ b = 0)) → μc0 a b = (x_wr (x_wr μc v0 7 0) v0 8 0) a b := fun a b q => a3 a b (decide_eq_false q)
  have gc0 : gs (pC v0 0) μc μc0 := gc.trans (a3.mono (fun a b q => pCy (by have := of_decide_eq_true q; omega)))
  let μ8 := x_wr (x_wr (x_wr (x_wr (x_wr (x_wr (x_wr (x_wr μm 162 48 0) 162 57 0) 162 59 0) 162 60 0) 162 61 0) 162 62 (nI v)) 162 63 1) 162 64 0
  have g8 : gs (pD 0 0) μm μ8 := by
    refine gs.wr (gs.wr (gs.wr (gs.wr (gs.wr (gs.wr (gs.wr (gs.wr gs.refl ?_) ?_) ?_) ?_) ?_) ?_) ?_) ?_ <;> exact pDy (by omega)
  have cm8 : CM O F μ8 := cm.of rfl rfl rfl rfl
  obtain ⟨μ9, d1, d2, d3, d4⟩ := u_row (s := 1) w (pDP pm g8) ow fw cm8 (by decide) ht hr
  have d4' : ∀ a b, ¬ ((a = 187 ∧ b = 1) ∨ (a = 188 ∧ 24 ≤ b) ∨ (a = 189 ∧ b = 1)) → μ9 a b = μ8 a b := fun a b q => d4 a b (by
    unfold pN pM
    rw [Bool.eq_false_iff]
    intro e
    simp only [Bool.or_eq_true, Bool.and_eq_true, beq_iff_eq, decide_eq_true_eq] at e
    omega)
  have g9m : gs (pD 0 0) μm μ9 := g8.trans (fun a b q => d4' a b (fun e => absurd q (by rw [pDy (by omega)]; decide)))
  obtain ⟨l24, lB⟩ := rowM_len (O := O) (F := F) (r := r) w ht
  have S : SS v0 P O F 0 0 μc0 μ9 := by
    refine ⟨⟨pCP hv w pc gc0, cc1.of (a3' _ _ (by omega)) (a3' _ _ (by omega)) (funext fun j => a3' _ _ (by omega)) (funext fun j => a3' _ _ (by omega)), ?_, ?_⟩, ⟨pDP pm g9m, cm8.of (d4' _ _ (by omega)) (d4' _ _ (by omega)) (funext fun j => d4' _ _ (by omega)) (funext fun j => d4' _ _ (by omega)), ?_, ?_⟩, ow, fw, by decide, by decide, fun i h => by omega⟩
    · rw [a3' _ _ (by omega), w_wr, if_neg (by omega), w_wr, if_pos ⟨rfl, rfl⟩]; rfl
    · rw [a3' _ _ (by omega), w_wr, if_pos ⟨rfl, rfl⟩]; rfl
    · rw [d4' _ _ (by omega)]; rfl
    · rw [d4' _ _ (by omega)]; rfl
  obtain ⟨rc, a, F', n', x', T, μc', μm', b1, b2, b3, b4, b5, b6, b7, b8, b9, b10, b11, b12, b13, b14⟩ := rsim 64 P v0 0 t 0 v F 0 0 (rowM P O F t r) O μc0 μ9 w hv (by decide) (by decide) S a2 ⟨d2, d3⟩ ht l24 lB (by decide) (by omega) hv3 (by rw [d4' _ _ (by omega)]; rfl) (by rw [d4' _ _ (by omega)]; rfl) (by rw [d4' _ _ (by omega)]; rfl) (by rw [d4' _ _ (by omega)]; rfl) (by rw [d4' _ _ (by omega)]; rfl)
  have hn' := b8.2.2.2.2.1
  refine ⟨cd rc a, F', n', μc', μm', ?_, ?_, b8.1.2.1, b8.2.1.2.1, b8.2.2.2.1, hn', b8.1.2.2.1, b8.2.1.2.2.1, b8.2.2.2.2.2.2, gc0.trans (pC_up b13 (by omega)), g9m.trans (pD_up b14 (by omega) (by omega))⟩
  · unfold f7_callOutermost
    rw [a_chk (rn1 hv).1, a_put, a_put, show f7_callAt (f7_runFrom 64) v0 0 (nI t) (nI r) (nI v) (x_wr (x_wr μc v0 7 0) v0 8 0) = _ from a1, show f7_runFrom 64 v0 (nI 0) 0 (nI v) μc0 = _ from b1]
    rfl
  · unfold f12_outermost
    rw [a_put, a_put, a_put, a_put, a_put, a_put, a_put, a_put, show f12_layRow 1 (nI t) (nI r) (x_wr (x_wr (x_wr (x_wr (x_wr (x_wr (x_wr (x_wr μm 162 48 0) 162 57 0) 162 59 0) 162 60 0) 162 61 0) 162 62 (nI v)) 162 63 1) 162 64 0) = some μ9 from d1]
    simp only [Option.bind_some]
    obtain ⟨f, hf⟩ : ∃ f, 1000 = f + 1 + T := ⟨999 - T, by omega⟩
    rw [hf, b2]
    unfold f12_outermost_l47
    rw [b10, if_neg (by decide), b9, if_pos (show nI 0 ≤ 0 by decide), b11]
    rcases (show rc = 0 ∨ rc = 1 by omega) with rfl | rfl
    · rw [if_pos (show nI 0 = 0 from rfl), b12 rfl]
      rfl
    · rw [if_neg (show ¬ nI 1 = 0 by decide)]
      rfl
theorem l_c56 (k : Int32 → xMu → Option (Int32 × xMu)) (v : Int32) : ∀ (f i : Nat) (μ : xMu), i ≤ 40 → 40 < i + f → f12_call_l56 k f v (nI i) μ = k v (x_cp μ 198 i 199 i (40 - i)) := by
  intro f
  induction f with
  | zero => intro i μ _ h; omega
  | succ f ih =>
    intro i μ hi h
    unfold f12_call_l56
    by_cases c : 40 ≤ i
    · rw [if_pos (show (40 : Int32) ≤ nI i from nI_le (a := 40) c (by omega)), show 40 - i = 0 by omega, cp_nil]
    · rw [if_neg (show ¬ (40 : Int32) ≤ nI i from nI_ge (b := 40) (by omega) (by decide)), a_ald (by omega) (by decide), a_ast (by omega) (by decide), nI_1, ih (i + 1) _ (by omega) (by omega), cp_step (by decide), show 40 - (i + 1) + 1 = 40 - i by omega]
theorem t_isC {P : xP} {μ : xMu} {v1 v2 v3 : Int32} (w : Pwf P) (pc : PC P μ) : (rb v1 (pT P) ∧ rb v2 4 ∧ rb v3 1000003 → f11_isCall μ v1 v2 v3 = some 1) ∧ (¬ (rb v1 (pT P) ∧ rb v2 4 ∧ rb v3 1000003) → f11_isCall μ v1 v2 v3 = some 0) := by
  have e0 : (v3 < 0) = (v3.toInt < 0) := propext (i_lt v3 0)
  have e4 : ((1000003 : Int32) ≤ v3) = (1000003 ≤ v3.toInt) := propext (i_le 1000003 v3)
  unfold f11_isCall
  simp only [e0, e4]
  refine ⟨fun ⟨h1, h2, h3⟩ => ?_, fun h => ?_⟩
  · have h31 := h3.1
    have h32 := h3.2
    rw [(t_isThing w pc).1 h1]
    simp only [Option.bind_some, e10, if_false]
    rw [t_rou.1 h2]
    simp only [Option.bind_some, e10, if_false]
    rw [if_neg (by omega), if_neg (by omega)]
  · rcases rb_dec v1 (pT P) with h1 | h1
    · rw [(t_isThing w pc).1 h1]
      simp only [Option.bind_some, e10, if_false]
      rcases rb_dec v2 4 with h2 | h2
      · rw [t_rou.1 h2]
        simp only [Option.bind_some, e10, if_false]
        by_cases c : v3.toInt < 0
        · rw [if_pos c]
        · rw [if_neg c, if_pos]
          rcases Int.lt_or_le v3.toInt 1000003 with d | d
          · exact absurd ⟨h1, h2, by unfold rb; omega⟩ h
          · exact d
      · rw [t_rou.2 h2]
        simp only [Option.bind_some, e00, if_true]
    · rw [(t_isThing w pc).2 h1]
      simp only [Option.bind_some, e00, if_true]
theorem u_num {v : Int32} : (rb v 1000003 → f12_isNumber v = some 1) ∧ (¬ rb v 1000003 → f12_isNumber v = some 0) := by
  unfold f12_isNumber
  refine ⟨fun h => ?_, fun h => ?_⟩
  · rw [m_rng (n := 1000003) (by decide) h]; rfl
  · rw [m_rngN (n := 1000003) (by decide) h]; rfl
theorem s_call : x_S_call x_R := by
  intro v1 v2 v3 μ h
  obtain ⟨P, O, F, w, pc, pm, ow, fw, cc, cm⟩ := h.2.2.2.2.2.2.2
  by_cases a : rb v1 (pT P) ∧ rb v2 4 ∧ rb v3 1000003
  · obtain ⟨h1, h2, h3⟩ := a
    have c0 := (t_isC w pc).1 ⟨h1, h2, h3⟩
    have u3 := u_num.1 h3
    have u2 : f12_in v2.toInt64 0 3 = some 1 := m_rng (n := 4) (by decide) h2
    obtain ⟨t, ht, rfl⟩ := rb_of h1
    obtain ⟨r, hr, rfl⟩ := rb_of h2
    obtain ⟨v, hv, rfl⟩ := rb_of h3
    have hrn : rnr 135 := Or.inl rfl
    -- the class's run leaves the reference's cells alone
    obtain ⟨a0, F0, n0, μ1, -, b1, -, -, -, -, -, -, -, -, bc, -⟩ := q_call w hrn pc cc pm cm ow fw ht hr hv
    have g1 : gs (fun k j => gQ (x_gr k j)) μ μ1 := bc.mono (pCQ hrn)
    have bc' : ∀ k j, 160 ≤ k → μ1 k j = μ k j := fun k j q => bc k j (pCn (by omega))
    have pm1 : PM P (x_wr μ1 162 0 0) := gPM (g := gQ) pm (g1.wr rfl) rfl
    have cm1 : CM O F (x_wr μ1 162 0 0) := (cm.of (bc' _ _ (by decide)) (bc' _ _ (by decide)) (funext fun j => bc' _ j (by decide)) (funext fun j => bc' _ j (by decide)) : CM O F μ1).t0
    obtain ⟨a, F', n, μ1', μ2, d1, d2, d3, d4, d5, d6, d7, d8, d9, d10, d11⟩ := q_call w hrn pc cc pm1 cm1 ow fw ht hr hv
    have eq : (a0, μ1) = (a, μ1') := Option.some.inj (b1.symm.trans d1)
    obtain ⟨rfl, rfl⟩ := Prod.mk.inj eq
    let μ3 := x_cp (x_wr μ2 162 65 (nI n)) 198 0 199 0 40
    have g2 : gs (fun k j => gQ (x_gr k j)) μ μ3 := (((g1.wr rfl).trans (d11.mono (fun k j q => by
      have := pDQ k j q
      revert this
      unfold g9 gQ
      intro this
      simp only [Bool.or_eq_true, beq_iff_eq] at this ⊢
      omega))).wr rfl).cp fun j => rfl
    have m1 : ∀ k j, k ≤ 161 → μ3 k j = μ1 k j := fun k j q => by
      show x_cp (x_wr μ2 162 65 (nI n)) 198 0 199 0 40 k j = _
      rw [x_cp_ne (by omega), x_wr_rd (by omega), d11 k j (pDn (by omega)), x_wr_rd (by omega)]
    refine ⟨a0, μ1, μ3, ?_, ?_, ?_⟩
    · unfold f11_call
      rw [c0]
      simp only [Option.bind_some, e10, if_false]
      rw [d1]
      rfl
    · unfold f12_call
      rw [a_put, (u_isThing w pm1).1 h1]
      simp only [Option.bind_some, e10, if_false]
      rw [u2]
      simp only [Option.bind_some, e10, if_false]
      rw [u3]
      simp only [Option.bind_some, e10, if_false]
      rw [d2]
      simp only [Option.bind_some]
      rw [a_put, d8, show (0 : Int32) = nI 0 from rfl, l_c56 _ _ 1000 0 _ (by decide) (by decide)]
    · refine h.grp gQ g2 (Or.inl rfl) (Or.inl rfl) (Or.inl rfl) (Or.inl rfl) (Or.inl rfl) (Or.inr ⟨n, d6, ?_, ?_, fun i a b => ?_⟩) (Or.inl rfl) (Or.inr ⟨P, O, F', w, ?_, ?_, ow, d5, ?_, ?_⟩)
      · rw [m1 _ _ (by decide)]; exact d7
      · rfl
      · rw [m1 _ _ (by decide)]
        refine (d9 i a b).trans ?_
        show _ = x_cp (x_wr μ2 162 65 (nI n)) 198 0 199 0 40 199 i
        unfold x_cp
        rw [if_pos (by omega), show 0 + (i - 0) = i by omega]
        rfl
      · exact gPC w pc g2 rfl
      · exact gPM pm g2 rfl
      · exact d3.of (m1 _ _ (by decide)) (m1 _ _ (by decide)) (funext fun j => m1 _ j (by decide)) (funext fun j => m1 _ j (by decide))
      · exact d4.of rfl rfl rfl rfl
  · refine ⟨-1000001, μ, x_wr μ 162 0 0, ?_, ?_, h.t0⟩
    · unfold f11_call
      rw [(t_isC w pc).2 a]
      simp only [Option.bind_some, e00, if_true]
    · unfold f12_call
      rw [a_put]
      rcases rb_dec v1 (pT P) with h1 | h1
      · rw [(u_isThing w pm.t0).1 h1]
        simp only [Option.bind_some, e10, if_false]
        rcases rb_dec v2 4 with h2 | h2
        · rw [m_rng (n := 4) (hi := 3) (by decide) h2]
          simp only [Option.bind_some, e10, if_false]
          rw [u_num.2 (fun h3 => a ⟨h1, h2, h3⟩)]
          simp only [Option.bind_some, e00, if_true]
        · rw [m_rngN (n := 4) (hi := 3) (by decide) h2]
          simp only [Option.bind_some, e00, if_true]
      · rw [(u_isThing w pm.t0).2 h1]
        simp only [Option.bind_some, e00, if_true]
