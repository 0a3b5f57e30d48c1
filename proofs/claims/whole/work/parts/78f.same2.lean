/-! PURE: same, class and reference -/
def K20 : Int32 → Int32 → xMu → Option (Int32 × xMu) := fun (y8 : Int32) (y9 : Int32) (μ10 : xMu) => (f9_changesNothing_j127 y8 y9 μ10)
def K78 : Int32 → xMu → Option (Int32 × xMu) := fun (y15 : Int32) (μ16 : xMu) => (f12_same_j171 y15 μ16)
theorem t_chn {l : Nat} {v2 v3 v4 : Int32} {μ : xMu} (hl : l < 8) : f9_changesNothing (nI l) v2 v3 v4 μ = f9_changesNothing_l20 K20 1000 v2 v3 v4 (μ 127 5) (nI (2 ^ l)) (nI 1) (nI 0) μ := by
  unfold f9_changesNothing f2_foundSet
  rw [Option.bind_some, b_sh l hl]
  rfl
theorem t_sme {P : xP} {O : xO} {F A l t r v g N : Nat} {μ ν : xMu} (w : Pwf P) (pc : PC P μ) (ow : Owf P O) (fw : Fwf P F) (cc : CC O F μ) (pmν : PM P ν) (cmν : CM O F ν) (hA : ∀ l, A.testBit l = awU P O l) (hl : l < 8) (ht : t < pT P) (hr : r < 4) (hv : v < 1000003) (hg : 1 ≤ g ∧ g ≤ 3) (hN : N ≤ 256) (eN : (((nI g + 1) * (nI g + 1)) * (nI g + 1)) * (nI g + 1) = nI N) :
    ∃ b c μ1 μ2, f9_gather (nI g) μ = some (c, μ1) ∧ f9_changesNothing (nI l) (nI t) (nI r) (nI v) μ1 = some (nI b, μ2) ∧ b < 2 ∧ (b = 1 ↔ ∀ m, m < 256 → gt (fun q => fpt P A (wv g q)) N m = true → m.testBit l = true → okS P O A l t r v m) ∧ CC O F μ2 ∧ gs (fun a b => decide (126 ≤ a ∧ a ≤ 159 ∧ ¬ (a = 126) ∧ ¬ (a = 128) ∧ ¬ (a = 135 ∧ b = 7) ∧ ¬ a = 145)) μ μ2 := by
  obtain ⟨μ1, c1, c2, c3⟩ := t_gth w pc ow cc hA hg hN eN
  obtain ⟨pc1, cc1⟩ := pXP w pc cc c3
  obtain ⟨b, F'', μ2, d1, d2, d3, d4, d5⟩ := l_cn w ow hA hl ht hr hv (p := gt (fun q => fpt P A (wv g q)) N) (fun m h => by
    obtain ⟨q, -, e⟩ := gt_iff.mp h
    rw [← e]
    exact fpt_wf w) pmν cmν K20 (nI F) 1000 0 1 F μ1 (by decide) (by decide) (by decide) pc1 cc1 c2
  refine ⟨b, _, μ1, x_wr μ2 127 5 (nI F), c1, ?_, d2, ?_, d4.w5, ?_⟩
  · rw [t_chn hl, cc1.2.1, d1]
    unfold K20 f9_changesNothing_j127 f2_setFound
    rw [a_put, Option.bind_some, a_tst]
    rcases (show b = 0 ∨ b = 1 by omega) with rfl | rfl <;> rfl
  · rw [d3]
    constructor
    · rintro ⟨-, z⟩ m hm
      exact z m (by omega) hm
    · intro z
      exact ⟨rfl, fun m _ hm => z m hm⟩
  · refine ((c3.mono (fun a b z => ?_)).trans (d5.mono (fun a b z => ?_))).wr (decide_eq_true (by omega))
    · have := of_decide_eq_true z
      exact decide_eq_true (by omega)
    · have := pCi z
      exact decide_eq_true (by omega)
theorem u_sme {P : xP} {O : xO} {F A l t r v g N : Nat} {μ ν : xMu} (w : Pwf P) (pm : PM P μ) (ow : Owf P O) (cm : CM O F μ) (pcν : PC P ν) (ccν : CC O F ν) (hA : ∀ l, A.testBit l = awU P O l) (hl : l < pL P) (hl2 : P 3 l 0 = 2) (ht : t < pT P) (hr : r < 4) (hv : v < 1000003) (hg : 1 ≤ g ∧ g ≤ 3) (hN : N ≤ 256) (eN : f12_worlds (nI g) = some (nI N)) (b2 : f12_in (nI g).toInt64 1 3 = some 1) :
    ∃ b μ2, f12_same (nI l) (nI t) (nI r) (nI v) (nI g) μ = some (nI b, μ2) ∧ b < 2 ∧ (b = 1 ↔ ∀ q, q < N → (fpt P A (wv g q)).testBit l = true → okS P O A l t r v (fpt P A (wv g q))) ∧ CM O F μ2 ∧ gs (fun a b => decide (pS a b = true ∨ a = 200 ∨ (a = 162 ∧ (b = 0 ∨ b = 44 ∨ b = 68)))) μ μ2 := by
  have h8 := p8 w hl
  have hT := w.1.2.1
  have hLL := w.1.2.2.1
  have gν : gs (fun a b => decide (pS a b = true ∨ a = 200 ∨ (a = 162 ∧ (b = 0 ∨ b = 44 ∨ b = 68)))) μ (x_cp (x_wr (x_wr μ 162 0 0) 162 68 ((x_wr μ 162 0 0) 162 44)) 184 0 200 0 4) := ((gs.refl.wr (decide_eq_true (by omega))).wr (decide_eq_true (by omega))).cp fun j => decide_eq_true (by omega)
  have n68 : (x_cp (x_wr (x_wr μ 162 0 0) 162 68 ((x_wr μ 162 0 0) 162 44)) 184 0 200 0 4) 162 68 = nI F := by
    rw [x_cp_ne (by decide), w_wr, if_pos ⟨rfl, rfl⟩, w_wr, if_neg (by decide)]
    exact cm.2.1
  have gν1 : ∀ a b, ¬ (a = 200 ∨ (a = 162 ∧ (b = 0 ∨ b = 68))) → (x_cp (x_wr (x_wr μ 162 0 0) 162 68 ((x_wr μ 162 0 0) 162 44)) 184 0 200 0 4) a b = μ a b := fun a b z => by
    rw [x_cp_ne (by omega), w_wr, if_neg (by omega), w_wr, if_neg (by omega)]
  have K1 : f12_same (nI l) (nI t) (nI r) (nI v) (nI g) μ = f12_same_l78 K78 1000 (nI l) (nI t) (nI r) (nI v) (nI g) (nI 1) (nI 0) (x_cp (x_wr (x_wr μ 162 0 0) 162 68 ((x_wr μ 162 0 0) 162 44)) 184 0 200 0 4) := by
    have pm0 := pm.t0
    unfold f12_same
    rw [a_put, (u_isLayer w pm0).1 (rb_nI hl (by omega)), Option.bind_some, if_neg (show ¬ (1 : Int32) = 0 by decide), a_ald h8 (by decide), (pm0.2.2.2.1 l hl).1, hl2, if_pos (show nI 2 = 2 from rfl), (u_isThing w pm0).1 (rb_nI ht (by omega)), Option.bind_some, if_neg (show ¬ (1 : Int32) = 0 by decide), m_rng (n := 4) (hi := 3) (by decide) (rb_nI hr (by decide)), Option.bind_some, if_neg (show ¬ (1 : Int32) = 0 by decide), u_num.1 (rb_nI hv (by decide)), Option.bind_some, if_neg (show ¬ (1 : Int32) = 0 by decide), b2, Option.bind_some, if_neg (show ¬ (1 : Int32) = 0 by decide), u_keep, Option.bind_some]
    rfl
  generalize x_cp (x_wr (x_wr μ 162 0 0) 162 68 ((x_wr μ 162 0 0) 162 44)) 184 0 200 0 4 = ω at gν n68 gν1 K1
  have pmω : PM P ω := pm.of (fun j hj => gν1 _ _ (by omega)) (fun k a b => funext fun j => gν1 _ _ (by omega))
  have cmω : CM O F ω := cm.of (gν1 _ _ (by omega)) (gν1 _ _ (by omega)) (funext fun j => gν1 _ _ (by omega)) (funext fun j => gν1 _ _ (by omega))
  obtain ⟨b, F'', μb, d1, d2, d3, d4, d5⟩ := l_sm w ow hA h8 ht hr hv hg hN eN pcν ccν K78 1000 0 1 F ω (by decide) (by omega) (by omega) pmω cmω
  have e68 : μb 162 68 = nI F := by rw [d5 162 68 (pSn (pDn (by omega)) (by decide))]; exact n68
  refine ⟨b, x_cp (x_wr μb 162 44 (μb 162 68)) 200 0 184 0 4, ?_, d2, ?_, ?_, ?_⟩
  · rw [K1, d1]
    unfold K78 f12_same_j171
    rw [u_bb, Option.bind_some]
    rcases (show b = 0 ∨ b = 1 by omega) with rfl | rfl
    · rw [if_pos (show nI 0 = 0 from rfl)]
      rfl
    · rw [if_neg (show ¬ nI 1 = 0 by decide)]
      rfl
  · rw [d3]
    constructor
    · rintro ⟨-, z⟩ q hq
      exact z q (by omega) hq
    · intro z
      exact ⟨rfl, fun q _ hq => z q hq⟩
  · refine ⟨?_, ?_, fun i q hq => ?_⟩
    · rw [x_cp_ne (by decide), w_wr, if_neg (by decide)]
      exact d4.1
    · rw [x_cp_ne (by decide), w_wr, if_pos ⟨rfl, rfl⟩]
      exact e68
    · rw [x_cp_ne (by decide), x_cp_ne (by decide), x_wr_rd (by decide), x_wr_rd (by decide)]
      exact d4.2.2 i q hq
  · exact ((gν.trans (d5.mono (fun a b z => decide_eq_true (Or.inl z)))).wr (decide_eq_true (by omega))).cp fun j => decide_eq_true (Or.inl (by unfold pS; simp))
theorem pUQ : ∀ k j, decide (126 ≤ k ∧ k ≤ 159 ∧ ¬ (k = 126) ∧ ¬ (k = 128) ∧ ¬ (k = 135 ∧ j = 7) ∧ ¬ k = 145) = true → g9 (x_gr k j) = true := by
  intro k j q
  have q2 := of_decide_eq_true q
  by_cases c : (136 ≤ k ∧ k ≤ 144) ∨ (146 ≤ k ∧ k ≤ 159) ∨ (131 ≤ k ∧ k ≤ 134)
  · rw [gr0 c]; rfl
  · rcases (show k = 127 ∨ k = 129 ∨ k = 130 ∨ k = 135 by omega) with rfl | rfl | rfl | rfl
    · show g9 (if j = 4 ∨ j = 5 then 9 else 0) = true
      split <;> rfl
    · rfl
    · rfl
    · show g9 (if j = 7 then 6 else 0) = true
      rw [if_neg (by omega)]
      rfl
theorem pVQ : ∀ k j, decide (pS k j = true ∨ k = 200 ∨ (k = 162 ∧ (j = 0 ∨ j = 44 ∨ j = 68))) = true → g9 (x_gr k j) = true := by
  intro k j q
  rcases of_decide_eq_true q with z | rfl | ⟨rfl, rfl | rfl | rfl⟩
  · unfold pS at z
    rw [Bool.or_eq_true] at z
    rcases z with z | z
    · exact pDQ k j z
    · have : k = 184 := by simpa using z
      subst this
      rfl
  · rfl
  · rfl
  · rfl
  · rfl
theorem s_same : x_S_same x_R := by
  intro v1 v2 v3 v4 v5 μ h
  obtain ⟨P, O, F, w, pc, pm, ow, fw, cc, cm⟩ := h.2.2.2.2.2.2.2
  have no : f11_same v1 v2 v3 v4 v5 μ = some (-1000001, μ) → f12_same v1 v2 v3 v4 v5 μ = some (-1000001, x_wr μ 162 0 0) → ∃ (r : Int32) (μ1 μ2 : xMu), f11_same v1 v2 v3 v4 v5 μ = some (r, μ1) ∧ f12_same v1 v2 v3 v4 v5 μ1 = some (r, μ2) ∧ x_R μ2 := fun a b => ⟨_, _, _, a, b, h.t0⟩
  have n10 : ¬ (1 : Int32) = 0 := by decide
  rcases rb_dec v1 (pL P) with hv | hv
  · have b1 := (t_isLayer w pc).1 hv
    have u1 := (u_isLayer w pm.t0).1 hv
    obtain ⟨l, hl, rfl⟩ := rb_of hv
    have h8 := p8 w hl
    have q := w.2.2.2.1 l hl
    have cl3 := (pc.2.2.2.1 l hl).1
    have ml3 := (pm.t0.2.2.2.1 l hl).1
    by_cases hl2 : P 3 l 0 = 2
    · have C1 : f11_same (nI l) v2 v3 v4 v5 μ = (f11_isCall μ v2 v3 v4).bind fun x4 => (if x4 = 0 then (some ((-1000001 : Int32), μ)) else ((f9_isGreatest v5).bind fun x5 => (if x5 = 0 then (some ((-1000001 : Int32), μ)) else ((f9_gather v5 μ).bind fun q6 => ((f9_changesNothing (nI l) v2 v3 v4 q6.2).bind fun q7 => (if q7.1 = 0 then (some ((0 : Int32), q7.2)) else (some ((1 : Int32), q7.2)))))))) := by
        unfold f11_same
        rw [b1, Option.bind_some, if_neg n10, a_rld h8 (by decide) (r_layer l h8).1, a_chk (r_layer l h8).2, cl3, hl2, if_pos (show nI 2 = 2 from rfl)]
      by_cases a : rb v2 (pT P) ∧ rb v3 4 ∧ rb v4 1000003
      · by_cases hg : ∃ g, 1 ≤ g ∧ g ≤ 3 ∧ v5 = nI g
        · obtain ⟨g1, g2⟩ := t_gre.1 hg
          obtain ⟨g, ga, gb, rfl⟩ := hg
          obtain ⟨N, hN, eN1, eN2⟩ := nW ⟨ga, gb⟩
          obtain ⟨A, -, hA⟩ := auM w ow
          have isc := (t_isC w pc).1 a
          obtain ⟨a2, a3, a4⟩ := a
          obtain ⟨t, ht, rfl⟩ := rb_of a2
          obtain ⟨r, hr, rfl⟩ := rb_of a3
          obtain ⟨v, hv4, rfl⟩ := rb_of a4
          obtain ⟨b, c, μ1, μ2, c1, c2, c3, c4, c5, c6⟩ := t_sme w pc ow fw cc pm cm hA h8 ht hr hv4 ⟨ga, gb⟩ hN eN1
          have G1 : gs (fun k j => g9 (x_gr k j)) μ μ2 := c6.mono pUQ
          have c6' : ∀ k j, 160 ≤ k → μ2 k j = μ k j := fun k j z => c6 k j (decide_eq_false (by omega))
          have cm2 : CM O F μ2 := cm.of (c6' _ _ (by decide)) (c6' _ _ (by decide)) (funext fun j => c6' _ j (by decide)) (funext fun j => c6' _ j (by decide))
          obtain ⟨b', μ3, d1, d2, d3, d4, d5⟩ := u_sme w (gPM pm G1 rfl) ow cm2 pc cc hA hl hl2 ht hr hv4 ⟨ga, gb⟩ hN eN2 g2
          have eb : b = b' := by
            have : b = 1 ↔ b' = 1 := by
              rw [c4, d3]
              constructor
              · intro z q hq hb
                exact z _ (fpt_wf (A := A) (v := wv g q) w).1 (gt_iff.mpr ⟨q, hq, rfl⟩) hb
              · intro z m hm hp hb
                obtain ⟨q, hq, rfl⟩ := gt_iff.mp hp
                exact z q hq hb
            omega
          have d5' : ∀ k j, k < 160 → μ3 k j = μ2 k j := fun k j z => d5 k j (decide_eq_false (by
            rintro (y | y | y)
            · rw [pSn (pDn (by omega)) (by omega)] at y
              cases y
            · omega
            · omega))
          refine ⟨nI b, μ2, μ3, ?_, by rw [eb]; exact d1, h.cir w pc pm (G1.trans (d5.mono pVQ)) ow fw (c5.of (d5' _ _ (by decide)) (d5' _ _ (by decide)) (funext fun j => d5' _ j (by decide)) (funext fun j => d5' _ j (by decide))) d4⟩
          rw [C1, isc, Option.bind_some, if_neg n10, g1, Option.bind_some, if_neg n10, c1, Option.bind_some, c2, Option.bind_some]
          rcases (show b = 0 ∨ b = 1 by omega) with e | e
          · rw [e, if_pos (show nI 0 = 0 from rfl)]
            rfl
          · rw [e, if_neg (show ¬ nI 1 = 0 by decide)]
            rfl
        · obtain ⟨g1, g2⟩ := t_gre.2 hg
          refine no ?_ ?_
          · rw [C1, (t_isC w pc).1 a, Option.bind_some, if_neg n10, g1, Option.bind_some, if_pos rfl]
          · unfold f12_same
            rw [a_put, u1, Option.bind_some, if_neg n10, a_ald h8 (by decide), ml3, hl2, if_pos (show nI 2 = 2 from rfl), (u_isThing w pm.t0).1 a.1, Option.bind_some, if_neg n10, m_rng (n := 4) (hi := 3) (by decide) a.2.1, Option.bind_some, if_neg n10, u_num.1 a.2.2, Option.bind_some, if_neg n10, g2, Option.bind_some, if_pos rfl]
      · refine no ?_ ?_
        · rw [C1, (t_isC w pc).2 a, Option.bind_some, if_pos rfl]
        · unfold f12_same
          rw [a_put, u1, Option.bind_some, if_neg n10, a_ald h8 (by decide), ml3, hl2, if_pos (show nI 2 = 2 from rfl)]
          rcases rb_dec v2 (pT P) with h1 | h1
          · rw [(u_isThing w pm.t0).1 h1, Option.bind_some, if_neg n10]
            rcases rb_dec v3 4 with h2 | h2
            · rw [m_rng (n := 4) (hi := 3) (by decide) h2, Option.bind_some, if_neg n10, u_num.2 (fun h3 => a ⟨h1, h2, h3⟩), Option.bind_some, if_pos rfl]
            · rw [m_rngN (n := 4) (hi := 3) (by decide) h2, Option.bind_some, if_pos rfl]
          · rw [(u_isThing w pm.t0).2 h1, Option.bind_some, if_pos rfl]
    · refine no ?_ ?_
      · unfold f11_same
        rw [b1, Option.bind_some, if_neg n10, a_rld h8 (by decide) (r_layer l h8).1, a_chk (r_layer l h8).2, cl3, if_neg (show ¬ nI (P 3 l 0) = 2 from nI_ne (b := 2) (by omega) (by decide) hl2)]
      · unfold f12_same
        rw [a_put, u1, Option.bind_some, if_neg n10, a_ald h8 (by decide), ml3, if_neg (show ¬ nI (P 3 l 0) = 2 from nI_ne (b := 2) (by omega) (by decide) hl2)]
  · refine no ?_ ?_
    · unfold f11_same
      rw [(t_isLayer w pc).2 hv, Option.bind_some, if_pos rfl]
    · unfold f12_same
      rw [a_put, (u_isLayer w pm.t0).2 hv, Option.bind_some, if_pos rfl]
