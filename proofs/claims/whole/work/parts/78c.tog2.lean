/-! PURE: together, the end -/
def K92 : Int32 → Int32 → xMu → Option (Int32 × xMu) := fun (y16 : Int32) (y17 : Int32) (μ18 : xMu) => (if y16 = (-1 : Int32) then (some (y17, μ18)) else (some ((-1000000 : Int32), μ18)))
def K53 : Int32 → xMu → Option (Int32 × xMu) := fun (y11 : Int32) (μ12 : xMu) => ((f12_bringBack μ12).bind fun μ13 => (f12_together_l92 K92 1000 y11 (nI 0) (nI 0) μ13))
def K31 : Int32 → Int32 → xMu → Option (Int32 × xMu) := fun (y5 : Int32) (y6 : Int32) (μ7 : xMu) => (f12_together_l53 K53 1000 y5 y6 (nI 0) μ7)
theorem u_tog {v1 v2 : Int32} {μ : xMu} (b2 : f12_in v1.toInt64 1 3 = some 1) (h2 : (-1 : Int32) ≤ v2) : f12_together v1 v2 μ = f12_together_l31 K31 1000 v1 v2 (nI 0) (x_cp (x_wr (x_wr μ 162 0 0) 162 68 ((x_wr μ 162 0 0) 162 44)) 184 0 200 0 4) := by
  unfold f12_together
  rw [a_put, b2, Option.bind_some, if_neg (show ¬ (1 : Int32) = 0 by decide), if_pos h2, u_keep, Option.bind_some]
  rfl
theorem u_tog2 {P : xP} {O : xO} {F A g N : Nat} {v2 : Int32} {μ : xMu} (w : Pwf P) (pm : PM P μ) (ow : Owf P O) (cm : CM O F μ) (hA : ∀ l, A.testBit l = awU P O l) (hg : 1 ≤ g ∧ g ≤ 3) (hN : N ≤ 256) (eN : f12_worlds (nI g) = some (nI N)) :
    ∃ μ2, f12_together_l31 K31 1000 (nI g) v2 (nI 0) (x_cp (x_wr (x_wr μ 162 0 0) 162 68 ((x_wr μ 162 0 0) 162 44)) 184 0 200 0 4) = f12_together_l92 K92 1000 v2 (nI 0) (nI 0) μ2 ∧ MK 201 (gt (fun q => fpt P A (wv g q)) N) μ2 ∧ CM O F μ2 ∧ gs (fun a b => decide (a = 184 ∨ a = 200 ∨ a = 201 ∨ (a = 162 ∧ (b = 0 ∨ b = 44 ∨ b = 68)))) μ μ2 := by
  have gν : gs (fun a b => decide (a = 184 ∨ a = 200 ∨ a = 201 ∨ (a = 162 ∧ (b = 0 ∨ b = 44 ∨ b = 68)))) μ (x_cp (x_wr (x_wr μ 162 0 0) 162 68 ((x_wr μ 162 0 0) 162 44)) 184 0 200 0 4) := ((gs.refl.wr (decide_eq_true (by omega))).wr (decide_eq_true (by omega))).cp fun j => decide_eq_true (by omega)
  have n68 : (x_cp (x_wr (x_wr μ 162 0 0) 162 68 ((x_wr μ 162 0 0) 162 44)) 184 0 200 0 4) 162 68 = nI F := by
    rw [x_cp_ne (by decide), w_wr, if_pos ⟨rfl, rfl⟩, w_wr, if_neg (by decide)]
    exact cm.2.1
  generalize hν : x_cp (x_wr (x_wr μ 162 0 0) 162 68 ((x_wr μ 162 0 0) 162 44)) 184 0 200 0 4 = ν at gν n68
  have gν' : ∀ a b, ¬ (a = 184 ∨ a = 200 ∨ a = 201 ∨ (a = 162 ∧ (b = 0 ∨ b = 44 ∨ b = 68))) → ν a b = μ a b := fun a b z => gν a b (decide_eq_false z)
  have n44 : ν 162 44 = nI F := by
    rw [← hν, x_cp_ne (by decide), w_wr, if_neg (by decide), w_wr, if_neg (by decide)]
    exact cm.2.1
  have pmν : PM P ν := pm.of (fun j hj => gν' _ _ (by omega)) (fun k a b => funext fun j => gν' _ _ (by omega))
  have cmν : CM O F ν := ⟨by rw [gν' _ _ (by omega)]; exact cm.1, n44, fun i q h => by rw [gν' _ _ (by omega), gν' _ _ (by omega)]; exact cm.2.2 i q h⟩
  obtain ⟨μa, a1, a2, a3, a4⟩ := l_t31 K31 (nI g) v2 1000 0 ν (by decide) (by decide) (fun m z => by omega)
  obtain ⟨μb, d1, d2, d3⟩ := l_t53 w ow hA hg hN eN K53 v2 1000 0 F μa (by omega) (by omega) (pZP pmν a3) (pZC cmν a3 (a4.trans cmν.2.1)) a2
  have gb := a3.trans d3
  have gb' : ∀ a b, ¬ (a = 184 ∨ a = 201 ∨ (a = 162 ∧ b = 44)) → μb a b = ν a b := fun a b z => gb a b (decide_eq_false z)
  have e68 : μb 162 68 = nI F := by rw [gb' _ _ (by omega)]; exact n68
  refine ⟨x_cp (x_wr μb 162 44 (μb 162 68)) 200 0 184 0 4, ?_, ?_, ?_, ?_⟩
  · rw [a1]
    unfold K31
    rw [d1]
    unfold K53
    rw [u_bb, Option.bind_some]
  · intro m hm
    rw [x_cp_ne (by decide), x_wr_rd (by decide)]
    exact d2 m hm
  · refine ⟨?_, ?_, fun i q hq => ?_⟩
    · rw [x_cp_ne (by decide), w_wr, if_neg (by decide), gb' _ _ (by omega)]
      exact cmν.1
    · rw [x_cp_ne (by decide), w_wr, if_pos ⟨rfl, rfl⟩]
      exact e68
    · rw [x_cp_ne (by decide), x_cp_ne (by decide), x_wr_rd (by decide), x_wr_rd (by decide), gb' _ _ (by omega), gb' _ _ (by omega)]
      exact cmν.2.2 i q hq
  · exact ((gν.trans (gb.mono (fun a b z => decide_eq_true (by have := of_decide_eq_true z; omega)))).wr (decide_eq_true (by omega))).cp fun j => decide_eq_true (by omega)
