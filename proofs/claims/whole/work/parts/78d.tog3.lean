/-! PURE: together, class and reference -/
theorem pYQ : ∀ k j, decide (k = 184 ∨ k = 200 ∨ k = 201 ∨ (k = 162 ∧ (j = 0 ∨ j = 44 ∨ j = 68))) = true → g9 (x_gr k j) = true := by
  intro k j q
  rcases of_decide_eq_true q with rfl | rfl | rfl | ⟨rfl, rfl | rfl | rfl⟩ <;> rfl
theorem t_tog {g N : Nat} {v2 : Int32} {μ μ1 : xMu} {c : Int32} (b1 : f9_isGreatest (nI g) = some 1) (h2 : (-1 : Int32) ≤ v2) (c1 : f9_gather (nI g) μ = some (c, μ1)) : f11_together (nI g) v2 μ = if v2 = -1 then some (c, μ1) else (f9_gatheredAt μ1 v2).bind fun x3 => some (x3, μ1) := by
  unfold f11_together
  rw [b1, Option.bind_some, if_neg (show ¬ (1 : Int32) = 0 by decide), if_pos h2, c1, Option.bind_some]
theorem two {v2 : Int32} {g : Nat} {μ μ1 μ2 : xMu} {p : Nat → Bool} (h2 : (-1 : Int32) ≤ v2) (cls : f11_together (nI g) v2 μ = if v2 = -1 then some (nI (cg p 256), μ1) else (f9_gatheredAt μ1 v2).bind fun x3 => some (x3, μ1)) (ref : f12_together (nI g) v2 μ1 = f12_together_l92 K92 1000 v2 (nI 0) (nI 0) μ2) (c2 : MK 159 p μ1) (mk2 : MK 201 p μ2) : ∃ r, f11_together (nI g) v2 μ = some (r, μ1) ∧ f12_together (nI g) v2 μ1 = some (r, μ2) := by
  by_cases n1 : v2 = -1
  · refine ⟨nI (cg p 256), by rw [cls, if_pos n1], ?_⟩
    have q := l_cnt mk2 K92 1000 0 (by decide) (by decide)
    have q0 : cg p 0 = 0 := rfl
    rw [q0] at q
    rw [ref, n1, q]
    unfold K92
    rw [if_pos rfl]
  · obtain ⟨j, hj, e⟩ : ∃ j, j < 2 ^ 31 ∧ v2 = nI j := by
      refine rb_of ⟨?_, ?_⟩
      · rw [i_le, show (-1 : Int32).toInt = -1 by decide] at h2
        rw [i_eq, show (-1 : Int32).toInt = -1 by decide] at n1
        omega
      · have := Int32.toInt_lt v2
        omega
    rw [if_neg n1] at cls
    have sel := l_sel c2 mk2 hj K92 1000 0 1000 (by decide) (by decide) (by decide) (Nat.zero_le _)
    have q0 : cg p 0 = 0 := rfl
    rw [q0, Nat.sub_zero] at sel
    have eg : f9_gatheredAt μ1 (nI j) = f9_gatheredAt_l4 μ1 (some (-1000000)) 1000 (nI j) (nI 0) := by
      unfold f9_gatheredAt
      rw [show (0 : Int32) = nI 0 from rfl]
    rw [e] at cls ref n1 ⊢
    rcases sel with ⟨s1, s2⟩ | ⟨r, s1, s2⟩
    · refine ⟨-1000000, by rw [cls, eg, s1, Option.bind_some], ?_⟩
      rw [ref, s2]
      unfold K92
      rw [if_neg n1]
    · exact ⟨r, by rw [cls, eg, s1, Option.bind_some], by rw [ref, s2]⟩
theorem s_together : x_S_together x_R := by
  intro v1 v2 μ h
  obtain ⟨P, O, F, w, pc, pm, ow, fw, cc, cm⟩ := h.2.2.2.2.2.2.2
  have no : f11_together v1 v2 μ = some (-1000001, μ) → f12_together v1 v2 μ = some (-1000001, x_wr μ 162 0 0) → ∃ (r : Int32) (μ1 μ2 : xMu), f11_together v1 v2 μ = some (r, μ1) ∧ f12_together v1 v2 μ1 = some (r, μ2) ∧ x_R μ2 := fun a b => ⟨_, _, _, a, b, h.t0⟩
  by_cases hg : ∃ g, 1 ≤ g ∧ g ≤ 3 ∧ v1 = nI g
  · obtain ⟨b1, b2⟩ := t_gre.1 hg
    by_cases h2 : (-1 : Int32) ≤ v2
    · obtain ⟨g, g1, g3, rfl⟩ := hg
      obtain ⟨N, hN, eN1, eN2⟩ := nW ⟨g1, g3⟩
      obtain ⟨A, -, hA⟩ := auM w ow
      obtain ⟨μ1, c1, c2, c3⟩ := t_gth w pc ow cc hA ⟨g1, g3⟩ hN eN1
      have G1 : gs (fun k j => g9 (x_gr k j)) μ μ1 := c3.mono pXQ
      have c3' : ∀ k j, 160 ≤ k → μ1 k j = μ k j := fun k j z => c3 k j (decide_eq_false (by omega))
      have cm1 : CM O F μ1 := cm.of (c3' _ _ (by decide)) (c3' _ _ (by decide)) (funext fun j => c3' _ j (by decide)) (funext fun j => c3' _ j (by decide))
      obtain ⟨μ2, d1, d2, d3, d4⟩ := u_tog2 (v2 := v2) w (gPM pm G1 rfl) ow cm1 hA ⟨g1, g3⟩ hN eN2
      have ref := (u_tog (μ := μ1) b2 h2).trans d1
      have cls := t_tog (N := N) b1 h2 c1
      obtain ⟨r, r1, r2⟩ := two h2 cls ref c2 d2
      have d4' : ∀ k j, k < 158 → μ2 k j = μ k j := fun k j z => (d4 k j (decide_eq_false (by omega))).trans (c3 k j (decide_eq_false (by omega)))
      exact ⟨r, μ1, μ2, r1, r2, h.cir w pc pm (G1.trans (d4.mono pYQ)) ow fw (cc.of (d4' _ _ (by decide)) (d4' _ _ (by decide)) (funext fun j => d4' _ j (by decide)) (funext fun j => d4' _ j (by decide))) d3⟩
    · refine no ?_ ?_
      · unfold f11_together
        rw [b1, Option.bind_some, if_neg (show ¬ (1 : Int32) = 0 by decide), if_neg h2]
      · unfold f12_together
        rw [a_put, b2, Option.bind_some, if_neg (show ¬ (1 : Int32) = 0 by decide), if_neg h2]
  · obtain ⟨b1, b2⟩ := t_gre.2 hg
    refine no ?_ ?_
    · unfold f11_together
      rw [b1, Option.bind_some, if_pos rfl]
    · unfold f12_together
      rw [a_put, b2, Option.bind_some, if_pos rfl]
