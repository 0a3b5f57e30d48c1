/-! PURE: together -/
theorem l_kp (k : xMu → Option xMu) : ∀ (f i : Nat) (μ : xMu), i ≤ 4 → 4 < i + f → f12_keep_l10 k f (nI i) μ = k (x_cp μ 184 i 200 i (4 - i)) := by
  intro f
  induction f with
  | zero => intro i μ _ h; omega
  | succ f ih =>
    intro i μ hi h
    unfold f12_keep_l10
    by_cases c : 4 ≤ i
    · rw [if_pos (show (4 : Int32) ≤ nI i from nI_le (a := 4) c (by omega)), show 4 - i = 0 by omega, cp_nil]
    · rw [if_neg (show ¬ (4 : Int32) ≤ nI i from nI_ge (b := 4) (by omega) (by decide)), a_ald (by omega) (by decide), a_ast (by omega) (by decide), nI_1, ih (i + 1) _ (by omega) (by omega), cp_step (by decide), show 4 - (i + 1) + 1 = 4 - i by omega]
theorem l_bb (k : xMu → Option xMu) : ∀ (f i : Nat) (μ : xMu), i ≤ 4 → 4 < i + f → f12_bringBack_l10 k f (nI i) μ = k (x_cp μ 200 i 184 i (4 - i)) := by
  intro f
  induction f with
  | zero => intro i μ _ h; omega
  | succ f ih =>
    intro i μ hi h
    unfold f12_bringBack_l10
    by_cases c : 4 ≤ i
    · rw [if_pos (show (4 : Int32) ≤ nI i from nI_le (a := 4) c (by omega)), show 4 - i = 0 by omega, cp_nil]
    · rw [if_neg (show ¬ (4 : Int32) ≤ nI i from nI_ge (b := 4) (by omega) (by decide)), a_ald (by omega) (by decide), a_ast (by omega) (by decide), nI_1, ih (i + 1) _ (by omega) (by omega), cp_step (by decide), show 4 - (i + 1) + 1 = 4 - i by omega]
/-- what looking at worlds writes in the reference -/
def pZ : Nat → Nat → Bool := fun a b => decide (a = 184 ∨ a = 201 ∨ (a = 162 ∧ b = 44))
theorem pZW {μ μ' : xMu} (g : gs pW μ μ') : gs pZ μ μ' := g.mono (fun a b z => decide_eq_true (by have := of_decide_eq_true z; omega))
theorem pZP {P : xP} {μ μ' : xMu} (pm : PM P μ) (g : gs pZ μ μ') : PM P μ' := pm.of (fun j hj => g _ _ (decide_eq_false (by omega))) (fun k a b => g.row fun j => decide_eq_false (by omega))
theorem pZC {O : xO} {F G : Nat} {μ μ' : xMu} (cm : CM O F μ) (g : gs pZ μ μ') (e : μ' 162 44 = nI G) : CM O G μ' := by
  refine ⟨by rw [g _ _ (decide_eq_false (by omega))]; exact cm.1, e, fun i q h => ?_⟩
  rw [g _ _ (decide_eq_false (by omega)), g _ _ (decide_eq_false (by omega))]
  exact cm.2.2 i q h
theorem u_keep (μ : xMu) : f12_keep μ = some (x_cp (x_wr μ 162 68 (μ 162 44)) 184 0 200 0 4) := by
  unfold f12_keep
  rw [a_put]
  exact l_kp (fun (μ4 : xMu) => (some μ4)) 1000 0 _ (by decide) (by decide)
theorem u_bb (μ : xMu) : f12_bringBack μ = some (x_cp (x_wr μ 162 44 (μ 162 68)) 200 0 184 0 4) := by
  unfold f12_bringBack
  rw [a_put]
  exact l_bb (fun (μ4 : xMu) => (some μ4)) 1000 0 _ (by decide) (by decide)
theorem l_t31 (k : Int32 → Int32 → xMu → Option (Int32 × xMu)) (v1 v2 : Int32) : ∀ (f i : Nat) (μ : xMu), i ≤ 256 → 256 < i + f → (∀ m, m < i → μ 201 m = 0) →
    ∃ μ', f12_together_l31 k f v1 v2 (nI i) μ = k v1 v2 μ' ∧ MK 201 (fun _ => false) μ' ∧ gs pZ μ μ' ∧ μ' 162 44 = μ 162 44 := by
  intro f
  induction f with
  | zero => intro i μ _ h; omega
  | succ f ih =>
    intro i μ hi hf h
    unfold f12_together_l31
    by_cases c : 256 ≤ i
    · rw [if_pos (show (256 : Int32) ≤ nI i from nI_le (a := 256) c (by omega))]
      exact ⟨μ, rfl, fun m hm => h m (by omega), gs.refl, rfl⟩
    · rw [if_neg (show ¬ (256 : Int32) ≤ nI i from nI_ge (b := 256) (by omega) (by decide)), a_ast (by omega) (by decide), nI_1]
      obtain ⟨μ', a1, a2, a3, a4⟩ := ih (i + 1) (x_wr μ 201 i 0) (by omega) (by omega) (fun m hm => by
        rw [w_wr]
        split
        · rfl
        · next e => exact h m (by omega))
      exact ⟨μ', a1, a2, (gs.refl.wr (decide_eq_true (by omega))).trans a3, a4⟩
theorem l_t53 {P : xP} {O : xO} {A g N : Nat} (w : Pwf P) (ow : Owf P O) (hA : ∀ l, A.testBit l = awU P O l) (hg : 1 ≤ g ∧ g ≤ 3) (hN : N ≤ 256) (eN : f12_worlds (nI g) = some (nI N)) (k : Int32 → xMu → Option (Int32 × xMu)) (v2 : Int32) : ∀ (f i F : Nat) (μ : xMu), i ≤ N → N < i + f → PM P μ → CM O F μ → MK 201 (gt (fun q => fpt P A (wv g q)) i) μ →
    ∃ μ', f12_together_l53 k f (nI g) v2 (nI i) μ = k v2 μ' ∧ MK 201 (gt (fun q => fpt P A (wv g q)) N) μ' ∧ gs pZ μ μ' := by
  intro f
  induction f with
  | zero => intro i F μ _ h; omega
  | succ f ih =>
    intro i F μ hi hf pm cm mk
    unfold f12_together_l53
    rw [eN]
    simp only [Option.bind_some]
    by_cases c : N ≤ i
    · rw [if_pos (nI_le c (by omega))]
      obtain rfl : i = N := by omega
      exact ⟨μ, rfl, mk, gs.refl⟩
    · obtain ⟨μa, a1, a2, a3⟩ := u_mow w pm ow cm hA hg (show i < 2 ^ 31 by omega)
      have fwf := fpt_wf (A := A) (v := wv g i) w
      have ga := pZW a3
      rw [if_neg (nI_ge (by omega) (by omega)), a1]
      simp only [Option.bind_some]
      rw [a2.2.1, a_ast fwf.1 (by decide), nI_1]
      have mka : MK 201 (gt (fun q => fpt P A (wv g q)) i) μa := fun m hm => by rw [a3 201 m (decide_eq_false (by omega))]; exact mk m hm
      have mkb : MK 201 (gt (fun q => fpt P A (wv g q)) (i + 1)) (x_wr μa 201 (fpt P A (wv g i)) 1) := by rw [gt_succ]; exact mka.add
      have gb : gs pZ μa (x_wr μa 201 (fpt P A (wv g i)) 1) := gs.refl.wr (decide_eq_true (by omega))
      obtain ⟨μ', d1, d2, d3⟩ := ih (i + 1) _ _ (by omega) (by omega) (pZP (pZP pm ga) gb) (pZC a2 gb a2.2.1) mkb
      exact ⟨μ', d1, d2, (ga.trans gb).trans d3⟩
theorem if10 {b : Bool} : ((if b = true then (1 : Int32) else 0) = 0) = (b = false) := by cases b <;> simp
/-- class and reference take the same marked set -/
theorem l_sel {p : Nat → Bool} {μc μm : xMu} (hc : MK 159 p μc) (hm : MK 201 p μm) {j : Nat} (hj : j < 2 ^ 31) (k : Int32 → Int32 → xMu → Option (Int32 × xMu)) : ∀ (f i f' : Nat), i ≤ 256 → 256 < i + f → 256 < i + f' → cg p i ≤ j →
    (f9_gatheredAt_l4 μc (some (-1000000)) f (nI (j - cg p i)) (nI i) = some (-1000000) ∧ f12_together_l92 k f' (nI j) (nI (cg p i)) (nI i) μm = k (nI j) (nI (cg p 256)) μm) ∨ ∃ r, f9_gatheredAt_l4 μc (some (-1000000)) f (nI (j - cg p i)) (nI i) = some r ∧ f12_together_l92 k f' (nI j) (nI (cg p i)) (nI i) μm = some (r, μm) := by
  intro f
  induction f with
  | zero => intro i f' _ h; omega
  | succ f ih =>
    intro i f' hi hf hf' hle
    obtain ⟨f', rfl⟩ : ∃ z, f' = z + 1 := ⟨f' - 1, by omega⟩
    have hcl := cg_le p i
    unfold f9_gatheredAt_l4 f9_gatheredAt_j29 f12_together_l92 f12_together_j118 f12_together_j134
    by_cases c : 256 ≤ i
    · rw [if_pos (show (256 : Int32) ≤ nI i from nI_le (a := 256) c (by omega)), if_pos (show (256 : Int32) ≤ nI i from nI_le (a := 256) c (by omega))]
      obtain rfl : i = 256 := by omega
      exact Or.inl ⟨rfl, rfl⟩
    · rw [if_neg (show ¬ (256 : Int32) ≤ nI i from nI_ge (b := 256) (by omega) (by decide)), if_neg (show ¬ (256 : Int32) ≤ nI i from nI_ge (b := 256) (by omega) (by decide)), a_ald (by omega) (by decide), hc i (by omega), a_ald (by omega) (by decide), hm i (by omega), a_ald (by omega) (by decide), hm i (by omega)]
      simp only [if10]
      cases e : p i with
      | false =>
        have e1 : cg p (i + 1) = cg p i := by
          show cg p i + (if p i = true then 1 else 0) = cg p i
          rw [e]
          rfl
        have := ih (i + 1) f' (by omega) (by omega) (by omega) (by omega)
        rw [e1] at this
        rw [if_pos rfl, if_pos rfl, if_pos rfl, nI_1, show nI (cg p i) + 0 = nI (cg p i) from nI_add (cg p i) 0]
        exact this
      | true =>
        have e1 : cg p (i + 1) = cg p i + 1 := by
          show cg p i + (if p i = true then 1 else 0) = cg p i + 1
          rw [e]
          rfl
        simp only [show (true = false) = False from by simp, if_false]
        rw [nI_1, nI_1]
        by_cases z : cg p i = j
        · rw [z, Nat.sub_self, if_pos (show nI 0 = 0 from rfl), if_pos rfl]
          exact Or.inr ⟨_, rfl, rfl⟩
        · rw [if_neg (nI_ne0 (show 0 < j - cg p i by omega) (by omega)), if_neg (nI_ne (by omega) (by omega) z)]
          have := ih (i + 1) f' (by omega) (by omega) (by omega) (by omega)
          rw [e1] at this
          rw [show nI (j - cg p i) + (-1) = nI (j - (cg p i + 1)) by
            rw [show j - cg p i = (j - (cg p i + 1)) + 1 by omega, pk_m1]]
          exact this
/-- the reference counts -/
theorem l_cnt {p : Nat → Bool} {μm : xMu} (hm : MK 201 p μm) (k : Int32 → Int32 → xMu → Option (Int32 × xMu)) : ∀ (f i : Nat), i ≤ 256 → 256 < i + f → f12_together_l92 k f (-1) (nI (cg p i)) (nI i) μm = k (-1) (nI (cg p 256)) μm := by
  intro f
  induction f with
  | zero => intro i _ h; omega
  | succ f ih =>
    intro i hi hf
    have hcl := cg_le p i
    unfold f12_together_l92 f12_together_j118 f12_together_j134
    by_cases c : 256 ≤ i
    · rw [if_pos (show (256 : Int32) ≤ nI i from nI_le (a := 256) c (by omega))]
      obtain rfl : i = 256 := by omega
      rfl
    · rw [if_neg (show ¬ (256 : Int32) ≤ nI i from nI_ge (b := 256) (by omega) (by decide)), a_ald (by omega) (by decide), hm i (by omega), a_ald (by omega) (by decide), hm i (by omega)]
      simp only [if10]
      have no : ¬ nI (cg p i) = (-1 : Int32) := by rw [i_eq, nI_toInt (by omega), show (-1 : Int32).toInt = -1 by decide]; omega
      rw [if_neg no, ite_self, ← ih (i + 1) (by omega) (by omega), nI_1]
      have e1 : cg p (i + 1) = cg p i + if p i = true then 1 else 0 := rfl
      rw [e1]
      cases e : p i with
      | false =>
        rw [if_pos rfl, show nI (cg p i) + 0 = nI (cg p i) from nI_add (cg p i) 0]
        rfl
      | true =>
        rw [if_neg (by decide), nI_1]
        rfl
theorem t_gre {x : Int32} : ((∃ g, 1 ≤ g ∧ g ≤ 3 ∧ x = nI g) → f9_isGreatest x = some 1 ∧ f12_in x.toInt64 1 3 = some 1) ∧ (¬ (∃ g, 1 ≤ g ∧ g ≤ 3 ∧ x = nI g) → f9_isGreatest x = some 0 ∧ f12_in x.toInt64 1 3 = some 0) := by
  refine ⟨fun ⟨g, h1, h2, e⟩ => ?_, fun h => ?_⟩
  · subst e
    rcases (show g = 1 ∨ g = 2 ∨ g = 3 by omega) with rfl | rfl | rfl <;> exact ⟨rfl, rfl⟩
  · have hx : ¬ (1 ≤ x.toInt ∧ x.toInt ≤ 3) := by
      rintro ⟨a, b⟩
      obtain ⟨j, hj, rfl⟩ := rb_of (x := x) (n := 4) ⟨by omega, by omega⟩
      rw [nI_toInt (by omega)] at a
      exact h ⟨j, by omega, by omega, rfl⟩
    refine ⟨?_, ?_⟩
    · unfold f9_isGreatest
      have e1 : (x < 1) = (x.toInt < 1) := propext (i_lt x 1)
      have e3 : ((3 : Int32) < x) = (3 < x.toInt) := propext (i_lt 3 x)
      simp only [e1, e3]
      by_cases c : x.toInt < 1
      · rw [if_pos c]
      · rw [if_neg c, if_pos (by omega)]
    · rw [m_inI, if_neg]
      exact hx
theorem pXQ : ∀ k j, pX k j = true → g9 (x_gr k j) = true := by
  intro k j q
  have := of_decide_eq_true q
  rw [gr0 (by omega)]
  rfl
theorem pZQ : ∀ k j, pZ k j = true → g9 (x_gr k j) = true := by
  intro k j q
  rcases (of_decide_eq_true q : k = 184 ∨ k = 201 ∨ (k = 162 ∧ j = 44)) with rfl | rfl | ⟨rfl, rfl⟩ <;> rfl
