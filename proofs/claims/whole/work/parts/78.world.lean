/-! PURE: small worlds: their facts and found sets -/
def wv (g q j : Nat) : Nat := q / (g + 1) ^ j % (g + 1)
theorem l_fow {g q : Nat} (hg : 1 ≤ g ∧ g ≤ 3) (hq : q < 2 ^ 31) (k : xMu → Option (Nat × xMu)) : ∀ (f i : Nat) (μ : xMu), i ≤ 4 → 4 < i + f → (∀ j, j < i → μ 158 j = nI (wv g q j)) →
    ∃ μ', f9_factsOfWorld_l5 k f (nI g) (nI (q / (g + 1) ^ i)) (nI i) μ = k μ' ∧ (∀ j, j < 4 → μ' 158 j = nI (wv g q j)) ∧ gs (fun a _ => a == 158) μ μ' := by
  intro f
  induction f with
  | zero => intro i μ _ h; omega
  | succ f ih =>
    intro i μ hi hf h
    unfold f9_factsOfWorld_l5
    by_cases c : 4 ≤ i
    · rw [if_pos (show (4 : Int32) ≤ nI i from nI_le (a := 4) c (by omega))]
      obtain rfl : i = 4 := by omega
      exact ⟨μ, rfl, h, gs.refl⟩
    · have hx : q / (g + 1) ^ i < 2 ^ 31 := Nat.lt_of_le_of_lt (Nat.div_le_self _ _) hq
      have t1 : (!(nI (g + 1) == (0 : Int32))) = true := by
        have : ¬ nI (g + 1) = 0 := nI_ne0 (by omega) (by omega)
        simp [this]
      rw [if_neg (show ¬ (4 : Int32) ≤ nI i from nI_ge (b := 4) (by omega) (by decide)), nI_1, a_tst t1, pk_rem hx (by omega) (by omega), a_ast (by omega) (by decide), a_tst t1, pk_div hx (by omega) (by omega), nI_1, Nat.div_div_eq_div_mul, ← Nat.pow_succ]
      obtain ⟨μ', a1, a2, a3⟩ := ih (i + 1) (x_wr μ 158 i (nI (wv g q i))) (by omega) (by omega) (fun j hj => by
        rw [w_wr]
        by_cases e : j = i
        · rw [if_pos ⟨rfl, e⟩, e]
        · rw [if_neg (fun z => e z.2)]
          exact h j (by omega))
      exact ⟨μ', a1, a2, (gs.refl.wr (by simp)).trans a3⟩
theorem wv_lt {g q j : Nat} (hg : 1 ≤ g ∧ g ≤ 3) : wv g q j < 10 := by
  unfold wv
  have := Nat.mod_lt (q / (g + 1) ^ j) (show 0 < g + 1 by omega)
  omega
theorem t_fow {g q : Nat} {μ : xMu} (hg : 1 ≤ g ∧ g ≤ 3) (hq : q < 2 ^ 31) : ∃ μ', f9_factsOfWorld (nI q) (nI g) μ = some (158, μ') ∧ fc (wv g q) 158 μ' ∧ gs (fun a _ => a == 158) μ μ' := by
  obtain ⟨μ', a1, a2, a3⟩ := l_fow hg hq (fun (μ4 : xMu) => (some (158, μ4))) 1000 0 μ (by decide) (by decide) (fun j h => by omega)
  rw [Nat.pow_zero, Nat.div_one] at a1
  exact ⟨μ', a1, fun j hj => ⟨wv_lt hg, a2 j hj⟩, a3⟩
theorem l_mow {g q : Nat} (hg : 1 ≤ g ∧ g ≤ 3) (hq : q < 2 ^ 31) (k : xMu → Option xMu) : ∀ (f i : Nat) (μ : xMu), i ≤ 4 → 4 < i + f → (∀ j, j < i → μ 184 j = nI (wv g q j)) →
    ∃ μ', f12_makeWorld_l5 k f (nI g) (nI (q / (g + 1) ^ i)) (nI i) μ = k μ' ∧ (∀ j, j < 4 → μ' 184 j = nI (wv g q j)) ∧ gs (fun a _ => a == 184) μ μ' := by
  intro f
  induction f with
  | zero => intro i μ _ h; omega
  | succ f ih =>
    intro i μ hi hf h
    unfold f12_makeWorld_l5
    by_cases c : 4 ≤ i
    · rw [if_pos (show (4 : Int32) ≤ nI i from nI_le (a := 4) c (by omega))]
      obtain rfl : i = 4 := by omega
      exact ⟨μ, rfl, h, gs.refl⟩
    · have hx : q / (g + 1) ^ i < 2 ^ 31 := Nat.lt_of_le_of_lt (Nat.div_le_self _ _) hq
      have t1 : (!(nI (g + 1) == (0 : Int32))) = true := by
        have : ¬ nI (g + 1) = 0 := nI_ne0 (by omega) (by omega)
        simp [this]
      rw [if_neg (show ¬ (4 : Int32) ≤ nI i from nI_ge (b := 4) (by omega) (by decide)), nI_1, a_tst t1, pk_rem hx (by omega) (by omega), a_ast (by omega) (by decide), a_tst t1, pk_div hx (by omega) (by omega), nI_1, Nat.div_div_eq_div_mul, ← Nat.pow_succ]
      obtain ⟨μ', a1, a2, a3⟩ := ih (i + 1) (x_wr μ 184 i (nI (wv g q i))) (by omega) (by omega) (fun j hj => by
        rw [w_wr]
        by_cases e : j = i
        · rw [if_pos ⟨rfl, e⟩, e]
        · rw [if_neg (fun z => e z.2)]
          exact h j (by omega))
      exact ⟨μ', a1, a2, (gs.refl.wr (by simp)).trans a3⟩
def pW : Nat → Nat → Bool := fun a b => decide (a = 184 ∨ (a = 162 ∧ b = 44))
theorem u_mow {P : xP} {O : xO} {F A g q : Nat} {μ : xMu} (w : Pwf P) (pm : PM P μ) (ow : Owf P O) (cm : CM O F μ) (hA : ∀ l, A.testBit l = awU P O l) (hg : 1 ≤ g ∧ g ≤ 3) (hq : q < 2 ^ 31) :
    ∃ μ', f12_makeWorld (nI q) (nI g) μ = some μ' ∧ CM O (fpt P A (wv g q)) μ' ∧ gs pW μ μ' := by
  obtain ⟨μ', a1, a2, a3⟩ := l_mow hg hq (fun (μ4 : xMu) => ((f12_find μ4).bind fun μ5 => (some μ5))) 1000 0 μ (by decide) (by decide) (fun j h => by omega)
  rw [Nat.pow_zero, Nat.div_one] at a1
  have a3' : ∀ a b, a ≠ 184 → μ' a b = μ a b := fun a b z => a3 a b (beq_false_of_ne z)
  have pm1 : PM P μ' := pm.of (fun j _ => a3' _ _ (by decide)) (fun k x y => funext fun j => a3' _ _ (by omega))
  have cm1 : CM O F μ' := cm.of (a3' _ _ (by decide)) (a3' _ _ (by decide)) (funext fun j => a3' _ _ (by decide)) (funext fun j => a3' _ _ (by decide))
  refine ⟨x_wr μ' 162 44 (nI (fpt P A (wv g q))), ?_, cm1.w44, (a3.mono (fun a b z => decide_eq_true (Or.inl (by simpa using z)))).wr (decide_eq_true (by omega))⟩
  refine a1.trans ?_
  rw [u_fnd w pm1 ow cm1 (fun j hj => ⟨wv_lt hg, a2 j hj⟩) hA]
  rfl
/-! sets of marks -/
def cg (p : Nat → Bool) : Nat → Nat
  | 0 => 0
  | n + 1 => cg p n + if p n then 1 else 0
theorem cg_le (p : Nat → Bool) : ∀ n, cg p n ≤ n := by
  intro n
  induction n with
  | zero => exact Nat.le_refl 0
  | succ n ih =>
    unfold cg
    split <;> omega
theorem cg_add (p : Nat → Bool) (a : Nat) : ∀ n, cg (fun m => p m || m == a) n = cg p n + if a < n ∧ p a = false then 1 else 0 := by
  intro n
  induction n with
  | zero => rw [if_neg (by omega)]; rfl
  | succ n ih =>
    show cg (fun m => p m || m == a) n + (if (p n || n == a) = true then 1 else 0) = cg p n + (if p n = true then 1 else 0) + _
    rw [ih]
    by_cases e : n = a
    · subst e
      rw [if_neg (by omega), beq_self_eq_true, Bool.or_true, if_pos rfl]
      cases h : p n
      · simp
      · simp
    · rw [beq_false_of_ne e, Bool.or_false]
      by_cases c : a < n ∧ p a = false
      · rw [if_pos c, if_pos (show a < n + 1 ∧ p a = false from ⟨by omega, c.2⟩)]
        omega
      · rw [if_neg c, if_neg (show ¬ (a < n + 1 ∧ p a = false) from fun z => c ⟨by omega, z.2⟩)]
        rfl
def gt (W : Nat → Nat) (n m : Nat) : Bool := (List.range n).any fun q => W q == m
theorem gt_succ (W : Nat → Nat) (n : Nat) : gt W (n + 1) = fun m => gt W n m || m == W n := by
  funext m
  unfold gt
  rw [List.range_succ, List.any_append]
  simp only [List.any_cons, List.any_nil, Bool.or_false]
  rw [show (W n == m) = (m == W n) from by rw [Bool.eq_iff_iff, beq_iff_eq, beq_iff_eq]; exact eq_comm]
theorem gt_iff {W : Nat → Nat} {n m : Nat} : gt W n m = true ↔ ∃ q, q < n ∧ W q = m := by
  unfold gt
  simp
/-- the marks of a set in cell c -/
def MK (c : Nat) (p : Nat → Bool) (μ : xMu) : Prop := ∀ m, m < 256 → μ c m = if p m then 1 else 0
theorem MK.add {c : Nat} {p : Nat → Bool} {μ : xMu} {a : Nat} (h : MK c p μ) : MK c (fun m => p m || m == a) (x_wr μ c a 1) := by
  intro m hm
  rw [w_wr]
  by_cases e : m = a
  · rw [if_pos ⟨rfl, e⟩, e]
    simp
  · rw [if_neg (fun z => e z.2), h m hm]
    show _ = if (p m || m == a) = true then 1 else 0
    rw [beq_false_of_ne e, Bool.or_false]
theorem nW {g : Nat} (hg : 1 ≤ g ∧ g ≤ 3) : ∃ N, N ≤ 256 ∧ (((nI g + 1) * (nI g + 1)) * (nI g + 1)) * (nI g + 1) = nI N ∧ f12_worlds (nI g) = some (nI N) := by
  refine ⟨((g + 1) * (g + 1)) * (g + 1) * (g + 1), ?_, ?_, ?_⟩
  · rcases (show g = 1 ∨ g = 2 ∨ g = 3 by omega) with rfl | rfl | rfl <;> decide
  · rw [nI_1, pk_mul, pk_mul, pk_mul]
  · unfold f12_worlds
    rw [nI_1, pk_mul, pk_mul, pk_mul]
theorem l_ga2 (k : Int32 → xMu → Option (Int32 × xMu)) (v : Int32) : ∀ (f i : Nat) (μ : xMu), i ≤ 256 → 256 < i + f → (∀ m, m < i → μ 159 m = 0) →
    ∃ μ', f9_gather_l2 k f v (nI i) μ = k v μ' ∧ MK 159 (fun _ => false) μ' ∧ gs (fun a _ => a == 159) μ μ' := by
  intro f
  induction f with
  | zero => intro i μ _ h; omega
  | succ f ih =>
    intro i μ hi hf h
    unfold f9_gather_l2
    by_cases c : 256 ≤ i
    · rw [if_pos (show (256 : Int32) ≤ nI i from nI_le (a := 256) c (by omega))]
      exact ⟨μ, rfl, fun m hm => h m (by omega), gs.refl⟩
    · rw [if_neg (show ¬ (256 : Int32) ≤ nI i from nI_ge (b := 256) (by omega) (by decide)), a_ast (by omega) (by decide), nI_1]
      obtain ⟨μ', a1, a2, a3⟩ := ih (i + 1) (x_wr μ 159 i 0) (by omega) (by omega) (fun m hm => by
        rw [w_wr]
        split
        · rfl
        · next e => exact h m (by omega))
      exact ⟨μ', a1, a2, (gs.refl.wr (by simp)).trans a3⟩
def pX : Nat → Nat → Bool := fun a _ => decide (a = 158 ∨ a = 159)
theorem pXP {P : xP} {O : xO} {F : Nat} {μ μ' : xMu} (w : Pwf P) (pc : PC P μ) (cc : CC O F μ) (g : gs pX μ μ') : PC P μ' ∧ CC O F μ' := by
  have g' : ∀ a b, a < 158 → μ' a b = μ a b := fun a b z => g a b (decide_eq_false (by omega))
  exact ⟨pc.of (fun j _ _ => g' _ _ (by decide)) (fun k a b => funext fun j => g' _ _ (by omega)) w, cc.of (g' _ _ (by decide)) (g' _ _ (by decide)) (funext fun j => g' _ _ (by decide)) (funext fun j => g' _ _ (by decide))⟩
theorem l_ga43 {P : xP} {O : xO} {F A g N : Nat} (w : Pwf P) (ow : Owf P O) (hA : ∀ l, A.testBit l = awU P O l) (hg : 1 ≤ g ∧ g ≤ 3) (hN : N ≤ 256) (k : Int32 → xMu → Option (Int32 × xMu)) : ∀ (f i : Nat) (μ : xMu), i ≤ N → N < i + f → PC P μ → CC O F μ → MK 159 (gt (fun q => fpt P A (wv g q)) i) μ →
    ∃ μ', f9_gather_l43 k f (nI g) (nI (cg (gt (fun q => fpt P A (wv g q)) i) 256)) (nI N) (nI i) μ = k (nI (cg (gt (fun q => fpt P A (wv g q)) N) 256)) μ' ∧ MK 159 (gt (fun q => fpt P A (wv g q)) N) μ' ∧ gs pX μ μ' := by
  intro f
  induction f with
  | zero => intro i μ _ h; omega
  | succ f ih =>
    intro i μ hi hf pc cc mk
    unfold f9_gather_l43 f9_gather_j86
    by_cases c : N ≤ i
    · rw [if_pos (nI_le c (by omega))]
      obtain rfl : i = N := by omega
      exact ⟨μ, rfl, mk, gs.refl⟩
    · obtain ⟨μa, a1, a2, a3⟩ := t_fow (μ := μ) hg (show i < 2 ^ 31 by omega)
      have ga : gs pX μ μa := a3.mono (fun a b z => decide_eq_true (Or.inl (by simpa using z)))
      obtain ⟨pca, cca⟩ := pXP w pc cc ga
      obtain ⟨A', b1, b2, b3⟩ := t_au w pca ow cca
      obtain rfl : A' = A := Nat.eq_of_testBit_eq (fun l => by rw [b3 l, hA l])
      have fp := t_fpt w pca ow cca (c := 158) (by decide) (by decide) a2 b1
      have fwf := fpt_wf (A := A') (v := wv g i) w
      have mka : MK 159 (gt (fun q => fpt P A' (wv g q)) i) μa := fun m hm => by rw [a3 159 m rfl]; exact mk m hm
      rw [if_neg (nI_ge (by omega) (by omega)), a1]
      simp only [Option.bind_some]
      rw [fp]
      simp only [Option.bind_some]
      rw [a_ald fwf.1 (by decide), mka _ fwf.1, a_ast fwf.1 (by decide), nI_1, nI_1]
      have es := gt_succ (fun q => fpt P A' (wv g q)) i
      have ec := cg_add (gt (fun q => fpt P A' (wv g q)) i) (fpt P A' (wv g i)) 256
      rw [← es] at ec
      cases e : gt (fun q => fpt P A' (wv g q)) i (fpt P A' (wv g i)) with
      | false =>
        rw [e, if_pos ⟨fwf.1, rfl⟩] at ec
        rw [if_pos (by simp)]
        have mkb : MK 159 (gt (fun q => fpt P A' (wv g q)) (i + 1)) (x_wr μa 159 (fpt P A' (wv g i)) 1) := by rw [es]; exact mka.add
        have gb : gs pX μa (x_wr μa 159 (fpt P A' (wv g i)) 1) := gs.refl.wr (decide_eq_true (by omega))
        obtain ⟨pcb, ccb⟩ := pXP w pca cca gb
        obtain ⟨μ', d1, d2, d3⟩ := ih (i + 1) _ (by omega) (by omega) pcb ccb mkb
        rw [ec] at d1
        exact ⟨μ', d1, d2, (ga.trans gb).trans d3⟩
      | true =>
        rw [e, if_neg (fun z => absurd z.2 (by decide))] at ec
        rw [if_neg (by decide)]
        have mkb : MK 159 (gt (fun q => fpt P A' (wv g q)) (i + 1)) μa := by
          intro m hm
          rw [mka m hm, es]
          by_cases em : m = fpt P A' (wv g i)
          · rw [em, e]; simp
          · show _ = if (gt (fun q => fpt P A' (wv g q)) i m || m == fpt P A' (wv g i)) = true then 1 else 0
            rw [beq_false_of_ne em, Bool.or_false]
        obtain ⟨μ', d1, d2, d3⟩ := ih (i + 1) μa (by omega) (by omega) pca cca mkb
        have ec2 : cg (gt (fun q => fpt P A' (wv g q)) (i + 1)) 256 = cg (gt (fun q => fpt P A' (wv g q)) i) 256 := by omega
        rw [ec2] at d1
        exact ⟨μ', d1, d2, ga.trans d3⟩
theorem t_gth {P : xP} {O : xO} {F A g N : Nat} {μ : xMu} (w : Pwf P) (pc : PC P μ) (ow : Owf P O) (cc : CC O F μ) (hA : ∀ l, A.testBit l = awU P O l) (hg : 1 ≤ g ∧ g ≤ 3) (hN : N ≤ 256) (eN : (((nI g + 1) * (nI g + 1)) * (nI g + 1)) * (nI g + 1) = nI N) :
    ∃ μ', f9_gather (nI g) μ = some (nI (cg (gt (fun q => fpt P A (wv g q)) N) 256), μ') ∧ MK 159 (gt (fun q => fpt P A (wv g q)) N) μ' ∧ gs pX μ μ' := by
  unfold f9_gather
  obtain ⟨μa, a1, a2, a3⟩ := l_ga2 (fun (y2 : Int32) (μ3 : xMu) => (f9_gather_l43 (fun (y8 : Int32) (μ9 : xMu) => (some (y8, μ9))) 1000 y2 (0 : Int32) ((((y2 + (1 : Int32)) * (y2 + (1 : Int32))) * (y2 + (1 : Int32))) * (y2 + (1 : Int32))) (0 : Int32) μ3)) (nI g) 1000 0 μ (by decide) (by decide) (fun m h => by omega)
  have ga : gs pX μ μa := a3.mono (fun a b z => decide_eq_true (Or.inr (by simpa using z)))
  obtain ⟨pca, cca⟩ := pXP w pc cc ga
  have g0 : gt (fun q => fpt P A (wv g q)) 0 = fun _ => false := rfl
  have c0 : cg (gt (fun q => fpt P A (wv g q)) 0) 256 = 0 := by
    have : ∀ n, cg (fun _ => false) n = 0 := fun n => by
      induction n with
      | zero => rfl
      | succ n ih => unfold cg; rw [ih]; rfl
    rw [g0, this]
  obtain ⟨μ', b1, b2, b3⟩ := l_ga43 (F := F) w ow hA hg hN (fun (y8 : Int32) (μ9 : xMu) => (some (y8, μ9))) 1000 0 μa (by omega) (by omega) pca cca (by rw [g0]; exact a2)
  rw [c0] at b1
  refine ⟨μ', a1.trans ?_, b2, ga.trans b3⟩
  rw [eN]
  exact b1
