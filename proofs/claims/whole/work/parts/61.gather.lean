/-! PURE: rows: gathering, in the class -/
def bdn (P : xP) (k r : Nat) : Nat → Nat → List Nat
  | _, 0 => []
  | i, n + 1 => if P 4 i 1 == k && P 4 i 2 == r then i :: bdn P k r (i + 1) n else bdn P k r (i + 1) n
theorem bdn_eq (P : xP) (k r : Nat) : ∀ n i, bdn P k r i n = (List.range' i n).filter (fun b => P 4 b 1 == k && P 4 b 2 == r) := by
  intro n
  induction n with
  | zero => intro i; rfl
  | succ n ih =>
    intro i
    unfold bdn
    rw [List.range'_succ, List.filter_cons, ih (i + 1)]
theorem bds_eq (P : xP) (k r : Nat) : bds P k r = bdn P k r 0 (pB P) := by
  unfold bds
  rw [bdn_eq, List.range_eq_range']
def GF (L : List Nat) (μ : xMu) : Prop := μ 131 4 = nI L.length ∧ ∀ i b, L[i]? = some b → μ 133 i = nI b
def g0 : Nat → Bool := fun n => n == 0
def pG : Nat → Nat → Bool := fun a b => a == 133 || (a == 131 && b == 4)
theorem pG0 : ∀ k j, pG k j = true → g0 (x_gr k j) = true := by
  intro k j q
  unfold pG at q
  simp only [Bool.or_eq_true, Bool.and_eq_true, beq_iff_eq] at q
  rcases q with rfl | ⟨rfl, rfl⟩ <;> rfl
theorem GF.push {L : List Nat} {μ : xMu} (h : GF L μ) (b : Nat) : GF (L ++ [b]) (x_wr (x_wr μ 133 L.length (nI b)) 131 4 (nI (L.length + 1))) := by
  refine ⟨by rw [List.length_append]; rfl, fun i q hq => ?_⟩
  rw [List.getElem?_append] at hq
  split at hq
  · next c =>
    have c1 : ¬ i = L.length := by omega
    simp [x_wr, c1, h.2 i q hq]
  · next c =>
    have c1 : i = L.length := by
      rcases Nat.lt_or_ge L.length i with z | z
      · rw [List.getElem?_eq_none (by simp; omega)] at hq; cases hq
      · omega
    subst c1
    simp at hq
    subst hq
    simp [x_wr]
theorem t_for {P : xP} {μ : xMu} (w : Pwf P) (pc : PC P μ) {b k r : Nat} (hb : b < pB P) (hk : k < 8) (hr : r < 4) : f1_isFor μ (30 + 4 * b) (nI k) (nI r) = some (if P 4 b 1 == k && P 4 b 2 == r then 1 else 0) := by
  have hB := w.1.2.2.2
  have hK := w.1.1
  have a := pc.2.2.2.2 b hb
  have q := w.2.2.2.2 b hb
  unfold f1_isFor
  rw [a_chk (r_body b (by omega)).2.1, a.2.2.2.1, a.2.2.2.2.1]
  by_cases x : P 4 b 1 = k
  · rw [x, if_pos rfl]
    by_cases y : P 4 b 2 = r
    · rw [y, if_pos rfl]; simp
    · rw [if_neg (nI_ne (by omega) (by omega) y)]
      simp [y]
  · rw [if_neg (nI_ne (by omega) (by omega) x)]
    simp [x]
theorem l_g25 {P : xP} (w : Pwf P) {k0 r : Nat} (hk : k0 < 8) (hr : r < 4) (v4 : Int32) (k : Int32 → Int32 → Int32 → xMu → Option xMu) : ∀ (f i n : Nat) (L : List Nat) (μ : xMu), i + n = pB P → n < f → PC P μ → GF L μ → (L ++ bdn P k0 r i n).length ≤ 24 →
    ∃ μ', f6_gatherFitting_l25 k f (nI r) (nI k0) v4 (nI i) μ = k (nI r) (nI k0) v4 μ' ∧ GF (L ++ bdn P k0 r i n) μ' ∧ gs pG μ μ' := by
  intro f
  induction f with
  | zero => intro i n L μ _ h; omega
  | succ f ih =>
    intro i n L μ hi hf pc gf hlen
    have hB := w.1.2.2.2
    unfold f6_gatherFitting_l25 f6_gatherFitting_j76
    rw [pc.1.2.2.2]
    cases n with
    | zero =>
      rw [if_pos (nI_le (by omega) (by omega))]
      refine ⟨μ, rfl, ?_, gs.refl⟩
      unfold bdn
      rw [List.append_nil]
      exact gf
    | succ n =>
      have hb : i < 24 := by omega
      rw [if_neg (nI_ge (by omega) (by omega)), a_rld hb (by decide) (r_body i hb).1, a_chk (r_body i hb).2.1, t_for w pc (by omega) hk hr]
      simp only [Option.bind_some, a_put, nI_1]
      unfold bdn at hlen ⊢
      cases e : P 4 i 1 == k0 && P 4 i 2 == r with
      | false =>
        rw [e] at hlen
        simp only [Bool.false_eq_true, if_false] at hlen
        simp only [Bool.false_eq_true, if_false, e00, if_true]
        exact ih (i + 1) n L μ (by omega) (by omega) pc gf hlen
      | true =>
        rw [e] at hlen
        simp only [if_true] at hlen
        simp only [if_true, e10, if_false]
        have hl : L.length < 24 := by
          rw [List.length_append, List.length_cons] at hlen
          omega
        rw [gf.1, a_ast hl (by decide), show (x_wr μ 133 L.length (nI i)) 131 4 = nI L.length from gf.1, nI_1]
        have g : gs pG μ (x_wr (x_wr μ 133 L.length (nI i)) 131 4 (nI (L.length + 1))) := (gs.refl.wr rfl).wr rfl
        obtain ⟨μ', a1, a2, a3⟩ := ih (i + 1) n (L ++ [i]) _ (by omega) (by omega) (gPC (g := g0) w pc (g.mono pG0) rfl) (gf.push i) (by rw [List.append_assoc]; exact hlen)
        refine ⟨μ', a1, ?_, g.trans a3⟩
        rw [List.append_assoc] at a2
        exact a2
theorem l_g10 {P : xP} (w : Pwf P) {r : Nat} (hr : r < 4) (k : xMu → Option xMu) : ∀ (n f j c : Nat) (L : List Nat) (μ : xMu), c ≤ n → n < f → c ≤ pK P → j + c ≤ 8 → PC P μ → GF L μ → (L ++ (kch P n c).flatMap (fun k => bds P k r)).length ≤ 24 →
    ∃ μ', f6_gatherFitting_l10 k f (nI r) (cN (-1) c) (nI j) μ = k μ' ∧ GF (L ++ (kch P n c).flatMap (fun k => bds P k r)) μ' ∧ gs pG μ μ' := by
  intro n
  induction n with
  | zero =>
    intro f j c L μ hc hf hK hj pc gf hlen
    obtain ⟨f, rfl⟩ : ∃ g, f = g + 1 := ⟨f - 1, by omega⟩
    obtain rfl : c = 0 := by omega
    refine ⟨μ, ?_, by simpa [kch] using gf, gs.refl⟩
    unfold f6_gatherFitting_l10
    split
    · rfl
    · rw [if_pos (show cN (-1) 0 = -1 from rfl)]
  | succ n ih =>
    intro f j c L μ hc hf hK hj pc gf hlen
    obtain ⟨f, rfl⟩ : ∃ g, f = g + 1 := ⟨f - 1, by omega⟩
    have hK8 := w.1.1
    cases c with
    | zero =>
      refine ⟨μ, ?_, by simpa [kch] using gf, gs.refl⟩
      unfold f6_gatherFitting_l10
      split
      · rfl
      · rw [if_pos (show cN (-1) 0 = -1 from rfl)]
    | succ c =>
      have h2 := w.2.1 c (by omega)
      have e1 : cN (-1) (c + 1) = nI c := rfl
      unfold kch at hlen ⊢
      rw [List.flatMap_cons, bds_eq, ← List.append_assoc] at hlen
      rw [List.flatMap_cons, bds_eq, ← List.append_assoc]
      unfold f6_gatherFitting_l10
      rw [if_neg (show ¬ (8 : Int32) ≤ nI j from nI_ge (b := 8) (by omega) (by decide)), e1, if_neg (by rw [i_eq, nI_toInt (by omega), show (-1 : Int32).toInt = -1 by decide]; omega)]
      obtain ⟨μa, a1, a2, a3⟩ := l_g25 w (show c < 8 by omega) hr (nI j) (fun (y7 : Int32) (y8 : Int32) (y9 : Int32) (μ10 : xMu) => (x_ald μ10 17 8 y8 fun x11 => ((f6_gatherFitting_l10 k f) y7 x11 (y9 + (1 : Int32)) μ10))) 1000 0 (pB P) L μ (by omega) (by have := w.1.2.2.2; omega) pc gf (by rw [List.length_append] at hlen; omega)
      have pca := gPC (g := g0) w pc (a3.mono pG0) rfl
      obtain ⟨μb, b1, b2, b3⟩ := ih f (j + 1) (P 1 c 0) _ μa (by omega) (by omega) (by omega) (by omega) pca a2 hlen
      refine ⟨μb, a1.trans ?_, b2, a3.trans b3⟩
      rw [a_ald (by omega) (by decide), pca.2.1 c (by omega), nI_1]
      exact b1
theorem t_gat {P : xP} {μ : xMu} (w : Pwf P) (pc : PC P μ) {k0 r : Nat} (hk : k0 < pK P) (hr : r < 4) : ∃ μ', f6_gatherFitting (nI k0) (nI r) μ = some μ' ∧ GF (fit P (k0 + 1) r) μ' ∧ gs pG μ μ' := by
  have hK8 := w.1.1
  have g : gs pG μ (x_wr μ 131 4 0) := gs.refl.wr rfl
  obtain ⟨μ', a1, a2, a3⟩ := l_g10 w hr (fun (μ12 : xMu) => (some μ12)) 9 1000 0 (k0 + 1) [] (x_wr μ 131 4 0) (by omega) (by omega) (by omega) (by omega) (gPC (g := g0) w pc (g.mono pG0) rfl) ⟨rfl, fun i b h => by simp at h⟩ (by rw [List.nil_append]; exact fit_len w (by omega))
  rw [List.nil_append] at a2
  refine ⟨μ', ?_, a2, g.trans a3⟩
  unfold f6_gatherFitting
  rw [a_put]
  exact a1
