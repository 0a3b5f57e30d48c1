/-! PURE: rows: gathering, in the class -/
def bdn (P : xP) (k r : Nat) : Nat → Nat → List Nat
  | _, 0 => []
  | i, n + 1 => if P 4 i 1 == k && P 4 i 2 == r then i :: bdn P k r (i + 1) n else bdn P k r (i + 1) n
theorem bdn_eq (P : xP) (k r : Nat) : ∀ n i, bdn P k r i n = (List.range' i n).filter (fun b => P 4 b 1 == k && P 4 b 2 == r) := by
  intro n
  induction n with
  | zero => intro i; rfl
  | succ n ih =>
    intro i
    unfold bdn
    rw [List.range'_succ, List.filter_cons, ih (i + 1)]
theorem bds_eq (P : xP) (k r : Nat) : bds P k r = bdn P k r 0 (pB P) := by
  unfold bds
  rw [bdn_eq, List.range_eq_range']
def GF (L : List Nat) (μ : xMu) : Prop := μ 131 4 = nI L.length ∧ ∀ i b, L[i]? = some b → μ 133 i = nI b
def g0 : Nat → Bool := fun n => n == 0
def pG : Nat → Nat → Bool := fun a b => a == 133 || (a == 131 && b == 4)
theorem pG0 : ∀ k j, pG k j = true → g0 (x_gr k j) = true := by
  intro k j q
  unfold pG at q
  simp only [Bool.or_eq_true, Bool.and_eq_true, beq_iff_eq] at q
  rcases q with rfl | ⟨rfl, rfl⟩ <;> rfl
theorem GF.push {L : List Nat} {μ : xMu} (h : GF L μ) (b : Nat) : GF (L ++ [b]) (x_wr (x_wr μ 133 L.length (nI b)) 131 4 (nI (L.length + 1))) := by
  refine ⟨by rw [List.length_append]; rfl, fun i q hq => ?_⟩
  rw [List.getElem?_append] at hq
  split at hq
  · next c =>
    have c1 : ¬ i = L.length := by omega
    simp [x_wr, c1, h.2 i q hq]
  · next c =>
    have c1 : i = L.length := by
      rcases Nat.lt_or_ge L.length i with z | z
      · rw [List.getElem?_eq_none (by simp; omega)] at hq; cases hq
      · omega
    subst c1
    simp at hq
    subst hq
    simp [x_wr]
theorem t_for {P : xP} {μ : xMu} (w : Pwf P) (pc : PC P μ) {b k r : Nat} (hb : b < pB P) (hk : k < 8) (hr : r < 4) : f1_isFor μ (30 + 4 * b) (nI k) (nI r) = some (if P 4 b 1 == k && P 4 b 2 == r then 1 else 0) := by
  have hB := w.1.2.2.2
  have hK := w.1.1
  have a := pc.2.2.2.2 b hb
  have q := w.2.2.2.2 b hb
  unfold f1_isFor
  rw [a_chk (r_body b (by omega)).2.1, a.2.2.2.1, a.2.2.2.2.1]
  by_cases x : P 4 b 1 = k
  · rw [x, if_pos rfl]
    by_cases y : P 4 b 2 = r
    · rw [y, if_pos rfl]; simp
    · rw [if_neg (nI_ne (by omega) (by omega) y)]
      simp [y]
  · rw [if_neg (nI_ne (by omega) (by omega) x)]
    simp [x]
theorem l_g25 {P : xP} (w : Pwf P) {k0 r : Nat} (hk : k0 < 8) (hr : r < 4) (v4 : Int32) (k : Int32 → Int32 → Int32 → xMu → Option xMu) : ∀ (f i n : Nat) (L : List Nat) (μ : xMu), i + n = pB P → n < f → PC P μ → GF L μ → (L ++ bdn P k0 r i n).length ≤ 24 →
    ∃ μ', f6_gatherFitting_l25 k f (nI r) (nI k0) v4 (nI i) μ = k (nI r) (nI k0) v4 μ' ∧ GF (L ++ bdn P k0 r i n) μ' ∧ gs pG μ μ' := by
  intro f
  induction f with
  | zero => intro i n L μ _ h; omega
  | succ f ih =>
    intro i n L μ hi hf pc gf hlen
    have hB := w.1.2.2.2
    unfold f6_gatherFitting_l25 f6_gatherFitting_j76
    rw [pc.1.2.2.2]
    cases n with
    | zero =>
      rw [if_pos (nI_le (by omega) (by omega))]
      refine ⟨μ, rfl, ?_, gs.refl⟩
      unfold bdn
      rw [List.append_nil]
      exact gf
    | succ n =>
      have hb : i < 24 := by omega
      rw [if_neg (nI_ge (by omega) (by omega)), a_rld hb (by decide) (r_body i hb).1, a_chk (r_body i hb).2.1, t_for w pc (by omega) hk hr]
      simp only [Option.bind_some, a_put, nI_1]
      unfold bdn at hlen ⊢
      cases e : P 4 i 1 == k0 && P 4 i 2 == r with
      | false =>
        rw [e] at hlen
        simp only [Bool.false_eq_true, if_false] at hlen
        simp only [Bool.false_eq_true, if_false, e00, if_true]
        exact ih (i + 1) n L μ (by omega) (by omega) pc gf hlen
      | true =>
        rw [e] at hlen
        simp only [if_true] at hlen
        simp only [if_true, e10, if_false]
        have hl : L.length < 24 := by
          rw [List.length_append, List.length_cons] at hlen
          omega
        rw [gf.1, a_ast hl (by decide), show (x_wr μ 133 L.length (nI i)) 131 4 = nI L.length from gf.1, nI_1]
        have g : gs pG μ (x_wr (x_wr μ 133 L.length (nI i)) 131 4 (nI (L.length + 1))) := (gs.refl.wr rfl).wr rfl
        obtain ⟨μ', a1, a2, a3⟩ := ih (i + 1) n (L ++ [i]) _ (by omega) (by omega) (gPC (g := g0) w pc (g.mono pG0) rfl) (gf.push i) (by rw [List.append_assoc]; exact hlen)
        refine ⟨μ', a1, ?_, g.trans a3⟩
        rw [List.append_assoc] at a2
        exact a2
