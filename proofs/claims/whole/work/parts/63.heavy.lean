/-! PURE: rows: the heaviest layer -/
def hw (W : Nat → Nat) (h : Nat) : Nat := if h = 0 then 0 else W (h - 1)
def hv (W : Nat → Nat) : Nat → Nat
  | 0 => 0
  | i + 1 => if hw W (hv W i) < W i then i + 1 else hv W i
theorem hv_le (W : Nat → Nat) : ∀ n, hv W n ≤ n := by
  intro n
  induction n with
  | zero => exact Nat.le_refl 0
  | succ n ih =>
    unfold hv
    split <;> omega
theorem hv_pos (W : Nat → Nat) : ∀ n, 0 < hv W n → 0 < W (hv W n - 1) := by
  intro n
  induction n with
  | zero => intro h; exact absurd h (by unfold hv; omega)
  | succ n ih =>
    unfold hv
    split
    · next e => intro _; rw [show n + 1 - 1 = n by omega]; omega
    · exact ih
theorem hv_no (W : Nat → Nat) : ∀ n, hv W n = 0 → ∀ l, l < n → W l = 0 := by
  intro n
  induction n with
  | zero => intro _ l h; omega
  | succ n ih =>
    intro e l hl
    unfold hv at e
    split at e
    · omega
    · next q =>
      rw [e] at q
      unfold hw at q
      simp only [if_true] at q
      rcases Nat.lt_or_ge l n with z | z
      · exact ih e l z
      · obtain rfl : l = n := by omega
        omega
def WT (n : Nat) (W : Nat → Nat) (μ : xMu) : Prop := ∀ l, l < n → μ 132 l = cN (-1) (W l) ∧ W l < 1000
theorem l_hvc {P : xP} {W : Nat → Nat} {μ : xMu} (w : Pwf P) (pc : PC P μ) (hW : WT (pL P) W μ) (k : Int32 → xMu → Option (Int32 × xMu)) : ∀ (f i : Nat), i ≤ pL P → pL P < i + f →
    f6_takeHeaviest_l6 k f (cN (-1) (hv W i)) (cN (-1) (hw W (hv W i))) (nI i) μ = k (cN (-1) (hv W (pL P))) μ := by
  intro f
  induction f with
  | zero => intro i _ h; omega
  | succ f ih =>
    intro i hi hf
    have hL := w.1.2.2.1
    unfold f6_takeHeaviest_l6 f6_takeHeaviest_j36
    rw [pc.1.2.2.1]
    by_cases c : pL P ≤ i
    · rw [if_pos (nI_le c (by omega)), show i = pL P by omega]
    · have hip : i < pL P := by omega
      have hW2 : hw W (hv W i) < 1000 := by
        unfold hw
        split
        · omega
        · have := hv_le W i
          exact (hW _ (by omega)).2
      rw [if_neg (nI_ge (by omega) (by omega)), a_ald (by omega) (by decide), a_ald (by omega) (by decide), (hW i hip).1, nI_1, ← ih (i + 1) (by omega) (by omega)]
      have cl : ∀ c, c < 1000 → (cN (-1) c).toInt = (c : Int) - 1 := by
        intro c h1
        unfold cN
        split
        · next e => rw [e]; decide
        · rw [nI_toInt (by omega)]; omega
      have e1 : hv W (i + 1) = if hw W (hv W i) < W i then i + 1 else hv W i := rfl
      rw [e1]
      by_cases z : hw W (hv W i) < W i
      · rw [if_neg (by rw [i_le, cl _ (hW i hip).2, cl _ hW2]; omega), if_pos z]
        rfl
      · rw [if_pos (by rw [i_le, cl _ (hW i hip).2, cl _ hW2]; omega), if_neg z]
/-- a layer taken out -/
def W0 (W : Nat → Nat) (l : Nat) : Nat → Nat := fun x => if x = l then 0 else W x
theorem t_hvy {P : xP} {W : Nat → Nat} {μ : xMu} (w : Pwf P) (pc : PC P μ) (hW : WT (pL P) W μ) :
    (hv W (pL P) = 0 → f6_takeHeaviest μ = some (-1, μ)) ∧
    (0 < hv W (pL P) → f6_takeHeaviest μ = some (nI (hv W (pL P) - 1), x_wr μ 132 (hv W (pL P) - 1) (-1)) ∧ WT (pL P) (W0 W (hv W (pL P) - 1)) (x_wr μ 132 (hv W (pL P) - 1) (-1))) := by
  have hL := w.1.2.2.1
  have hle := hv_le W (pL P)
  have e := l_hvc w pc hW (fun (y3 : Int32) (μ4 : xMu) => (if y3 < 0 then (some (y3, μ4)) else (x_ast μ4 132 8 y3 (-1 : Int32) fun μ5 => (some (y3, μ5))))) 1000 0 (by omega) (by omega)
  refine ⟨fun z => ?_, fun z => ⟨?_, ?_⟩⟩
  · refine e.trans ?_
    rw [z]
    rfl
  · refine e.trans ?_
    have q : cN (-1) (hv W (pL P)) = nI (hv W (pL P) - 1) := by unfold cN; rw [if_neg (by omega)]
    rw [q, if_neg (nI_pos (by omega)), a_ast (by omega) (by decide)]
  · intro l hl
    unfold W0
    rw [w_wr]
    by_cases c : l = hv W (pL P) - 1
    · rw [if_pos ⟨rfl, c⟩, if_pos c]
      exact ⟨rfl, by omega⟩
    · rw [if_neg (fun q => c q.2), if_neg c]
      exact hW l hl
