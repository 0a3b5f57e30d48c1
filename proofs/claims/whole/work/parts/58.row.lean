/-! PURE: rows: the latest waking of a layer for a thing -/
def fits1 (l t : Nat) (q : Nat × Nat) : Bool := q.1 == l && (q.2 == 0 || q.2 == t + 1)
/-- 0, or one more than the latest index below j -/
def lo (O : xO) (t l : Nat) : Nat → Nat
  | 0 => 0
  | j + 1 => if (O[j]?.any (fits1 l t)) then j + 1 else lo O t l j
theorem lo_le (O : xO) (t l : Nat) : ∀ j, lo O t l j ≤ j := by
  intro j
  induction j with
  | zero => exact Nat.le_refl 0
  | succ j ih =>
    unfold lo
    split
    · exact Nat.le_refl _
    · omega
theorem l_ltc {P : xP} {O : xO} {F : Nat} {μ : xMu} (w : Pwf P) (ow : Owf P O) (cc : CC O F μ) {l t : Nat} (hl : l < pL P) (ht : t < 8) : ∀ (j f : Nat), j ≤ O.length → j < f → f2_latestOpen_l7 μ (some (-1)) f (nI l) (nI t) (nI j - 1) = some (cN (-1) (lo O t l j)) := by
  intro j
  induction j with
  | zero =>
    intro f _ hf
    obtain ⟨f, rfl⟩ : ∃ g, f = g + 1 := ⟨f - 1, by omega⟩
    unfold f2_latestOpen_l7
    rw [if_pos (by decide)]
    rfl
  | succ j ih =>
    intro f hj hf
    obtain ⟨f, rfl⟩ : ∃ g, f = g + 1 := ⟨f - 1, by omega⟩
    have h16 := ow.1
    have hT := w.1.2.1
    have hi : j < O.length := by omega
    have hq := ow.2 O[j] (List.getElem_mem hi)
    have hq8 := p8 w hq.1
    have h8 := p8 w hl
    have hq2 : O[j].2 ≤ 8 := by omega
    have r := ih f (by omega) (by omega)
    unfold f2_latestOpen_l7 f2_latestOpen_j32 f2_latestOpen_j37 f2_latestOpen_j56 lo
    rw [nI_pred, if_neg (nI_pos (by omega)), m1, g_some hi]
    simp only [a_ald (show j < 16 by omega) (show 16 < 2 ^ 31 by decide), (cc.2.2 j _ (g_some hi)).1, (cc.2.2 j _ (g_some hi)).2, r, Option.any_some]
    have e0 : (cN (-1000000) O[j].2 = -1000000) = (O[j].2 = 0) := by
      apply propext
      unfold cN
      split
      · next e => simp [e]
      · next e =>
        rw [i_eq, nI_toInt (by omega), show (-1000000 : Int32).toInt = -1000000 by decide]
        omega
    have e1 : (cN (-1000000) O[j].2 = nI t) = ((O[j].2 == t + 1) = true) := cN_eq (by decide) hq2 ht
    have e2 : (nI O[j].1 = nI l) = (O[j].1 = l) := propext (nI_eq (by omega) (by omega))
    simp only [e0, e1, e2, e10, e00, if_true, if_false]
    have e3 : cN (-1) (j + 1) = nI j := rfl
    unfold fits1
    by_cases a : O[j].1 = l
    · by_cases b : O[j].2 = 0
      · simp [a, b, e3]
      · by_cases c : O[j].2 = t + 1
        · simp [a, c, e3]
        · simp [a, b, c]
    · by_cases b : O[j].2 = 0
      · simp [a, b]
      · by_cases c : O[j].2 = t + 1
        · simp [a, c]
        · simp [a, b, c]
theorem t_lto {P : xP} {O : xO} {F : Nat} {μ : xMu} (w : Pwf P) (ow : Owf P O) (cc : CC O F μ) {l t : Nat} (hl : l < pL P) (ht : t < 8) : f2_latestOpen μ (nI l) (nI t) = some (cN (-1) (lo O t l O.length)) := by
  have h16 := ow.1
  unfold f2_latestOpen
  rw [cc.1]
  exact l_ltc w ow cc hl ht O.length 1000 (by omega) (by omega)
