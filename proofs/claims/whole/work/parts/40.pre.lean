/-! PURE: small laws of the programs -/
theorem a_ald {α : Type} {μ : xMu} {k n i : Nat} {f : Int32 → Option α} (h : i < n) (hn : n < 2 ^ 31) : x_ald μ k n (nI i) f = f (μ k i) := by
  have h1 : x_inb (nI i) n = true := by
    simp only [x_inb, Bool.and_eq_true, decide_eq_true_eq, Bool.not_eq_true', decide_eq_false_iff_not]
    exact ⟨nI_pos (by omega), by rw [nI_clamp (by omega)]; exact h⟩
  unfold x_ald
  rw [h1, nI_clamp (by omega)]
  rfl
theorem a_inb {n i : Nat} (h : i < n) (hn : n < 2 ^ 31) : x_inb (nI i) n = true := by
  simp only [x_inb, Bool.and_eq_true, decide_eq_true_eq, Bool.not_eq_true', decide_eq_false_iff_not]
  exact ⟨nI_pos (by omega), by rw [nI_clamp (by omega)]; exact h⟩
theorem a_ast {α : Type} {μ : xMu} {k n i : Nat} {v : Int32} {f : xMu → Option α} (h : i < n) (hn : n < 2 ^ 31) : x_ast μ k n (nI i) v f = f (x_wr μ k i v) := by
  unfold x_ast
  rw [a_inb h hn, nI_clamp (by omega)]
  rfl
theorem a_put {α : Type} (μ : xMu) (k j : Nat) (v : Int32) (f : xMu → Option α) : x_put μ k j v f = f (x_wr μ k j v) := rfl
theorem a_rld {α : Type} {k n i r : Nat} {f : Nat → Option α} (h : i < n) (hn : n < 2 ^ 31) (hr : x_rf k i = some r) : x_rld k n (nI i) f = f r := by
  unfold x_rld
  rw [a_inb h hn, nI_clamp (by omega), hr]
  rfl
theorem a_rfd {α : Type} {k j r : Nat} {f : Nat → Option α} (hr : x_rf k j = some r) : x_rfd k j f = f r := by
  unfold x_rfd
  rw [hr]
theorem a_chk {α : Type} {k c : Nat} {o : Option α} (h : x_isb k c = true) : x_chk k c o = o := by
  unfold x_chk
  rw [h]
  rfl
theorem a_tst {α : Type} {b : Bool} {o : Option α} (h : b = true) : x_tst b o = o := by
  unfold x_tst
  rw [h]
  rfl
theorem a_zok0 : x_zok 0 = true := by decide
theorem a_zok1 : x_zok 1 = true := by decide
theorem a_zokif {c : Prop} [Decidable c] : x_zok (if c then 1 else 0) = true := by split <;> decide
/-- items' rows, layers, bodies -/
theorem r_item : ∀ s, s < 8 → x_rf 5 s = some (6 + s) ∧ x_isb (6 + s) 13 = true ∧ x_sz (6 + s) = 40 := by decide +kernel
theorem r_layer : ∀ s, s < 8 → x_rf 20 s = some (22 + s) ∧ x_isb (22 + s) 3 = true := by decide +kernel
theorem r_body : ∀ s, s < 24 → x_rf 21 s = some (30 + 4 * s) ∧ x_isb (30 + 4 * s) 1 = true ∧ x_rf (30 + 4 * s) 0 = some (31 + 4 * s) ∧ x_rf (30 + 4 * s) 1 = some (32 + 4 * s) ∧ x_rf (30 + 4 * s) 2 = some (33 + 4 * s) ∧ x_isb (31 + 4 * s) 13 = true ∧ x_isb (32 + 4 * s) 13 = true ∧ x_isb (33 + 4 * s) 13 = true ∧ x_sz (31 + 4 * s) = 6 ∧ x_sz (32 + 4 * s) = 6 ∧ x_sz (33 + 4 * s) = 6 := by decide +kernel
/-- numbers -/
theorem i_lt (a b : Int32) : a < b ↔ a.toInt < b.toInt := Int32.lt_iff_toInt_lt
theorem i_le (a b : Int32) : a ≤ b ↔ a.toInt ≤ b.toInt := Int32.le_iff_toInt_le
theorem i_eq (a b : Int32) : a = b ↔ a.toInt = b.toInt := Int32.toInt_inj.symm
theorem i_of {x : Int32} {n : Nat} (h0 : 0 ≤ x) (h : x.toInt < n) : ∃ j, j < n ∧ x = nI j := by
  have h1 : 0 ≤ x.toInt := by
    have := (i_le 0 x).mp h0
    simpa using this
  refine ⟨x.toInt.toNat, by omega, ?_⟩
  apply Int32.toInt_inj.mp
  have h2 := x.toInt_lt
  rw [nI_toInt (by omega)]
  omega
theorem lc_lt (a b : Int64) : lg_cmp a b < 0 ↔ a < b := by
  unfold lg_cmp
  by_cases h1 : a > b
  · rw [if_pos h1]
    constructor
    · intro h; exact absurd h (by decide)
    · intro h
      rw [gt_iff_lt, Int64.lt_iff_toInt_lt] at h1
      rw [Int64.lt_iff_toInt_lt] at h
      omega
  · rw [if_neg h1]
    by_cases h2 : a = b
    · rw [if_pos h2]
      constructor
      · intro h; exact absurd h (by decide)
      · intro h
        subst h2
        rw [Int64.lt_iff_toInt_lt] at h
        omega
    · rw [if_neg h2]
      constructor
      · intro _
        rw [gt_iff_lt, Int64.lt_iff_toInt_lt] at h1
        rw [Int64.lt_iff_toInt_lt]
        have : a.toInt ≠ b.toInt := fun e => h2 (Int64.toInt_inj.mp e)
        omega
      · intro _; decide
theorem lc_gt (a b : Int64) : 0 < lg_cmp a b ↔ b < a := by
  unfold lg_cmp
  by_cases h1 : a > b
  · rw [if_pos h1]
    exact ⟨fun _ => h1, fun _ => by decide⟩
  · rw [if_neg h1]
    constructor
    · intro h
      split at h
      · exact absurd h (by decide)
      · exact absurd h (by decide)
    · intro h; exact absurd h h1
/-- the reference's 'in' -/
theorem m_in (a lo hi : Int64) : f12_in a lo hi = some (if lo ≤ a ∧ a ≤ hi then 1 else 0) := by
  unfold f12_in
  by_cases h1 : a < lo
  · rw [if_pos ((lc_lt a lo).mpr h1), if_neg]
    rintro ⟨h, -⟩
    rw [Int64.lt_iff_toInt_lt] at h1
    rw [Int64.le_iff_toInt_le] at h
    omega
  · rw [if_neg (fun h => h1 ((lc_lt a lo).mp h))]
    by_cases h2 : hi < a
    · rw [if_pos ((lc_gt a hi).mpr h2), if_neg]
      rintro ⟨-, h⟩
      rw [Int64.lt_iff_toInt_lt] at h2
      rw [Int64.le_iff_toInt_le] at h
      omega
    · rw [if_neg (fun h => h2 ((lc_gt a hi).mp h)), if_pos]
      rw [Int64.lt_iff_toInt_lt] at h1 h2
      rw [Int64.le_iff_toInt_le, Int64.le_iff_toInt_le]
      omega
theorem l_of (x : Int32) : x.toInt64.toInt = x.toInt := Int32.toInt_toInt64 x
theorem m_inI (a : Int32) (lo hi : Int64) : f12_in a.toInt64 lo hi = some (if lo.toInt ≤ a.toInt ∧ a.toInt ≤ hi.toInt then 1 else 0) := by
  rw [m_in]
  simp only [Int64.le_iff_toInt_le, l_of]
/-- an int is a small number, or not -/
theorem i_small (x : Int32) (n : Nat) (hn : n < 2 ^ 31) : (∃ j, j < n ∧ x = nI j) ∨ (x.toInt < 0 ∨ (n : Int) ≤ x.toInt) := by
  by_cases h : x.toInt < 0
  · exact Or.inr (Or.inl h)
  · by_cases h2 : (n : Int) ≤ x.toInt
    · exact Or.inr (Or.inr h2)
    · exact Or.inl (i_of (by rw [i_le]; simpa using h) (by omega))
theorem w_wr (μ : xMu) (k j : Nat) (v : Int32) (a b : Nat) : x_wr μ k j v a b = if a = k ∧ b = j then v else μ a b := rfl
