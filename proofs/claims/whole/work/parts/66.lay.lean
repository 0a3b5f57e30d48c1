/-! PURE: rows: f12_lay -/
def MW (s : Nat) (R : List Nat) (μ : xMu) : Prop := μ 187 s = nI R.length ∧ ∀ i b, R[i]? = some b → μ 188 (24 * s + i) = nI b
def pM (s : Nat) : Nat → Nat → Bool := fun a b => (a == 187 && b == s) || (a == 188 && decide (24 * s ≤ b) && decide (b < 24 * s + 24))
theorem pM0 {s : Nat} : ∀ k j, pM s k j = true → g0 (x_gr k j) = true := by
  intro k j q
  unfold pM at q
  simp only [Bool.or_eq_true, Bool.and_eq_true, beq_iff_eq] at q
  rcases q with ⟨rfl, -⟩ | ⟨⟨rfl, -⟩, -⟩ <;> rfl
theorem MW.push {s : Nat} {R : List Nat} {μ : xMu} (h : MW s R μ) (b : Nat) : MW s (R ++ [b]) (x_wr (x_wr μ 188 (24 * s + R.length) (nI b)) 187 s (nI (R.length + 1))) := by
  refine ⟨by rw [List.length_append]; simp [x_wr], fun i q hq => ?_⟩
  rw [List.getElem?_append] at hq
  split at hq
  · next z =>
    have z1 : ¬ i = R.length := by omega
    simp [x_wr, z1, h.2 i q hq]
  · next z =>
    have z1 : i = R.length := by
      rcases Nat.lt_or_ge R.length i with y | y
      · rw [List.getElem?_eq_none (by simp; omega)] at hq; cases hq
      · omega
    subst z1
    simp at hq
    subst hq
    simp [x_wr]
theorem ended_app (P : xP) (R : List Nat) (b : Nat) : ended P (R ++ [b]) = (P 4 b 3 == 3) := by
  unfold ended
  rw [List.getLast?_append]
  rfl
theorem ad_end (P : xP) (lc : Nat) (L R : List Nat) (h : ended P R = true) : ad P lc L R = R := by
  cases L with
  | nil => rfl
  | cons b bs => unfold ad; rw [if_pos h]
theorem ad_cons (P : xP) (lc b : Nat) (bs R : List Nat) : ad P lc (b :: bs) R = if ended P R then R else if P 4 b 0 = lc then ad P lc bs (R ++ [b]) else ad P lc bs R := rfl
theorem ad_app (P : xP) (lc : Nat) : ∀ (A B R : List Nat), ad P lc (A ++ B) R = ad P lc B (ad P lc A R) := by
  intro A
  induction A with
  | nil => intro B R; rfl
  | cons a A ih =>
    intro B R
    rw [List.cons_append, ad_cons, ad_cons]
    by_cases e : ended P R = true
    · rw [if_pos e, if_pos e, ad_end P lc B R e]
    · rw [if_neg e, if_neg e]
      by_cases x : P 4 a 0 = lc
      · rw [if_pos x, if_pos x, ih]
      · rw [if_neg x, if_neg x, ih]
