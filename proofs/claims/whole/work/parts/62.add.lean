/-! PURE: rows: adding a layer's bodies, in the class -/
def ended (P : xP) (R : List Nat) : Bool := R.getLast?.any (fun b => P 4 b 3 == 3)
def ad (P : xP) (lc : Nat) : List Nat → List Nat → List Nat
  | [], R => R
  | b :: bs, R => if ended P R then R else if P 4 b 0 = lc then ad P lc bs (R ++ [b]) else ad P lc bs R
def RW (c : Nat) (R : List Nat) (μ : xMu) : Prop := ∀ i b, R[i]? = some b → μ c i = nI b
theorem RW.push {c : Nat} {R : List Nat} {μ : xMu} (h : RW c R μ) (b : Nat) : RW c (R ++ [b]) (x_wr μ c R.length (nI b)) := by
  intro i q hq
  rw [List.getElem?_append] at hq
  split at hq
  · next z =>
    have z1 : ¬ i = R.length := by omega
    simp [x_wr, z1, h i q hq]
  · next z =>
    have z1 : i = R.length := by
      rcases Nat.lt_or_ge R.length i with y | y
      · rw [List.getElem?_eq_none (by simp; omega)] at hq; cases hq
      · omega
    subst z1
    simp at hq
    subst hq
    simp [x_wr]
/-- a cell for a row -/
def rowC (c : Nat) : Prop := x_isb c 13 = true ∧ 24 ≤ x_sz c ∧ x_sz c < 2 ^ 31 ∧ (∀ j, x_gr c j = 0) ∧ c ≠ 131 ∧ c ≠ 133 ∧ c ≠ 132
theorem t_end {P : xP} {c : Nat} {R : List Nat} {μ : xMu} (w : Pwf P) (pc : PC P μ) (hc : rowC c) (hR : RW c R μ) (hl : R.length ≤ 24) (hb : ∀ b ∈ R, b < pB P) : f6_isEnded μ c (nI R.length) = some (if ended P R then 1 else 0) := by
  have hB := w.1.2.2.2
  have hz := hc.2.1
  unfold f6_isEnded
  rcases Nat.eq_zero_or_pos R.length with e | e
  · obtain rfl := List.eq_nil_of_length_eq_zero e
    rw [if_pos (show nI ([] : List Nat).length ≤ 0 by decide)]
    rfl
  · have hi : R.length - 1 < R.length := by omega
    have eb := hR (R.length - 1) R[R.length - 1] (List.getElem?_eq_getElem hi)
    have hbb := hb _ (List.getElem_mem hi)
    have h24 : R[R.length - 1] < 24 := by omega
    have q := w.2.2.2.2 _ hbb
    have ee : ended P R = (P 4 R[R.length - 1] 3 == 3) := by
      unfold ended
      rw [List.getLast?_eq_getElem?, List.getElem?_eq_getElem hi]
      rfl
    rw [if_neg (nI_nle e (by omega)), a_chk hc.1, show (1 : Int32) = nI 1 from rfl, pk_sub (by omega), a_ald (by omega) hc.2.2.1, eb, a_rld h24 (by decide) (r_body _ h24).1, a_chk (r_body _ h24).2.1, (pc.2.2.2.2 _ hbb).2.2.1, ee]
    by_cases y : P 4 R[R.length - 1] 3 = 3
    · rw [y, if_pos (show nI 3 = 3 from rfl)]
      rfl
    · rw [if_neg (show ¬ nI (P 4 R[R.length - 1] 3) = 3 from nI_ne (b := 3) (by omega) (by decide) y)]
      have : (P 4 R[R.length - 1] 3 == 3) = false := beq_false_of_ne y
      rw [this]
      rfl
theorem l_adb {P : xP} (w : Pwf P) {c lc : Nat} (hc : rowC c) (hlc : lc ≤ 8) {L : List Nat} (hL : ∀ b ∈ L, b < pB P) (hL24 : L.length ≤ 24) (k : Int32 → xMu → Option (Int32 × xMu)) : ∀ (f i : Nat) (R : List Nat) (μ : xMu), i ≤ L.length → L.length < i + f → PC P μ → GF L μ → RW c R μ → (∀ b ∈ R, b < pB P) → (R ++ (L.drop i).filter (fun b => P 4 b 0 == lc)).length ≤ 24 →
    ∃ μ', f6_addBodies_l6 k f c (cN (-1) lc) (nI R.length) (nI i) μ = k (nI (ad P lc (L.drop i) R).length) μ' ∧ RW c (ad P lc (L.drop i) R) μ' ∧ gs (fun a _ => a == c) μ μ' := by
  intro f
  induction f with
  | zero => intro i R μ _ h; omega
  | succ f ih =>
    intro i R μ hi hf pc gf rw' hb hlen
    have hB := w.1.2.2.2
    have hpL := w.1.2.2.1
    have hR24 : R.length ≤ 24 := by rw [List.length_append] at hlen; omega
    unfold f6_addBodies_l6 f6_addBodies_j61
    rw [gf.1]
    by_cases ci : L.length ≤ i
    · rw [if_pos (nI_le ci (by omega)), List.drop_eq_nil_of_le ci]
      exact ⟨μ, rfl, rw', gs.refl⟩
    · have hi2 : i < L.length := by omega
      have hbi := hL _ (List.getElem_mem hi2)
      have h24 : L[i] < 24 := by omega
      have q := w.2.2.2.2 _ hbi
      have e33 := gf.2 i _ (List.getElem?_eq_getElem hi2)
      rw [if_neg (nI_ge (by omega) (by omega)), t_end w pc hc rw' hR24 hb, List.drop_eq_getElem_cons hi2]
      rw [List.drop_eq_getElem_cons hi2] at hlen
      unfold ad
      simp only [Option.bind_some]
      cases e : ended P R with
      | true =>
        simp only [if_true, e10, if_false]
        exact ⟨μ, rfl, rw', gs.refl⟩
      | false =>
        simp only [Bool.false_eq_true, if_false, e00, if_true]
        rw [a_ald (by omega) (by decide), e33, a_rld h24 (by decide) (r_body _ h24).1, a_chk (r_body _ h24).2.1, (pc.2.2.2.2 _ hbi).2.1, a_ald (by omega) (by decide), e33, a_chk hc.1, nI_1, nI_1]
        have ec : (cN (-1) (P 4 L[i] 0) = cN (-1) lc) = (P 4 L[i] 0 = lc) := by
          apply propext
          unfold cN
          rw [i_eq]
          split
          · split
            · constructor <;> intro _ <;> omega
            · rw [nI_toInt (by omega), show (-1 : Int32).toInt = -1 by decide]
              constructor <;> intro _ <;> omega
          · rw [nI_toInt (by omega)]
            split
            · rw [show (-1 : Int32).toInt = -1 by decide]
              constructor <;> intro _ <;> omega
            · rw [nI_toInt (by omega)]
              constructor <;> intro _ <;> omega
        simp only [ec]
        by_cases x : P 4 L[i] 0 = lc
        · rw [if_pos x, if_pos x]
          rw [List.filter_cons, if_pos (by simp [x])] at hlen
          have hl : R.length < 24 := by
            rw [List.length_append, List.length_cons] at hlen
            omega
          rw [a_ast (by have := hc.2.1; omega) hc.2.2.1]
          have g : gs (fun a _ => a == c) μ (x_wr μ c R.length (nI L[i])) := gs.refl.wr (by simp)
          have g' : gs (fun k j => g0 (x_gr k j)) μ (x_wr μ c R.length (nI L[i])) := gs.refl.wr (by rw [hc.2.2.2.1]; rfl)
          obtain ⟨μ', a1, a2, a3⟩ := ih (i + 1) (R ++ [L[i]]) (x_wr μ c R.length (nI L[i])) (by omega) (by omega) (gPC w pc g' rfl) ⟨by rw [x_wr_ne (Ne.symm hc.2.2.2.2.1)]; exact gf.1, fun j b h => by rw [x_wr_ne (Ne.symm hc.2.2.2.2.2.1)]; exact gf.2 j b h⟩ (rw'.push _) (fun b h => by
            rcases List.mem_append.mp h with h | h
            · exact hb b h
            · simp at h; rw [h]; exact hbi) (by rw [List.append_assoc]; exact hlen)
          rw [List.length_append] at a1
          exact ⟨μ', a1, a2, g.trans a3⟩
        · rw [if_neg x, if_neg x]
          rw [List.filter_cons, if_neg (by simp [x])] at hlen
          exact ih (i + 1) R μ (by omega) (by omega) pc gf rw' hb hlen
