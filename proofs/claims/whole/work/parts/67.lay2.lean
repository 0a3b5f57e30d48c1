/-! PURE: rows: f12_lay's loops -/
theorem cN_inj {a b : Nat} (ha : a ≤ 8) (hb : b ≤ 8) : (cN (-1000000) a = cN (-1000000) b) = (a = b) := by
  apply propext
  unfold cN
  rw [i_eq]
  split
  · split
    · constructor <;> intro _ <;> omega
    · rw [nI_toInt (by omega), n1M]
      constructor <;> intro _ <;> omega
  · rw [nI_toInt (by omega)]
    split
    · rw [n1M]
      constructor <;> intro _ <;> omega
    · rw [nI_toInt (by omega)]
      constructor <;> intro _ <;> omega
theorem l_m18 {P : xP} (w : Pwf P) {s lc k0 r : Nat} (hs : s < 7) (hlc : lc ≤ 8) (hk : k0 < 8) (hr : r < 4) (k : Int32 → Int32 → Int32 → Int32 → xMu → Option (Int32 × xMu)) : ∀ (f i n : Nat) (R : List Nat) (μ : xMu), i + n = pB P → n < f → PM P μ → MW s R μ → ended P R = false → (R ++ (bdn P k0 r i n).filter (fun b => P 4 b 0 == lc)).length ≤ 24 →
    ∃ μ', f12_lay_l18 k f (nI s) (cN (-1000000) lc) (nI r) (nI k0) (nI i) μ = (if ended P (ad P lc (bdn P k0 r i n) R) then some (1, μ') else k (nI s) (cN (-1000000) lc) (nI r) (nI k0) μ') ∧ MW s (ad P lc (bdn P k0 r i n) R) μ' ∧ gs (pM s) μ μ' := by
  intro f
  induction f with
  | zero => intro i n R μ _ h; omega
  | succ f ih =>
    intro i n R μ hi hf pm mw he hlen
    have hB := w.1.2.2.2
    have hL8 := w.1.2.2.1
    have hK8 := w.1.1
    unfold f12_lay_l18 f12_lay_j103
    rw [pm.1.2.2.2]
    cases n with
    | zero =>
      rw [if_pos (nI_le (by omega) (by omega))]
      unfold bdn
      rw [ad_nil, he]
      exact ⟨μ, rfl, mw, gs.refl⟩
    | succ n =>
      have hb : i < 24 := by omega
      have hib : i < pB P := by omega
      have q := w.2.2.2.2 i hib
      have a := pm.2.2.2.2 i hib
      rw [if_neg (nI_ge (by omega) (by omega)), nI_1]
      have q1 : (nI (P 4 i 1) = nI k0) = (P 4 i 1 = k0) := propext (nI_eq (by omega) (by omega))
      have q2 : (nI (P 4 i 2) = nI r) = (P 4 i 2 = r) := propext (nI_eq (by omega) (by omega))
      simp only [a_ald hb (show 24 < 2 ^ 31 by decide), a.2.1, a.2.2.2.1, a.2.2.2.2.1, cN_inj (show P 4 i 0 ≤ 8 by omega) hlc, q1, q2]
      unfold bdn at hlen ⊢
      by_cases x1 : P 4 i 1 = k0 ∧ P 4 i 2 = r
      · have xx : (P 4 i 1 == k0 && P 4 i 2 == r) = true := by simp [x1]
        rw [xx] at hlen ⊢
        simp only [if_true] at hlen ⊢
        rw [if_pos x1.1, if_pos x1.2, ad_cons, he]
        simp only [Bool.false_eq_true, if_false]
        by_cases x0 : P 4 i 0 = lc
        · rw [if_pos x0, if_pos x0]
          rw [List.filter_cons, if_pos (by simp [x0])] at hlen
          have hl : R.length < 24 := by
            rw [List.length_append, List.length_cons] at hlen
            omega
          rw [a_ald (by omega) (by decide), mw.1, show (24 : Int32) = nI 24 from rfl, pk_mul, nI_add, a_ast (by omega) (by decide), a_ald (by omega) (by decide), show (x_wr μ 188 (24 * s + R.length) (nI i)) 187 s = nI R.length from mw.1, nI_1, a_ast (by omega) (by decide)]
          have g : gs (pM s) μ (x_wr (x_wr μ 188 (24 * s + R.length) (nI i)) 187 s (nI (R.length + 1))) := (gs.refl.wr (by unfold pM; simp [hl])).wr (by unfold pM; simp)
          have pm1 := gPM (g := g0) pm (g.mono pM0) rfl
          rw [(pm1.2.2.2.2 i hib).2.2.1]
          by_cases y : P 4 i 3 = 3
          · have ee : ended P (R ++ [i]) = true := by rw [ended_app, y]; rfl
            rw [y, if_pos (show nI 3 = 3 from rfl), ad_end _ _ _ _ ee, ee]
            exact ⟨_, rfl, mw.push i, g⟩
          · have ee : ended P (R ++ [i]) = false := by rw [ended_app]; exact beq_false_of_ne y
            rw [if_neg (show ¬ nI (P 4 i 3) = 3 from nI_ne (b := 3) (by omega) (by decide) y)]
            obtain ⟨μ', a1, a2, a3⟩ := ih (i + 1) n (R ++ [i]) _ (by omega) (by omega) pm1 (mw.push i) ee (by rw [List.append_assoc]; exact hlen)
            exact ⟨μ', a1, a2, g.trans a3⟩
        · rw [if_neg x0, if_neg x0]
          rw [List.filter_cons, if_neg (by simp [x0])] at hlen
          exact ih (i + 1) n R μ (by omega) (by omega) pm mw he hlen
      · have xx : (P 4 i 1 == k0 && P 4 i 2 == r) = false := by
          rw [Bool.eq_false_iff]
          intro e
          simp at e
          exact x1 e
        rw [xx] at hlen ⊢
        simp only [Bool.false_eq_true, if_false] at hlen ⊢
        have r1 := ih (i + 1) n R μ (by omega) (by omega) pm mw he hlen
        by_cases x0 : P 4 i 0 = lc
        · rw [if_pos x0]
          by_cases y1 : P 4 i 1 = k0
          · rw [if_pos y1, if_neg (fun z => x1 ⟨y1, z⟩)]
            exact r1
          · rw [if_neg y1]
            exact r1
        · rw [if_neg x0]
          exact r1
