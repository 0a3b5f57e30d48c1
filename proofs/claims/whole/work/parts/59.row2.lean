/-! PURE: rows: who is ahead -/
theorem n1M : (-1000000 : Int32).toInt = -1000000 := by decide
theorem u_af {P : xP} {O : xO} {F : Nat} {μ : xMu} (w : Pwf P) (pm : PM P μ) (ow : Owf P O) (fw : Fwf P F) (cm : CM O F μ) {l t : Nat} (hl : l < pL P) (ht : t < 8) : f12_isAwakeFor μ (nI l) (nI t) = some (if 0 < wt P O F t l then 1 else 0) := by
  have h8 := p8 w hl
  have h16 := ow.1
  have hlo := lo_le O t l O.length
  have hs := (w.2.2.2.1 l hl).1
  unfold f12_isAwakeFor wt
  rw [a_ald h8 (by decide), (pm.2.2.2.1 l hl).1, u_aw w pm ow fw cm hl, u_lto w pm ow cm hl ht]
  simp only [Option.bind_some]
  by_cases a : P 3 l 0 < 2
  · rw [if_neg (show ¬ (2 : Int32) ≤ nI (P 3 l 0) from nI_ge (b := 2) a (by decide)), if_pos a]
    by_cases b : lo O t l O.length = 0
    · rw [b, if_pos rfl, if_pos (show cN (-1000000) 0 = -1000000 from rfl)]
      rfl
    · rw [if_neg b, if_neg, if_pos (by omega)]
      unfold cN
      rw [if_neg b, i_eq, nI_toInt (by omega), n1M]
      omega
  · rw [if_pos (show (2 : Int32) ≤ nI (P 3 l 0) from nI_le (a := 2) (by omega) (by omega)), if_neg a]
    by_cases b : P 3 l 0 = 2
    · rw [aw2 ow b]
      cases F.testBit l
      · rw [if_pos (show P 3 l 0 = 2 ∧ false = false from ⟨b, rfl⟩)]
        rfl
      · rw [if_neg (show ¬ (P 3 l 0 = 2 ∧ true = false) from fun q => Bool.noConfusion q.2), if_pos (show 0 < P 3 l 1 * 32 + 8 - l by omega)]
        rfl
    · have e : P 3 l 0 = 3 := by omega
      rw [if_neg (show ¬ (P 3 l 0 = 2 ∧ F.testBit l = false) from fun q => b q.1), if_pos (show 0 < P 3 l 1 * 32 + 8 - l by omega)]
      have : aw P O F l = true := by
        unfold aw awU
        rw [e]
        simp [hl]
      rw [this]
      rfl
theorem lo_inj {O : xO} {t a b : Nat} : ∀ j, lo O t a j = lo O t b j → 0 < lo O t a j → a = b := by
  intro j
  induction j with
  | zero => intro _ h; exact absurd h (by unfold lo; omega)
  | succ j ih =>
    have ha := lo_le O t a j
    have hb := lo_le O t b j
    unfold lo
    intro e h
    cases hO : O[j]? with
    | none =>
      rw [hO] at e h
      exact ih e h
    | some q =>
      rw [hO] at e h
      simp only [Option.any_some] at e h
      by_cases x : fits1 a t q = true
      · by_cases y : fits1 b t q = true
        · unfold fits1 at x y
          simp at x y
          omega
        · rw [if_pos x, if_neg y] at e
          omega
      · by_cases y : fits1 b t q = true
        · rw [if_neg x, if_pos y] at e
          omega
        · rw [if_neg x, if_neg y] at e
          rw [if_neg x] at h
          exact ih e h
theorem wt_lt {P : xP} {O : xO} {F : Nat} (w : Pwf P) (ow : Owf P O) {t l : Nat} (hl : l < pL P) : wt P O F t l < 1000 := by
  have h16 := ow.1
  have hlo := lo_le O t l O.length
  have hr := (w.2.2.2.1 l hl).2.1
  unfold wt
  split
  · split <;> omega
  · split <;> omega
theorem wt_inj {P : xP} {O : xO} {F : Nat} (w : Pwf P) (ow : Owf P O) {t a b : Nat} (ha : a < pL P) (hb : b < pL P) (e : wt P O F t a = wt P O F t b) (h : 0 < wt P O F t a) : a = b := by
  have h16 := ow.1
  have h8a := p8 w ha
  have h8b := p8 w hb
  have hla := lo_le O t a O.length
  have hlb := lo_le O t b O.length
  have inj := lo_inj (O := O) (t := t) (a := a) (b := b) O.length
  unfold wt at e h
  by_cases x : P 3 a 0 < 2
  · rw [if_pos x] at e h
    by_cases z : lo O t a O.length = 0
    · rw [if_pos z] at h; omega
    · rw [if_neg z] at e h
      by_cases y : P 3 b 0 < 2
      · rw [if_pos y] at e
        by_cases z2 : lo O t b O.length = 0
        · rw [if_pos z2] at e; omega
        · rw [if_neg z2] at e
          exact inj (by omega) (by omega)
      · rw [if_neg y] at e
        split at e <;> omega
  · rw [if_neg x] at e h
    split at h
    · omega
    · next q =>
      rw [if_neg q] at e
      by_cases y : P 3 b 0 < 2
      · rw [if_pos y] at e
        split at e <;> omega
      · rw [if_neg y] at e
        split at e <;> omega
theorem u_ah {P : xP} {O : xO} {F : Nat} {μ : xMu} (w : Pwf P) (pm : PM P μ) (ow : Owf P O) (cm : CM O F μ) {a b t : Nat} (ha : a < pL P) (hb : b < pL P) (ht : t < 8) (wa : 0 < wt P O F t a) (wb : 0 < wt P O F t b) : f12_isAhead μ (nI a) (nI b) (nI t) = some (if wt P O F t b < wt P O F t a then 1 else 0) := by
  have h16 := ow.1
  have h8a := p8 w ha
  have h8b := p8 w hb
  have hla := lo_le O t a O.length
  have hlb := lo_le O t b O.length
  have ra := (w.2.2.2.1 a ha).2.1
  have rb' := (w.2.2.2.1 b hb).2.1
  have sa := (w.2.2.2.1 a ha).1
  have sb := (w.2.2.2.1 b hb).1
  unfold f12_isAhead f12_isAhead_j56 f12_isAhead_j77 f12_isAhead_j98
  simp only [a_ald h8a (show 8 < 2 ^ 31 by decide), a_ald h8b (show 8 < 2 ^ 31 by decide), (pm.2.2.2.1 a ha).1, (pm.2.2.2.1 a ha).2.1, (pm.2.2.2.1 b hb).1, (pm.2.2.2.1 b hb).2.1, u_lto w pm ow cm ha ht, u_lto w pm ow cm hb ht, Option.bind_some]
  have q1 : (nI (P 3 a 1) = nI (P 3 b 1)) = (P 3 a 1 = P 3 b 1) := propext (nI_eq (by omega) (by omega))
  have q2 : (nI (P 3 a 1) ≤ nI (P 3 b 1)) = (P 3 a 1 ≤ P 3 b 1) := propext (nI_leI (by omega) (by omega))
  have q3 : (nI (P 3 a 0) < 2) = (P 3 a 0 < 2) := propext (nI_ltI (b := 2) (by omega) (by decide))
  have q4 : ((2 : Int32) ≤ nI (P 3 b 0)) = (2 ≤ P 3 b 0) := propext (nI_leI (a := 2) (by decide) (by omega))
  have q5 : ((2 : Int32) ≤ nI (P 3 a 0)) = (2 ≤ P 3 a 0) := propext (nI_leI (a := 2) (by decide) (by omega))
  have q6 : (nI b ≤ nI a) = (b ≤ a) := propext (nI_leI (by omega) (by omega))
  simp only [q1, q2, q3, q4, q5, q6]
  have cn : ∀ c, 0 < c → c ≤ 16 → (cN (-1000000) c).toInt = (c : Int) - 1 := by
    intro c h1 h2
    unfold cN
    rw [if_neg (by omega), nI_toInt (by omega)]
    omega
  have va : wt P O F t a = if P 3 a 0 < 2 then P 3 a 1 * 32 + 8 + lo O t a O.length else P 3 a 1 * 32 + 8 - a := by
    unfold wt at wa ⊢
    by_cases x : P 3 a 0 < 2
    · rw [if_pos x] at wa ⊢
      rw [if_pos x]
      split at wa
      · omega
      · next z => rw [if_neg z]
    · rw [if_neg x] at wa ⊢
      rw [if_neg x]
      split at wa
      · omega
      · next z => rw [if_neg z]
  have vb : wt P O F t b = if P 3 b 0 < 2 then P 3 b 1 * 32 + 8 + lo O t b O.length else P 3 b 1 * 32 + 8 - b := by
    unfold wt at wb ⊢
    by_cases x : P 3 b 0 < 2
    · rw [if_pos x] at wb ⊢
      rw [if_pos x]
      split at wb
      · omega
      · next z => rw [if_neg z]
    · rw [if_neg x] at wb ⊢
      rw [if_neg x]
      split at wb
      · omega
      · next z => rw [if_neg z]
  have la : P 3 a 0 < 2 → 0 < lo O t a O.length := by
    intro x
    unfold wt at wa
    rw [if_pos x] at wa
    split at wa <;> omega
  have lb : P 3 b 0 < 2 → 0 < lo O t b O.length := by
    intro x
    unfold wt at wb
    rw [if_pos x] at wb
    split at wb <;> omega
  rw [va, vb]
  by_cases r : P 3 a 1 = P 3 b 1
  · rw [if_pos r]
    by_cases x : P 3 a 0 < 2
    · rw [if_pos x, if_neg (show ¬ 2 ≤ P 3 a 0 by omega), if_pos x]
      have := cn _ (la x) (by omega)
      by_cases y : P 3 b 0 < 2
      · have := cn _ (lb y) (by omega)
        rw [if_neg (show ¬ 2 ≤ P 3 b 0 by omega), if_pos y]
        by_cases z : lo O t a O.length ≤ lo O t b O.length
        · rw [if_pos (by rw [i_le]; omega), if_neg (by omega)]
        · rw [if_neg (by rw [i_le]; omega), if_pos (by omega)]
      · rw [if_pos (show 2 ≤ P 3 b 0 by omega), if_neg y, if_neg (by rw [i_le, n1M]; omega), if_pos (by omega)]
    · rw [if_neg x, if_neg x]
      by_cases y : P 3 b 0 < 2
      · have := cn _ (lb y) (by omega)
        rw [if_neg (show ¬ 2 ≤ P 3 b 0 by omega), if_pos y, if_pos (show 2 ≤ P 3 a 0 by omega), if_neg (show ¬ 2 ≤ P 3 b 0 by omega), if_pos (by rw [i_le, n1M]; omega), if_neg (by omega)]
      · rw [if_pos (show 2 ≤ P 3 b 0 by omega), if_neg y]
        by_cases z : b ≤ a
        · rw [if_pos z, if_neg (by omega)]
        · rw [if_neg z, if_pos (by omega)]
  · rw [if_neg r]
    by_cases z : P 3 a 1 ≤ P 3 b 1
    · rw [if_pos z, if_neg]
      split <;> split <;> omega
    · rw [if_neg z, if_pos]
      split <;> split <;> omega
