/-! PURE: rows: f12_lay's loops -/
theorem cN_inj {a b : Nat} (ha : a ≤ 8) (hb : b ≤ 8) : (cN (-1000000) a = cN (-1000000) b) = (a = b) := by
  apply propext
  unfold cN
  rw [i_eq]
  split
  · split
    · constructor <;> intro _ <;> omega
    · rw [nI_toInt (by omega), n1M]
      constructor <;> intro _ <;> omega
  · rw [nI_toInt (by omega)]
    split
    · rw [n1M]
      constructor <;> intro _ <;> omega
    · rw [nI_toInt (by omega)]
      constructor <;> intro _ <;> omega
theorem l_m18 {P : xP} (w : Pwf P) {s lc k0 r : Nat} (hs : s < 7) (hlc : lc ≤ 8) (hk : k0 < 8) (hr : r < 4) (k : Int32 → Int32 → Int32 → Int32 → xMu → Option (Int32 × xMu)) : ∀ (f i n : Nat) (R : List Nat) (μ : xMu), i + n = pB P → n < f → PM P μ → MW s R μ → ended P R = false → (R ++ (bdn P k0 r i n).filter (fun b => P 4 b 0 == lc)).length ≤ 24 →
    ∃ μ', f12_lay_l18 k f (nI s) (cN (-1000000) lc) (nI r) (nI k0) (nI i) μ = (if ended P (ad P lc (bdn P k0 r i n) R) then some (1, μ') else k (nI s) (cN (-1000000) lc) (nI r) (nI k0) μ') ∧ MW s (ad P lc (bdn P k0 r i n) R) μ' ∧ gs (pM s) μ μ' := by
  intro f
  induction f with
  | zero => intro i n R μ _ h; omega
  | succ f ih =>
    intro i n R μ hi hf pm mw he hlen
    have hB := w.1.2.2.2
    have hL8 := w.1.2.2.1
    have hK8 := w.1.1
    unfold f12_lay_l18 f12_lay_j103
    rw [pm.1.2.2.2]
    cases n with
    | zero =>
      rw [if_pos (nI_le (by omega) (by omega))]
      unfold bdn
      rw [ad_nil, he]
      exact ⟨μ, rfl, mw, gs.refl⟩
    | succ n =>
      have hb : i < 24 := by omega
      have hib : i < pB P := by omega
      have q := w.2.2.2.2 i hib
      have a := pm.2.2.2.2 i hib
      rw [if_neg (nI_ge (by omega) (by omega)), nI_1]
      have q1 : (nI (P 4 i 1) = nI k0) = (P 4 i 1 = k0) := propext (nI_eq (by omega) (by omega))
      have q2 : (nI (P 4 i 2) = nI r) = (P 4 i 2 = r) := propext (nI_eq (by omega) (by omega))
      simp only [a_ald hb (show 24 < 2 ^ 31 by decide), a.2.1, a.2.2.2.1, a.2.2.2.2.1, cN_inj (show P 4 i 0 ≤ 8 by omega) hlc, q1, q2]
      unfold bdn at hlen ⊢
      by_cases x1 : P 4 i 1 = k0 ∧ P 4 i 2 = r
      · have xx : (P 4 i 1 == k0 && P 4 i 2 == r) = true := by simp [x1]
        rw [xx] at hlen ⊢
        simp only [if_true] at hlen ⊢
        rw [if_pos x1.1, if_pos x1.2, ad_cons, he]
        simp only [Bool.false_eq_true, if_false]
        by_cases x0 : P 4 i 0 = lc
        · rw [if_pos x0, if_pos x0]
          rw [List.filter_cons, if_pos (by simp [x0])] at hlen
          have hl : R.length < 24 := by
            rw [List.length_append, List.length_cons] at hlen
            omega
          rw [a_ald (by omega) (by decide), mw.1, show (24 : Int32) = nI 24 from rfl, pk_mul, nI_add, a_ast (by omega) (by decide), a_ald (by omega) (by decide), show (x_wr μ 188 (24 * s + R.length) (nI i)) 187 s = nI R.length from mw.1, nI_1, a_ast (by omega) (by decide)]
          have g : gs (pM s) μ (x_wr (x_wr μ 188 (24 * s + R.length) (nI i)) 187 s (nI (R.length + 1))) := (gs.refl.wr (by unfold pM; simp [hl])).wr (by unfold pM; simp)
          have pm1 := gPM (g := g0) pm (g.mono pM0) rfl
          rw [(pm1.2.2.2.2 i hib).2.2.1]
          by_cases y : P 4 i 3 = 3
          · have ee : ended P (R ++ [i]) = true := by rw [ended_app, y]; rfl
            rw [y, if_pos (show nI 3 = 3 from rfl), ad_end _ _ _ _ ee, ee]
            exact ⟨_, rfl, mw.push i, g⟩
          · have ee : ended P (R ++ [i]) = false := by rw [ended_app]; exact beq_false_of_ne y
            rw [if_neg (show ¬ nI (P 4 i 3) = 3 from nI_ne (b := 3) (by omega) (by decide) y)]
            obtain ⟨μ', a1, a2, a3⟩ := ih (i + 1) n (R ++ [i]) _ (by omega) (by omega) pm1 (mw.push i) ee (by rw [List.append_assoc]; exact hlen)
            exact ⟨μ', a1, a2, g.trans a3⟩
        · rw [if_neg x0, if_neg x0]
          rw [List.filter_cons, if_neg (by simp [x0])] at hlen
          exact ih (i + 1) n R μ (by omega) (by omega) pm mw he hlen
      · have xx : (P 4 i 1 == k0 && P 4 i 2 == r) = false := by
          rw [Bool.eq_false_iff]
          intro e
          simp at e
          exact x1 e
        rw [xx] at hlen ⊢
        simp only [Bool.false_eq_true, if_false] at hlen ⊢
        have r1 := ih (i + 1) n R μ (by omega) (by omega) pm mw he hlen
        by_cases x0 : P 4 i 0 = lc
        · rw [if_pos x0]
          by_cases y1 : P 4 i 1 = k0
          · rw [if_pos y1, if_neg (fun z => x1 ⟨y1, z⟩)]
            exact r1
          · rw [if_neg y1]
            exact r1
        · rw [if_neg x0]
          exact r1
theorem l_m8 {P : xP} (w : Pwf P) {s lc r : Nat} (hs : s < 7) (hlc : lc ≤ 8) (hr : r < 4) (k : xMu → Option (Int32 × xMu)) : ∀ (n f c : Nat) (R : List Nat) (μ : xMu), c ≤ n → n < f → c ≤ pK P → PM P μ → MW s R μ → ended P R = false → (R ++ ((kch P n c).flatMap (fun k => bds P k r)).filter (fun b => P 4 b 0 == lc)).length ≤ 24 →
    ∃ μ', f12_lay_l8 k f (nI s) (cN (-1000000) lc) (nI r) (cN (-1000000) c) μ = (if ended P (ad P lc ((kch P n c).flatMap (fun k => bds P k r)) R) then some (1, μ') else k μ') ∧ MW s (ad P lc ((kch P n c).flatMap (fun k => bds P k r)) R) μ' ∧ gs (pM s) μ μ' := by
  intro n
  induction n with
  | zero =>
    intro f c R μ hc hf hK pm mw he hlen
    obtain ⟨f, rfl⟩ : ∃ g, f = g + 1 := ⟨f - 1, by omega⟩
    obtain rfl : c = 0 := by omega
    unfold f12_lay_l8
    rw [if_pos (show cN (-1000000) 0 = -1000000 from rfl), show (kch P 0 0).flatMap (fun k => bds P k r) = [] from rfl, ad_nil, he]
    exact ⟨μ, rfl, mw, gs.refl⟩
  | succ n ih =>
    intro f c R μ hc hf hK pm mw he hlen
    obtain ⟨f, rfl⟩ : ∃ g, f = g + 1 := ⟨f - 1, by omega⟩
    have hK8 := w.1.1
    cases c with
    | zero =>
      unfold f12_lay_l8
      rw [if_pos (show cN (-1000000) 0 = -1000000 from rfl), show (kch P (n + 1) 0).flatMap (fun k => bds P k r) = [] from rfl, ad_nil, he]
      exact ⟨μ, rfl, mw, gs.refl⟩
    | succ c =>
      have h2 := w.2.1 c (by omega)
      have e1 : cN (-1000000) (c + 1) = nI c := rfl
      have e2 : (kch P (n + 1) (c + 1)).flatMap (fun k => bds P k r) = bdn P c r 0 (pB P) ++ (kch P n (P 1 c 0)).flatMap (fun k => bds P k r) := by
        show (c :: kch P n (P 1 c 0)).flatMap (fun k => bds P k r) = _
        rw [List.flatMap_cons, bds_eq]
      rw [e2] at hlen ⊢
      rw [List.filter_append, ← List.append_assoc] at hlen
      unfold f12_lay_l8
      rw [e1, if_neg (by rw [i_eq, nI_toInt (by omega), n1M]; omega), ad_app]
      obtain ⟨μa, a1, a2, a3⟩ := l_m18 w hs hlc (show c < 8 by omega) hr (fun (y10 : Int32) (y11 : Int32) (y12 : Int32) (y13 : Int32) (μ14 : xMu) => (x_ald μ14 166 8 y13 fun x15 => ((f12_lay_l8 k f) y10 y11 y12 x15 μ14))) 1000 0 (pB P) R μ (by omega) (by have := w.1.2.2.2; omega) pm mw he (by rw [List.length_append] at hlen; omega)
      cases ee : ended P (ad P lc (bdn P c r 0 (pB P)) R) with
      | true =>
        rw [ad_end _ _ _ _ ee, ee]
        rw [ee] at a1
        exact ⟨μa, a1, a2, a3⟩
      | false =>
        rw [ee] at a1
        have pma := gPM (g := g0) pm (a3.mono pM0) rfl
        obtain ⟨S, hS1, hS2⟩ := ad_sub P lc (bdn P c r 0 (pB P)) R
        obtain ⟨μb, b1, b2, b3⟩ := ih f (P 1 c 0) _ μa (by omega) (by omega) (by omega) pma a2 ee (by
          rw [hS1]
          have := hS2.length_le
          simp only [List.length_append] at hlen ⊢
          omega)
        refine ⟨μb, a1.trans ?_, b2, a3.trans b3⟩
        rw [if_neg Bool.false_ne_true, a_ald (by omega) (by decide), pma.2.1 c (by omega)]
        exact b1
theorem u_lyb {P : xP} {μ : xMu} (w : Pwf P) (pm : PM P μ) {s lc t r : Nat} (hs : s < 7) (hlc : lc ≤ 8) (ht : t < pT P) (hr : r < 4) {R : List Nat} (mw : MW s R μ) (he : ended P R = false) (hlen : (R ++ (fit P (P 2 t 0 + 1) r).filter (fun b => P 4 b 0 == lc)).length ≤ 24) :
    ∃ μ', f12_lay (nI s) (cN (-1000000) lc) (nI t) (nI r) μ = some (if ended P (ad P lc (fit P (P 2 t 0 + 1) r) R) then 1 else 0, μ') ∧ MW s (ad P lc (fit P (P 2 t 0 + 1) r) R) μ' ∧ gs (pM s) μ μ' := by
  have hT := w.1.2.1
  have hK := w.1.1
  have hk := (w.2.2.1 t ht).1
  unfold f12_lay
  rw [a_ald (by omega) (by decide), (pm.2.2.1 t ht).1]
  obtain ⟨μ', a1, a2, a3⟩ := l_m8 w hs hlc hr (fun (μ16 : xMu) => (some ((0 : Int32), μ16))) 9 1000 (P 2 t 0 + 1) R μ (by omega) (by omega) (by omega) pm mw he hlen
  refine ⟨μ', a1.trans ?_, a2, a3⟩
  unfold fit
  split <;> rfl
