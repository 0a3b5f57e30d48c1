/-! PURE: runs: closing what a body woke -/
theorem mk8 (f : Nat → Bool) : ∀ n, ∃ A, A < 2 ^ n ∧ ∀ l, A.testBit l = (decide (l < n) && f l) := by
  intro n
  induction n with
  | zero => exact ⟨0, by decide, fun l => by simp⟩
  | succ n ih =>
    obtain ⟨A, h1, h2⟩ := ih
    have hp : 2 ^ (n + 1) = 2 * 2 ^ n := by rw [Nat.pow_succ]; omega
    cases e : f n with
    | false =>
      refine ⟨A, by omega, fun l => ?_⟩
      rw [h2 l]
      by_cases c : l < n
      · rw [decide_eq_true c, decide_eq_true (show l < n + 1 by omega)]
      · rw [decide_eq_false c]
        by_cases d : l = n
        · rw [d, e]; simp
        · rw [decide_eq_false (show ¬ l < n + 1 by omega)]
    | true =>
      refine ⟨A ||| 2 ^ n, Nat.or_lt_two_pow (by omega) (by omega), fun l => ?_⟩
      rw [Nat.testBit_or, h2 l, p2_bit]
      by_cases c : l < n
      · rw [decide_eq_true c, decide_eq_true (show l < n + 1 by omega), decide_eq_false (show ¬ n = l by omega)]
        simp
      · rw [decide_eq_false c]
        by_cases d : l = n
        · rw [d, e]; simp
        · rw [decide_eq_false (show ¬ l < n + 1 by omega), decide_eq_false (show ¬ n = l by omega)]
          simp
theorem auM {P : xP} {O : xO} (w : Pwf P) (ow : Owf P O) : ∃ A, A < 256 ∧ ∀ l, A.testBit l = awU P O l := by
  obtain ⟨A, h1, h2⟩ := mk8 (awU P O) 8
  refine ⟨A, h1, fun l => ?_⟩
  rw [h2 l]
  by_cases c : l < 8
  · rw [decide_eq_true c]; simp
  · rw [decide_eq_false c]
    symm
    have := w.1.2.2.1
    unfold awU
    rw [decide_eq_false (show ¬ l < pL P by omega)]
    simp
    intro a b hq
    have := (ow.2 _ hq).1
    simp at this
    omega
theorem awU_app (P : xP) (O E : xO) (l : Nat) (h : awU P O l = true) : awU P (O ++ E) l = true := by
  unfold awU at h ⊢
  rw [List.any_append]
  simp only [Bool.or_eq_true] at h ⊢
  rcases h with h | h
  · exact Or.inl (Or.inl h)
  · exact Or.inr h
theorem st_char {P : xP} {A m l : Nat} (w : Pwf P) (hm : m < 256) (hl : l < pL P) (h : m.testBit l = true) (h2 : nd (P 3 l 2) A (st P A m (pL P)) = true) : (st P A m (pL P)).testBit l = true := by
  have hn := (nlt w hl).1
  have b3 := (w.2.2.2.1 l hl).2.2.1
  have k0 : ∀ i, i ≤ l → (st P A m i).testBit l = true := by
    intro i
    induction i with
    | zero => intro _; exact h
    | succ i ih =>
      intro hi
      unfold st
      split
      · exact ih (by omega)
      · rw [an_bit (st_lt hm _), p2_bit, ih (by omega), decide_eq_false (show ¬ i = l by omega)]
        rfl
  have q := st_keep (P := P) (A := A) hm (pL P - (l + 1)) (l + 1) l (by omega)
  rw [show l + 1 + (pL P - (l + 1)) = pL P by omega] at q
  rw [q]
  unfold st
  rw [if_pos]
  · exact k0 l (Nat.le_refl l)
  · rw [nd_iff hn] at h2 ⊢
    intro t ht
    rcases h2 t ht with z | z
    · exact Or.inl z
    · right
      have tl : t < l := by
        rcases Nat.lt_or_ge t l with y | y
        · exact y
        · have : (P 3 l 2).testBit t = false := Nat.testBit_lt_two_pow (Nat.lt_of_lt_of_le b3 (Nat.pow_le_pow_right (by decide) y))
          rw [this] at ht
          cases ht
      have q2 := st_keep (P := P) (A := A) hm (pL P - l) l t tl
      rw [show l + (pL P - l) = pL P by omega, z] at q2
      exact q2.symm
theorem nd_mono {n A A' c c' : Nat} (h : n < 256) (hA : ∀ l, A.testBit l = true → A'.testBit l = true) (hc : ∀ l, n.testBit l = true → c.testBit l = true → c'.testBit l = true) (q : nd n A c = true) : nd n A' c' = true := by
  rw [nd_iff h] at q ⊢
  intro t ht
  rcases q t ht with z | z
  · exact Or.inl (hA t z)
  · exact Or.inr (hc t ht z)
theorem nbit {P : xP} {l t : Nat} (w : Pwf P) (hl : l < pL P) (h : (P 3 l 2).testBit t = true) : t < l := by
  have b3 := (w.2.2.2.1 l hl).2.2.1
  rcases Nat.lt_or_ge t l with y | y
  · exact y
  · have : (P 3 l 2).testBit t = false := Nat.testBit_lt_two_pow (Nat.lt_of_lt_of_le b3 (Nat.pow_le_pow_right (by decide) y))
    rw [this] at h
    cases h
theorem st_hi {P : xP} {A m t : Nat} (hm : m < 256) (ht : pL P ≤ t) : ∀ l, l ≤ pL P → (st P A m l).testBit t = m.testBit t := by
  intro l
  induction l with
  | zero => intro _; rfl
  | succ l ih =>
    intro hl
    unfold st
    split
    · exact ih (by omega)
    · rw [an_bit (st_lt hm _), p2_bit, ih (by omega), decide_eq_false (show ¬ l = t by omega)]
      simp
theorem st_st {P : xP} {A B F : Nat} (w : Pwf P) (hF : F < 256) (h : ∀ l, B.testBit l = true → A.testBit l = true) : st P B (st P A F (pL P)) (pL P) = st P B F (pL P) := by
  have h1 := st_lt (P := P) (A := A) hF (pL P)
  have s1 : ∀ l, (st P B F (pL P)).testBit l = true → (st P A F (pL P)).testBit l = true := by
    intro l
    induction l using Nat.strongRecOn with
    | ind l ih =>
      intro q
      rcases Nat.lt_or_ge l (pL P) with c | c
      · exact st_char w hF c (st_sub hF _ l q) (nd_mono (nlt w c).1 h (fun t ht => ih t (nbit w c ht)) (st_rest w hF c q))
      · rw [st_hi hF c _ (Nat.le_refl _)] at q ⊢
        exact q
  apply Nat.eq_of_testBit_eq
  intro l
  induction l using Nat.strongRecOn with
  | ind l ih =>
    rcases Nat.lt_or_ge l (pL P) with c | c
    · rw [Bool.eq_iff_iff]
      constructor
      · intro q
        exact st_char w hF c (st_sub hF _ l (st_sub h1 _ l q)) (nd_mono (nlt w c).1 (fun _ z => z) (fun t ht z => by rw [← ih t (nbit w c ht)]; exact z) (st_rest w h1 c q))
      · intro q
        exact st_char w h1 c (s1 l q) (nd_mono (nlt w c).1 (fun _ z => z) (fun t ht z => by rw [ih t (nbit w c ht)]; exact z) (st_rest w hF c q))
    · rw [st_hi h1 c _ (Nat.le_refl _), st_hi hF c _ (Nat.le_refl _), st_hi hF c _ (Nat.le_refl _)]
/-- the found set behind the closing of E -/
def cl (P : xP) (A : Nat) (E : xO) (F : Nat) : Nat := if E = [] then F else st P A F (pL P)
theorem cl_wf {P : xP} {A F : Nat} {E : xO} (fw : Fwf P F) : Fwf P (cl P A E F) := by
  unfold cl
  split
  · exact fw
  · exact fw_sub fw (st_lt fw.1 _) (st_sub fw.1 _)
theorem t_cdt {P : xP} {O E : xO} {F A : Nat} {μ : xMu} (w : Pwf P) (pc : PC P μ) (ow : Owf P (O ++ E)) (cc : CC (O ++ E) F μ) (fw : Fwf P F) (hA : ∀ l, A.testBit l = awU P O l) :
    ∃ μ', f2_closeDownTo (nI O.length) μ = some μ' ∧ CC O (cl P A E F) μ' ∧ gs (fun a _ => a == 127) μ μ' := by
  have h16 := ow.1
  rw [List.length_append] at h16
  unfold f2_closeDownTo
  rw [cc.1, List.length_append]
  by_cases e : E = []
  · subst e
    rw [if_pos (by exact nI_le (by simp) (by omega))]
    refine ⟨μ, rfl, ?_, gs.refl⟩
    unfold cl
    rw [if_pos rfl]
    rw [List.append_nil] at cc
    exact cc
  · have he : 0 < E.length := List.length_pos_iff.mpr e
    rw [if_neg (nI_ge (by omega) (by omega))]
    have cc1 : CC O F (x_wr μ 127 4 (nI O.length)) := by
      refine ⟨rfl, cc.2.1, fun i q hq => ?_⟩
      have hi : i < O.length := (List.getElem?_eq_some_iff.mp hq).1
      exact cc.2.2 i q (by rw [List.getElem?_append_left hi]; exact hq)
    have ow1 : Owf P O := ⟨by omega, fun q hq => ow.2 q (List.mem_append_left _ hq)⟩
    have pc1 : PC P (x_wr μ 127 4 (nI O.length)) := gPC (g := g9) w pc (gs.refl.wr rfl) rfl
    obtain ⟨A', b1, b2, b3⟩ := t_au w pc1 ow1 cc1
    obtain rfl : A' = A := Nat.eq_of_testBit_eq (fun l => by rw [b3 l, hA l])
    simp only [a_put]
    rw [cc1.2.1, t_stl w pc1 ow1 cc1 b1 fw.1]
    refine ⟨_, rfl, ?_, (gs.refl.wr rfl).wr rfl⟩
    unfold cl
    rw [if_neg e]
    exact ⟨rfl, rfl, cc1.2.2⟩
def pV (h : Nat) : Nat → Nat → Bool := fun a b => decide (a = 185 ∨ a = 186 ∨ (a = 162 ∧ (b = 41 ∨ b = 44)) ∨ (a = 195 ∧ b = h))
theorem pVy {h a b : Nat} (q : a = 185 ∨ a = 186 ∨ (a = 162 ∧ (b = 41 ∨ b = 44)) ∨ (a = 195 ∧ b = h)) : pV h a b = true := decide_eq_true q
theorem pVn {h a b : Nat} (q : ¬ (a = 185 ∨ a = 186 ∨ (a = 162 ∧ (b = 41 ∨ b = 44)) ∨ (a = 195 ∧ b = h))) : pV h a b = false := decide_eq_false q
theorem pVP {P : xP} {h : Nat} {μ μ' : xMu} (pm : PM P μ) (g : gs (pV h) μ μ') : PM P μ' :=
  pm.of (fun j hj => g 162 j (pVn (by omega))) (fun k a b => g.row fun j => pVn (by omega))
theorem l_ovr {P : xP} {O : xO} {A h : Nat} (w : Pwf P) (hA : ∀ l, A.testBit l = awU P O l) (hh : h < 61) (k : xMu → Option xMu) : ∀ (c f : Nat) (E : xO) (F : Nat) (μ : xMu), E.length = c → c < f → PM P μ → Owf P (O ++ E) → Fwf P F → CM (O ++ E) F μ → μ 195 h = nI c →
    ∃ μ', f12_over_l27 k f (nI h) μ = k μ' ∧ CM O (cl P A E F) μ' ∧ gs (pV h) μ μ' := by
  intro c
  induction c with
  | zero =>
    intro f E F μ hE hf pm ow fw cm h5
    obtain ⟨f, rfl⟩ : ∃ g, f = g + 1 := ⟨f - 1, by omega⟩
    obtain rfl := List.eq_nil_of_length_eq_zero hE
    unfold f12_over_l27
    rw [a_ald hh (by decide), h5, if_pos (by decide)]
    refine ⟨μ, rfl, ?_, gs.refl⟩
    unfold cl
    rw [if_pos rfl]
    rw [List.append_nil] at cm
    exact cm
  | succ c ih =>
    intro f E F μ hE hf pm ow fw cm h5
    obtain ⟨f, rfl⟩ : ∃ g, f = g + 1 := ⟨f - 1, by omega⟩
    have h16 := ow.1
    rw [List.length_append] at h16
    have hne : E ≠ [] := fun z => by rw [z] at hE; simp at hE
    obtain ⟨E', e, rfl⟩ : ∃ E' e, E = E' ++ [e] := ⟨E.dropLast, E.getLast hne, (List.dropLast_concat_getLast hne).symm⟩
    have hE' : E'.length = c := by rw [List.length_append] at hE; simp at hE; exact hE
    have er : (O ++ (E' ++ [e])).eraseIdx (O.length + c) = O ++ E' := by
      rw [← List.append_assoc, List.eraseIdx_append_of_length_le (by rw [List.length_append]; omega), List.length_append, show O.length + c - (O.length + E'.length) = 0 by omega]
      simp
    have ow1 : Owf P (O ++ E') := by rw [← er]; exact ow.erase _
    unfold f12_over_l27
    rw [a_ald hh (by decide), h5, if_neg (nI_nle (by omega) (by omega)), a_ald hh (by decide), h5, a_ast hh (by decide), show (1 : Int32) = nI 1 from rfl, pk_sub (by omega)]
    have g1 : gs (pV h) μ (x_wr μ 195 h (nI (c + 1 - 1))) := gs.refl.wr (pVy (by omega))
    have pm1 := pVP pm g1
    have cm1 : CM (O ++ (E' ++ [e])) F (x_wr μ 195 h (nI (c + 1 - 1))) := cm
    rw [cm1.1, pk_sub (by rw [List.length_append, List.length_append]; simp; omega), show (O ++ (E' ++ [e])).length - 1 = O.length + c by rw [List.length_append, List.length_append]; simp; omega]
    obtain ⟨A1, -, a1⟩ := auM w ow1
    obtain ⟨μa, c1, c2, c3⟩ := u_cls w pm1 ow fw cm1 (i := O.length + c) (by rw [List.length_append, List.length_append]; simp; omega) (A := A1) (by rw [er]; exact a1)
    rw [er] at c2
    have g2 : gs (pV h) (x_wr μ 195 h (nI (c + 1 - 1))) μa := c3.mono (fun k j q => by
      simp only [Bool.or_eq_true, Bool.and_eq_true, beq_iff_eq] at q
      exact pVy (by omega))
    obtain ⟨μb, d1, d2, d3⟩ := ih f E' (st P A1 F (pL P)) μa hE' (by omega) (pVP pm1 g2) ow1 (fw_sub fw (st_lt fw.1 _) (st_sub fw.1 _)) c2 (by
      rw [c3 195 h (by simp), w_wr, if_pos ⟨rfl, rfl⟩]
      rfl)
    refine ⟨μb, ?_, ?_, (g1.trans g2).trans d3⟩
    · rw [c1]
      exact d1
    · have ec : cl P A E' (st P A1 F (pL P)) = cl P A (E' ++ [e]) F := by
        unfold cl
        rw [if_neg (show ¬ E' ++ [e] = [] by simp)]
        split
        · next z =>
          subst z
          have : A1 = A := Nat.eq_of_testBit_eq (fun l => by rw [a1 l, hA l, List.append_nil])
          rw [this]
        · exact st_st w fw.1 (fun l q => by rw [a1 l]; rw [hA l] at q; exact awU_app P O E' l q)
      rw [← ec]
      exact d2
