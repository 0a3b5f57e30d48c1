/-! PURE: found layers that lose what they need -/
def st (P : xP) (A m : Nat) : Nat → Nat
  | 0 => m
  | l + 1 => if nd (P 3 l 2) A (st P A m l) then st P A m l else an (st P A m l) (2 ^ l)
theorem nlt {P : xP} {l : Nat} (w : Pwf P) (hl : l < pL P) : P 3 l 2 < 256 ∧ P 3 l 3 < 256 := by
  have h8 := p8 w hl
  obtain ⟨-, -, b3, b4, -⟩ := w.2.2.2.1 l hl
  have : 2 ^ l < 256 := p2_lt h8
  omega
theorem st_lt {P : xP} {A m : Nat} (hm : m < 256) : ∀ l, st P A m l < 256 := by
  intro l
  induction l with
  | zero => exact hm
  | succ l ih =>
    unfold st
    split
    · exact ih
    · exact an_lt ih
theorem st_sub {P : xP} {A m : Nat} (hm : m < 256) : ∀ l t, (st P A m l).testBit t = true → m.testBit t = true := by
  intro l
  induction l with
  | zero => exact fun t h => h
  | succ l ih =>
    intro t h
    unfold st at h
    split at h
    · exact ih t h
    · rw [an_bit (st_lt hm l)] at h
      simp at h
      exact ih t h.1
/-- steps behind t do not touch bit t -/
theorem st_keep {P : xP} {A m : Nat} (hm : m < 256) : ∀ n l t, t < l → (st P A m (l + n)).testBit t = (st P A m l).testBit t := by
  intro n
  induction n with
  | zero => intro l t _; rfl
  | succ n ih =>
    intro l t h
    rw [show l + (n + 1) = (l + n) + 1 by omega]
    conv => lhs; unfold st
    split
    · exact ih l t h
    · rw [an_bit (st_lt hm _), p2_bit, ih l t h, show decide (l + n = t) = false from decide_eq_false (by omega)]
      simp
/-- the end is at rest -/
theorem st_rest {P : xP} {A m l : Nat} (w : Pwf P) (hm : m < 256) (hl : l < pL P) (h : (st P A m (pL P)).testBit l = true) : nd (P 3 l 2) A (st P A m (pL P)) = true := by
  have h8 := p8 w hl
  have hn := (nlt w hl).1
  have b3 := (w.2.2.2.1 l hl).2.2.1
  have k1 : (st P A m (l + 1)).testBit l = true := by
    have q := st_keep (P := P) (A := A) hm (pL P - (l + 1)) (l + 1) l (by omega)
    rw [show l + 1 + (pL P - (l + 1)) = pL P by omega, h] at q
    exact q.symm
  have k2 : nd (P 3 l 2) A (st P A m l) = true := by
    unfold st at k1
    split at k1
    · next e => exact e
    · rw [an_bit (st_lt hm _), p2_bit] at k1
      simp at k1
  rw [nd_iff hn] at k2 ⊢
  intro t ht
  have htl : t < l := by
    rcases Nat.lt_or_ge t l with z | z
    · exact z
    · have := Nat.testBit_lt_two_pow (Nat.lt_of_lt_of_le b3 (Nat.pow_le_pow_right (by decide) z))
      rw [this] at ht
      cases ht
  rcases k2 t ht with e | e
  · exact Or.inl e
  · refine Or.inr ?_
    rw [show pL P = l + (pL P - l) by omega, st_keep hm _ _ _ htl]
    exact e
theorem an_no {c l : Nat} (hc : c < 256) (h : c.testBit l = false) : an c (2 ^ l) = c := by
  apply Nat.eq_of_testBit_eq
  intro t
  rw [an_bit hc, p2_bit]
  by_cases e : l = t
  · subst e
    simp [h]
  · simp [e]
/-- class -/
theorem l_set {P : xP} {μ : xMu} (w : Pwf P) (pc : PC P μ) (k : Int32 → Option Int32) {A m : Nat} (hm : m < 256) : ∀ (f i : Nat), i ≤ pL P → pL P < i + f → f2_settled_l10 μ k f (nI A) (nI (st P A m i)) (nI i) = k (nI (st P A m (pL P))) := by
  intro f
  induction f with
  | zero => intro i _ h; omega
  | succ f ih =>
    intro i hi h
    have hL := w.1.2.2.1
    unfold f2_settled_l10 f2_settled_j53
    rw [pc.1.2.2.1]
    by_cases c : pL P ≤ i
    · rw [if_pos (nI_le c (by omega)), show i = pL P by omega]
    · have h8 : i < 8 := by omega
      have e : ∀ q : Bool, st P A m (i + 1) = if nd (P 3 i 2) A (st P A m i) then st P A m i else an (st P A m i) (2 ^ i) := fun _ => rfl
      rw [if_neg (nI_ge (by omega) (by omega)), a_rld h8 (by decide) (r_layer i h8).1, a_chk (r_layer i h8).2, (pc.2.2.2.1 i (by omega)).2.2.1, nI_1, b_sh i h8, b_an (st_lt hm i)]
      simp only [b_nd (nlt w (show i < pL P by omega)).1]
      rw [← ih (i + 1) (by omega) (by omega), e true]
      by_cases z : nd (P 3 i 2) A (st P A m i) = true
      · rw [if_pos z, if_pos z]
      · rw [if_neg z, if_neg z]
theorem t_stl {P : xP} {O : xO} {F : Nat} {μ : xMu} (w : Pwf P) (pc : PC P μ) (ow : Owf P O) (cc : CC O F μ) {A m : Nat} (hA : f2_awakeUnasked μ = some (nI A)) (hm : m < 256) : f2_settled μ (nI m) = some (nI (st P A m (pL P))) := by
  have hL := w.1.2.2.1
  unfold f2_settled
  rw [hA]
  exact l_set w pc _ hm 1000 0 (by omega) (by omega)
/-- reference -/
def hnB (P : xP) (O : xO) (F l i : Nat) : Bool := (List.range 8).all fun t => !(decide (i ≤ t) && decide (t < pL P) && (P 3 l 2).testBit t) || aw P O F t
theorem hnB_iff {P : xP} {O : xO} {F l i : Nat} : hnB P O F l i = true ↔ ∀ t, t < 8 → i ≤ t → t < pL P → (P 3 l 2).testBit t = true → aw P O F t = true := by
  unfold hnB
  rw [List.all_eq_true]
  constructor
  · intro h t h8 a b c
    have := h t (List.mem_range.mpr h8)
    simpa [a, b, c] using this
  · intro h t ht
    have h8 := List.mem_range.mp ht
    by_cases q : i ≤ t ∧ t < pL P ∧ (P 3 l 2).testBit t = true
    · rw [h t h8 q.1 q.2.1 q.2.2]; simp
    · have : (decide (i ≤ t) && decide (t < pL P) && (P 3 l 2).testBit t) = false := by
        rw [Bool.eq_false_iff]
        intro e
        simp only [Bool.and_eq_true, decide_eq_true_eq] at e
        exact q ⟨e.1.1, e.1.2, e.2⟩
      rw [this]; rfl
theorem l_hn {P : xP} {O : xO} {F : Nat} {μ : xMu} (w : Pwf P) (pm : PM P μ) (ow : Owf P O) (fw : Fwf P F) (cm : CM O F μ) (k : Int32 → Option Int32) {l : Nat} (hl : l < pL P) : ∀ (f i : Nat) (b : Bool), i ≤ pL P → pL P < i + f →
    f12_hasNeeds_l4 μ k f (nI l) (if b then 1 else 0) (nI i) = k (if b && hnB P O F l (i) then 1 else 0) := by
  intro f
  induction f with
  | zero => intro i b _ h; omega
  | succ f ih =>
    intro i b hi h
    have hL := w.1.2.2.1
    have h8 := p8 w hl
    unfold f12_hasNeeds_l4 f12_hasNeeds_j41 f12_hasNeeds_j37 f12_hasNeeds_j42
    rw [pm.1.2.2.1]
    by_cases c : pL P ≤ i
    · rw [if_pos (nI_le c (by omega))]
      have : (hnB P O F l (i)) = true := hnB_iff.mpr (fun t _ a b => by omega)
      rw [this, Bool.and_true]
    · have h8i : i < 8 := by omega
      rw [if_neg (nI_ge (by omega) (by omega)), nI_1]
      cases b with
      | false =>
        rw [if_pos (by rfl)]
        have := ih (i + 1) false (by omega) (by omega)
        simpa using this
      | true =>
        rw [if_neg (by decide), a_ald h8 (by decide), (pm.2.2.2.1 l hl).2.2.1]
        simp only [b_tb0 (show P 3 l 2 < 2 ^ 31 by have := (nlt w hl).1; omega) h8i, u_aw w pm ow fw cm (show i < pL P by omega), Option.bind_some]
        have go : ∀ b2 : Bool, (b2 = true ↔ ((P 3 l 2).testBit i = true → aw P O F i = true)) → k (if b2 && hnB P O F l (i + 1) then 1 else 0) = k (if true && hnB P O F l (i) then 1 else 0) := by
          intro b2 hb
          congr 2
          apply propext
          simp only [Bool.and_eq_true, hnB_iff, true_and]
          constructor
          · rintro ⟨x, y⟩ t b a c d
            rcases Nat.lt_or_ge i t with z | z
            · exact y t b z c d
            · obtain rfl : i = t := by omega
              exact hb.mp x d
          · intro x
            exact ⟨hb.mpr (x i h8i (by omega) (by omega)), fun t b a c d => x t b (by omega) c d⟩
        by_cases z : (P 3 l 2).testBit i = false
        · rw [if_pos z]
          refine (ih (i + 1) true (by omega) (by omega)).trans (go true ?_)
          rw [z]; simp
        · rw [if_neg z]
          have z' : (P 3 l 2).testBit i = true := by simpa using z
          cases ha : aw P O F i with
          | false =>
            rw [if_neg Bool.false_ne_true, if_pos rfl]
            refine (ih (i + 1) false (by omega) (by omega)).trans (go false ?_)
            rw [z', ha]; simp
          | true =>
            rw [if_pos rfl, if_neg (by decide)]
            refine (ih (i + 1) true (by omega) (by omega)).trans (go true ?_)
            rw [ha]; simp
theorem u_hn {P : xP} {O : xO} {F A : Nat} {μ : xMu} (w : Pwf P) (pm : PM P μ) (ow : Owf P O) (fw : Fwf P F) (cm : CM O F μ) (hA : ∀ l, A.testBit l = awU P O l) {l : Nat} (hl : l < pL P) : f12_hasNeeds μ (nI l) = some (if nd (P 3 l 2) A F then 1 else 0) := by
  have hL := w.1.2.2.1
  have b3 := (w.2.2.2.1 l hl).2.2.1
  unfold f12_hasNeeds
  refine (l_hn w pm ow fw cm _ hl 1000 0 true (by omega) (by omega)).trans ?_
  have : (true && hnB P O F l (0)) = nd (P 3 l 2) A F := by
    rw [Bool.eq_iff_iff, nd_iff (nlt w hl).1]
    simp only [Bool.true_and, hnB_iff]
    constructor
    · intro x t ht
      have htl : t < l := by
        rcases Nat.lt_or_ge t l with z | z
        · exact z
        · have := Nat.testBit_lt_two_pow (Nat.lt_of_lt_of_le b3 (Nat.pow_le_pow_right (by decide) z))
          rw [this] at ht
          cases ht
      have := x t (by omega) (by omega) (by omega) ht
      unfold aw at this
      rw [Bool.or_eq_true] at this
      rw [hA]
      exact this
    · intro x t _ _ _ ht
      unfold aw
      rw [Bool.or_eq_true, ← hA]
      exact x t ht
  rw [this]
  cases nd (P 3 l 2) A F <;> rfl
/-! one pass of the reference's 'lose' -/
def p44 : Nat → Nat → Bool := fun a b => a == 162 && b == 44
theorem fw_sub {P : xP} {F G : Nat} (fw : Fwf P F) (hG : G < 256) (h : ∀ t, G.testBit t = true → F.testBit t = true) : Fwf P G := ⟨hG, fun l hl => fw.2 l (h l hl)⟩
theorem PM.w44 {P : xP} {μ : xMu} {v : Int32} (pm : PM P μ) : PM P (x_wr μ 162 44 v) := gPM (g := fun n => n == 9) pm (gs.refl.wr rfl) rfl
theorem CM.w44 {O : xO} {F G : Nat} {μ : xMu} (cm : CM O F μ) : CM O G (x_wr μ 162 44 (nI G)) := ⟨cm.1, rfl, cm.2.2⟩
theorem wr_same {μ : xMu} {k j : Nat} : x_wr μ k j (μ k j) = μ := by
  funext a b
  unfold x_wr
  split
  · next h => rw [h.1, h.2]
  · rfl
theorem wr_wr {μ : xMu} {k j : Nat} {v u : Int32} : x_wr (x_wr μ k j v) k j u = x_wr μ k j u := by
  funext a b
  unfold x_wr
  split <;> rfl
theorem l_los {P : xP} {O : xO} {F A : Nat} {μ : xMu} (w : Pwf P) (pm : PM P μ) (ow : Owf P O) (fw : Fwf P F) (cm : CM O F μ) (hA : ∀ l, A.testBit l = awU P O l) (k : Int32 → xMu → Option xMu) : ∀ (f i : Nat) (c : Int32), i ≤ pL P → pL P < i + f → ∃ c', f12_lose_l10 k f c (nI i) (x_wr μ 162 44 (nI (st P A F i))) = k c' (x_wr μ 162 44 (nI (st P A F (pL P)))) ∧ ((∀ l, i ≤ l → l < pL P → (st P A F l).testBit l = true → nd (P 3 l 2) A (st P A F l) = true) → c' = c) ∧ (c' = c ∨ c' = 1) := by
  intro f
  induction f with
  | zero => intro i c _ h; omega
  | succ f ih =>
    intro i c hi h
    have hL := w.1.2.2.1
    have pm' : PM P (x_wr μ 162 44 (nI (st P A F i))) := pm.w44
    have fw' : Fwf P (st P A F i) := fw_sub fw (st_lt fw.1 i) (st_sub fw.1 i)
    have cm' : CM O (st P A F i) (x_wr μ 162 44 (nI (st P A F i))) := cm.w44
    have lt := st_lt (P := P) (A := A) fw.1 i
    have eS : st P A F (i + 1) = if nd (P 3 i 2) A (st P A F i) then st P A F i else an (st P A F i) (2 ^ i) := rfl
    unfold f12_lose_l10 f12_lose_j54
    rw [pm'.1.2.2.1, cm'.2.1]
    by_cases ci : pL P ≤ i
    · rw [if_pos (nI_le ci (by omega)), show i = pL P by omega]
      exact ⟨c, rfl, fun _ => rfl, Or.inl rfl⟩
    · have h8 : i < 8 := by omega
      rw [if_neg (nI_ge (by omega) (by omega)), nI_1]
      simp only [b_tb1 (show st P A F i < 2 ^ 31 by omega) h8]
      by_cases z : (st P A F i).testBit i = true
      · rw [if_pos z, u_hn w pm' ow fw' cm' hA (by omega)]
        simp only [Option.bind_some]
        by_cases y : nd (P 3 i 2) A (st P A F i) = true
        · rw [if_pos y, if_neg (by decide)]
          rw [if_pos y] at eS
          obtain ⟨c', a1, a2, a3⟩ := ih (i + 1) c (by omega) (by omega)
          rw [eS] at a1
          exact ⟨c', a1, fun q => a2 (fun l x => q l (by omega)), a3⟩
        · rw [if_neg y, if_pos rfl, a_put, b_sh i h8, b_an lt, wr_wr]
          rw [if_neg y] at eS
          obtain ⟨c', a1, a2, a3⟩ := ih (i + 1) 1 (by omega) (by omega)
          rw [eS] at a1
          refine ⟨c', a1, fun q => absurd (q i (by omega) (by omega) z) y, ?_⟩
          rcases a3 with e | e <;> exact Or.inr e
      · rw [if_neg z]
        have e1 : st P A F (i + 1) = st P A F i := by
          rw [eS]
          split
          · rfl
          · exact an_no lt (by simpa using z)
        obtain ⟨c', a1, a2, a3⟩ := ih (i + 1) c (by omega) (by omega)
        rw [e1] at a1
        exact ⟨c', a1, fun q => a2 (fun l x => q l (by omega)), a3⟩
