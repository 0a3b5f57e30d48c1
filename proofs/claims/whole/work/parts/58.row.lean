/-! PURE: rows: the latest waking of a layer for a thing -/
def fits1 (l t : Nat) (q : Nat × Nat) : Bool := q.1 == l && (q.2 == 0 || q.2 == t + 1)
/-- 0, or one more than the latest index below j -/
def lo (O : xO) (t l : Nat) : Nat → Nat
  | 0 => 0
  | j + 1 => if (O[j]?.any (fits1 l t)) then j + 1 else lo O t l j
theorem lo_le (O : xO) (t l : Nat) : ∀ j, lo O t l j ≤ j := by
  intro j
  induction j with
  | zero => exact Nat.le_refl 0
  | succ j ih =>
    unfold lo
    split
    · exact Nat.le_refl _
    · omega
theorem l_ltc {P : xP} {O : xO} {F : Nat} {μ : xMu} (w : Pwf P) (ow : Owf P O) (cc : CC O F μ) {l t : Nat} (hl : l < pL P) (ht : t < 8) : ∀ (j f : Nat), j ≤ O.length → j < f → f2_latestOpen_l7 μ (some (-1)) f (nI l) (nI t) (nI j - 1) = some (cN (-1) (lo O t l j)) := by
  intro j
  induction j with
  | zero =>
    intro f _ hf
    obtain ⟨f, rfl⟩ : ∃ g, f = g + 1 := ⟨f - 1, by omega⟩
    unfold f2_latestOpen_l7
    rw [if_pos (by decide)]
    rfl
  | succ j ih =>
    intro f hj hf
    obtain ⟨f, rfl⟩ : ∃ g, f = g + 1 := ⟨f - 1, by omega⟩
    have h16 := ow.1
    have hT := w.1.2.1
    have hi : j < O.length := by omega
    have hq := ow.2 O[j] (List.getElem_mem hi)
    have hq8 := p8 w hq.1
    have h8 := p8 w hl
    have hq2 : O[j].2 ≤ 8 := by omega
    have r := ih f (by omega) (by omega)
    unfold f2_latestOpen_l7 f2_latestOpen_j32 f2_latestOpen_j37 f2_latestOpen_j56 lo
    rw [nI_pred, if_neg (nI_pos (by omega)), m1, g_some hi]
    simp only [a_ald (show j < 16 by omega) (show 16 < 2 ^ 31 by decide), (cc.2.2 j _ (g_some hi)).1, (cc.2.2 j _ (g_some hi)).2, r, Option.any_some]
    have e0 : (cN (-1000000) O[j].2 = -1000000) = (O[j].2 = 0) := by
      apply propext
      unfold cN
      split
      · next e => simp [e]
      · next e =>
        rw [i_eq, nI_toInt (by omega), show (-1000000 : Int32).toInt = -1000000 by decide]
        omega
    have e1 : (cN (-1000000) O[j].2 = nI t) = ((O[j].2 == t + 1) = true) := cN_eq (by decide) hq2 ht
    have e2 : (nI O[j].1 = nI l) = (O[j].1 = l) := propext (nI_eq (by omega) (by omega))
    simp only [e0, e1, e2, e10, e00, if_true, if_false]
    have e3 : cN (-1) (j + 1) = nI j := rfl
    unfold fits1
    by_cases a : O[j].1 = l
    · by_cases b : O[j].2 = 0
      · simp [a, b, e3]
      · by_cases c : O[j].2 = t + 1
        · simp [a, c, e3]
        · simp [a, b, c]
    · by_cases b : O[j].2 = 0
      · simp [a, b]
      · by_cases c : O[j].2 = t + 1
        · simp [a, c]
        · simp [a, b, c]
theorem t_lto {P : xP} {O : xO} {F : Nat} {μ : xMu} (w : Pwf P) (ow : Owf P O) (cc : CC O F μ) {l t : Nat} (hl : l < pL P) (ht : t < 8) : f2_latestOpen μ (nI l) (nI t) = some (cN (-1) (lo O t l O.length)) := by
  have h16 := ow.1
  unfold f2_latestOpen
  rw [cc.1]
  exact l_ltc w ow cc hl ht O.length 1000 (by omega) (by omega)
theorem l_ltm {P : xP} {O : xO} {F : Nat} {μ : xMu} (w : Pwf P) (pm : PM P μ) (ow : Owf P O) (cm : CM O F μ) {l t : Nat} (hl : l < pL P) (ht : t < 8) (k : Int32 → Option Int32) : ∀ (f i : Nat), i ≤ O.length → O.length < i + f → f12_latestOf_l6 μ k f (nI l) (nI t) (cN (-1000000) (lo O t l i)) (nI i) = k (cN (-1000000) (lo O t l O.length)) := by
  intro f
  induction f with
  | zero => intro i _ h; omega
  | succ f ih =>
    intro i hi hf
    have h16 := ow.1
    have hT := w.1.2.1
    have h8 := p8 w hl
    unfold f12_latestOf_l6 f12_latestOf_j46 f12_latestOf_j51 f12_latestOf_j52
    rw [cm.1]
    by_cases c : O.length ≤ i
    · rw [if_pos (nI_le c (by omega)), show i = O.length by omega]
    · have hi2 : i < O.length := by omega
      have hq := ow.2 O[i] (List.getElem_mem hi2)
      have hq8 := p8 w hq.1
      have hq2 : O[i].2 ≤ 8 := by omega
      have r := ih (i + 1) (by omega) (by omega)
      have eL : lo O t l (i + 1) = if fits1 l t O[i] then i + 1 else lo O t l i := by
        show (if (O[i]?.any (fits1 l t)) then i + 1 else lo O t l i) = _
        rw [g_some hi2]
        rfl
      rw [eL] at r
      rw [if_neg (nI_ge (by omega) (by omega)), a_ald (by omega) (by decide), (cm.2.2 i _ (g_some hi2)).1, nI_1]
      have e1 : (cN (-1000000) O[i].2 = nI t) = ((O[i].2 == t + 1) = true) := cN_eq (by decide) hq2 ht
      have e2 : (nI O[i].1 = nI l) = (O[i].1 = l) := propext (nI_eq (by omega) (by omega))
      have e3 : cN (-1000000) (i + 1) = nI i := rfl
      simp only [a_ald (show i < 16 by omega) (show 16 < 2 ^ 31 by decide), a_ald h8 (show 8 < 2 ^ 31 by decide), (cm.2.2 i _ (g_some hi2)).2, (pm.2.2.2.1 l hl).1, e1, e2]
      unfold fits1 at r
      by_cases a : O[i].1 = l
      · rw [a] at hq r
        rw [if_pos a]
        rcases hq.2 with ⟨x, y⟩ | ⟨x, y, z⟩
        · rw [x, if_pos (show nI 0 = 0 from rfl)]
          simp [y] at r
          rw [← r, e3]
        · rw [x, if_neg (by decide)]
          by_cases d : O[i].2 = t + 1
          · simp [d] at r ⊢
            rw [← r, e3]
          · have d0 : ¬ O[i].2 = 0 := by omega
            simp [d, d0] at r ⊢
            exact r
      · simp [a] at r ⊢
        exact r
theorem u_lto {P : xP} {O : xO} {F : Nat} {μ : xMu} (w : Pwf P) (pm : PM P μ) (ow : Owf P O) (cm : CM O F μ) {l t : Nat} (hl : l < pL P) (ht : t < 8) : f12_latestOf μ (nI l) (nI t) = some (cN (-1000000) (lo O t l O.length)) := by
  have h16 := ow.1
  unfold f12_latestOf
  exact l_ltm w pm ow cm hl ht (fun (y4 : Int32) => (some y4)) 1000 0 (by omega) (by omega)
/-- the weight: 0 for none, or one more -/
def wt (P : xP) (O : xO) (F t l : Nat) : Nat := if P 3 l 0 < 2 then (if lo O t l O.length = 0 then 0 else P 3 l 1 * 32 + 8 + lo O t l O.length) else if P 3 l 0 = 2 ∧ F.testBit l = false then 0 else P 3 l 1 * 32 + 8 - l
theorem t_wt {P : xP} {O : xO} {F : Nat} {μ : xMu} (w : Pwf P) (pc : PC P μ) (ow : Owf P O) (fw : Fwf P F) (cc : CC O F μ) {l t : Nat} (hl : l < pL P) (ht : t < 8) : f6_weight μ (nI l) (nI t) = some (cN (-1) (wt P O F t l)) := by
  have h8 := p8 w hl
  have h16 := ow.1
  have hF := fw.1
  have hr := (w.2.2.2.1 l hl).2.1
  have hs := (w.2.2.2.1 l hl).1
  have hlo := lo_le O t l O.length
  unfold f6_weight f6_weight_j72 f2_isFound
  rw [a_rld h8 (by decide) (r_layer l h8).1, a_chk (r_layer l h8).2, t_woken w pc hl, (pc.2.2.2.1 l hl).1, (pc.2.2.2.1 l hl).2.1, t_lto w ow cc hl ht]
  simp only [Option.bind_some, a_chk (r_layer l h8).2, cc.2.1, b_tb1 (show F < 2 ^ 31 by omega) h8]
  have e7 : nI (P 3 l 1) * 32 + 8 - 1 - nI l = nI (P 3 l 1 * 32 + 7 - l) := by
    rw [show (32 : Int32) = nI 32 from rfl, show (8 : Int32) = nI 8 from rfl, show (1 : Int32) = nI 1 from rfl, pk_mul, nI_add, pk_sub (by omega), pk_sub (by omega)]
    rfl
  have e8 : cN (-1) (P 3 l 1 * 32 + 8 - l) = nI (P 3 l 1 * 32 + 7 - l) := by
    unfold cN
    rw [if_neg (by omega), show P 3 l 1 * 32 + 8 - l - 1 = P 3 l 1 * 32 + 7 - l by omega]
  unfold wt
  by_cases a : P 3 l 0 < 2
  · rw [if_pos a, if_neg (by decide), if_pos a]
    by_cases b : lo O t l O.length = 0
    · rw [b, if_pos rfl]
      rfl
    · rw [if_neg b]
      have e9 : cN (-1) (lo O t l O.length) = nI (lo O t l O.length - 1) := by unfold cN; rw [if_neg b]
      rw [e9, if_pos (nI_pos' (by omega)), show (32 : Int32) = nI 32 from rfl, show (8 : Int32) = nI 8 from rfl, pk_mul, nI_add, nI_add]
      unfold cN
      rw [if_neg (by omega), show P 3 l 1 * 32 + 8 + (lo O t l O.length - 1) = P 3 l 1 * 32 + 8 + lo O t l O.length - 1 by omega]
  · rw [if_neg a, if_pos rfl, if_neg a]
    by_cases b : P 3 l 0 = 2
    · rw [b, if_pos (show nI 2 = 2 from rfl)]
      cases F.testBit l
      · rw [if_neg Bool.false_ne_true, if_pos ⟨rfl, rfl⟩]
        rfl
      · rw [if_pos rfl, if_neg (by simp)]
        simp only [Option.bind_some, e10, if_false]
        rw [e7, e8]
    · rw [if_neg (show ¬ nI (P 3 l 0) = 2 from nI_ne (b := 2) (by omega) (by decide) b), if_neg (fun q => b q.1), e7, e8]
