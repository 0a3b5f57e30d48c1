/-! PURE: a point -/
theorem st_id {P : xP} {A G : Nat} (hG : G < 256) (h : ∀ l, l < pL P → G.testBit l = true → nd (P 3 l 2) A G = true) : ∀ l, l ≤ pL P → st P A G l = G := by
  intro l
  induction l with
  | zero => intro _; rfl
  | succ l ih =>
    intro hl
    have e := ih (by omega)
    unfold st
    rw [e]
    split
    · rfl
    · next y =>
      apply an_no hG
      rw [Bool.eq_false_iff]
      intro z
      exact y (h l (by omega) z)
theorem u_los {P : xP} {O : xO} {F A : Nat} {μ : xMu} (w : Pwf P) (pm : PM P μ) (ow : Owf P O) (fw : Fwf P F) (cm : CM O F μ) (hA : ∀ l, A.testBit l = awU P O l) : f12_lose μ = some (x_wr μ 162 44 (nI (st P A F (pL P)))) := by
  have hL := w.1.2.2.1
  have e0 : μ = x_wr μ 162 44 (nI (st P A F 0)) := by
    show μ = x_wr μ 162 44 (nI F)
    rw [← cm.2.1, wr_same]
  have rest : ∀ l, l < pL P → (st P A F (pL P)).testBit l = true → nd (P 3 l 2) A (st P A F (pL P)) = true := fun l hl h => st_rest w fw.1 hl h
  have idd := st_id (A := A) (st_lt fw.1 (pL P)) rest
  unfold f12_lose
  rw [show (1000 : Nat) = 997 + 3 from rfl]
  conv => lhs; unfold f12_lose_l2
  rw [if_neg (by decide)]
  obtain ⟨c1, a1, -, a3⟩ := l_los w pm ow fw cm hA (fun (y3 : Int32) (μ4 : xMu) => ((f12_lose_l2 (fun (μ5 : xMu) => (some μ5)) (997 + 2)) y3 μ4)) 1000 0 0 (by omega) (by omega)
  rw [← e0] at a1
  refine a1.trans ?_
  rcases a3 with rfl | rfl
  · unfold f12_lose_l2
    rw [if_pos rfl]
  · conv => lhs; unfold f12_lose_l2
    rw [if_neg (by decide)]
    have fw' : Fwf P (st P A F (pL P)) := fw_sub fw (st_lt fw.1 _) (st_sub fw.1 _)
    obtain ⟨c2, b1, b2, -⟩ := l_los w (pm.w44 (v := nI (st P A F (pL P)))) ow fw' cm.w44 hA (fun (y3 : Int32) (μ4 : xMu) => ((f12_lose_l2 (fun (μ5 : xMu) => (some μ5)) (997 + 1)) y3 μ4)) 1000 0 0 (by omega) (by omega)
    rw [wr_wr, wr_wr, show st P A (st P A F (pL P)) 0 = st P A F (pL P) from rfl, idd (pL P) (by omega)] at b1
    refine b1.trans ?_
    rw [b2 (fun l _ hl hb => by rw [idd l (by omega)] at hb ⊢; exact rest l hl hb)]
    unfold f12_lose_l2
    rw [if_pos rfl]
/-- does the layer's test hold at the facts v? -/
def tsH (P : xP) (v : Nat → Nat) (l : Nat) : Bool := P 3 l 4 == 0 || (if P 3 l 6 = 60 then decide (v (P 3 l 5) < P 3 l 7) else if P 3 l 6 = 62 then decide (P 3 l 7 < v (P 3 l 5)) else v (P 3 l 5) == P 3 l 7)
def fc (v : Nat → Nat) (c : Nat) (μ : xMu) : Prop := ∀ f, f < 4 → v f < 10 ∧ μ c f = nI (v f)
theorem t_test {P : xP} {v : Nat → Nat} {c : Nat} {μ : xMu} (w : Pwf P) (pc : PC P μ) (hc : x_isb c 13 = true) (hz : x_sz c = 4) (hf : fc v c μ) {l : Nat} (hl : l < pL P) : f3_testHolds μ (22 + l) c = some (if tsH P v l then 1 else 0) := by
  have h8 := p8 w hl
  obtain ⟨-, -, -, -, a5, a6⟩ := pc.2.2.2.1 l hl
  obtain ⟨-, -, -, -, -, b6, b7⟩ := w.2.2.2.1 l hl
  unfold f3_testHolds tsH
  rw [a_chk (r_layer l h8).2, a5]
  rcases (show P 3 l 4 = 0 ∨ P 3 l 4 = 1 by omega) with e | e
  · rw [e, if_pos (by decide)]
    rfl
  · obtain ⟨c1, c2, c3⟩ := a6 e
    obtain ⟨d1, d2, d3⟩ := b7 e
    obtain ⟨f1, f2⟩ := hf _ d1
    rw [e, if_neg (by decide), a_chk hc, hz, c1, a_ald d1 (by decide), c2, c3, f2]
    rcases d2 with z | z | z
    · rw [z, if_pos (by decide)]
      by_cases y : v (P 3 l 5) < P 3 l 7
      · rw [if_neg (nI_ge y (by omega))]
        simp [y]
      · rw [if_pos (nI_le (by omega) (by omega))]
        simp [y]
    · rw [z, if_neg (by decide), if_neg (by decide)]
      by_cases y : v (P 3 l 5) = P 3 l 7
      · rw [y, if_pos rfl]
        simp
      · rw [if_neg (nI_ne (by omega) (by omega) y)]
        simp [y]
    · rw [z, if_neg (by decide), if_pos (by decide)]
      by_cases y : P 3 l 7 < v (P 3 l 5)
      · rw [if_neg (nI_ge y (by omega))]
        simp [y]
      · rw [if_pos (nI_le (by omega) (by omega))]
        simp [y]
theorem u_test {P : xP} {v : Nat → Nat} {μ : xMu} (w : Pwf P) (pm : PM P μ) (hf : fc v 184 μ) {l : Nat} (hl : l < pL P) : f12_holdsTest μ (nI l) = some (if tsH P v l then 1 else 0) := by
  have h8 := p8 w hl
  obtain ⟨-, -, -, -, a5, a6⟩ := pm.2.2.2.1 l hl
  obtain ⟨-, -, -, -, -, b6, b7⟩ := w.2.2.2.1 l hl
  unfold f12_holdsTest tsH
  simp only [a_ald h8 (show 8 < 2 ^ 31 by decide)]
  rcases (show P 3 l 4 = 0 ∨ P 3 l 4 = 1 by omega) with e | e
  · rw [a5 e, if_pos rfl, e]
    rfl
  · obtain ⟨c1, c2, c3⟩ := a6 e
    obtain ⟨d1, d2, d3⟩ := b7 e
    obtain ⟨f1, f2⟩ := hf _ d1
    rw [c1, if_neg, a_ald d1 (by decide), c2, c3, f2, e]
    · rcases d2 with z | z | z
      · rw [z, if_pos (by decide)]
        by_cases y : v (P 3 l 5) < P 3 l 7
        · rw [if_neg (nI_ge y (by omega))]
          simp [y]
        · rw [if_pos (nI_le (by omega) (by omega))]
          simp [y]
      · rw [z, if_neg (by decide), if_neg (by decide)]
        by_cases y : v (P 3 l 5) = P 3 l 7
        · rw [y, if_pos rfl]
          simp
        · rw [if_neg (nI_ne (by omega) (by omega) y)]
          simp [y]
      · rw [z, if_neg (by decide), if_pos (by decide)]
        by_cases y : P 3 l 7 < v (P 3 l 5)
        · rw [if_neg (nI_ge y (by omega))]
          simp [y]
        · rw [if_pos (nI_le (by omega) (by omega))]
          simp [y]
    · intro q
      have q1 := (i_eq _ _).mp q
      rw [nI_toInt (by omega), show (-1000000 : Int32).toInt = -1000000 by decide] at q1
      omega
/-- the layers found, one by one -/
def fq (P : xP) (A : Nat) (v : Nat → Nat) (c l : Nat) : Bool := P 3 l 0 == 2 && tsH P v l && nd (P 3 l 2) A c
def fp (P : xP) (A : Nat) (v : Nat → Nat) : Nat → Nat
  | 0 => 0
  | l + 1 => if fq P A v (fp P A v l) l then fp P A v l ||| 2 ^ l else fp P A v l
def br (P : xP) (G : Nat) : Nat → Nat
  | 0 => 0
  | l + 1 => if G.testBit l then br P G l ||| P 3 l 3 else br P G l
def fpt (P : xP) (A : Nat) (v : Nat → Nat) : Nat := st P A (an (fp P A v (pL P)) (br P (fp P A v (pL P)) (pL P))) (pL P)
theorem fp_lt (P : xP) (A : Nat) (v : Nat → Nat) : ∀ l, l ≤ 8 → fp P A v l < 256 := by
  intro l
  induction l with
  | zero => intro _; exact Nat.le_of_ble_eq_true rfl
  | succ l ih =>
    intro hl
    unfold fp
    split
    · exact or_lt (ih (by omega)) (p2_lt (by omega))
    · exact ih (by omega)
theorem br_lt {P : xP} {G : Nat} (w : Pwf P) : ∀ l, l ≤ pL P → br P G l < 256 := by
  intro l
  induction l with
  | zero => intro _; exact Nat.le_of_ble_eq_true rfl
  | succ l ih =>
    intro hl
    unfold br
    split
    · exact or_lt (ih (by omega)) (nlt w (by omega)).2
    · exact ih (by omega)
theorem fp_hi (P : xP) (A : Nat) (v : Nat → Nat) : ∀ l t, l ≤ t → (fp P A v l).testBit t = false := by
  intro l
  induction l with
  | zero => intro t _; exact Nat.zero_testBit t
  | succ l ih =>
    intro t h
    unfold fp
    split
    · rw [Nat.testBit_or, ih t (by omega), p2_bit, decide_eq_false (by omega)]; rfl
    · exact ih t (by omega)
theorem fp_keep (P : xP) (A : Nat) (v : Nat → Nat) : ∀ n l t, t < l → (fp P A v (l + n)).testBit t = (fp P A v l).testBit t := by
  intro n
  induction n with
  | zero => intro l t _; rfl
  | succ n ih =>
    intro l t h
    rw [show l + (n + 1) = (l + n) + 1 by omega]
    conv => lhs; unfold fp
    split
    · rw [Nat.testBit_or, ih l t h, p2_bit, decide_eq_false (by omega), Bool.or_false]
    · exact ih l t h
theorem fp_bit {P : xP} {A : Nat} {v : Nat → Nat} {l : Nat} (hl : l < pL P) : (fp P A v (pL P)).testBit l = fq P A v (fp P A v l) l := by
  have q := fp_keep P A v (pL P - (l + 1)) (l + 1) l (by omega)
  rw [show l + 1 + (pL P - (l + 1)) = pL P by omega] at q
  rw [q]
  have z := fp_hi P A v l l (by omega)
  show (if fq P A v (fp P A v l) l then fp P A v l ||| 2 ^ l else fp P A v l).testBit l = _
  split
  · next e => rw [Nat.testBit_or, z, p2_bit, e]; simp
  · next e => rw [z]; exact (Bool.eq_false_iff.mpr e).symm
theorem fp_wf {P : xP} {A : Nat} {v : Nat → Nat} (w : Pwf P) : ∀ l, l ≤ pL P → Fwf P (fp P A v l) := by
  intro l hl
  have hL := w.1.2.2.1
  refine ⟨fp_lt P A v l (by omega), fun t ht => ?_⟩
  have h1 : t < l := by
    rcases Nat.lt_or_ge t l with z | z
    · exact z
    · rw [fp_hi P A v l t z] at ht; cases ht
  have h2 : t < pL P := by omega
  have q := fp_keep P A v (pL P - l) l t h1
  rw [show l + (pL P - l) = pL P by omega, fp_bit h2, ht] at q
  unfold fq at q
  simp at q
  exact ⟨h2, q.1.1⟩
theorem l_fcl {P : xP} {μ : xMu} (w : Pwf P) (pc : PC P μ) {c : Nat} {v : Nat → Nat} (hc : x_isb c 13 = true) (hz : x_sz c = 4) (hf : fc v c μ) (k : Int32 → Int32 → Option Int32) {A : Nat} : ∀ (f i : Nat), i ≤ pL P → pL P < i + f →
    f2_foundAtPoint_l13 μ k f c (nI A) (nI (fp P A v i)) (nI (br P (fp P A v (pL P)) i)) (nI i) = k (nI (fp P A v (pL P))) (nI (br P (fp P A v (pL P)) (pL P))) := by
  intro f
  induction f with
  | zero => intro i _ h; omega
  | succ f ih =>
    intro i hi h
    have hL := w.1.2.2.1
    unfold f2_foundAtPoint_l13 f2_foundAtPoint_j86
    rw [pc.1.2.2.1]
    by_cases ci : pL P ≤ i
    · rw [if_pos (nI_le ci (by omega)), show i = pL P by omega]
    · have hip : i < pL P := by omega
      have h8 : i < 8 := by omega
      have a := pc.2.2.2.1 i hip
      have hs := (w.2.2.2.1 i hip).1
      rw [if_neg (nI_ge (by omega) (by omega)), a_rld h8 (by decide) (r_layer i h8).1, a_chk (r_layer i h8).2, a.1, a.2.2.1, a.2.2.2.1, nI_1, b_sh i h8, t_test w pc hc hz hf hip]
      simp only [b_nd (nlt w hip).1, Option.bind_some]
      rw [← ih (i + 1) (by omega) (by omega)]
      have eb := fp_bit (A := A) (v := v) hip
      have e1 : fp P A v (i + 1) = if fq P A v (fp P A v i) i then fp P A v i ||| 2 ^ i else fp P A v i := rfl
      have e2 : br P (fp P A v (pL P)) (i + 1) = if (fp P A v (pL P)).testBit i then br P (fp P A v (pL P)) i ||| P 3 i 3 else br P (fp P A v (pL P)) i := rfl
      rw [e1, e2, eb]
      unfold fq
      by_cases s2 : P 3 i 0 = 2
      · rw [s2, if_pos (show nI 2 = 2 from rfl)]
        cases tsH P v i
        · rw [if_neg Bool.false_ne_true, if_pos rfl]
          rfl
        · rw [if_pos rfl, if_neg (by decide)]
          cases nd (P 3 i 2) A (fp P A v i)
          · rw [if_neg Bool.false_ne_true]
            rfl
          · rw [if_pos rfl, b_or, b_or]
            rfl
      · rw [if_neg (show ¬ nI (P 3 i 0) = 2 from nI_ne (b := 2) (by omega) (by decide) s2)]
        have : (P 3 i 0 == 2) = false := beq_false_of_ne s2
        rw [this]
        rfl
theorem t_fpt {P : xP} {O : xO} {F : Nat} {μ : xMu} (w : Pwf P) (pc : PC P μ) (ow : Owf P O) (cc : CC O F μ) {c : Nat} {v : Nat → Nat} (hc : x_isb c 13 = true) (hz : x_sz c = 4) (hf : fc v c μ) {A : Nat} (hA : f2_awakeUnasked μ = some (nI A)) : f2_foundAtPoint μ c = some (nI (fpt P A v)) := by
  have hL := w.1.2.2.1
  have h1 := fp_lt P A v (pL P) hL
  unfold f2_foundAtPoint
  rw [hA]
  refine (l_fcl w pc hc hz hf _ 1000 0 (by omega) (by omega)).trans ?_
  rw [b_an h1, t_stl w pc ow cc hA (an_lt h1)]
  rfl
theorem fc.w44 {v : Nat → Nat} {c : Nat} {μ : xMu} {x : Int32} (h : fc v c μ) (hc : c ≠ 162) : fc v c (x_wr μ 162 44 x) := fun f hf => by
  rw [x_wr_ne hc]
  exact h f hf
theorem l_fml {P : xP} {O : xO} {F A : Nat} {v : Nat → Nat} {μ : xMu} (w : Pwf P) (pm : PM P μ) (ow : Owf P O) (cm : CM O F μ) (hf : fc v 184 μ) (hA : ∀ l, A.testBit l = awU P O l) (k : xMu → Option xMu) : ∀ (f i : Nat), i ≤ pL P → pL P < i + f →
    f12_find_l7 k f (nI i) (x_wr μ 162 44 (nI (fp P A v i))) = k (x_wr μ 162 44 (nI (fp P A v (pL P)))) := by
  intro f
  induction f with
  | zero => intro i _ h; omega
  | succ f ih =>
    intro i hi h
    have hL := w.1.2.2.1
    have pm' : PM P (x_wr μ 162 44 (nI (fp P A v i))) := pm.w44
    have cm' : CM O (fp P A v i) (x_wr μ 162 44 (nI (fp P A v i))) := cm.w44
    have e1 : fp P A v (i + 1) = if fq P A v (fp P A v i) i then fp P A v i ||| 2 ^ i else fp P A v i := rfl
    unfold f12_find_l7 f12_find_j52 f12_find_j53
    rw [pm'.1.2.2.1]
    by_cases ci : pL P ≤ i
    · rw [if_pos (nI_le ci (by omega)), show i = pL P by omega]
    · have hip : i < pL P := by omega
      have h8 : i < 8 := by omega
      have hs := (w.2.2.2.1 i hip).1
      rw [if_neg (nI_ge (by omega) (by omega)), a_ald h8 (by decide), (pm'.2.2.2.1 i hip).1, nI_1, b_sh i h8, u_test w pm' (hf.w44 (by decide)) hip, u_hn w pm' ow (fp_wf w i hi) cm' hA hip, cm'.2.1]
      simp only [Option.bind_some, a_put]
      rw [← ih (i + 1) (by omega) (by omega), e1]
      unfold fq
      rw [wr_wr, wr_wr, show (0 : Int32) = nI 0 from rfl, b_or, b_or, Nat.or_zero]
      by_cases s2 : P 3 i 0 = 2
      · rw [s2, if_pos (show nI 2 = 2 from rfl)]
        cases tsH P v i
        · rw [if_neg Bool.false_ne_true, if_pos rfl]
          rfl
        · rw [if_pos rfl, if_neg (by decide)]
          cases nd (P 3 i 2) A (fp P A v i)
          · rw [if_neg Bool.false_ne_true, if_pos rfl]
            rfl
          · rw [if_pos rfl, if_neg (by decide)]
            rfl
      · rw [if_neg (show ¬ nI (P 3 i 0) = 2 from nI_ne (b := 2) (by omega) (by decide) s2)]
        have : (P 3 i 0 == 2) = false := beq_false_of_ne s2
        rw [this]
        rfl
theorem l_fmb {P : xP} {O : xO} {G : Nat} {μ : xMu} (w : Pwf P) (pm : PM P μ) (cm : CM O G μ) (hG : G < 256) (k : Int32 → xMu → Option xMu) : ∀ (f i : Nat), i ≤ pL P → pL P < i + f →
    f12_find_l67 k f (nI (br P G i)) (nI i) μ = k (nI (br P G (pL P))) μ := by
  intro f
  induction f with
  | zero => intro i _ h; omega
  | succ f ih =>
    intro i hi h
    have hL := w.1.2.2.1
    have e1 : br P G (i + 1) = if G.testBit i then br P G i ||| P 3 i 3 else br P G i := rfl
    unfold f12_find_l67 f12_find_j98
    rw [pm.1.2.2.1]
    by_cases ci : pL P ≤ i
    · rw [if_pos (nI_le ci (by omega)), show i = pL P by omega]
    · have hip : i < pL P := by omega
      have h8 : i < 8 := by omega
      rw [if_neg (nI_ge (by omega) (by omega)), a_ald h8 (by decide), (pm.2.2.2.1 i hip).2.2.2.1, nI_1, cm.2.1, ← ih (i + 1) (by omega) (by omega), e1, show (0 : Int32) = nI 0 from rfl, b_or, b_or, Nat.or_zero]
      simp only [b_tb1 (show G < 2 ^ 31 by omega) h8]
      by_cases z : G.testBit i = true
      · rw [if_pos z, if_pos z]
      · rw [if_neg z, if_neg z]
theorem u_fnd {P : xP} {O : xO} {F A : Nat} {v : Nat → Nat} {μ : xMu} (w : Pwf P) (pm : PM P μ) (ow : Owf P O) (cm : CM O F μ) (hf : fc v 184 μ) (hA : ∀ l, A.testBit l = awU P O l) : f12_find μ = some (x_wr μ 162 44 (nI (fpt P A v))) := by
  have hL := w.1.2.2.1
  have h1 := fp_lt P A v (pL P) hL
  unfold f12_find
  rw [a_put]
  refine (l_fml w pm ow cm hf hA _ 1000 0 (by omega) (by omega)).trans ?_
  refine (l_fmb w pm.w44 cm.w44 h1 _ 1000 0 (by omega) (by omega)).trans ?_
  have fw : Fwf P (an (fp P A v (pL P)) (br P (fp P A v (pL P)) (pL P))) := fw_sub (fp_wf w (pL P) (by omega)) (an_lt h1) (fun t ht => by rw [an_bit h1] at ht; simp at ht; exact ht.1)
  rw [a_put, (CM.w44 cm).2.1, b_an h1, wr_wr, u_los w pm.w44 ow fw cm.w44 hA, wr_wr]
  rfl
theorem fpt_wf {P : xP} {A : Nat} {v : Nat → Nat} (w : Pwf P) : Fwf P (fpt P A v) := by
  have hL := w.1.2.2.1
  have h1 := fp_lt P A v (pL P) hL
  refine fw_sub (fp_wf (A := A) (v := v) w (pL P) (by omega)) (st_lt (an_lt h1) _) (fun t ht => ?_)
  have := st_sub (an_lt h1) _ t ht
  rw [an_bit h1] at this
  simp at this
  exact this.1
