/-! PURE: read: bodies, the end of one -/
def BC (B : Nat) (q : Nat → Nat → Nat) (μ : xMu) : Prop := μ (30 + 4 * B) 3 = nI (q 4 4) ∧ μ (30 + 4 * B) 4 = cN (-1) (q 4 0) ∧ μ (30 + 4 * B) 5 = nI (q 4 3) ∧ μ (30 + 4 * B) 6 = nI (q 4 1) ∧ μ (30 + 4 * B) 7 = nI (q 4 2) ∧ ∀ i, i < q 4 4 → μ (31 + 4 * B) i = nI (q (5 + i) 0) ∧ μ (32 + 4 * B) i = nI (q (5 + i) 1) ∧ μ (33 + 4 * B) i = nI (q (5 + i) 2)
def BM (B : Nat) (q : Nat → Nat → Nat) (μ : xMu) : Prop := μ 180 B = nI (q 4 4) ∧ μ 176 B = cN (-1000000) (q 4 0) ∧ μ 179 B = nI (q 4 3) ∧ μ 177 B = nI (q 4 1) ∧ μ 178 B = nI (q 4 2) ∧ ∀ i, i < q 4 4 → μ 181 (18 * B + 3 * i) = nI (q (5 + i) 0) ∧ μ 181 (18 * B + 3 * i + 1) = nI (q (5 + i) 1) ∧ μ 181 (18 * B + 3 * i + 2) = nI (q (5 + i) 2)
def Bwf (P : xP) (q : Nat → Nat → Nat) : Prop := q 4 0 ≤ pL P ∧ q 4 1 < pK P ∧ q 4 2 < 4 ∧ q 4 3 < 4 ∧ q 4 4 ≤ 6 ∧ ∀ i, i < q 4 4 → q (5 + i) 0 < 7 ∧ q (5 + i) 1 < 10 ∧ q (5 + i) 2 < 4 ∧ (q (5 + i) 0 = 4 → q (5 + i) 1 < pT P) ∧ (q (5 + i) 0 = 5 → q (5 + i) 1 < pL P ∧ P 3 (q (5 + i) 1) 0 < 2) ∧ (q (5 + i) 0 = 3 → q 4 3 = 2)
theorem BC.of {B : Nat} {q : Nat → Nat → Nat} {μ μ' : xMu} (h : BC B q μ) (e : ∀ a j, 30 + 4 * B ≤ a → a ≤ 33 + 4 * B → μ' a j = μ a j) : BC B q μ' := by
  obtain ⟨h1, h2, h3, h4, h5, h6⟩ := h
  refine ⟨by rw [e _ _ (by omega) (by omega)]; exact h1, by rw [e _ _ (by omega) (by omega)]; exact h2, by rw [e _ _ (by omega) (by omega)]; exact h3, by rw [e _ _ (by omega) (by omega)]; exact h4, by rw [e _ _ (by omega) (by omega)]; exact h5, fun i hi => ?_⟩
  rw [e _ _ (by omega) (by omega), e _ _ (by omega) (by omega), e _ _ (by omega) (by omega)]
  exact h6 i hi
theorem BM.of {B : Nat} {q : Nat → Nat → Nat} {μ μ' : xMu} (h : BM B q μ) (e : ∀ a j, 176 ≤ a → a ≤ 181 → μ' a j = μ a j) : BM B q μ' := by
  obtain ⟨h1, h2, h3, h4, h5, h6⟩ := h
  refine ⟨by rw [e _ _ (by omega) (by omega)]; exact h1, by rw [e _ _ (by omega) (by omega)]; exact h2, by rw [e _ _ (by omega) (by omega)]; exact h3, by rw [e _ _ (by omega) (by omega)]; exact h4, by rw [e _ _ (by omega) (by omega)]; exact h5, fun i hi => ?_⟩
  rw [e _ _ (by omega) (by omega), e _ _ (by omega) (by omega), e _ _ (by omega) (by omega)]
  exact h6 i hi
def pBody (P : xP) (q : Nat → Nat → Nat) : xP := fun x y z => if x = 0 ∧ y = 3 then pB P + 1 else if 4 ≤ x ∧ y = pB P then q x z else P x y z
theorem pBo0 (P : xP) (q : Nat → Nat → Nat) (x z : Nat) (h : 4 ≤ x) : pBody P q x (pB P) z = q x z := by
  unfold pBody
  rw [if_neg (by omega), if_pos ⟨h, rfl⟩]
theorem pBon (P : xP) (q : Nat → Nat → Nat) (x b z : Nat) (h : 1 ≤ x) (hb : b ≠ pB P) : pBody P q x b z = P x b z := by
  unfold pBody
  rw [if_neg (by omega), if_neg (fun y => hb y.2)]
theorem bEnd {P : xP} {β : Nat → Nat} {n k a e a0 : Nat} {q : Nat → Nat → Nat} {μ0 ω0 μc μm : xMu} (w : Pwf P) (hB : pB P < 24) (lw : Bwf P q) (h : KT β n k a e μc μm) (nf : NF μc μm) (pc : PC P μc) (pmx : PMx P μm) (c : μm 162 35 = nI (pK P) ∧ μm 162 36 = nI (pT P) ∧ μm 162 37 = nI (pL P) ∧ μm 162 38 = nI (pB P + 1)) (lc : BC (pB P) q μc) (lm : BM (pB P) q μm) (ha : a0 < a) (gc : gs (pQ (pK P) (pT P) (pL P) (pB P)) μ0 μc) (gm : gs (pU (pK P) (pT P) (pL P) (pB P)) ω0 μm) :
    RT P β n a0 μ0 ω0 (f5_readBody_j119 μc) (fun K f => f12_read_j275 (f12_read_l64 K f) μm) := by
  have C : f5_readBody_j119 μc = (f5_takeSign 59 μc).bind fun μ12 => (if (μ12 126 2) = 0 then (x_put μ12 16 8 ((μ12 16 8) + (1 : Int32)) fun μ13 => (some μ13)) else (some μ12)) := rfl
  have hL8 := w.1.2.2.1
  rcases j_end h nf with ⟨k', a', e', μc', μm', x1, x2, x3, x4, x5, x6, x7⟩ | ⟨μc', μm', x1, x2, x3, x4, x5⟩
  · left
    have g2 : gs (pQ (pK P) (pT P) (pL P) (pB P)) μc μc' := pQ6 x6
    have pc' := PCq w pc g2 (fun j _ _ => x6 16 j (decide_eq_false (by omega)))
    have pmx' := PMq w pmx (pU3 x7)
    have lc' : BC (pB P) q μc' := lc.of (fun a j _ _ => x6 _ _ (decide_eq_false (by omega)))
    have lm' : BM (pB P) q μm' := lm.of (fun a _ _ _ => x7 _ _ (decide_eq_false (by omega)))
    have x7' : ∀ a b, ¬ (a = 162 ∧ (29 ≤ b ∧ b ≤ 34)) → μm' a b = μm a b := fun a b q => x7 a b (decide_eq_false q)
    refine ⟨pBody P q, k', a', e', x_wr μc' 16 8 (nI (pB P + 1)), μm', ?_, x2, ⟨x3.of (fun a b z => ?_) (fun _ _ _ => rfl), x4, ?_, ?_, ?_, ?_⟩, by omega, ⟨Nat.le_refl _, Nat.le_refl _, Nat.le_refl _, Nat.le_succ _⟩, (gc.trans g2).wr (pQy (by omega)), gm.trans (pU3 x7)⟩
    · rw [C, x1, Option.bind_some, x4.1, if_pos rfl, a_put, pc'.1.2.2.2, nI_1]
    · rw [w_wr, if_neg (by omega)]
    · obtain ⟨⟨c1, c2, c3, c4⟩, h1, h2, h3, h4⟩ := pc'
      have q6 : ∀ a b, a ≠ 16 → (x_wr μc' 16 8 (nI (pB P + 1))) a b = μc' a b := fun a b p => x_wr_rd p
      refine ⟨⟨c1, c2, c3, rfl⟩, h1, h2, fun l hl => ?_, fun b hb => ?_⟩
      · rw [q6 _ _ (by omega), q6 _ _ (by omega), q6 _ _ (by omega), q6 _ _ (by omega), q6 _ _ (by omega), q6 _ _ (by omega), q6 _ _ (by omega), q6 _ _ (by omega)]
        exact h3 l hl
      · have hb' : b < pB P + 1 := hb
        rw [q6 _ _ (by omega), q6 _ _ (by omega), q6 _ _ (by omega), q6 _ _ (by omega), q6 _ _ (by omega)]
        have qa : ∀ a i, a = 31 + 4 * b ∨ a = 32 + 4 * b ∨ a = 33 + 4 * b → (x_wr μc' 16 8 (nI (pB P + 1))) a i = μc' a i := fun a i z => q6 a i (by omega)
        simp only [qa _ _ (Or.inl rfl), qa _ _ (Or.inr (Or.inl rfl)), qa _ _ (Or.inr (Or.inr rfl))]
        by_cases y : b = pB P
        · subst y
          simp only [pBo0 P q 4 _ (by decide), fun i z => pBo0 P q (5 + i) z (by omega)]
          exact lc'
        · simp only [fun z => pBon P q 4 b z (by decide) y, fun i z => pBon P q (5 + i) b z (by omega) y]
          exact h4 b (by omega)
    · obtain ⟨h1, h2, h3, h4⟩ := pmx'
      refine ⟨h1, h2, h3, fun b hb => ?_⟩
      have hb' : b < pB P + 1 := hb
      by_cases y : b = pB P
      · subst y
        simp only [pBo0 P q 4 _ (by decide), fun i z => pBo0 P q (5 + i) z (by omega)]
        exact lm'
      · simp only [fun z => pBon P q 4 b z (by decide) y, fun i z => pBon P q (5 + i) b z (by omega) y]
        exact h4 b (by omega)
    · rw [x7' _ _ (by omega), x7' _ _ (by omega), x7' _ _ (by omega), x7' _ _ (by omega)]
      exact c
    · refine ⟨⟨w.1.1, w.1.2.1, w.1.2.2.1, hB⟩, w.2.1, w.2.2.1, w.2.2.2.1, fun b hb => ?_⟩
      have hb' : b < pB P + 1 := hb
      by_cases y : b = pB P
      · subst y
        simp only [pBo0 P q 4 _ (by decide), fun i z => pBo0 P q (5 + i) z (by omega)]
        exact lw
      · simp only [fun z => pBon P q 4 b z (by decide) y, fun i z => pBon P q (5 + i) b z (by omega) y]
        exact w.2.2.2.2 b (by omega)
  · right
    refine ⟨μc', μm', ?_, x2, x3, gc.trans (pQ6 x4), gm.trans (pU3 x5)⟩
    rw [C, x1, Option.bind_some, x3.c, if_neg (by decide)]
/-! at a fault -/
theorem cf_119 {μ : xMu} (h : μ 126 2 = 1) : f5_readBody_j119 μ = some μ := by
  unfold f5_readBody_j119
  rw [cf_sgn h, Option.bind_some, h, if_neg (by decide)]
theorem cf_82 {μ : xMu} {r f : Nat} {i : Int32} (h : μ 126 2 = 1) : f5_readBody_l82 (fun (μ11 : xMu) => (f5_readBody_j119 μ11)) (f + 1) r i μ = some μ := by
  unfold f5_readBody_l82
  rw [h, if_neg (show ¬ (1 : Int32) = 0 by decide), cf_119 h, ite_self]
theorem m148 (μ : xMu) : f12_readBody_j148 μ = some (x_wr μ 162 38 (μ 162 38 + 1)) := rfl
theorem mf_118 {μ : xMu} {v1 : Int32} {f g : Nat} (h : μ 162 33 = nI g) (h1 : 1 ≤ g) (h3 : g ≤ 3) : f12_readBody_l118 (fun (μ18 : xMu) => (f12_readBody_j148 μ18)) (f + 1) v1 μ = some (x_wr μ 162 38 (μ 162 38 + 1)) := by
  unfold f12_readBody_l118
  rw [h, if_neg (ne33 h1 h3), m148]
theorem mbT {μ : xMu} {v1 : Int32} {f' g f : Nat} {K : xMu → Option (Int32 × xMu)} (h : μ 162 33 = nI g) (h1 : 1 ≤ g) (h3 : g ≤ 3) : ((f12_readBody_l118 (fun (μ18 : xMu) => (f12_readBody_j148 μ18)) (f' + 1) v1 μ).bind fun μ18 => f12_read_j275 (f12_read_l64 K (f + 1)) μ18) = K (x_wr μ 162 38 (μ 162 38 + 1)) := by
  rw [mf_118 h h1 h3, Option.bind_some]
  exact rf_275 (by rw [w_wr, if_neg (by decide)]; exact h) h1 h3
/-! one act -/
def aA (B i : Nat) (op o1 o2 : Int32) (μ : xMu) : xMu := x_wr (x_wr (x_wr (x_wr μ (31 + 4 * B) i op) (32 + 4 * B) i o1) (33 + 4 * B) i o2) (30 + 4 * B) 3 (nI (i + 1))
theorem aAE {B i : Nat} {op o1 o2 : Int32} {μ : xMu} (hB : B < 24) (hi : i < 6) (h3 : μ (30 + 4 * B) 3 = nI i) : f1_addAct (30 + 4 * B) op o1 o2 μ = some (aA B i op o1 o2 μ) := by
  obtain ⟨-, r1, r2, r3, r4, r5, r6, r7, r8, r9, r10⟩ := r_body B hB
  unfold f1_addAct aA
  rw [a_chk r1, a_rfd r2, a_chk r5, r8, h3, a_ast hi (by decide), a_rfd r3, a_chk r6, r9, x_wr_rd (by omega), h3, a_ast hi (by decide), a_rfd r4, a_chk r7, r10, x_wr_rd (by omega), x_wr_rd (by omega), h3, a_ast hi (by decide), a_put, x_wr_rd (by omega), x_wr_rd (by omega), x_wr_rd (by omega), h3, nI_1]
theorem aAG {B i : Nat} {op o1 o2 : Int32} {μ : xMu} : gs (fun a _ => decide (30 + 4 * B ≤ a ∧ a ≤ 33 + 4 * B)) μ (aA B i op o1 o2 μ) := (((gs.refl.wr (decide_eq_true (by omega))).wr (decide_eq_true (by omega))).wr (decide_eq_true (by omega))).wr (decide_eq_true (by omega))
def qA (q : Nat → Nat → Nat) (i op o1 o2 : Nat) : Nat → Nat → Nat := fun x z => if x = 4 ∧ z = 4 then i + 1 else if x = 5 + i then (if z = 0 then op else if z = 1 then o1 else o2) else q x z
theorem qA4 (q : Nat → Nat → Nat) (i op o1 o2 z : Nat) (h : z < 4) : qA q i op o1 o2 4 z = q 4 z := by
  unfold qA
  rw [if_neg (by omega), if_neg (by omega)]
theorem qAi (q : Nat → Nat → Nat) (i op o1 o2 : Nat) : qA q i op o1 o2 (5 + i) 0 = op ∧ qA q i op o1 o2 (5 + i) 1 = o1 ∧ qA q i op o1 o2 (5 + i) 2 = o2 := by
  refine ⟨?_, ?_, ?_⟩
  · unfold qA
    rw [if_neg (by omega), if_pos rfl, if_pos rfl]
  · unfold qA
    rw [if_neg (by omega), if_pos rfl, if_neg (by decide), if_pos rfl]
  · unfold qA
    rw [if_neg (by omega), if_pos rfl, if_neg (by decide), if_neg (by decide)]
theorem qAj (q : Nat → Nat → Nat) (i op o1 o2 j z : Nat) (h : j ≠ i) : qA q i op o1 o2 (5 + j) z = q (5 + j) z := by
  unfold qA
  rw [if_neg (by omega), if_neg (by omega)]
theorem aAC {B i op o1 o2 : Nat} {q : Nat → Nat → Nat} {μ : xMu} (h : BC B q μ) (hi : q 4 4 = i) : BC B (qA q i op o1 o2) (aA B i (nI op) (nI o1) (nI o2) μ) := by
  obtain ⟨h1, h2, h3, h4, h5, h6⟩ := h
  unfold aA
  refine ⟨?_, ?_, ?_, ?_, ?_, fun j hj => ?_⟩
  · rw [w_wr, if_pos ⟨rfl, rfl⟩]; rfl
  · rw [w_wr, if_neg (by omega), x_wr_rd (by omega), x_wr_rd (by omega), x_wr_rd (by omega), qA4 _ _ _ _ _ _ (by decide)]; exact h2
  · rw [w_wr, if_neg (by omega), x_wr_rd (by omega), x_wr_rd (by omega), x_wr_rd (by omega), qA4 _ _ _ _ _ _ (by decide)]; exact h3
  · rw [w_wr, if_neg (by omega), x_wr_rd (by omega), x_wr_rd (by omega), x_wr_rd (by omega), qA4 _ _ _ _ _ _ (by decide)]; exact h4
  · rw [w_wr, if_neg (by omega), x_wr_rd (by omega), x_wr_rd (by omega), x_wr_rd (by omega), qA4 _ _ _ _ _ _ (by decide)]; exact h5
  · have hj' : j < i + 1 := hj
    have m1 : (x_wr (x_wr (x_wr (x_wr μ (31 + 4 * B) i (nI op)) (32 + 4 * B) i (nI o1)) (33 + 4 * B) i (nI o2)) (30 + 4 * B) 3 (nI (i + 1))) (31 + 4 * B) j = if j = i then nI op else μ (31 + 4 * B) j := by
      rw [x_wr_rd (by omega), x_wr_rd (by omega), x_wr_rd (by omega), w_wr]
      by_cases y : j = i
      · rw [if_pos ⟨rfl, y⟩, if_pos y]
      · rw [if_neg (fun z => y z.2), if_neg y]
    have m2 : (x_wr (x_wr (x_wr (x_wr μ (31 + 4 * B) i (nI op)) (32 + 4 * B) i (nI o1)) (33 + 4 * B) i (nI o2)) (30 + 4 * B) 3 (nI (i + 1))) (32 + 4 * B) j = if j = i then nI o1 else μ (32 + 4 * B) j := by
      rw [x_wr_rd (by omega), x_wr_rd (by omega), w_wr]
      by_cases y : j = i
      · rw [if_pos ⟨rfl, y⟩, if_pos y]
      · rw [if_neg (fun z => y z.2), if_neg y, x_wr_rd (by omega)]
    have m3 : (x_wr (x_wr (x_wr (x_wr μ (31 + 4 * B) i (nI op)) (32 + 4 * B) i (nI o1)) (33 + 4 * B) i (nI o2)) (30 + 4 * B) 3 (nI (i + 1))) (33 + 4 * B) j = if j = i then nI o2 else μ (33 + 4 * B) j := by
      rw [x_wr_rd (by omega), w_wr]
      by_cases y : j = i
      · rw [if_pos ⟨rfl, y⟩, if_pos y]
      · rw [if_neg (fun z => y z.2), if_neg y, x_wr_rd (by omega), x_wr_rd (by omega)]
    rw [m1, m2, m3]
    by_cases y : j = i
    · subst y
      rw [if_pos rfl, if_pos rfl, if_pos rfl, (qAi q j op o1 o2).1, (qAi q j op o1 o2).2.1, (qAi q j op o1 o2).2.2]
      exact ⟨rfl, rfl, rfl⟩
    · rw [if_neg y, if_neg y, if_neg y, qAj _ _ _ _ _ _ _ y, qAj _ _ _ _ _ _ _ y, qAj _ _ _ _ _ _ _ y]
      exact h6 j (by omega)
theorem aAM {B i op o1 o2 : Nat} {q : Nat → Nat → Nat} {μ μ' : xMu} (h : BM B q μ) (hi : q 4 4 = i) (e0 : μ' 180 B = nI (i + 1)) (e1 : μ' 181 (18 * B + 3 * i) = nI op) (e2 : μ' 181 (18 * B + 3 * i + 1) = nI o1) (e3 : μ' 181 (18 * B + 3 * i + 2) = nI o2) (eo : ∀ a, 176 ≤ a → a ≤ 179 → μ' a B = μ a B) (ea : ∀ j, 18 * B ≤ j → j < 18 * B + 3 * i → μ' 181 j = μ 181 j) : BM B (qA q i op o1 o2) μ' := by
  obtain ⟨h1, h2, h3, h4, h5, h6⟩ := h
  refine ⟨e0, by rw [eo 176 (by decide) (by decide), qA4 _ _ _ _ _ _ (by decide)]; exact h2, by rw [eo 179 (by decide) (by decide), qA4 _ _ _ _ _ _ (by decide)]; exact h3, by rw [eo 177 (by decide) (by decide), qA4 _ _ _ _ _ _ (by decide)]; exact h4, by rw [eo 178 (by decide) (by decide), qA4 _ _ _ _ _ _ (by decide)]; exact h5, fun j hj => ?_⟩
  have hj' : j < i + 1 := hj
  by_cases y : j = i
  · subst y
    rw [(qAi q j op o1 o2).1, (qAi q j op o1 o2).2.1, (qAi q j op o1 o2).2.2]
    exact ⟨e1, e2, e3⟩
  · rw [qAj _ _ _ _ _ _ _ y, qAj _ _ _ _ _ _ _ y, qAj _ _ _ _ _ _ _ y, ea _ (by omega) (by omega), ea _ (by omega) (by omega), ea _ (by omega) (by omega)]
    exact h6 j (by omega)
theorem aAW {P : xP} {i op o1 o2 : Nat} {q : Nat → Nat → Nat} (h : Bwf P q) (hi : q 4 4 = i) (h6 : i < 6) (a1 : op < 7) (a2 : o1 < 10) (a3 : o2 < 4) (a4 : op = 4 → o1 < pT P) (a5 : op = 5 → o1 < pL P ∧ P 3 o1 0 < 2) (a6 : op = 3 → q 4 3 = 2) : Bwf P (qA q i op o1 o2) := by
  obtain ⟨h1, h2, h3, h4, h5, h7⟩ := h
  refine ⟨by rw [qA4 _ _ _ _ _ _ (by decide)]; exact h1, by rw [qA4 _ _ _ _ _ _ (by decide)]; exact h2, by rw [qA4 _ _ _ _ _ _ (by decide)]; exact h3, by rw [qA4 _ _ _ _ _ _ (by decide)]; exact h4, h6, fun j hj => ?_⟩
  have hj' : j < i + 1 := hj
  rw [qA4 _ _ _ _ _ 3 (by decide)]
  by_cases y : j = i
  · subst y
    rw [(qAi q j op o1 o2).1, (qAi q j op o1 o2).2.1, (qAi q j op o1 o2).2.2]
    exact ⟨a1, a2, a3, a4, a5, a6⟩
  · rw [qAj _ _ _ _ _ _ _ y, qAj _ _ _ _ _ _ _ y, qAj _ _ _ _ _ _ _ y]
    exact h7 j (by omega)
