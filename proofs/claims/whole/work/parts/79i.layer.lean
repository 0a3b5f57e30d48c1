/-! PURE: read: layers -/
def LC (L : Nat) (r : Nat → Nat) (μ : xMu) : Prop := μ (22 + L) 0 = nI (r 0) ∧ μ (22 + L) 1 = nI (r 1) ∧ μ (22 + L) 2 = nI (r 2) ∧ μ (22 + L) 3 = nI (r 3) ∧ μ (22 + L) 4 = nI (r 4) ∧ (r 4 = 1 → μ (22 + L) 5 = nI (r 5) ∧ μ (22 + L) 6 = nI (r 6) ∧ μ (22 + L) 7 = nI (r 7))
def LM (L : Nat) (r : Nat → Nat) (μ : xMu) : Prop := μ 169 L = nI (r 0) ∧ μ 170 L = nI (r 1) ∧ μ 174 L = nI (r 2) ∧ μ 175 L = nI (r 3) ∧ (r 4 = 0 → μ 171 L = -1000000) ∧ (r 4 = 1 → μ 171 L = nI (r 5) ∧ μ 172 L = nI (r 6) ∧ μ 173 L = nI (r 7))
def Lwf (L : Nat) (r : Nat → Nat) : Prop := r 0 < 4 ∧ r 1 < 10 ∧ r 2 < 2 ^ L ∧ r 3 < 2 ^ L ∧ (r 0 ≠ 2 → r 2 = 0) ∧ r 4 < 2 ∧ (r 4 = 1 → r 5 < 4 ∧ (r 6 = 60 ∨ r 6 = 61 ∨ r 6 = 62) ∧ r 7 < 10)
theorem LC.of {L : Nat} {r : Nat → Nat} {μ μ' : xMu} (h : LC L r μ) (q : ∀ j, μ' (22 + L) j = μ (22 + L) j) : LC L r μ' := by
  unfold LC at h ⊢
  simp only [q]
  exact h
theorem LM.of {L : Nat} {r : Nat → Nat} {μ μ' : xMu} (h : LM L r μ) (q : ∀ a, 169 ≤ a → a ≤ 175 → μ' a L = μ a L) : LM L r μ' := by
  unfold LM at h ⊢
  rw [q 169 (by omega) (by omega), q 170 (by omega) (by omega), q 171 (by omega) (by omega), q 172 (by omega) (by omega), q 173 (by omega) (by omega), q 174 (by omega) (by omega), q 175 (by omega) (by omega)]
  exact h
def pLayer (P : xP) (r : Nat → Nat) : xP := fun x y z => if x = 0 ∧ y = 2 then pL P + 1 else if x = 3 ∧ y = pL P then r z else P x y z
theorem pLa0 (P : xP) (r : Nat → Nat) (z : Nat) : pLayer P r 3 (pL P) z = r z := by
  unfold pLayer
  rw [if_neg (by omega), if_pos ⟨rfl, rfl⟩]
theorem pLan (P : xP) (r : Nat → Nat) (l z : Nat) (h : l ≠ pL P) : pLayer P r 3 l z = P 3 l z := by
  unfold pLayer
  rw [if_neg (by omega), if_neg (fun y => h y.2)]
theorem pLa5 (P : xP) (r : Nat → Nat) (i y z : Nat) : pLayer P r (5 + i) y z = P (5 + i) y z := by
  unfold pLayer
  rw [if_neg (by omega), if_neg (by omega)]
theorem lEnd {P : xP} {β : Nat → Nat} {n k a e a0 : Nat} {r : Nat → Nat} {μ0 ω0 μc μm : xMu} (w : Pwf P) (hL : pL P < 8) (lw : Lwf (pL P) r) (h : KT β n k a e μc μm) (nf : NF μc μm) (pc : PC P μc) (pmx : PMx P μm) (c : μm 162 35 = nI (pK P) ∧ μm 162 36 = nI (pT P) ∧ μm 162 37 = nI (pL P + 1) ∧ μm 162 38 = nI (pB P)) (lc : LC (pL P) r μc) (lm : LM (pL P) r μm) (ha : a0 < a) (gc : gs (pQ (pK P) (pT P) (pL P) (pB P)) μ0 μc) (gm : gs (pU (pK P) (pT P) (pL P) (pB P)) ω0 μm) :
    RT P β n a0 μ0 ω0 (f5_readLayer_j94 μc) (fun K f => f12_read_j275 (f12_read_l64 K f) μm) := by
  have C : f5_readLayer_j94 μc = (f5_takeSign 59 μc).bind fun μ7 => (if (μ7 126 2) = 0 then (x_put μ7 16 7 ((μ7 16 7) + (1 : Int32)) fun μ8 => (some μ8)) else (some μ7)) := rfl
  rcases j_end h nf with ⟨k', a', e', μc', μm', x1, x2, x3, x4, x5, x6, x7⟩ | ⟨μc', μm', x1, x2, x3, x4, x5⟩
  · left
    have g2 : gs (pQ (pK P) (pT P) (pL P) (pB P)) μc μc' := pQ6 x6
    have pc' := PCq w pc g2 (fun j _ _ => x6 16 j (decide_eq_false (by omega)))
    have pmx' := PMq w pmx (pU3 x7)
    have lc' : LC (pL P) r μc' := lc.of (fun j => x6 _ _ (decide_eq_false (by omega)))
    have lm' : LM (pL P) r μm' := lm.of (fun a _ _ => x7 _ _ (decide_eq_false (by omega)))
    have x7' : ∀ a b, ¬ (a = 162 ∧ (29 ≤ b ∧ b ≤ 34)) → μm' a b = μm a b := fun a b q => x7 a b (decide_eq_false q)
    refine ⟨pLayer P r, k', a', e', x_wr μc' 16 7 (nI (pL P + 1)), μm', ?_, x2, ⟨x3.of (fun a b z => ?_) (fun _ _ _ => rfl), x4, ?_, ?_, ?_, ?_⟩, by omega, ⟨Nat.le_refl _, Nat.le_refl _, Nat.le_succ _, Nat.le_refl _⟩, (gc.trans g2).wr (pQy (by omega)), gm.trans (pU3 x7)⟩
    · rw [C, x1, Option.bind_some, x4.1, if_pos rfl, a_put, pc'.1.2.2.1, nI_1]
    · rw [w_wr, if_neg (by omega)]
    · obtain ⟨⟨c1, c2, c3, c4⟩, h1, h2, h3, h4⟩ := pc'
      have q6 : ∀ a b, a ≠ 16 → (x_wr μc' 16 7 (nI (pL P + 1))) a b = μc' a b := fun a b p => x_wr_rd p
      refine ⟨⟨c1, c2, rfl, c4⟩, h1, h2, fun l hl => ?_, fun b hb => ?_⟩
      · have hl' : l < pL P + 1 := hl
        rw [q6 _ _ (by omega), q6 _ _ (by omega), q6 _ _ (by omega), q6 _ _ (by omega), q6 _ _ (by omega), q6 _ _ (by omega), q6 _ _ (by omega), q6 _ _ (by omega)]
        by_cases y : l = pL P
        · subst y
          simp only [pLa0]
          exact lc'
        · simp only [pLan P r l _ y]
          exact h3 l (by omega)
      · simp only [pLa5]
        rw [q6 _ _ (by omega), q6 _ _ (by omega), q6 _ _ (by omega), q6 _ _ (by omega), q6 _ _ (by omega)]
        obtain ⟨y1, y2, y3, y4, y5, y6⟩ := h4 b hb
        refine ⟨y1, y2, y3, y4, y5, fun i hi => ?_⟩
        rw [q6 _ _ (by omega), q6 _ _ (by omega), q6 _ _ (by omega)]
        exact y6 i hi
    · obtain ⟨h1, h2, h3, h4⟩ := pmx'
      refine ⟨h1, h2, fun l hl => ?_, fun b hb => ?_⟩
      · have hl' : l < pL P + 1 := hl
        by_cases y : l = pL P
        · subst y
          simp only [pLa0]
          exact lm'
        · simp only [pLan P r l _ y]
          exact h3 l (by omega)
      · simp only [pLa5]
        exact h4 b hb
    · rw [x7' _ _ (by omega), x7' _ _ (by omega), x7' _ _ (by omega), x7' _ _ (by omega)]
      exact c
    · refine ⟨⟨w.1.1, w.1.2.1, hL, w.1.2.2.2⟩, w.2.1, w.2.2.1, fun l hl => ?_, fun b hb => ?_⟩
      · have hl' : l < pL P + 1 := hl
        by_cases y : l = pL P
        · subst y
          simp only [pLa0]
          exact lw
        · simp only [pLan P r l _ y]
          exact w.2.2.2.1 l (by omega)
      · have y := w.2.2.2.2 b hb
        simp only [pLa5]
        refine ⟨Nat.le_succ_of_le y.1, y.2.1, y.2.2.1, y.2.2.2.1, y.2.2.2.2.1, fun i hi => ⟨(y.2.2.2.2.2 i hi).1, (y.2.2.2.2.2 i hi).2.1, (y.2.2.2.2.2 i hi).2.2.1, (y.2.2.2.2.2 i hi).2.2.2.1, fun z => ?_, (y.2.2.2.2.2 i hi).2.2.2.2.2⟩⟩
        obtain ⟨z1, z2⟩ := (y.2.2.2.2.2 i hi).2.2.2.2.1 z
        rw [pLan P r _ _ (by omega)]
        exact ⟨Nat.lt_succ_of_lt z1, z2⟩
  · right
    refine ⟨μc', μm', ?_, x2, x3, gc.trans (pQ6 x4), gm.trans (pU3 x5)⟩
    obtain ⟨f, pl, g1, g2, g3, g4, g5⟩ := x3
    rw [C, x1, Option.bind_some, g4, if_neg (by decide)]
/-! at a fault -/
theorem cf_94 {μ : xMu} (h : μ 126 2 = 1) : f5_readLayer_j94 μ = some μ := by
  unfold f5_readLayer_j94
  rw [cf_sgn h, Option.bind_some, h, if_neg (by decide)]
theorem cf_nb {μ : xMu} {r : Nat} (h : μ 126 2 = 1) : f5_readNeedsAndBars r μ = some μ := by
  unfold f5_readNeedsAndBars f5_readNeedsAndBars_l2
  rw [if_neg (by decide), h, if_neg (by decide)]
theorem cf_84 {μ : xMu} {r : Nat} {v : Int32} (h : μ 126 2 = 1) : f5_readLayer_j84 r v μ = some μ := by
  unfold f5_readLayer_j84
  rw [cf_nb h, Option.bind_some, cf_94 h, ite_self]
theorem mf_184 {μ : xMu} {k : xMu → Option xMu} {v1 : Int32} {f g : Nat} (h : μ 162 33 = nI g) (h1 : 1 ≤ g) (h3 : g ≤ 3) : f12_readLayer_l184 k (f + 1) v1 μ = k μ := by
  unfold f12_readLayer_l184
  rw [h, if_neg (ne33 h1 h3)]
theorem m305 (μ : xMu) : f12_readLayer_j305 μ = some (x_wr μ 162 37 (μ 162 37 + 1)) := rfl
/-- needs and bars -/
theorem nbR {P : xP} {β : Nat → Nat} {n : Nat} (w : Pwf P) (hL : pL P < 8) (k1 : xMu → Option xMu) (k2 : xMu → Option xMu) : ∀ (m k a e i f f' : Nat) (r : Nat → Nat) (μc μm : xMu), n - a ≤ m → m < f → m < f' → i ≤ a → KT β n k a e μc μm → NF μc μm → μc 16 7 = nI (pL P) → μm 162 37 = nI (pL P) → LC (pL P) r μc → LM (pL P) r μm → Lwf (pL P) r → r 0 = 2 →
    (∃ r' k' a' e' μc' μm', f5_readNeedsAndBars_l2 k1 f (22 + pL P) (nI i) μc = k1 μc' ∧ f12_readLayer_l184 k2 f' (nI (pL P)) μm = k2 μm' ∧ KT β n k' a' e' μc' μm' ∧ NF μc' μm' ∧ LC (pL P) r' μc' ∧ LM (pL P) r' μm' ∧ Lwf (pL P) r' ∧ a ≤ a' ∧ gs (fun a b => p26 a b || a == 22 + pL P) μc μc' ∧ gs (fun a b => p33 a b || (decide (169 ≤ a ∧ a ≤ 175) && b == pL P)) μm μm') ∨
    (∃ μc' μm', f5_readNeedsAndBars_l2 k1 f (22 + pL P) (nI i) μc = k1 μc' ∧ f12_readLayer_l184 k2 f' (nI (pL P)) μm = k2 μm' ∧ FX μc' μm' ∧ gs (fun a b => p26 a b || a == 22 + pL P) μc μc' ∧ gs (fun a b => p33 a b || (decide (169 ≤ a ∧ a ≤ 175) && b == pL P)) μm μm') := by
  intro m
  induction m with
  | zero =>
    intro k a e i f f' r μc μm hm hf hf' hi kt nf c7 m7 lc lm lw r2
    obtain ⟨f, rfl⟩ : ∃ z, f = z + 1 := ⟨f - 1, by omega⟩
    obtain ⟨f', rfl⟩ : ∃ z, f' = z + 1 := ⟨f' - 1, by omega⟩
    left
    have k4 : k = 4 := by
      rcases Nat.lt_or_ge k 4 with y | y
      · have h1 := kt.2.2.2.2.1 (by omega)
        have h2 := kt.2.1
        omega
      · have h2 := kt.2.1
        omega
    subst k4
    refine ⟨r, 4, a, e, μc, μm, ?_, ?_, kt, nf, lc, lm, lw, Nat.le_refl a, gs.refl, gs.refl⟩
    · unfold f5_readNeedsAndBars_l2
      rw [nf.1, if_pos rfl, kt.an (N := nNee) (by decide) (by decide) (by decide), Option.bind_some, if_neg (show ¬ (4 = 1 ∧ tx β a e = nNee) by omega), if_pos rfl, kt.an (N := nBar) (by decide) (by decide) (by decide), Option.bind_some, if_neg (show ¬ (4 = 1 ∧ tx β a e = nBar) by omega), if_pos rfl, ite_self]
    · unfold f12_readLayer_l184
      have qN : (lg_cmp (lN (wN 4 (tx β a e))) (1852138852 : Int64) = 0) = (4 = 1 ∧ tx β a e = nNee) := wis nNee (by decide +kernel) kt.let (by decide) (by decide) (by decide)
      have qB : (lg_cmp (lN (wN 4 (tx β a e))) (6447474 : Int64) = 0) = (4 = 1 ∧ tx β a e = nBar) := wis nBar (by decide +kernel) kt.let (by decide) (by decide) (by decide)
      rw [nf.2, if_pos rfl, a_ald hL (by decide), lm.1, r2, if_pos (show nI 2 = 2 from rfl), kt.wd, Option.bind_some, if_neg (fun y => absurd (qN.mp y).1 (by decide)), Option.bind_some, if_neg (fun y => absurd (qB.mp y).1 (by decide))]
  | succ m ih =>
    intro k a e i f f' r μc μm hm hf hf' hi kt nf c7 m7 lc lm lw r2
    obtain ⟨f, rfl⟩ : ∃ z, f = z + 1 := ⟨f - 1, by omega⟩
    obtain ⟨f', rfl⟩ : ∃ z, f' = z + 1 := ⟨f' - 1, by omega⟩
    have qN : (lg_cmp (lN (wN k (tx β a e))) (1852138852 : Int64) = 0) = (k = 1 ∧ tx β a e = nNee) := wis nNee (by decide +kernel) kt.let (by decide) (by decide) (by decide)
    have qB : (lg_cmp (lN (wN k (tx β a e))) (6447474 : Int64) = 0) = (k = 1 ∧ tx β a e = nBar) := wis nBar (by decide +kernel) kt.let (by decide) (by decide) (by decide)
    have aN := kt.an (c := 913) (N := nNee) (by decide) (by decide) (by decide)
    have aB := kt.an (c := 914) (N := nBar) (by decide) (by decide) (by decide)
    by_cases z : k = 1 ∧ (tx β a e = nNee ∨ tx β a e = nBar)
    · obtain ⟨rfl, z⟩ := z
      have a6 : a < 600 := by
        have h1 := kt.2.2.2.2.1 (by decide)
        have h2 := kt.2.1
        have := kt.1.1.1
        omega
      obtain ⟨k1', a1, e1, μc1, μm1, x1, x2, x3, x4, x5, x6⟩ := j_nx kt (by decide)
      have nf1 := nf.nx x5 x6
      have c71 : μc1 16 7 = nI (pL P) := by rw [x5 16 7 (decide_eq_false (by omega))]; exact c7
      have m71 : μm1 162 37 = nI (pL P) := by rw [x6 162 37 (decide_eq_false (by omega))]; exact m7
      have lc1 : LC (pL P) r μc1 := lc.of (fun j => x5 _ _ (decide_eq_false (by omega)))
      have lm1 : LM (pL P) r μm1 := lm.of (fun a _ _ => x6 _ _ (decide_eq_false (by omega)))
      have chk : x_isb (22 + pL P) 3 = true := (r_layer (pL P) hL).2
      have g1 : gs (fun a b => p26 a b || a == 22 + pL P) μc μc1 := (p26o x5).mono (fun a b q => by rw [q]; rfl)
      have h1 : gs (fun a b => p33 a b || (decide (169 ≤ a ∧ a ≤ 175) && b == pL P)) μm μm1 := (p33o x6).mono (fun a b q => by rw [q]; rfl)
      have num := j_num (m := pL P) (vm := nI (pL P) - 1) x3 nf1 (by omega) (cnt1 (by omega))
      have g0' : ¬ (600 : Int32) ≤ nI i := nI_ge (b := 600) (by omega) (by decide)
      by_cases zz : tx β a e = nNee
      · have C : f5_readNeedsAndBars_l2 k1 (f + 1) (22 + pL P) (nI i) μc = ((f5_takeNumber (nI (pL P)) μc1).bind fun q9 => (x_put q9.2 (22 + pL P) 2 (nI (r 2) ||| ((1 : Int32) <<< (q9.1 &&& 31))) fun μ10 => (f5_readNeedsAndBars_l2 k1 f (22 + pL P) (nI (i + 1)) μ10))) := by
          conv => lhs; unfold f5_readNeedsAndBars_l2
          unfold f5_readNeedsAndBars_j101
          rw [if_neg g0', nf.1, if_pos rfl, show f10_atName μc 913 = some 1 by rw [aN, if_pos ⟨rfl, zz⟩], Option.bind_some, if_neg (show ¬ (1 : Int32) = 0 by decide), x1, Option.bind_some, a_chk chk, c71, lc1.2.2.1, nI_1]
        have D : f12_readLayer_l184 k2 (f' + 1) (nI (pL P)) μm = ((f12_numberTo (nI (pL P) - 1) μm1).bind fun q14 => (if (q14.2 162 33) = 0 then (x_ald q14.2 174 8 (nI (pL P)) fun x15 => (f12_readLayer_j280 (f12_readLayer_l184 k2 f') (nI (pL P)) 1 q14.1 (nI (pL P)) x15 ((1 : Int32) <<< (q14.1 &&& 31)) q14.2)) else f12_readLayer_l184 k2 f' (nI (pL P)) q14.2)) := by
          conv => lhs; unfold f12_readLayer_l184
          unfold f12_readLayer_j223 f12_readLayer_j239 f12_readLayer_j302
          rw [nf.2, if_pos rfl, a_ald hL (by decide), lm.1, r2, if_pos (show nI 2 = 2 from rfl), kt.wd, Option.bind_some, if_pos (qN.mpr ⟨rfl, zz⟩), Option.bind_some, if_pos (qN.mpr ⟨rfl, zz⟩), x2, Option.bind_some, m71]
          rfl
        rcases num with ⟨v, k3, a3, e3, μc3, μm3, v1, v2, v3, v4, v5, v6, v7, v8⟩ | ⟨v, μc3, μm3, v2, v3, v4, v5, v6, v7⟩
        · have v8' : v < 8 := by omega
          have lc3 : LC (pL P) r μc3 := lc1.of (fun j => v7 _ _ (decide_eq_false (by omega)))
          have lm3 : LM (pL P) r μm3 := lm1.of (fun a _ _ => v8 _ _ (decide_eq_false (by omega)))
          rw [v2, Option.bind_some, a_put] at C
          rw [v3, Option.bind_some] at D
          dsimp only at C D
          unfold f12_readLayer_j280 f12_readLayer_j300 f12_readLayer_j302 at D
          rw [b_sh v v8', b_or] at C
          rw [if_pos v5.2, a_ald hL (by decide), lm3.2.2.1, b_sh v v8', b_or, a_ast hL (by decide), a_ald hL (by decide), x_wr_rd (by decide), lm3.2.2.2.1, if_neg (by decide), show (0 : Int32) = nI 0 from rfl, b_or, Nat.or_zero, a_ast hL (by decide)] at D
          let r' : Nat → Nat := fun j => if j = 2 then r 2 ||| 2 ^ v else r j
          have lc4 : LC (pL P) r' (x_wr μc3 (22 + pL P) 2 (nI (r 2 ||| 2 ^ v))) := by
            obtain ⟨y0, y1, y2, y3, y4, y5⟩ := lc3
            refine ⟨?_, ?_, ?_, ?_, ?_, fun q => ⟨?_, ?_, ?_⟩⟩
            · rw [w_wr, if_neg (by omega)]; exact y0
            · rw [w_wr, if_neg (by omega)]; exact y1
            · rw [w_wr, if_pos ⟨rfl, rfl⟩]; rfl
            · rw [w_wr, if_neg (by omega)]; exact y3
            · rw [w_wr, if_neg (by omega)]; exact y4
            · rw [w_wr, if_neg (by omega)]; exact (y5 q).1
            · rw [w_wr, if_neg (by omega)]; exact (y5 q).2.1
            · rw [w_wr, if_neg (by omega)]; exact (y5 q).2.2
          have lm4 : LM (pL P) r' (x_wr (x_wr μm3 174 (pL P) (nI (r 2 ||| 2 ^ v))) 175 (pL P) (nI (r 3))) := by
            obtain ⟨y0, y1, y2, y3, y4, y5⟩ := lm3
            refine ⟨y0, y1, ?_, ?_, y4, y5⟩
            · rw [x_wr_rd (by decide), w_wr, if_pos ⟨rfl, rfl⟩]; rfl
            · rw [w_wr, if_pos ⟨rfl, rfl⟩]; rfl
          have lw4 : Lwf (pL P) r' := by
            obtain ⟨y0, y1, y2, y3, y4, y5⟩ := lw
            exact ⟨y0, y1, Nat.or_lt_two_pow y2 (Nat.pow_lt_pow_right (by decide) v1), y3, fun q => absurd r2 q, y5⟩
          have kt4 : KT β n k3 a3 e3 (x_wr μc3 (22 + pL P) 2 (nI (r 2 ||| 2 ^ v))) (x_wr (x_wr μm3 174 (pL P) (nI (r 2 ||| 2 ^ v))) 175 (pL P) (nI (r 3))) := v4.of (fun a b q => x_wr_rd (by omega)) (fun a b q => by rw [x_wr_rd (by omega), x_wr_rd (by omega)])
          have nf4 : NF (x_wr μc3 (22 + pL P) 2 (nI (r 2 ||| 2 ^ v))) (x_wr (x_wr μm3 174 (pL P) (nI (r 2 ||| 2 ^ v))) 175 (pL P) (nI (r 3))) := ⟨by rw [x_wr_rd (by omega)]; exact v5.1, v5.2⟩
          have g4 : gs (fun a b => p26 a b || a == 22 + pL P) μc (x_wr μc3 (22 + pL P) 2 (nI (r 2 ||| 2 ^ v))) := (g1.trans (v7.mono (fun a b q => by rw [q]; rfl))).wr (by simp)
          have h4 : gs (fun a b => p33 a b || (decide (169 ≤ a ∧ a ≤ 175) && b == pL P)) μm (x_wr (x_wr μm3 174 (pL P) (nI (r 2 ||| 2 ^ v))) 175 (pL P) (nI (r 3))) := ((h1.trans (v8.mono (fun a b q => by rw [q]; rfl))).wr (by simp)).wr (by simp)
          have c74 : (x_wr μc3 (22 + pL P) 2 (nI (r 2 ||| 2 ^ v))) 16 7 = nI (pL P) := by rw [x_wr_rd (by omega), v7 16 7 (decide_eq_false (by omega))]; exact c71
          have m74 : (x_wr (x_wr μm3 174 (pL P) (nI (r 2 ||| 2 ^ v))) 175 (pL P) (nI (r 3))) 162 37 = nI (pL P) := by rw [x_wr_rd (by decide), x_wr_rd (by decide), v8 162 37 (decide_eq_false (by omega))]; exact m71
          rcases ih k3 a3 e3 (i + 1) f f' r' _ _ (by omega) (by omega) (by omega) (by omega) kt4 nf4 c74 m74 lc4 lm4 lw4 r2 with ⟨r'', k5, a5, e5, μc5, μm5, s1, s2, s3, s4, s5, s6, s7, s8, s9, s10⟩ | ⟨μc5, μm5, s1, s2, s3, s9, s10⟩
          · exact Or.inl ⟨r'', k5, a5, e5, μc5, μm5, C.trans s1, D.trans s2, s3, s4, s5, s6, s7, by omega, g4.trans s9, h4.trans s10⟩
          · exact Or.inr ⟨μc5, μm5, C.trans s1, D.trans s2, s3, g4.trans s9, h4.trans s10⟩
        · right
          obtain ⟨g, pl, y1, y2, y3, y4, y5, y6, y7, y8⟩ := v4
          rw [v2, Option.bind_some, a_put] at C
          rw [v3, Option.bind_some] at D
          dsimp only at C D
          rw [if_neg (show ¬ μm3 162 33 = 0 by rw [y7]; exact ne33 y1 y2)] at D
          obtain ⟨f, rfl⟩ : ∃ z, f = z + 1 := ⟨f - 1, by omega⟩
          obtain ⟨f', rfl⟩ : ∃ z, f' = z + 1 := ⟨f' - 1, by omega⟩
          rw [mf_184 y7 y1 y2] at D
          refine ⟨x_wr μc3 (22 + pL P) 2 (nI (r 2) ||| ((1 : Int32) <<< (0 &&& 31))), μm3, C.trans ?_, D, ⟨g, pl, y1, y2, y3, ?_, ?_, ?_, y7, y8⟩, (g1.trans (v6.mono (fun a b q => by rw [q]; rfl))).wr (by simp), h1.trans (v7.mono (fun a b q => by rw [q]; rfl))⟩
          · have y4' : (x_wr μc3 (22 + pL P) 2 (nI (r 2) ||| ((1 : Int32) <<< (0 &&& 31)))) 126 2 = 1 := by rw [x_wr_rd (by omega)]; exact y4
            unfold f5_readNeedsAndBars_l2
            rw [y4', if_neg (show ¬ (1 : Int32) = 0 by decide), ite_self]
          · rw [x_wr_rd (by omega)]; exact y4
          · rw [x_wr_rd (by omega)]; exact y5
          · rw [x_wr_rd (by omega)]; exact y6
      · have zb : tx β a e = nBar := z.resolve_left zz
        have C : f5_readNeedsAndBars_l2 k1 (f + 1) (22 + pL P) (nI i) μc = ((f5_takeNumber (nI (pL P)) μc1).bind fun q5 => (x_put q5.2 (22 + pL P) 3 (nI (r 3) ||| ((1 : Int32) <<< (q5.1 &&& 31))) fun μ6 => (f5_readNeedsAndBars_l2 k1 f (22 + pL P) (nI (i + 1)) μ6))) := by
          conv => lhs; unfold f5_readNeedsAndBars_l2
          unfold f5_readNeedsAndBars_j101
          rw [if_neg g0', nf.1, if_pos rfl, show f10_atName μc 913 = some 0 by rw [aN, if_neg (fun q => zz q.2)], Option.bind_some, if_pos rfl, show f10_atName μc 914 = some 1 by rw [aB, if_pos ⟨rfl, zb⟩], Option.bind_some, if_neg (show ¬ (1 : Int32) = 0 by decide), x1, Option.bind_some, a_chk chk, c71, lc1.2.2.2.1, nI_1]
        have D : f12_readLayer_l184 k2 (f' + 1) (nI (pL P)) μm = ((f12_numberTo (nI (pL P) - 1) μm1).bind fun q14 => (if (q14.2 162 33) = 0 then (x_ald q14.2 174 8 (nI (pL P)) fun x15 => (f12_readLayer_j280 (f12_readLayer_l184 k2 f') (nI (pL P)) 0 q14.1 (nI (pL P)) x15 (0 : Int32) q14.2)) else f12_readLayer_l184 k2 f' (nI (pL P)) q14.2)) := by
          conv => lhs; unfold f12_readLayer_l184
          unfold f12_readLayer_j223 f12_readLayer_j239 f12_readLayer_j302
          rw [nf.2, if_pos rfl, a_ald hL (by decide), lm.1, r2, if_pos (show nI 2 = 2 from rfl), kt.wd, Option.bind_some, if_neg (fun y => zz (qN.mp y).2), Option.bind_some, if_pos (qB.mpr ⟨rfl, zb⟩), Option.bind_some, if_neg (fun y => zz (qN.mp y).2), x2, Option.bind_some, m71]
          rfl
        rcases num with ⟨v, k3, a3, e3, μc3, μm3, v1, v2, v3, v4, v5, v6, v7, v8⟩ | ⟨v, μc3, μm3, v2, v3, v4, v5, v6, v7⟩
        · have v8' : v < 8 := by omega
          have lc3 : LC (pL P) r μc3 := lc1.of (fun j => v7 _ _ (decide_eq_false (by omega)))
          have lm3 : LM (pL P) r μm3 := lm1.of (fun a _ _ => v8 _ _ (decide_eq_false (by omega)))
          rw [v2, Option.bind_some, a_put] at C
          rw [v3, Option.bind_some] at D
          dsimp only at C D
          unfold f12_readLayer_j280 f12_readLayer_j300 f12_readLayer_j302 at D
          rw [b_sh v v8', b_or] at C
          rw [if_pos v5.2, a_ald hL (by decide), lm3.2.2.1, show nI (r 2) ||| (0 : Int32) = nI (r 2) from by rw [show (0 : Int32) = nI 0 from rfl, b_or, Nat.or_zero], a_ast hL (by decide), a_ald hL (by decide), x_wr_rd (by decide), lm3.2.2.2.1, if_pos rfl, b_sh v v8', b_or, a_ast hL (by decide)] at D
          let r' : Nat → Nat := fun j => if j = 3 then r 3 ||| 2 ^ v else r j
          have lc4 : LC (pL P) r' (x_wr μc3 (22 + pL P) 3 (nI (r 3 ||| 2 ^ v))) := by
            obtain ⟨y0, y1, y2, y3, y4, y5⟩ := lc3
            refine ⟨?_, ?_, ?_, ?_, ?_, fun q => ⟨?_, ?_, ?_⟩⟩
            · rw [w_wr, if_neg (by omega)]; exact y0
            · rw [w_wr, if_neg (by omega)]; exact y1
            · rw [w_wr, if_neg (by omega)]; exact y2
            · rw [w_wr, if_pos ⟨rfl, rfl⟩]; rfl
            · rw [w_wr, if_neg (by omega)]; exact y4
            · rw [w_wr, if_neg (by omega)]; exact (y5 q).1
            · rw [w_wr, if_neg (by omega)]; exact (y5 q).2.1
            · rw [w_wr, if_neg (by omega)]; exact (y5 q).2.2
          have lm4 : LM (pL P) r' (x_wr (x_wr μm3 174 (pL P) (nI (r 2))) 175 (pL P) (nI (r 3 ||| 2 ^ v))) := by
            obtain ⟨y0, y1, y2, y3, y4, y5⟩ := lm3
            refine ⟨y0, y1, ?_, ?_, y4, y5⟩
            · rw [x_wr_rd (by decide), w_wr, if_pos ⟨rfl, rfl⟩]; rfl
            · rw [w_wr, if_pos ⟨rfl, rfl⟩]; rfl
          have lw4 : Lwf (pL P) r' := by
            obtain ⟨y0, y1, y2, y3, y4, y5⟩ := lw
            exact ⟨y0, y1, y2, Nat.or_lt_two_pow y3 (Nat.pow_lt_pow_right (by decide) v1), y4, y5⟩
          have kt4 : KT β n k3 a3 e3 (x_wr μc3 (22 + pL P) 3 (nI (r 3 ||| 2 ^ v))) (x_wr (x_wr μm3 174 (pL P) (nI (r 2))) 175 (pL P) (nI (r 3 ||| 2 ^ v))) := v4.of (fun a b q => x_wr_rd (by omega)) (fun a b q => by rw [x_wr_rd (by omega), x_wr_rd (by omega)])
          have nf4 : NF (x_wr μc3 (22 + pL P) 3 (nI (r 3 ||| 2 ^ v))) (x_wr (x_wr μm3 174 (pL P) (nI (r 2))) 175 (pL P) (nI (r 3 ||| 2 ^ v))) := ⟨by rw [x_wr_rd (by omega)]; exact v5.1, v5.2⟩
          have g4 : gs (fun a b => p26 a b || a == 22 + pL P) μc (x_wr μc3 (22 + pL P) 3 (nI (r 3 ||| 2 ^ v))) := (g1.trans (v7.mono (fun a b q => by rw [q]; rfl))).wr (by simp)
          have h4 : gs (fun a b => p33 a b || (decide (169 ≤ a ∧ a ≤ 175) && b == pL P)) μm (x_wr (x_wr μm3 174 (pL P) (nI (r 2))) 175 (pL P) (nI (r 3 ||| 2 ^ v))) := ((h1.trans (v8.mono (fun a b q => by rw [q]; rfl))).wr (by simp)).wr (by simp)
          have c74 : (x_wr μc3 (22 + pL P) 3 (nI (r 3 ||| 2 ^ v))) 16 7 = nI (pL P) := by rw [x_wr_rd (by omega), v7 16 7 (decide_eq_false (by omega))]; exact c71
          have m74 : (x_wr (x_wr μm3 174 (pL P) (nI (r 2))) 175 (pL P) (nI (r 3 ||| 2 ^ v))) 162 37 = nI (pL P) := by rw [x_wr_rd (by decide), x_wr_rd (by decide), v8 162 37 (decide_eq_false (by omega))]; exact m71
          rcases ih k3 a3 e3 (i + 1) f f' r' _ _ (by omega) (by omega) (by omega) (by omega) kt4 nf4 c74 m74 lc4 lm4 lw4 r2 with ⟨r'', k5, a5, e5, μc5, μm5, s1, s2, s3, s4, s5, s6, s7, s8, s9, s10⟩ | ⟨μc5, μm5, s1, s2, s3, s9, s10⟩
          · exact Or.inl ⟨r'', k5, a5, e5, μc5, μm5, C.trans s1, D.trans s2, s3, s4, s5, s6, s7, by omega, g4.trans s9, h4.trans s10⟩
          · exact Or.inr ⟨μc5, μm5, C.trans s1, D.trans s2, s3, g4.trans s9, h4.trans s10⟩
        · right
          obtain ⟨g, pl, y1, y2, y3, y4, y5, y6, y7, y8⟩ := v4
          rw [v2, Option.bind_some, a_put] at C
          rw [v3, Option.bind_some] at D
          dsimp only at C D
          rw [if_neg (show ¬ μm3 162 33 = 0 by rw [y7]; exact ne33 y1 y2)] at D
          obtain ⟨f, rfl⟩ : ∃ z, f = z + 1 := ⟨f - 1, by omega⟩
          obtain ⟨f', rfl⟩ : ∃ z, f' = z + 1 := ⟨f' - 1, by omega⟩
          rw [mf_184 y7 y1 y2] at D
          refine ⟨x_wr μc3 (22 + pL P) 3 (nI (r 3) ||| ((1 : Int32) <<< (0 &&& 31))), μm3, C.trans ?_, D, ⟨g, pl, y1, y2, y3, ?_, ?_, ?_, y7, y8⟩, (g1.trans (v6.mono (fun a b q => by rw [q]; rfl))).wr (by simp), h1.trans (v7.mono (fun a b q => by rw [q]; rfl))⟩
          · have y4' : (x_wr μc3 (22 + pL P) 3 (nI (r 3) ||| ((1 : Int32) <<< (0 &&& 31)))) 126 2 = 1 := by rw [x_wr_rd (by omega)]; exact y4
            unfold f5_readNeedsAndBars_l2
            rw [y4', if_neg (show ¬ (1 : Int32) = 0 by decide), ite_self]
          · rw [x_wr_rd (by omega)]; exact y4
          · rw [x_wr_rd (by omega)]; exact y5
          · rw [x_wr_rd (by omega)]; exact y6
    · left
      have zn : ¬ (k = 1 ∧ tx β a e = nNee) := fun q => z ⟨q.1, Or.inl q.2⟩
      have zb : ¬ (k = 1 ∧ tx β a e = nBar) := fun q => z ⟨q.1, Or.inr q.2⟩
      refine ⟨r, k, a, e, μc, μm, ?_, ?_, kt, nf, lc, lm, lw, Nat.le_refl a, gs.refl, gs.refl⟩
      · unfold f5_readNeedsAndBars_l2
        rw [nf.1, if_pos rfl, aN, Option.bind_some, if_neg zn, if_pos rfl, aB, Option.bind_some, if_neg zb, if_pos rfl, ite_self]
      · unfold f12_readLayer_l184
        rw [nf.2, if_pos rfl, a_ald hL (by decide), lm.1, r2, if_pos (show nI 2 = 2 from rfl), kt.wd, Option.bind_some, if_neg (fun y => zn (qN.mp y)), Option.bind_some, if_neg (fun y => zb (qB.mp y))]
