/-! PURE: read: things -/
def pThing (P : xP) (q v : Nat) : xP := fun x y z => if x = 0 ∧ y = 1 then pT P + 1 else if x = 2 ∧ y = pT P then (if z = 0 then q else v) else P x y z
theorem pTh0 (P : xP) (q v : Nat) : pThing P q v 2 (pT P) 0 = q ∧ pThing P q v 2 (pT P) 1 = v := by
  refine ⟨?_, ?_⟩
  · unfold pThing
    rw [if_neg (by omega), if_pos ⟨rfl, rfl⟩]
    rfl
  · unfold pThing
    rw [if_neg (by omega), if_pos ⟨rfl, rfl⟩]
    rfl
theorem pThn (P : xP) (q v t z : Nat) (h : t ≠ pT P) : pThing P q v 2 t z = P 2 t z := by
  unfold pThing
  rw [if_neg (by omega), if_neg (fun y => h y.2)]
theorem tEnd {P : xP} {β : Nat → Nat} {n k a e q v a0 : Nat} {μ0 ω0 μc μm : xMu} (w : Pwf P) (hT : pT P < 8) (hq : q < pK P) (hv : v < 100) (h : KT β n k a e μc μm) (nf : NF μc μm) (pc : PC P μc) (pmx : PMx P μm) (c : μm 162 35 = nI (pK P) ∧ μm 162 36 = nI (pT P + 1) ∧ μm 162 37 = nI (pL P) ∧ μm 162 38 = nI (pB P)) (e7 : μm 167 (pT P) = nI q) (e8 : μm 168 (pT P) = nI v) (ha : a0 < a) (gc : gs (pQ (pK P) (pT P) (pL P) (pB P)) μ0 μc) (gm : gs (pU (pK P) (pT P) (pL P) (pB P)) ω0 μm) :
    RT P β n a0 μ0 ω0 ((f5_takeSign 59 μc).bind fun μ4 => (if (μ4 126 2) = 0 then ((f4_addThing (nI q) (nI v) μ4).bind fun μ5 => (some μ5)) else (some μ4))) (fun K f => f12_read_j275 (f12_read_l64 K f) μm) := by
  rcases j_end h nf with ⟨k', a', e', μc', μm', x1, x2, x3, x4, x5, x6, x7⟩ | ⟨μc', μm', x1, x2, x3, x4, x5⟩
  · left
    have g2 : gs (pQ (pK P) (pT P) (pL P) (pB P)) μc μc' := pQ6 x6
    have pc' := PCq w pc g2 (fun j _ _ => x6 16 j (decide_eq_false (by omega)))
    have pmx' := PMq w pmx (pU3 x7)
    have x7' : ∀ a b, ¬ (a = 162 ∧ (29 ≤ b ∧ b ≤ 34)) → μm' a b = μm a b := fun a b q => x7 a b (decide_eq_false q)
    refine ⟨pThing P q v, k', a', e', x_wr (x_wr (x_wr μc' 18 (pT P) (nI q)) 19 (pT P) (nI v)) 16 6 (nI (pT P + 1)), μm', ?_, x2, ⟨x3.of (fun a b z => ?_) (fun _ _ _ => rfl), x4, ?_, ?_, ?_, ?_⟩, by omega, ⟨Nat.le_refl _, Nat.le_succ _, Nat.le_refl _, Nat.le_refl _⟩, (((gc.trans g2).wr (pQy (by omega))).wr (pQy (by omega))).wr (pQy (by omega)), gm.trans (pU3 x7)⟩
    · rw [x1, Option.bind_some, x4.1, if_pos rfl]
      unfold f4_addThing
      rw [pc'.1.2.1, a_ast hT (by decide), show (x_wr μc' 18 (pT P) (nI q)) 16 6 = nI (pT P) from pc'.1.2.1, a_ast hT (by decide), a_put, show (x_wr (x_wr μc' 18 (pT P) (nI q)) 19 (pT P) (nI v)) 16 6 = nI (pT P) from pc'.1.2.1, nI_1]
      rfl
    · rw [w_wr, if_neg (by omega), w_wr, if_neg (by omega), w_wr, if_neg (by omega)]
    · obtain ⟨⟨c1, c2, c3, c4⟩, h1, h2, h3, h4⟩ := pc'
      have r : ∀ a b, a ≠ 18 → a ≠ 19 → a ≠ 16 → (x_wr (x_wr (x_wr μc' 18 (pT P) (nI q)) 19 (pT P) (nI v)) 16 6 (nI (pT P + 1))) a b = μc' a b := fun a b p q r => by rw [x_wr_rd r, x_wr_rd q, x_wr_rd p]
      have e5 : ∀ i y z, pThing P q v (5 + i) y z = P (5 + i) y z := fun i y z => by unfold pThing; rw [if_neg (by omega), if_neg (by omega)]
      refine ⟨⟨c1, rfl, c3, c4⟩, h1, fun t ht => ?_, fun l hl => ?_, fun b hb => ?_⟩
      · have ht' : t < pT P + 1 := ht
        have m8 : (x_wr (x_wr (x_wr μc' 18 (pT P) (nI q)) 19 (pT P) (nI v)) 16 6 (nI (pT P + 1))) 18 t = if t = pT P then nI q else μc' 18 t := by
          rw [x_wr_rd (by decide), x_wr_rd (by decide), w_wr]
          by_cases y : t = pT P
          · rw [if_pos ⟨rfl, y⟩, if_pos y]
          · rw [if_neg (fun z => y z.2), if_neg y]
        have m9 : (x_wr (x_wr (x_wr μc' 18 (pT P) (nI q)) 19 (pT P) (nI v)) 16 6 (nI (pT P + 1))) 19 t = if t = pT P then nI v else μc' 19 t := by
          rw [x_wr_rd (by decide), w_wr]
          by_cases y : t = pT P
          · rw [if_pos ⟨rfl, y⟩, if_pos y]
          · rw [if_neg (fun z => y z.2), if_neg y, x_wr_rd (by decide)]
        rw [m8, m9]
        by_cases y : t = pT P
        · rw [if_pos y, if_pos y, y, (pTh0 P q v).1, (pTh0 P q v).2]
          exact ⟨rfl, rfl⟩
        · rw [if_neg y, if_neg y, pThn P q v t 0 y, pThn P q v t 1 y]
          exact h2 t (by omega)
      · have hl8 := w.1.2.2.1
        have hl' : l < pL P := hl
        rw [r _ _ (by omega) (by omega) (by omega), r _ _ (by omega) (by omega) (by omega), r _ _ (by omega) (by omega) (by omega), r _ _ (by omega) (by omega) (by omega), r _ _ (by omega) (by omega) (by omega), r _ _ (by omega) (by omega) (by omega), r _ _ (by omega) (by omega) (by omega), r _ _ (by omega) (by omega) (by omega)]
        exact h3 l hl
      · simp only [e5]
        rw [r _ _ (by omega) (by omega) (by omega), r _ _ (by omega) (by omega) (by omega), r _ _ (by omega) (by omega) (by omega), r _ _ (by omega) (by omega) (by omega), r _ _ (by omega) (by omega) (by omega)]
        obtain ⟨y1, y2, y3, y4, y5, y6⟩ := h4 b hb
        refine ⟨y1, y2, y3, y4, y5, fun i hi => ?_⟩
        rw [r _ _ (by omega) (by omega) (by omega), r _ _ (by omega) (by omega) (by omega), r _ _ (by omega) (by omega) (by omega)]
        exact y6 i hi
    · obtain ⟨h1, h2, h3, h4⟩ := pmx'
      have e5 : ∀ i y z, pThing P q v (5 + i) y z = P (5 + i) y z := fun i y z => by unfold pThing; rw [if_neg (by omega), if_neg (by omega)]
      refine ⟨h1, fun t ht => ?_, h3, fun b hb => ?_⟩
      · have ht' : t < pT P + 1 := ht
        by_cases y : t = pT P
        · rw [y, (pTh0 P q v).1, (pTh0 P q v).2, x7' _ _ (by omega), x7' _ _ (by omega)]
          exact ⟨e7, e8⟩
        · rw [pThn P q v t 0 y, pThn P q v t 1 y]
          exact h2 t (by omega)
      · simp only [e5]
        exact h4 b hb
    · rw [x7' _ _ (by omega), x7' _ _ (by omega), x7' _ _ (by omega), x7' _ _ (by omega)]
      exact c
    · have e5 : ∀ i y z, pThing P q v (5 + i) y z = P (5 + i) y z := fun i y z => by unfold pThing; rw [if_neg (by omega), if_neg (by omega)]
      refine ⟨⟨w.1.1, hT, w.1.2.2⟩, w.2.1, fun t ht => ?_, w.2.2.2.1, fun b hb => ?_⟩
      · have ht' : t < pT P + 1 := ht
        by_cases y : t = pT P
        · rw [y, (pTh0 P q v).1, (pTh0 P q v).2]
          exact ⟨hq, hv⟩
        · rw [pThn P q v t 0 y, pThn P q v t 1 y]
          exact w.2.2.1 t (by omega)
      · have y := w.2.2.2.2 b hb
        simp only [e5]
        exact ⟨y.1, y.2.1, y.2.2.1, y.2.2.2.1, y.2.2.2.2.1, fun i hi => ⟨(y.2.2.2.2.2 i hi).1, (y.2.2.2.2.2 i hi).2.1, (y.2.2.2.2.2 i hi).2.2.1, fun z => Nat.lt_succ_of_lt ((y.2.2.2.2.2 i hi).2.2.2.1 z), (y.2.2.2.2.2 i hi).2.2.2.2⟩⟩
  · right
    refine ⟨μc', μm', ?_, x2, x3, gc.trans (pQ6 x4), gm.trans (pU3 x5)⟩
    obtain ⟨f, pl, g1, g2, g3, g4, g5⟩ := x3
    rw [x1, Option.bind_some, g4, if_neg (by decide)]
theorem thingR {P : xP} {β : Nat → Nat} {n a e : Nat} {μc μm : xMu} (J : Jok P β n 1 a e μc μm) (hT : tx β a e = [116, 104, 105, 110, 103]) : RT P β n a μc μm (f5_readThing μc) (fun K f => f12_read_l64 K (f + 1) μm) := by
  obtain ⟨kt, nf, pc, pmx, ⟨c5, c6, c7, c8⟩, w⟩ := J
  obtain ⟨t1, t2, t3, t4⟩ := wTel kt.let
  have q1 : ¬ lg_cmp (lN (wN 1 (tx β a e))) cKin = 0 := by rw [t1, hT]; decide
  have q2 : lg_cmp (lN (wN 1 (tx β a e))) cThi = 0 := by rw [t2]; exact ⟨rfl, hT⟩
  have q3 : ¬ lg_cmp (lN (wN 1 (tx β a e))) cLay = 0 := by rw [t3, hT]; decide
  have q4 : ¬ lg_cmp (lN (wN 1 (tx β a e))) cBod = 0 := by rw [t4, hT]; decide
  have w8 := w.1.2.1
  have wK := w.1.1
  by_cases full : pT P = 8
  · right
    obtain ⟨μc', μm', x1, x2, x3, x4, x5, x6⟩ := j_bad (f := 3) kt nf (by decide) (by decide)
    refine ⟨μc', μm', ?_, fun K f => ?_, x3, pQ6 x5, pU3 x6⟩
    · obtain ⟨f, pl, g1, g2, g3, g4, g5⟩ := x3
      unfold f5_readThing f5_takeFirstWord
      rw [pc.1.2.1, full, if_neg (by decide), show f5_refuse 3 μc = _ from x1, Option.bind_some, Option.bind_some, cf_num g4, Option.bind_some]
      dsimp only
      rw [cf_num g4, Option.bind_some]
      dsimp only
      rw [cf_sgn g4, Option.bind_some, g4, if_neg (by decide)]
    · obtain ⟨g, pl, g1, g2, g3, g4, g5, g6, g7, g8⟩ := x3
      show f12_read_l64 K (f + 1 + 1) μm = K μm'
      conv => lhs; unfold f12_read_l64
      unfold f12_read_j101
      rw [nf.2, if_pos rfl, if_neg (n30 kt (by decide)), kt.wd, Option.bind_some, if_neg (show ¬ lg_cmp (lN (wN 1 (tx β a e))) 1802071652 = 0 from q1), if_pos (show lg_cmp (lN (wN 1 (tx β a e))) 499967946343 = 0 from q2), c6, full, if_pos (show nI 8 = 8 from rfl)]
      exact rf_152 x2 g7 g1 g2
  · have hK : pT P < 8 := by omega
    obtain ⟨k1, a1, e1, μc1, μm1, x1, x2, x3, x4, x5, x6⟩ := j_nx kt (by decide)
    have nf1 := nf.nx x5 x6
    have gc1 : gs (pQ (pK P) (pT P) (pL P) (pB P)) μc μc1 := pQ6 (p26o x5)
    have gm1 : gs (pU (pK P) (pT P) (pL P) (pB P)) μm μm1 := pU3 (p33o x6)
    have pc1 := PCq w pc gc1 (fun j _ _ => x5 16 j (decide_eq_false (by omega)))
    have x6' : ∀ b, ¬ (29 ≤ b ∧ b ≤ 32) → μm1 162 b = μm 162 b := fun b q => x6 162 b (decide_eq_false (by omega))
    have Rm : ∀ K f, f12_read_l64 K (f + 1) μm = (f12_readThing μm1).bind fun μ18 => f12_read_j275 (f12_read_l64 K f) μ18 := fun K f => u_thi nf.2 (n30 kt (by decide)) kt.wd q1 q2 q3 q4 (by rw [c6]; exact nI_ne (b := 8) (by omega) (by decide) full) x2 nf1.2
    have C : f5_readThing μc = ((f5_takeNumber (nI (pK P)) μc1).bind fun q2 => ((f5_takeNumber (100 : Int32) q2.2).bind fun q3 => ((f5_takeSign (59 : Int32) q3.2).bind fun μ4 => (if (μ4 126 2) = 0 then ((f4_addThing q2.1 q3.1 μ4).bind fun μ5 => (some μ5)) else (some μ4))))) := by
      unfold f5_readThing f5_takeFirstWord
      rw [pc.1.2.1, if_pos (show nI (pT P) < 8 from nI_lt (b := 8) hK (by decide)), x1, Option.bind_some, Option.bind_some, pc1.1.1]
    have D : f12_readThing μm1 = ((f12_numberTo (nI (pK P) - 1) μm1).bind fun q1 => (x_ast q1.2 167 8 (nI (pT P)) q1.1 fun μ2 => ((f12_numberTo (99 : Int32) μ2).bind fun q3 => (x_ast q3.2 168 8 (μ2 162 36) q3.1 fun μ4 => (x_put μ4 162 36 ((μ4 162 36) + (1 : Int32)) fun μ5 => (some μ5)))))) := by
      unfold f12_readThing
      rw [x6' 35 (by omega), c5, x6' 36 (by omega), c6]
    rcases j_num (m := pK P) x3 nf1 (by omega) (cnt1 (by omega)) with ⟨v, k3, a3, e3, μc3, μm3, v1, v2, v3, v4, v5, v6, v7, v8⟩ | ⟨v, μc3, μm3, v2, v3, v4, v5, v6, v7⟩
    · rw [v2, Option.bind_some] at C
      rw [v3, Option.bind_some, a_ast hK (by decide)] at D
      dsimp only at C D
      have v8' : ∀ b, ¬ (29 ≤ b ∧ b ≤ 34) → μm3 162 b = μm 162 b := fun b q => (v8 162 b (decide_eq_false (by omega))).trans (x6' b (by omega))
      rw [x_wr_rd (by decide), v8' 36 (by omega), c6] at D
      have ktw : KT β n k3 a3 e3 μc3 (x_wr μm3 167 (pT P) (nI v)) := v4.of (fun _ _ _ => rfl) (fun a b z => x_wr_rd (by omega))
      have nfw : NF μc3 (x_wr μm3 167 (pT P) (nI v)) := ⟨v5.1, by rw [x_wr_rd (by decide)]; exact v5.2⟩
      have gc3 := gc1.trans (pQ6 v7)
      have gmw : gs (pU (pK P) (pT P) (pL P) (pB P)) μm (x_wr μm3 167 (pT P) (nI v)) := (gm1.trans (pU3 v8)).wr (pUy (by omega))
      have pc3 := PCq w pc1 (pQ6 v7) (fun j _ _ => v7 16 j (decide_eq_false (by omega)))
      rcases j_num (m := 100) (vm := 99) ktw nfw (by decide) (by decide) with ⟨u, k4, a4, e4, μc4, μm4, y1, y2, y3, y4, y5, y6, y7, y8⟩ | ⟨u, μc4, μm4, y2, y3, y4, y5, y6, y7⟩
      · rw [show f5_takeNumber 100 μc3 = _ from y2, Option.bind_some] at C
        rw [y3, Option.bind_some, a_ast hK (by decide), a_put] at D
        dsimp only at C D
        have y8' : ∀ b, ¬ (29 ≤ b ∧ b ≤ 34) → μm4 162 b = μm 162 b := fun b q => (y8 162 b (decide_eq_false (by omega))).trans ((x_wr_rd (by decide)).trans (v8' b q))
        rw [x_wr_rd (by decide), y8' 36 (by omega), c6, nI_1] at D
        have gm5 : gs (pU (pK P) (pT P) (pL P) (pB P)) μm (x_wr (x_wr μm4 168 (pT P) (nI u)) 162 36 (nI (pT P + 1))) := ((gmw.trans (pU3 y8)).wr (pUy (by omega))).wr (pUy (by omega))
        have kt5 : KT β n k4 a4 e4 μc4 (x_wr (x_wr μm4 168 (pT P) (nI u)) 162 36 (nI (pT P + 1))) := y4.of (fun _ _ _ => rfl) (fun a b z => by rw [w_wr, if_neg (by omega), x_wr_rd (by omega)])
        have nf5 : NF μc4 (x_wr (x_wr μm4 168 (pT P) (nI u)) 162 36 (nI (pT P + 1))) := ⟨y5.1, by rw [w_wr, if_neg (by decide), x_wr_rd (by decide)]; exact y5.2⟩
        have E := tEnd (q := v) (v := u) (a0 := a) w hK v1 y1 kt5 nf5 (PCq w pc3 (pQ6 y7) (fun j _ _ => y7 16 j (decide_eq_false (by omega)))) (PMq w pmx gm5) ⟨by rw [w_wr, if_neg (by decide), x_wr_rd (by decide), y8' 35 (by omega)]; exact c5, rfl, by rw [w_wr, if_neg (by decide), x_wr_rd (by decide), y8' 37 (by omega)]; exact c7, by rw [w_wr, if_neg (by decide), x_wr_rd (by decide), y8' 38 (by omega)]; exact c8⟩ (by rw [x_wr_rd (by decide), x_wr_rd (by decide), y8 167 _ (decide_eq_false (by omega)), w_wr, if_pos ⟨rfl, rfl⟩]) (by rw [x_wr_rd (by decide), w_wr, if_pos ⟨rfl, rfl⟩]) (by omega) (gc3.trans (pQ6 y7)) gm5
        rw [C]
        simp only [Rm, D, Option.bind_some]
        exact E
      · right
        obtain ⟨g, pl, g1, g2, g3, g4, g5, g6, g7, g8⟩ := y4
        rw [show f5_takeNumber 100 μc3 = _ from y2, Option.bind_some] at C
        dsimp only at C
        rw [cf_sgn g4, Option.bind_some, g4, if_neg (by decide)] at C
        rw [y3, Option.bind_some, a_ast hK (by decide), a_put] at D
        dsimp only at D
        refine ⟨μc4, x_wr (x_wr μm4 168 (pT P) u) 162 36 ((x_wr μm4 168 (pT P) u) 162 36 + 1), C, fun K f => ?_, ⟨g, pl, g1, g2, g3, g4, g5, g6, ?_, ?_⟩, gc3.trans (pQ6 y6), ((gmw.trans (pU3 y7)).wr (pUy (by omega))).wr (pUy (by omega))⟩
        · refine (Rm K (f + 1)).trans ?_
          rw [D, Option.bind_some]
          exact rf_275 (by rw [w_wr, if_neg (by decide), x_wr_rd (by decide)]; exact g7) g1 g2
        · rw [w_wr, if_neg (by decide), x_wr_rd (by decide)]; exact g7
        · rw [w_wr, if_neg (by decide), x_wr_rd (by decide)]; exact g8
    · right
      obtain ⟨g, pl, g1, g2, g3, g4, g5, g6, g7, g8⟩ := v4
      rw [v2, Option.bind_some] at C
      dsimp only at C
      rw [cf_num g4, Option.bind_some] at C
      dsimp only at C
      rw [cf_sgn g4, Option.bind_some, g4, if_neg (by decide)] at C
      have v7' : ∀ b, ¬ (29 ≤ b ∧ b ≤ 34) → μm3 162 b = μm 162 b := fun b q => (v7 162 b (decide_eq_false (by omega))).trans (x6' b (by omega))
      rw [v3, Option.bind_some, a_ast hK (by decide)] at D
      dsimp only at D
      rw [mf_num (show (x_wr μm3 167 (pT P) v) 162 33 = nI g by rw [x_wr_rd (by decide)]; exact g7) g1 g2, Option.bind_some, x_wr_rd (by decide), v7' 36 (by omega), c6] at D
      dsimp only at D
      rw [a_ast hK (by decide), a_put] at D
      refine ⟨μc3, x_wr (x_wr (x_wr μm3 167 (pT P) v) 168 (pT P) 0) 162 36 ((x_wr (x_wr μm3 167 (pT P) v) 168 (pT P) 0) 162 36 + 1), C, fun K f => ?_, ⟨g, pl, g1, g2, g3, g4, g5, g6, ?_, ?_⟩, gc1.trans (pQ6 v6), (((gm1.trans (pU3 v7)).wr (pUy (by omega))).wr (pUy (by omega))).wr (pUy (by omega))⟩
      · refine (Rm K (f + 1)).trans ?_
        rw [D, Option.bind_some]
        exact rf_275 (by rw [w_wr, if_neg (by decide), x_wr_rd (by decide), x_wr_rd (by decide)]; exact g7) g1 g2
      · rw [w_wr, if_neg (by decide), x_wr_rd (by decide), x_wr_rd (by decide)]; exact g7
      · rw [w_wr, if_neg (by decide), x_wr_rd (by decide), x_wr_rd (by decide)]; exact g8
