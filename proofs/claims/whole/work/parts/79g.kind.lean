/-! PURE: read: kinds -/
theorem wis {k : Nat} {T : List Nat} {c : Int64} (N : List Nat) (hc : c = lN (pkN N)) (hT : k = 1 → ∀ b ∈ T, 97 ≤ b ∧ b ≤ 122) (hN : N.length < 8) (hN0 : N ≠ []) (hNb : ∀ b ∈ N, 0 < b ∧ b < 256) : (lg_cmp (lN (wN k T)) c = 0) = (k = 1 ∧ T = N) := by
  rw [hc]
  exact w_is hT hN hN0 hNb
theorem wTel {k : Nat} {T : List Nat} (hT : k = 1 → ∀ b ∈ T, 97 ≤ b ∧ b ≤ 122) : (lg_cmp (lN (wN k T)) cKin = 0) = (k = 1 ∧ T = [107, 105, 110, 100]) ∧ (lg_cmp (lN (wN k T)) cThi = 0) = (k = 1 ∧ T = [116, 104, 105, 110, 103]) ∧ (lg_cmp (lN (wN k T)) cLay = 0) = (k = 1 ∧ T = [108, 97, 121, 101, 114]) ∧ (lg_cmp (lN (wN k T)) cBod = 0) = (k = 1 ∧ T = [98, 111, 100, 121]) :=
  ⟨wis [107, 105, 110, 100] (by decide +kernel) hT (by decide) (by decide) (by decide), wis [116, 104, 105, 110, 103] (by decide +kernel) hT (by decide) (by decide) (by decide), wis [108, 97, 121, 101, 114] (by decide +kernel) hT (by decide) (by decide) (by decide), wis [98, 111, 100, 121] (by decide +kernel) hT (by decide) (by decide) (by decide)⟩
theorem KT.let {β : Nat → Nat} {n k a e : Nat} {μc μm : xMu} (h : KT β n k a e μc μm) : k = 1 → ∀ b ∈ tx β a e, 97 ≤ b ∧ b ≤ 122 := by
  intro hk b hb
  obtain ⟨i, i1, i2, rfl⟩ := tx_mem hb
  exact h.2.2.2.2.2.1 hk i i1 i2
theorem KT.wd {β : Nat → Nat} {n k a e : Nat} {μc μm : xMu} (h : KT β n k a e μc μm) : f12_word μm = some (lN (wN k (tx β a e))) := u_wd h.1.2 h.2.1.1 h.2.2.2.1.1 h.2.2.2.1.2.1 h.2.2.2.1.2.2.1 h.2.1.2.1 h.2.1.2.2
theorem KT.an {β : Nat → Nat} {n k a e c : Nat} {N : List Nat} {μc μm : xMu} (h : KT β n k a e μc μm) (hL : x_slen c = some (nI N.length)) (hL2 : N.length < 100) (ch : ∀ i, i < N.length → x_schar c (nI (0 + i)) = some (nI (N.getD i 0)) ∧ N.getD i 0 < 256) : f10_atName μc c = some (if k = 1 ∧ tx β a e = N then 1 else 0) := t_an h.1.1 h.2.1.1 h.2.2.1.1 h.2.2.1.2.1 h.2.2.1.2.2 h.2.1.2.1 h.2.1.2.2 hL hL2 ch
theorem n30 {β : Nat → Nat} {n k a e : Nat} {μc μm : xMu} (h : KT β n k a e μc μm) (hk : k ≠ 4) : ¬ μm 162 30 = 1 := by
  rw [h.2.2.2.1.1, mk1 h.2.1.1]
  exact hk
theorem cnt1 {m : Nat} (h : m < 1000) : (nI m - 1).toInt = (m : Int) - 1 := pk_sub_toInt (b := 1) (by omega) (by decide)
def pKind (P : xP) (u : Nat) : xP := fun x y z => if x = 0 ∧ y = 0 then pK P + 1 else if x = 1 ∧ y = pK P then u else P x y z
theorem kEnd {P : xP} {β : Nat → Nat} {n k a e u a0 : Nat} {vC : Int32} {μ0 ω0 μc μm : xMu} (w : Pwf P) (hK : pK P < 8) (hu : u ≤ pK P) (hvC : vC = cN (-1) u) (h : KT β n k a e μc μm) (nf : NF μc μm) (pc : PC P μc) (pmx : PMx P μm) (c : μm 162 35 = nI (pK P + 1) ∧ μm 162 36 = nI (pT P) ∧ μm 162 37 = nI (pL P) ∧ μm 162 38 = nI (pB P)) (e6 : μm 166 (pK P) = cN (-1000000) u) (ha : a0 < a) (gc : gs (pQ (pK P) (pT P) (pL P) (pB P)) μ0 μc) (gm : gs (pU (pK P) (pT P) (pL P) (pB P)) ω0 μm) :
    RT P β n a0 μ0 ω0 (f5_readKind_j53 vC μc) (fun K f => f12_read_j275 (f12_read_l64 K f) μm) := by
  have C : f5_readKind_j53 vC μc = (f5_takeSign 59 μc).bind fun μ2 => (if (μ2 126 2) = 0 then ((f4_addKind vC μ2).bind fun μ3 => (some μ3)) else (some μ2)) := rfl
  rcases j_end h nf with ⟨k', a', e', μc', μm', x1, x2, x3, x4, x5, x6, x7⟩ | ⟨μc', μm', x1, x2, x3, x4, x5⟩
  · left
    have g2 : gs (pQ (pK P) (pT P) (pL P) (pB P)) μc μc' := pQ6 x6
    have pc' := PCq w pc g2 (fun j _ _ => x6 16 j (decide_eq_false (by omega)))
    have pmx' := PMq w pmx (pU3 x7)
    have x7' : ∀ a b, ¬ (a = 162 ∧ (29 ≤ b ∧ b ≤ 34)) → μm' a b = μm a b := fun a b q => x7 a b (decide_eq_false q)
    refine ⟨pKind P u, k', a', e', x_wr (x_wr μc' 17 (pK P) vC) 16 5 (nI (pK P + 1)), μm', ?_, x2, ⟨x3.of (fun a b z => ?_) (fun _ _ _ => rfl), x4, ?_, ?_, ?_, ?_⟩, by omega, ⟨Nat.le_succ _, Nat.le_refl _, Nat.le_refl _, Nat.le_refl _⟩, ((gc.trans g2).wr (pQy (by omega))).wr (pQy (by omega)), gm.trans (pU3 x7)⟩
    · rw [C, x1, Option.bind_some, x4.1, if_pos rfl]
      unfold f4_addKind
      rw [pc'.1.1, a_ast hK (by decide), a_put, show (x_wr μc' 17 (pK P) vC) 16 5 = nI (pK P) from pc'.1.1, nI_1]
      rfl
    · rw [w_wr, if_neg (by omega), w_wr, if_neg (by omega)]
    · obtain ⟨⟨c1, c2, c3, c4⟩, h1, h2, h3, h4⟩ := pc'
      have r : ∀ a b, a ≠ 17 → a ≠ 16 → (x_wr (x_wr μc' 17 (pK P) vC) 16 5 (nI (pK P + 1))) a b = μc' a b := fun a b p q => by rw [x_wr_rd q, x_wr_rd p]
      have e5 : ∀ i y z, pKind P u (5 + i) y z = P (5 + i) y z := fun i y z => by unfold pKind; rw [if_neg (by omega), if_neg (by omega)]
      refine ⟨⟨rfl, c2, c3, c4⟩, fun k hk => ?_, fun t ht => ?_, fun l hl => ?_, fun b hb => ?_⟩
      · have hk' : k < pK P + 1 := hk
        rw [x_wr_rd (by decide), w_wr]
        by_cases q : k = pK P
        · rw [if_pos ⟨rfl, q⟩, hvC]
          unfold pKind
          rw [if_neg (by omega), if_pos ⟨rfl, q⟩]
        · rw [if_neg (fun z => q z.2), h1 k (by omega)]
          unfold pKind
          rw [if_neg (by omega), if_neg (fun z => q z.2)]
      · exact h2 t ht
      · have hl8 := w.1.2.2.1
        have hl' : l < pL P := hl
        rw [r _ _ (by omega) (by omega), r _ _ (by omega) (by omega), r _ _ (by omega) (by omega), r _ _ (by omega) (by omega), r _ _ (by omega) (by omega), r _ _ (by omega) (by omega), r _ _ (by omega) (by omega), r _ _ (by omega) (by omega)]
        exact h3 l hl
      · simp only [e5]
        rw [r _ _ (by omega) (by omega), r _ _ (by omega) (by omega), r _ _ (by omega) (by omega), r _ _ (by omega) (by omega), r _ _ (by omega) (by omega)]
        obtain ⟨y1, y2, y3, y4, y5, y6⟩ := h4 b hb
        refine ⟨y1, y2, y3, y4, y5, fun i hi => ?_⟩
        rw [r _ _ (by omega) (by omega), r _ _ (by omega) (by omega), r _ _ (by omega) (by omega)]
        exact y6 i hi
    · obtain ⟨h1, h2, h3, h4⟩ := pmx'
      have e5 : ∀ i y z, pKind P u (5 + i) y z = P (5 + i) y z := fun i y z => by unfold pKind; rw [if_neg (by omega), if_neg (by omega)]
      refine ⟨fun k hk => ?_, h2, h3, fun b hb => ?_⟩
      · have hk' : k < pK P + 1 := hk
        by_cases q : k = pK P
        · rw [q, x7' _ _ (by omega), e6]
          unfold pKind
          rw [if_neg (by omega), if_pos ⟨rfl, rfl⟩]
        · rw [h1 k (by omega)]
          unfold pKind
          rw [if_neg (by omega), if_neg (fun z => q z.2)]
      · simp only [e5]
        exact h4 b hb
    · rw [x7' _ _ (by omega), x7' _ _ (by omega), x7' _ _ (by omega), x7' _ _ (by omega)]
      exact c
    · have e5 : ∀ i y z, pKind P u (5 + i) y z = P (5 + i) y z := fun i y z => by unfold pKind; rw [if_neg (by omega), if_neg (by omega)]
      refine ⟨⟨hK, w.1.2⟩, fun k hk => ?_, fun t ht => ⟨Nat.lt_succ_of_lt (w.2.2.1 t ht).1, (w.2.2.1 t ht).2⟩, w.2.2.2.1, fun b hb => ?_⟩
      · have hk' : k < pK P + 1 := hk
        by_cases q : k = pK P
        · unfold pKind
          rw [if_neg (by omega), if_pos ⟨rfl, q⟩, q]
          exact hu
        · unfold pKind
          rw [if_neg (by omega), if_neg (fun z => q z.2)]
          exact w.2.1 k (by omega)
      · have q := w.2.2.2.2 b hb
        simp only [e5]
        exact ⟨q.1, Nat.lt_succ_of_lt q.2.1, q.2.2⟩
  · right
    refine ⟨μc', μm', ?_, x2, x3, gc.trans (pQ6 x4), gm.trans (pU3 x5)⟩
    obtain ⟨f, pl, g1, g2, g3, g4, g5⟩ := x3
    rw [C, x1, Option.bind_some, g4, if_neg (by decide)]
theorem kindR {P : xP} {β : Nat → Nat} {n a e : Nat} {μc μm : xMu} (J : Jok P β n 1 a e μc μm) (hT : tx β a e = [107, 105, 110, 100]) : RT P β n a μc μm (f5_readKind μc) (fun K f => f12_read_l64 K (f + 1) μm) := by
  obtain ⟨kt, nf, pc, pmx, ⟨c5, c6, c7, c8⟩, w⟩ := J
  obtain ⟨t1, t2, t3, t4⟩ := wTel kt.let
  have q1 : lg_cmp (lN (wN 1 (tx β a e))) cKin = 0 := by rw [t1]; exact ⟨rfl, hT⟩
  have q2 : ¬ lg_cmp (lN (wN 1 (tx β a e))) cThi = 0 := by rw [t2, hT]; decide
  have q3 : ¬ lg_cmp (lN (wN 1 (tx β a e))) cLay = 0 := by rw [t3, hT]; decide
  have q4 : ¬ lg_cmp (lN (wN 1 (tx β a e))) cBod = 0 := by rw [t4, hT]; decide
  have w8 := w.1.1
  by_cases full : pK P = 8
  · right
    obtain ⟨μc', μm', x1, x2, x3, x4, x5, x6⟩ := j_bad (f := 3) kt nf (by decide) (by decide)
    refine ⟨μc', μm', ?_, fun K f => ?_, x3, pQ6 x5, pU3 x6⟩
    · obtain ⟨f, pl, g1, g2, g3, g4, g5⟩ := x3
      unfold f5_readKind f5_takeFirstWord f5_readKind_j53
      rw [pc.1.1, full, if_neg (by decide), show f5_refuse 3 μc = _ from x1, Option.bind_some, Option.bind_some, g4, if_neg (by decide), cf_sgn g4, Option.bind_some, g4, if_neg (by decide)]
    · obtain ⟨g, pl, g1, g2, g3, g4, g5, g6, g7, g8⟩ := x3
      show f12_read_l64 K (f + 1 + 1) μm = K μm'
      conv => lhs; unfold f12_read_l64
      rw [nf.2, if_pos rfl, if_neg (n30 kt (by decide)), kt.wd, Option.bind_some, if_pos (show lg_cmp (lN (wN 1 (tx β a e))) 1802071652 = 0 from q1), c5, full, if_pos (show nI 8 = 8 from rfl)]
      exact rf_152 x2 g7 g1 g2
  · have hK : pK P < 8 := by omega
    obtain ⟨k1, a1, e1, μc1, μm1, x1, x2, x3, x4, x5, x6⟩ := j_nx kt (by decide)
    have nf1 := nf.nx x5 x6
    have gc1 : gs (pQ (pK P) (pT P) (pL P) (pB P)) μc μc1 := pQ6 (p26o x5)
    have gm1 : gs (pU (pK P) (pT P) (pL P) (pB P)) μm μm1 := pU3 (p33o x6)
    have pc1 := PCq w pc gc1 (fun j _ _ => x5 16 j (decide_eq_false (by omega)))
    have pmx1 := PMq w pmx gm1
    have x6' : ∀ b, ¬ (29 ≤ b ∧ b ≤ 32) → μm1 162 b = μm 162 b := fun b q => x6 162 b (decide_eq_false (by omega))
    have Rm : ∀ K f, f12_read_l64 K (f + 1) μm = (f12_readKind μm1).bind fun μ18 => f12_read_j275 (f12_read_l64 K f) μ18 := fun K f => u_kin nf.2 (n30 kt (by decide)) kt.wd q1 q2 q3 q4 (by rw [c5]; exact nI_ne (b := 8) (by omega) (by decide) full) x2 nf1.2
    have C : f5_readKind μc = (if k1 = 1 ∧ tx β a1 e1 = nUnd then ((f10_nextToken μc1).bind fun μ5 => ((f5_takeNumber (μ5 16 5) μ5).bind fun q6 => (f5_readKind_j53 q6.1 q6.2))) else f5_readKind_j53 (-1) μc1) := by
      unfold f5_readKind f5_takeFirstWord
      rw [pc.1.1, if_pos (show nI (pK P) < 8 from nI_lt (b := 8) hK (by decide)), x1, Option.bind_some, Option.bind_some, nf1.1, if_pos rfl, x3.an (N := nUnd) (by decide) (by decide) (by decide), Option.bind_some]
      by_cases z : k1 = 1 ∧ tx β a1 e1 = nUnd
      · rw [if_pos z, if_pos z, if_neg (by decide)]
      · rw [if_neg z, if_neg z, if_pos rfl]
    have ktw : KT β n k1 a1 e1 μc1 (x_wr μm1 166 (pK P) (-1000000)) := x3.of (fun _ _ _ => rfl) (fun a b z => x_wr_rd (by omega))
    have qU : (lg_cmp (lN (wN k1 (tx β a1 e1))) (504363246962 : Int64) = 0) = (k1 = 1 ∧ tx β a1 e1 = nUnd) := wis nUnd (by decide +kernel) x3.let (by decide) (by decide) (by decide)
    have D : f12_readKind μm1 = (if k1 = 1 ∧ tx β a1 e1 = nUnd then ((f12_step (x_wr μm1 166 (pK P) (-1000000))).bind fun μ4 => ((f12_numberTo ((μ4 162 35) - (1 : Int32)) μ4).bind fun q5 => (x_ast q5.2 166 8 (μ4 162 35) q5.1 fun μ6 => (f12_readKind_j45 μ6)))) else f12_readKind_j45 (x_wr μm1 166 (pK P) (-1000000))) := by
      unfold f12_readKind
      rw [x6' 35 (by omega), c5, a_ast hK (by decide), ktw.wd, Option.bind_some]
      by_cases z : k1 = 1 ∧ tx β a1 e1 = nUnd
      · rw [if_pos z, if_pos (qU.mpr z)]
      · rw [if_neg z, if_neg (fun y => z (qU.mp y))]
    have gmw : gs (pU (pK P) (pT P) (pL P) (pB P)) μm (x_wr μm1 166 (pK P) (-1000000)) := gm1.wr (pUy (by omega))
    by_cases z : k1 = 1 ∧ tx β a1 e1 = nUnd
    · rw [if_pos z] at C D
      obtain ⟨k2, a2, e2, μc2, μm2, y1, y2, y3, y4, y5, y6⟩ := j_nx ktw (by omega)
      have nfw : NF μc1 (x_wr μm1 166 (pK P) (-1000000)) := nf1
      have nf2 := nfw.nx y5 y6
      have gc2 := gc1.trans (pQ6 (p26o y5))
      have gm2 := gmw.trans (pU3 (p33o y6))
      have pc2 := PCq w pc1 (pQ6 (p26o y5)) (fun j _ _ => y5 16 j (decide_eq_false (by omega)))
      have y6' : ∀ b, ¬ (29 ≤ b ∧ b ≤ 32) → μm2 162 b = μm 162 b := fun b q => (y6 162 b (decide_eq_false (by omega))).trans (x6' b q)
      rw [y1, Option.bind_some, pc2.1.1] at C
      rw [y2, Option.bind_some, y6' 35 (by omega), c5] at D
      rcases j_num (m := pK P) y3 nf2 (by omega) (cnt1 (by omega)) with ⟨v, k3, a3, e3, μc3, μm3, v1, v2, v3, v4, v5, v6, v7, v8⟩ | ⟨v, μc3, μm3, v2, v3, v4, v5, v6, v7⟩
      · rw [v2, Option.bind_some] at C
        rw [v3, Option.bind_some, a_ast hK (by decide)] at D
        unfold f12_readKind_j45 at D
        dsimp only at C D
        have v8' : ∀ b, ¬ (29 ≤ b ∧ b ≤ 34) → μm3 162 b = μm 162 b := fun b q => (v8 162 b (decide_eq_false (by omega))).trans (y6' b (by omega))
        rw [a_put, x_wr_rd (by decide), v8' 35 (by omega), c5, nI_1] at D
        have gm4 : gs (pU (pK P) (pT P) (pL P) (pB P)) μm (x_wr (x_wr μm3 166 (pK P) (nI v)) 162 35 (nI (pK P + 1))) := ((gm2.trans (pU3 v8)).wr (pUy (by omega))).wr (pUy (by omega))
        have kt4 : KT β n k3 a3 e3 μc3 (x_wr (x_wr μm3 166 (pK P) (nI v)) 162 35 (nI (pK P + 1))) := v4.of (fun _ _ _ => rfl) (fun a b z => by rw [w_wr, if_neg (by omega), x_wr_rd (by omega)])
        have E := kEnd (u := v + 1) (vC := nI v) (a0 := a) w hK (by omega) rfl kt4 v5 (PCq w pc2 (pQ6 v7) (fun j _ _ => v7 16 j (decide_eq_false (by omega)))) (PMq w pmx gm4) ⟨rfl, by rw [w_wr, if_neg (by decide), x_wr_rd (by decide), v8' 36 (by omega)]; exact c6, by rw [w_wr, if_neg (by decide), x_wr_rd (by decide), v8' 37 (by omega)]; exact c7, by rw [w_wr, if_neg (by decide), x_wr_rd (by decide), v8' 38 (by omega)]; exact c8⟩ (by rw [x_wr_rd (by decide), w_wr, if_pos ⟨rfl, rfl⟩]; rfl) (by omega) (gc2.trans (pQ6 v7)) gm4
        rw [C]
        simp only [Rm, D, Option.bind_some]
        exact E
      · right
        obtain ⟨g, pl, g1, g2, g3, g4, g5, g6, g7, g8⟩ := v4
        rw [v2, Option.bind_some] at C
        unfold f5_readKind_j53 at C
        dsimp only at C
        rw [cf_sgn g4, Option.bind_some, g4, if_neg (by decide)] at C
        rw [v3, Option.bind_some, a_ast hK (by decide)] at D
        unfold f12_readKind_j45 at D
        dsimp only at D
        rw [a_put, x_wr_rd (by decide)] at D
        refine ⟨μc3, x_wr (x_wr μm3 166 (pK P) v) 162 35 (μm3 162 35 + 1), C, fun K f => ?_, ⟨g, pl, g1, g2, g3, g4, g5, g6, ?_, ?_⟩, gc2.trans (pQ6 v6), ((gm2.trans (pU3 v7)).wr (pUy (by omega))).wr (pUy (by omega))⟩
        · refine (Rm K (f + 1)).trans ?_
          rw [D, Option.bind_some]
          exact rf_275 (by rw [w_wr, if_neg (by decide), x_wr_rd (by decide)]; exact g7) g1 g2
        · rw [w_wr, if_neg (by decide), x_wr_rd (by decide)]; exact g7
        · rw [w_wr, if_neg (by decide), x_wr_rd (by decide)]; exact g8
    · rw [if_neg z] at C D
      unfold f12_readKind_j45 at D
      rw [a_put, x_wr_rd (by decide), x6' 35 (by omega), c5, nI_1] at D
      have gm4 : gs (pU (pK P) (pT P) (pL P) (pB P)) μm (x_wr (x_wr μm1 166 (pK P) (-1000000)) 162 35 (nI (pK P + 1))) := gmw.wr (pUy (by omega))
      have kt4 : KT β n k1 a1 e1 μc1 (x_wr (x_wr μm1 166 (pK P) (-1000000)) 162 35 (nI (pK P + 1))) := x3.of (fun _ _ _ => rfl) (fun a b z => by rw [w_wr, if_neg (by omega), x_wr_rd (by omega)])
      have E := kEnd (u := 0) (vC := -1) (a0 := a) w hK (by omega) rfl kt4 nf1 pc1 (PMq w pmx gm4) ⟨rfl, by rw [w_wr, if_neg (by decide), x_wr_rd (by decide), x6' 36 (by omega)]; exact c6, by rw [w_wr, if_neg (by decide), x_wr_rd (by decide), x6' 37 (by omega)]; exact c7, by rw [w_wr, if_neg (by decide), x_wr_rd (by decide), x6' 38 (by omega)]; exact c8⟩ (by rw [x_wr_rd (by decide), w_wr, if_pos ⟨rfl, rfl⟩]; rfl) (by omega) gc1 gm4
      rw [C]
      simp only [Rm, D, Option.bind_some]
      exact E
