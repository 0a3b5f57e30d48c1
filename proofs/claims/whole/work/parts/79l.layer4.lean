/-! PURE: read: all of a layer -/
def bgL (L : Nat) (s v : Int32) (μ : xMu) : xMu := x_wr (x_wr (x_wr (x_wr (x_wr μ (22 + L) 0 s) (22 + L) 1 v) (22 + L) 2 0) (22 + L) 3 0) (22 + L) 4 0
theorem bgE {L : Nat} {s v : Int32} {μ : xMu} (h : x_isb (22 + L) 3 = true) : f3_begin (22 + L) s v μ = some (bgL L s v μ) := by
  unfold f3_begin bgL
  rw [a_chk h, a_put, a_put, a_put, a_put, a_put]
theorem bgG {L : Nat} {s v : Int32} {μ : xMu} : gs (fun a _ => a == 22 + L) μ (bgL L s v μ) := ((((gs.refl.wr (by simp)).wr (by simp)).wr (by simp)).wr (by simp)).wr (by simp)
theorem bgC {L s v : Nat} {μ : xMu} : LC L (fun j => if j = 0 then s else if j = 1 then v else 0) (bgL L (nI s) (nI v) μ) := by
  unfold bgL
  refine ⟨?_, ?_, ?_, ?_, ?_, fun q => absurd q (by decide : ¬ (0 : Nat) = 1)⟩
  · rw [w_wr, if_neg (by omega), w_wr, if_neg (by omega), w_wr, if_neg (by omega), w_wr, if_neg (by omega), w_wr, if_pos ⟨rfl, rfl⟩]; rfl
  · rw [w_wr, if_neg (by omega), w_wr, if_neg (by omega), w_wr, if_neg (by omega), w_wr, if_pos ⟨rfl, rfl⟩]; rfl
  · rw [w_wr, if_neg (by omega), w_wr, if_neg (by omega), w_wr, if_pos ⟨rfl, rfl⟩]; rfl
  · rw [w_wr, if_neg (by omega), w_wr, if_pos ⟨rfl, rfl⟩]; rfl
  · rw [w_wr, if_pos ⟨rfl, rfl⟩]; rfl
def mbL (L : Nat) (v : Int32) (μ : xMu) : xMu := x_wr (x_wr (x_wr (x_wr μ 170 L v) 171 L (-1000000)) 174 L 0) 175 L 0
theorem mbG {K T L B : Nat} {v : Int32} {μ : xMu} : gs (pU K T L B) μ (mbL L v μ) := (((gs.refl.wr (pUy (by omega))).wr (pUy (by omega))).wr (pUy (by omega))).wr (pUy (by omega))
theorem mb1 {L : Nat} {v : Int32} {μ : xMu} {b : Nat} : (mbL L v μ) 162 b = μ 162 b := rfl
theorem layerR {P : xP} {β : Nat → Nat} {n a e : Nat} {μc μm : xMu} (J : Jok P β n 1 a e μc μm) (hT : tx β a e = [108, 97, 121, 101, 114]) : RT P β n a μc μm (f5_readLayer μc) (fun K f => f12_read_l64 K (f + 1) μm) := by
  obtain ⟨kt, nf, pc, pmx, ⟨c5, c6, c7, c8⟩, w⟩ := J
  obtain ⟨t1, t2, t3, t4⟩ := wTel kt.let
  have q1 : ¬ lg_cmp (lN (wN 1 (tx β a e))) cKin = 0 := by rw [t1, hT]; decide
  have q2 : ¬ lg_cmp (lN (wN 1 (tx β a e))) cThi = 0 := by rw [t2, hT]; decide
  have q3 : lg_cmp (lN (wN 1 (tx β a e))) cLay = 0 := by rw [t3]; exact ⟨rfl, hT⟩
  have q4 : ¬ lg_cmp (lN (wN 1 (tx β a e))) cBod = 0 := by rw [t4, hT]; decide
  have w8 := w.1.2.2.1
  by_cases full : pL P = 8
  · right
    obtain ⟨μc', μm', x1, x2, x3, x4, x5, x6⟩ := j_bad (f := 3) kt nf (by decide) (by decide)
    refine ⟨μc', μm', ?_, fun K f => ?_, x3, pQ6 x5, pU3 x6⟩
    · unfold f5_readLayer f5_takeFirstWord
      rw [pc.1.2.2.1, full, if_neg (by decide), show f5_refuse 3 μc = _ from x1, Option.bind_some, Option.bind_some, x3.c, if_neg (by decide)]
    · obtain ⟨g, g1, g2, g7⟩ := x3.m
      show f12_read_l64 K (f + 1 + 1) μm = K μm'
      conv => lhs; unfold f12_read_l64
      unfold f12_read_j101 f12_read_j118
      rw [nf.2, if_pos rfl, if_neg (n30 kt (by decide)), kt.wd, Option.bind_some, if_neg (show ¬ lg_cmp (lN (wN 1 (tx β a e))) 1802071652 = 0 from q1), if_neg (show ¬ lg_cmp (lN (wN 1 (tx β a e))) 499967946343 = 0 from q2), if_pos (show lg_cmp (lN (wN 1 (tx β a e))) 465491813746 = 0 from q3), c7, full, if_pos (show nI 8 = 8 from rfl)]
      exact rf_152 x2 g7 g1 g2
  · have hL : pL P < 8 := by omega
    have chk : x_isb (22 + pL P) 3 = true := (r_layer (pL P) hL).2
    obtain ⟨k1, a1, e1, μc1, μm1, x1, x2, x3, x4, x5, x6⟩ := j_nx kt (by decide)
    have nf1 := nf.nx x5 x6
    have gc1 : gs (pQ (pK P) (pT P) (pL P) (pB P)) μc μc1 := pQ6 (p26o x5)
    have gm1 : gs (pU (pK P) (pT P) (pL P) (pB P)) μm μm1 := pU3 (p33o x6)
    have pc1 := PCq w pc gc1 (fun j _ _ => x5 16 j (decide_eq_false (by omega)))
    have x6' : ∀ b, ¬ (29 ≤ b ∧ b ≤ 32) → μm1 162 b = μm 162 b := fun b q => x6 162 b (decide_eq_false (by omega))
    have Rm : ∀ K f, f12_read_l64 K (f + 1) μm = (f12_readLayer μm1).bind fun μ18 => f12_read_j275 (f12_read_l64 K f) μ18 := fun K f => u_lae nf.2 (n30 kt (by decide)) kt.wd q1 q2 q3 q4 (by rw [c7]; exact nI_ne (b := 8) (by omega) (by decide) full) x2 nf1.2
    have w4 : wix k1 (tx β a1 e1) nSor ≤ 4 := wix4
    have TW := t_tw x3 nf1.1 (c := 912) (L := 19) (by decide) (by decide) ly912 (by decide) (show wix k1 (tx β a1 e1) nSor ≤ 100 by omega)
    have C : f5_readLayer μc = ((f5_takeWord 912 μc1).bind fun q3 => ((f5_takeNumber (10 : Int32) q3.2).bind fun q4 => (x_chk (22 + pL P) 3 ((f3_begin (22 + pL P) q3.1 q4.1 q4.2).bind fun μ6 => (if q3.1 = (2 : Int32) then (if (μ6 126 2) = 0 then ((f10_atNumber μ6).bind fun x10 => (if x10 = 0 then (f5_readLayer_j84 (22 + pL P) q3.1 μ6) else ((f5_readTest (22 + pL P) μ6).bind fun μ11 => (f5_readLayer_j84 (22 + pL P) q3.1 μ11)))) else (f5_readLayer_j84 (22 + pL P) q3.1 μ6)) else (f5_readLayer_j84 (22 + pL P) q3.1 μ6)))))) := by
      unfold f5_readLayer f5_takeFirstWord
      rw [pc.1.2.2.1, if_pos (show nI (pL P) < 8 from nI_lt (b := 8) hL (by decide)), x1, Option.bind_some, Option.bind_some, nf1.1, if_pos rfl, pc1.1.2.2.1, a_rld hL (by decide) (r_layer (pL P) hL).1]
    let ν := x_wr μm1 169 (pL P) (cN (-1000000) (wix k1 (tx β a1 e1) nSor))
    have D : f12_readLayer μm1 = f12_readLayer_j32 (nI (pL P)) (if wix k1 (tx β a1 e1) nSor = 0 then 0 else 1) ν := by
      unfold f12_readLayer
      rw [u_sor x3, Option.bind_some, x6' 37 (by omega), c7, a_ast hL (by decide), a_ald hL (by decide), show (x_wr μm1 169 (pL P) (cN (-1000000) (wix k1 (tx β a1 e1) nSor))) 169 (pL P) = cN (-1000000) (wix k1 (tx β a1 e1) nSor) from by rw [w_wr, if_pos ⟨rfl, rfl⟩]]
      by_cases z : wix k1 (tx β a1 e1) nSor = 0
      · rw [if_pos ((cN_no (by omega)).mpr z), if_pos z]
      · rw [if_neg (fun y => z ((cN_no (by omega)).mp y)), if_neg z]
    have ktν : KT β n k1 a1 e1 μc1 ν := x3.of (fun _ _ _ => rfl) (fun a b q => x_wr_rd (by omega))
    have nfν : NF μc1 ν := ⟨nf1.1, by show (x_wr μm1 169 (pL P) _) 162 33 = 0; rw [x_wr_rd (by decide)]; exact nf1.2⟩
    have gmν : gs (pU (pK P) (pT P) (pL P) (pB P)) μm ν := gm1.wr (pUy (by omega))
    have ν62 : ∀ b, ¬ (29 ≤ b ∧ b ≤ 32) → ν 162 b = μm 162 b := fun b q => (x_wr_rd (by decide)).trans (x6' b q)
    -- the reference behind its first word, at a fault
    have mF : ∀ (ω : xMu) (g : Nat) (K : xMu → Option (Int32 × xMu)) (f : Nat), ω 162 33 = nI g → 1 ≤ g → g ≤ 3 → (((f12_numberTo (9 : Int32) ω).bind fun q5 => (x_ast q5.2 170 8 (nI (pL P)) q5.1 fun μ6 => (x_ast μ6 171 8 (nI (pL P)) (-1000000 : Int32) fun μ7 => (x_ast μ7 174 8 (nI (pL P)) (0 : Int32) fun μ8 => (x_ast μ8 175 8 (nI (pL P)) (0 : Int32) fun μ9 => (if (μ9 162 33) = 0 then (x_ald μ9 169 8 (nI (pL P)) fun x22 => (if x22 = (2 : Int32) then (if (μ9 162 30) = (3 : Int32) then ((f12_numberTo (3 : Int32) μ9).bind fun q25 => (x_ast q25.2 171 8 (nI (pL P)) q25.1 fun μ26 => (if (μ26 162 33) = 0 then ((f12_is μ26 (60 : Int32)).bind fun x30 => (if x30 = 0 then ((f12_is μ26 (62 : Int32)).bind fun x34 => (if x34 = 0 then ((f12_is μ26 (61 : Int32)).bind fun x35 => (if x35 = 0 then (f12_readLayer_j144 (nI (pL P)) (0 : Int32) μ26) else (f12_readLayer_j139 (nI (pL P)) μ26))) else (f12_readLayer_j139 (nI (pL P)) μ26))) else (f12_readLayer_j139 (nI (pL P)) μ26))) else (f12_readLayer_j172 (nI (pL P)) μ26)))) else (f12_readLayer_l184 (fun (μ24 : xMu) => (f12_readLayer_j305 μ24)) 1000 (nI (pL P)) μ9)) else (f12_readLayer_l184 (fun (μ23 : xMu) => (f12_readLayer_j305 μ23)) 1000 (nI (pL P)) μ9))) else (f12_readLayer_l184 (fun (μ20 : xMu) => (f12_readLayer_j305 μ20)) 1000 (nI (pL P)) μ9))))))).bind fun μ18 => f12_read_j275 (f12_read_l64 K (f + 1)) μ18) = K (x_wr (mbL (pL P) 0 ω) 162 37 (ω 162 37 + 1)) := by
      intro ω g K f h h1 h3
      rw [mf_num h h1 h3, Option.bind_some]
      dsimp only
      rw [a_ast hL (by decide), a_ast hL (by decide), a_ast hL (by decide), a_ast hL (by decide)]
      rw [if_neg (show ¬ (x_wr (x_wr (x_wr (x_wr ω 170 (pL P) 0) 171 (pL P) (-1000000)) 174 (pL P) 0) 175 (pL P) 0) 162 33 = 0 from by show ¬ ω 162 33 = 0; rw [h]; exact ne33 h1 h3)]
      exact mlT (μ := mbL (pL P) 0 ω) (by rw [mb1]; exact h) h1 h3
    unfold f12_readLayer_j32 at D
    by_cases z : wix k1 (tx β a1 e1) nSor = 0
    · right
      rw [if_pos z] at TW D
      obtain ⟨μc2, μm2, y1, y2, y3, y4, y5, y6⟩ := j_bad (f := 1) ktν nfν (by decide) (by decide)
      obtain ⟨g, g1, g2, g7⟩ := y3.m
      rw [show f5_refuse 1 μc1 = _ from y1, Option.bind_some] at TW
      rw [TW, Option.bind_some] at C
      dsimp only at C
      rw [cf_num y3.c, Option.bind_some] at C
      dsimp only at C
      have F6 : (bgL (pL P) 0 0 μc2) 126 2 = 1 := (bgG 126 2 (beq_false_of_ne (by omega))).trans y3.c
      rw [a_chk chk, bgE chk, Option.bind_some, if_neg (by decide), cf_84 F6] at C
      rw [j_must0, show f12_bad 1 ν = _ from y2, Option.bind_some, j_m9 g7 g1 g2, Option.bind_some] at D
      refine ⟨bgL (pL P) 0 0 μc2, x_wr (mbL (pL P) 0 μm2) 162 37 (μm2 162 37 + 1), C, fun K f => ?_, y3.of (fun b => bgG 126 b (beq_false_of_ne (by omega))) (by rw [w_wr, if_neg (by decide), mb1]) (by rw [w_wr, if_neg (by decide), mb1]), (gc1.trans (pQ6 y5)).trans (p22 w hL bgG), (((gmν.trans (pU3 y6)).trans mbG).wr (pUy (by omega)))⟩
      refine (Rm K (f + 1)).trans ?_
      rw [D]
      exact mF μm2 g K f g7 g1 g2
    · have k11 := wix1 z
      subst k11
      rw [if_neg z] at TW D
      obtain ⟨k2, a2, e2, μc2, μm2, y1, y2, y3, y4, y5, y6⟩ := j_nx ktν (by decide)
      have nf2 := nfν.nx y5 y6
      rw [y1, Option.bind_some] at TW
      rw [TW, Option.bind_some] at C
      dsimp only at C
      rw [j_must1 nfν.2, y2, Option.bind_some] at D
      have gc2 := gc1.trans (pQ6 (p26o y5))
      have gm2 := gmν.trans (pU3 (p33o y6))
      have y62 : ∀ b, ¬ (29 ≤ b ∧ b ≤ 32) → μm2 162 b = μm 162 b := fun b q => (y6 162 b (decide_eq_false (by omega))).trans (ν62 b q)
      obtain ⟨s, hs⟩ : ∃ s, s = wix 1 (tx β a1 e1) nSor - 1 := ⟨_, rfl⟩
      have hs4 : s < 4 := by omega
      have e69 : μm2 169 (pL P) = nI s := by
        rw [y6 169 _ (decide_eq_false (by omega))]
        show (x_wr μm1 169 (pL P) _) 169 (pL P) = _
        rw [w_wr, if_pos ⟨rfl, rfl⟩, hs]
        unfold cN
        rw [if_neg z]
      rw [← hs] at C
      rcases j_num (m := 10) (vm := 9) y3 nf2 (by decide) (by decide) with ⟨rk, k3, a3, e3, μc3, μm3, v1, v2, v3, v4, v5, v6, v7, v8⟩ | ⟨v, μc3, μm3, v2, v3, v4, v5, v6, v7⟩
      · rw [show f5_takeNumber 10 μc2 = _ from v2, Option.bind_some] at C
        dsimp only at C
        rw [a_chk chk, bgE chk, Option.bind_some] at C
        rw [show f12_numberTo 9 μm2 = _ from v3, Option.bind_some] at D
        dsimp only at D
        rw [a_ast hL (by decide), a_ast hL (by decide), a_ast hL (by decide), a_ast hL (by decide)] at D
        have kt6 : KT β n k3 a3 e3 (bgL (pL P) (nI s) (nI rk) μc3) (mbL (pL P) (nI rk) μm3) := v4.of (fun a b q => bgG a b (beq_false_of_ne (by omega))) (fun a b q => by unfold mbL; rw [x_wr_rd (by omega), x_wr_rd (by omega), x_wr_rd (by omega), x_wr_rd (by omega)])
        have nf6 : NF (bgL (pL P) (nI s) (nI rk) μc3) (mbL (pL P) (nI rk) μm3) := ⟨(bgG 126 2 (beq_false_of_ne (by omega))).trans v5.1, v5.2⟩
        have gc6 : gs (pQ (pK P) (pT P) (pL P) (pB P)) μc (bgL (pL P) (nI s) (nI rk) μc3) := (gc2.trans (pQ6 v7)).trans (p22 w hL bgG)
        have gm6 : gs (pU (pK P) (pT P) (pL P) (pB P)) μm (mbL (pL P) (nI rk) μm3) := (gm2.trans (pU3 v8)).trans mbG
        have pc6 := PCq w pc gc6 (fun j p q => by
          rw [bgG 16 j (beq_false_of_ne (by omega)), v7 16 j (decide_eq_false (by omega)), y5 16 j (decide_eq_false (by omega)), x5 16 j (decide_eq_false (by omega))])
        have pmx6 := PMq w pmx gm6
        have m62 : ∀ b, 35 ≤ b → (mbL (pL P) (nI rk) μm3) 162 b = μm 162 b := fun b q => by
          rw [mb1, v8 162 b (decide_eq_false (by omega)), y62 b (by omega)]
        have cnt : (mbL (pL P) (nI rk) μm3) 162 35 = nI (pK P) ∧ (mbL (pL P) (nI rk) μm3) 162 36 = nI (pT P) ∧ (mbL (pL P) (nI rk) μm3) 162 37 = nI (pL P) ∧ (mbL (pL P) (nI rk) μm3) 162 38 = nI (pB P) := ⟨by rw [m62 35 (by decide)]; exact c5, by rw [m62 36 (by decide)]; exact c6, by rw [m62 37 (by decide)]; exact c7, by rw [m62 38 (by decide)]; exact c8⟩
        have e69' : (mbL (pL P) (nI rk) μm3) 169 (pL P) = nI s := by
          show μm3 169 (pL P) = nI s
          rw [v8 169 _ (decide_eq_false (by omega))]; exact e69
        have lm6 : LM (pL P) (fun j => if j = 0 then s else if j = 1 then rk else 0) (mbL (pL P) (nI rk) μm3) := by
          refine ⟨e69', ?_, ?_, ?_, fun _ => ?_, fun q => absurd q (by decide : ¬ (0 : Nat) = 1)⟩
          · unfold mbL
            rw [x_wr_rd (by decide), x_wr_rd (by decide), x_wr_rd (by decide), w_wr, if_pos ⟨rfl, rfl⟩]; rfl
          · unfold mbL
            rw [x_wr_rd (by decide), w_wr, if_pos ⟨rfl, rfl⟩]; rfl
          · unfold mbL
            rw [w_wr, if_pos ⟨rfl, rfl⟩]; rfl
          · unfold mbL
            rw [x_wr_rd (by decide), x_wr_rd (by decide), w_wr, if_pos ⟨rfl, rfl⟩]
        have lw6 : Lwf (pL P) (fun j => if j = 0 then s else if j = 1 then rk else 0) := ⟨hs4, v1, Nat.two_pow_pos _, Nat.two_pow_pos _, fun _ => rfl, (by decide : (0 : Nat) < 2), fun q => absurd q (by decide : ¬ (0 : Nat) = 1)⟩
        have N := layN (a0 := a) w hL lw6 kt6 nf6 pc6 pmx6 cnt bgC lm6 (by omega) gc6 gm6
        have D0 : f12_readLayer μm1 = (if (mbL (pL P) (nI rk) μm3) 162 33 = 0 then (x_ald (mbL (pL P) (nI rk) μm3) 169 8 (nI (pL P)) fun x22 => (if x22 = (2 : Int32) then (if ((mbL (pL P) (nI rk) μm3) 162 30) = (3 : Int32) then ((f12_numberTo (3 : Int32) (mbL (pL P) (nI rk) μm3)).bind fun q25 => (x_ast q25.2 171 8 (nI (pL P)) q25.1 fun μ26 => (if (μ26 162 33) = 0 then ((f12_is μ26 (60 : Int32)).bind fun x30 => (if x30 = 0 then ((f12_is μ26 (62 : Int32)).bind fun x34 => (if x34 = 0 then ((f12_is μ26 (61 : Int32)).bind fun x35 => (if x35 = 0 then (f12_readLayer_j144 (nI (pL P)) (0 : Int32) μ26) else (f12_readLayer_j139 (nI (pL P)) μ26))) else (f12_readLayer_j139 (nI (pL P)) μ26))) else (f12_readLayer_j139 (nI (pL P)) μ26))) else (f12_readLayer_j172 (nI (pL P)) μ26)))) else (f12_readLayer_l184 (fun (μ24 : xMu) => (f12_readLayer_j305 μ24)) 1000 (nI (pL P)) (mbL (pL P) (nI rk) μm3))) else (f12_readLayer_l184 (fun (μ23 : xMu) => (f12_readLayer_j305 μ23)) 1000 (nI (pL P)) (mbL (pL P) (nI rk) μm3)))) else (f12_readLayer_l184 (fun (μ20 : xMu) => (f12_readLayer_j305 μ20)) 1000 (nI (pL P)) (mbL (pL P) (nI rk) μm3))) := D
        rw [if_pos nf6.2, a_ald hL (by decide), e69'] at D0
        by_cases s2 : s = 2
        · subst s2
          rw [if_pos (show nI 2 = 2 from rfl)] at C D0
          rw [if_pos nf6.1] at C
          unfold f10_atNumber at C
          rw [kt6.2.2.1.1] at C
          rw [kt6.2.2.2.1.1] at D0
          by_cases kn : k3 = 2
          · subst kn
            rw [if_pos (show nI 2 = 2 from rfl), Option.bind_some, if_neg (by decide)] at C
            rw [if_pos (show nI (mkk 2) = 3 from rfl)] at D0
            have T := layT (a0 := a) (rk := rk) w hL v1 kt6 nf6 pc6 pmx6 cnt bgC lm6 (by omega) gc6 gm6
            rw [C]
            simp only [Rm, D0]
            exact T
          · have hk3 := kt6.2.1.1
            rw [if_neg (show ¬ nI k3 = 2 from nI_ne (b := 2) (by omega) (by decide) kn), Option.bind_some, if_pos rfl] at C
            rw [if_neg (fun y => kn ((mk3 hk3).mp y))] at D0
            rw [C]
            simp only [Rm, D0]
            exact N
        · have n2 : ¬ nI s = (2 : Int32) := nI_ne (b := 2) (by omega) (by decide) s2
          rw [if_neg n2] at C D0
          rw [C]
          simp only [Rm, D0]
          exact N
      · right
        obtain ⟨g, g1, g2, g7⟩ := v4.m
        rw [show f5_takeNumber 10 μc2 = _ from v2, Option.bind_some] at C
        dsimp only at C
        have F6 : (bgL (pL P) (nI s) 0 μc3) 126 2 = 1 := (bgG 126 2 (beq_false_of_ne (by omega))).trans v4.c
        rw [a_chk chk, bgE chk, Option.bind_some, if_neg (show ¬ (bgL (pL P) (nI s) 0 μc3) 126 2 = 0 by rw [F6]; decide), ite_self, cf_84 F6] at C
        refine ⟨bgL (pL P) (nI s) 0 μc3, x_wr (mbL (pL P) v μm3) 162 37 ((mbL (pL P) v μm3) 162 37 + 1), C, fun K f => ?_, v4.of (fun b => bgG 126 b (beq_false_of_ne (by omega))) (by rw [w_wr, if_neg (by decide), mb1]) (by rw [w_wr, if_neg (by decide), mb1]), (gc2.trans (pQ6 v6)).trans (p22 w hL bgG), ((gm2.trans (pU3 v7)).trans mbG).wr (pUy (by omega))⟩
        refine (Rm K (f + 1)).trans ?_
        rw [D, show f12_numberTo 9 μm2 = _ from v3, Option.bind_some]
        dsimp only
        rw [a_ast hL (by decide), a_ast hL (by decide), a_ast hL (by decide), a_ast hL (by decide)]
        rw [if_neg (show ¬ (x_wr (x_wr (x_wr (x_wr μm3 170 (pL P) v) 171 (pL P) (-1000000)) 174 (pL P) 0) 175 (pL P) 0) 162 33 = 0 from by show ¬ μm3 162 33 = 0; rw [g7]; exact ne33 g1 g2)]
        exact mlT (μ := mbL (pL P) v μm3) (by rw [mb1]; exact g7) g1 g2
