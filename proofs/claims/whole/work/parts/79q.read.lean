/-! PURE: read: a telling of any sort -/
theorem bodyR {P : xP} {β : Nat → Nat} {n a e : Nat} {μc μm : xMu} (J : Jok P β n 1 a e μc μm) (hT : tx β a e = [98, 111, 100, 121]) : RT P β n a μc μm (f5_readBody μc) (fun K f => f12_read_l64 K (f + 1) μm) := by
  obtain ⟨kt, nf, pc, pmx, ⟨c5, c6, c7, c8⟩, w⟩ := J
  obtain ⟨t1, t2, t3, t4⟩ := wTel kt.let
  have q1 : ¬ lg_cmp (lN (wN 1 (tx β a e))) cKin = 0 := by rw [t1, hT]; decide
  have q2 : ¬ lg_cmp (lN (wN 1 (tx β a e))) cThi = 0 := by rw [t2, hT]; decide
  have q3 : ¬ lg_cmp (lN (wN 1 (tx β a e))) cLay = 0 := by rw [t3, hT]; decide
  have q4 : lg_cmp (lN (wN 1 (tx β a e))) cBod = 0 := by rw [t4]; exact ⟨rfl, hT⟩
  have w8 := w.1.2.2.2
  have hL8 := w.1.2.2.1
  by_cases full : pB P = 24
  · right
    obtain ⟨μc', μm', x1, x2, x3, x4, x5, x6⟩ := j_bad (f := 3) kt nf (by decide) (by decide)
    refine ⟨μc', μm', ?_, fun K f => ?_, x3, pQ6 x5, pU3 x6⟩
    · unfold f5_readBody f5_takeFirstWord
      rw [pc.1.2.2.2, full, if_neg (by decide), show f5_refuse 3 μc = _ from x1, Option.bind_some, Option.bind_some, x3.c, if_neg (by decide)]
    · obtain ⟨g, g1, g2, g7⟩ := x3.m
      show f12_read_l64 K (f + 1 + 1) μm = K μm'
      conv => lhs; unfold f12_read_l64
      unfold f12_read_j101 f12_read_j118 f12_read_j135
      rw [nf.2, if_pos rfl, if_neg (n30 kt (by decide)), kt.wd, Option.bind_some, if_neg (show ¬ lg_cmp (lN (wN 1 (tx β a e))) 1802071652 = 0 from q1), if_neg (show ¬ lg_cmp (lN (wN 1 (tx β a e))) 499967946343 = 0 from q2), if_neg (show ¬ lg_cmp (lN (wN 1 (tx β a e))) 465491813746 = 0 from q3), if_pos (show lg_cmp (lN (wN 1 (tx β a e))) 1651467385 = 0 from q4), c8, full, if_pos (show nI 24 = 24 from rfl)]
      exact rf_152 x2 g7 g1 g2
  · have hB : pB P < 24 := by omega
    have chk : x_isb (30 + 4 * pB P) 1 = true := (r_body (pB P) hB).2.1
    obtain ⟨k1, a1, e1, μc1, μm1, x1, x2, x3, x4, x5, x6⟩ := j_nx kt (by decide)
    have nf1 := nf.nx x5 x6
    have gc1 : gs (pQ (pK P) (pT P) (pL P) (pB P)) μc μc1 := pQ6 (p26o x5)
    have gm1 : gs (pU (pK P) (pT P) (pL P) (pB P)) μm μm1 := pU3 (p33o x6)
    have pc1 := PCq w pc gc1 (fun j _ _ => x5 16 j (decide_eq_false (by omega)))
    have x6' : ∀ b, ¬ (29 ≤ b ∧ b ≤ 32) → μm1 162 b = μm 162 b := fun b q => x6 162 b (decide_eq_false (by omega))
    have Rm : ∀ K f, f12_read_l64 K (f + 1) μm = (f12_readBody μm1).bind fun μ18 => f12_read_j275 (f12_read_l64 K f) μ18 := fun K f => u_bod nf.2 (n30 kt (by decide)) kt.wd q1 q2 q3 q4 (by rw [c8]; exact nI_ne (b := 24) (by omega) (by decide) full) x2 nf1.2
    have qP : (lg_cmp (lN (wN k1 (tx β a1 e1))) (482854660462 : Int64) = 0) = (k1 = 1 ∧ tx β a1 e1 = nPla) := wis nPla (by decide +kernel) x3.let (by decide) (by decide) (by decide)
    have aP := x3.an (c := 915) (N := nPla) (by decide) (by decide) (by decide)
    have C : f5_readBody μc = ((f5_takeOwner μc1).bind fun q3 => ((f5_takeNumber (q3.2 16 5) q3.2).bind fun q4 => ((f5_takeNumber (4 : Int32) q4.2).bind fun q5 => ((f5_takeWord 916 q5.2).bind fun q6 => (x_chk (30 + 4 * pB P) 1 ((f1_begin (30 + 4 * pB P) q3.1 q4.1 q5.1 q6.1 q6.2).bind fun μ8 => (f5_readBody_l82 (fun (μ11 : xMu) => (f5_readBody_j119 μ11)) 1000 (30 + 4 * pB P) (0 : Int32) μ8))))))) := by
      unfold f5_readBody f5_takeFirstWord
      rw [pc.1.2.2.2, if_pos (show nI (pB P) < 24 from nI_lt (b := 24) hB (by decide)), x1, Option.bind_some, Option.bind_some, nf1.1, if_pos rfl, pc1.1.2.2.2, a_rld hB (by decide) (r_body (pB P) hB).1]
    have D : f12_readBody μm1 = if k1 = 1 ∧ tx β a1 e1 = nPla then ((f12_step (x_wr μm1 176 (pB P) (-1000000))).bind fun μ20 => f12_readBody_j47 (nI (pB P)) μ20) else ((f12_numberTo (nI (pL P) - 1) μm1).bind fun q2 => (x_ast q2.2 176 24 (nI (pB P)) q2.1 fun μ3 => (f12_readBody_j47 (nI (pB P)) μ3))) := by
      unfold f12_readBody
      rw [x3.wd, Option.bind_some, x6' 38 (by omega), c8, a_ast hB (by decide), x6' 37 (by omega), c7]
      by_cases z : k1 = 1 ∧ tx β a1 e1 = nPla
      · rw [if_pos z, if_pos (qP.mpr z)]
      · rw [if_neg z, if_neg (fun y => z (qP.mp y))]
    by_cases z : k1 = 1 ∧ tx β a1 e1 = nPla
    · rw [if_pos z] at D
      have ktw : KT β n k1 a1 e1 μc1 (x_wr μm1 176 (pB P) (-1000000)) := x3.of (fun _ _ _ => rfl) (fun a b p => x_wr_rd (by omega))
      have nfw : NF μc1 (x_wr μm1 176 (pB P) (-1000000)) := ⟨nf1.1, by rw [x_wr_rd (by decide)]; exact nf1.2⟩
      obtain ⟨k2, a2, e2, μc2, μm2, y1, y2, y3, y4, y5, y6⟩ := j_nx ktw (by omega)
      have O : f5_takeOwner μc1 = some (cN (-1) 0, μc2) := by
        unfold f5_takeOwner
        rw [show f10_atName μc1 915 = some 1 by rw [aP, if_pos z], Option.bind_some, if_neg (show ¬ (1 : Int32) = 0 by decide), y1, Option.bind_some]
        rfl
      have pc2 := PCq w pc1 (pQ6 (p26o y5)) (fun j _ _ => y5 16 j (decide_eq_false (by omega)))
      rw [O, Option.bind_some] at C
      dsimp only at C
      rw [pc2.1.1] at C
      rw [y2, Option.bind_some] at D
      have gm2 : gs (pU (pK P) (pT P) (pL P) (pB P)) μm μm2 := (gm1.wr (pUy (by omega))).trans (pU3 (p33o y6))
      have c62 : ∀ b, 35 ≤ b → μm2 162 b = μm 162 b := fun b p => by
        rw [y6 _ _ (decide_eq_false (by omega)), x_wr_rd (by decide), x6' b (by omega)]
      rw [C]
      simp only [Rm, D]
      exact bodK w hB (Nat.zero_le _) y3 (nfw.nx y5 y6) pc2 (PMq w pmx gm2) ⟨by rw [c62 35 (by decide)]; exact c5, by rw [c62 36 (by decide)]; exact c6, by rw [c62 37 (by decide)]; exact c7, by rw [c62 38 (by decide)]; exact c8⟩ (by rw [y6 _ _ (decide_eq_false (by omega)), w_wr, if_pos ⟨rfl, rfl⟩]; rfl) (by omega) (gc1.trans (pQ6 (p26o y5))) gm2
    · rw [if_neg z] at D
      have O1 : f5_takeOwner μc1 = (f5_takeNumber (nI (pL P)) μc1).bind fun q3 => some (q3.1, q3.2) := by
        unfold f5_takeOwner
        rw [show f10_atName μc1 915 = some 0 by rw [aP, if_neg z], Option.bind_some, if_pos rfl, pc1.1.2.2.1]
      rcases j_num (m := pL P) x3 nf1 (by omega) (cnt1 (by omega)) with ⟨v, k2, a2, e2, μc2, μm2, u1, u2, u3, u4, u5, u6, u7, u8⟩ | ⟨v, μc2, μm2, u2, u3, u4, u5, u6, u7⟩
      · rw [u2, Option.bind_some] at O1
        dsimp only at O1
        have pc2 := PCq w pc1 (pQ6 u7) (fun j _ _ => u7 16 j (decide_eq_false (by omega)))
        rw [O1, Option.bind_some] at C
        dsimp only at C
        rw [pc2.1.1] at C
        rw [u3, Option.bind_some] at D
        dsimp only at D
        rw [a_ast hB (by decide)] at D
        have gm2 : gs (pU (pK P) (pT P) (pL P) (pB P)) μm (x_wr μm2 176 (pB P) (nI v)) := (gm1.trans (pU3 u8)).wr (pUy (by omega))
        have c62 : ∀ b, 35 ≤ b → (x_wr μm2 176 (pB P) (nI v)) 162 b = μm 162 b := fun b p => by
          rw [x_wr_rd (by decide), u8 _ _ (decide_eq_false (by omega)), x6' b (by omega)]
        rw [C]
        simp only [Rm, D]
        exact bodK (o := v + 1) w hB (by omega) (u4.of (fun _ _ _ => rfl) (fun a b p => x_wr_rd (by omega))) ⟨u5.1, by rw [x_wr_rd (by decide)]; exact u5.2⟩ pc2 (PMq w pmx gm2) ⟨by rw [c62 35 (by decide)]; exact c5, by rw [c62 36 (by decide)]; exact c6, by rw [c62 37 (by decide)]; exact c7, by rw [c62 38 (by decide)]; exact c8⟩ (by rw [w_wr, if_pos ⟨rfl, rfl⟩]; rfl) (by omega) (gc1.trans (pQ6 u7)) gm2
      · right
        obtain ⟨g, g1, g2, g7⟩ := u4.m
        rw [u2, Option.bind_some] at O1
        dsimp only at O1
        rw [O1, Option.bind_some] at C
        dsimp only at C
        have cG : ∀ (v1 v2 v3 v4 : Int32) (ν : xMu) (b : Nat), (bgB (pB P) v1 v2 v3 v4 ν) 126 b = ν 126 b := fun v1 v2 v3 v4 ν b => bgBG 126 b (decide_eq_false (by omega))
        rw [cf_num u4.c, Option.bind_some] at C
        dsimp only at C
        rw [cf_num u4.c, Option.bind_some] at C
        dsimp only at C
        rw [cf_wrd u4.c, Option.bind_some] at C
        dsimp only at C
        rw [a_chk chk, bgBE chk, Option.bind_some, cf_82 (f := 999) ((cG _ _ _ _ _ 2).trans u4.c)] at C
        rw [u3, Option.bind_some] at D
        dsimp only at D
        rw [a_ast hB (by decide)] at D
        have f0 : (x_wr μm2 176 (pB P) v) 162 33 = nI g := by rw [x_wr_rd (by decide)]; exact g7
        unfold f12_readBody_j47 at D
        rw [mf_num f0 g1 g2, Option.bind_some] at D
        dsimp only at D
        have f1 : (x_wr (x_wr μm2 176 (pB P) v) 177 (pB P) 0) 162 33 = nI g := by rw [x_wr_rd (by decide)]; exact f0
        rw [a_ast hB (by decide), mf_num f1 g1 g2, Option.bind_some] at D
        dsimp only at D
        have f2 : (x_wr (x_wr (x_wr (x_wr μm2 176 (pB P) v) 177 (pB P) 0) 178 (pB P) 0) 180 (pB P) 0) 162 33 = nI g := by rw [x_wr_rd (by decide), x_wr_rd (by decide)]; exact f1
        rw [a_ast hB (by decide), a_ast hB (by decide), if_neg (show ¬ (x_wr (x_wr (x_wr (x_wr μm2 176 (pB P) v) 177 (pB P) 0) 178 (pB P) 0) 180 (pB P) 0) 162 33 = 0 by rw [f2]; exact ne33 g1 g2)] at D
        refine ⟨_, x_wr (x_wr (x_wr (x_wr (x_wr μm2 176 (pB P) v) 177 (pB P) 0) 178 (pB P) 0) 180 (pB P) 0) 162 38 ((x_wr (x_wr (x_wr (x_wr μm2 176 (pB P) v) 177 (pB P) 0) 178 (pB P) 0) 180 (pB P) 0) 162 38 + 1), C, fun K f => ?_, u4.of (fun b => cG _ _ _ _ _ b) (by rw [w_wr, if_neg (by decide), f2, g7]) (by rw [w_wr, if_neg (by decide), x_wr_rd (by decide), x_wr_rd (by decide), x_wr_rd (by decide), x_wr_rd (by decide)]), (gc1.trans (pQ6 u6)).trans (p30 hB bgBG), (((((gm1.trans (pU3 u7)).wr (pUy (by omega))).wr (pUy (by omega))).wr (pUy (by omega))).wr (pUy (by omega))).wr (pUy (by omega))⟩
        refine (Rm K (f + 1)).trans ?_
        rw [D]
        exact mbT (f' := 999) f2 g1 g2
theorem tellR {P : xP} {β : Nat → Nat} {n k a e : Nat} {μc μm : xMu} (J : Jok P β n k a e μc μm) (hk : k ≠ 4) : RT P β n a μc μm (f5_readTelling μc) (fun K f => f12_read_l64 K (f + 1) μm) := by
  have kt := J.1
  have nf := J.2.1
  have NA := kt.na (c := 910) (L := 21) (by decide) (by decide) ly910 (by decide)
  have bs : ∀ o : Option xMu, (o.bind fun μ2 => some μ2) = o := fun o => by cases o <;> rfl
  have C : f5_readTelling μc = x_sw (cN (-1) (wix k (tx β a e) nTel)) (nI 0) [f5_readKind μc, f5_readThing μc, f5_readLayer μc, f5_readBody μc] (f5_refuse 1 μc) := by
    unfold f5_readTelling
    rw [NA, Option.bind_some, bs, bs, bs, bs, bs]
  obtain ⟨t1, t2, t3, t4⟩ := wTel kt.let
  have ew : k = 1 → wix k (tx β a e) nTel = if tx β a e = [107, 105, 110, 100] then 1 else if tx β a e = [116, 104, 105, 110, 103] then 2 else if tx β a e = [108, 97, 121, 101, 114] then 3 else if tx β a e = [98, 111, 100, 121] then 4 else 0 := fun c => by
    unfold wix nTel
    rw [if_pos c, ix4]
  by_cases z : wix k (tx β a e) nTel = 0
  · right
    obtain ⟨μc', μm', x1, x2, x3, x4, x5, x6⟩ := j_bad (f := 1) kt nf (by decide) (by decide)
    obtain ⟨g, g1, g2, g7⟩ := x3.m
    have no : ∀ N : List Nat, N = [107, 105, 110, 100] ∨ N = [116, 104, 105, 110, 103] ∨ N = [108, 97, 121, 101, 114] ∨ N = [98, 111, 100, 121] → ¬ (k = 1 ∧ tx β a e = N) := by
      rintro N hN ⟨c, e⟩
      rw [ew c] at z
      rcases hN with rfl | rfl | rfl | rfl <;> (rw [e] at z; exact absurd z (by decide))
    refine ⟨μc', μm', ?_, fun K f => ?_, x3, pQ6 x5, pU3 x6⟩
    · rw [C, z]
      exact x1
    · have q1 : ¬ lg_cmp (lN (wN k (tx β a e))) cKin = 0 := by rw [t1]; exact no _ (Or.inl rfl)
      have q2 : ¬ lg_cmp (lN (wN k (tx β a e))) cThi = 0 := by rw [t2]; exact no _ (Or.inr (Or.inl rfl))
      have q3 : ¬ lg_cmp (lN (wN k (tx β a e))) cLay = 0 := by rw [t3]; exact no _ (Or.inr (Or.inr (Or.inl rfl)))
      have q4 : ¬ lg_cmp (lN (wN k (tx β a e))) cBod = 0 := by rw [t4]; exact no _ (Or.inr (Or.inr (Or.inr rfl)))
      show f12_read_l64 K (f + 1 + 1) μm = K μm'
      conv => lhs; unfold f12_read_l64
      unfold f12_read_j101 f12_read_j118 f12_read_j135 f12_read_j157 f12_read_j195
      rw [nf.2, if_pos rfl, if_neg (n30 kt hk), kt.wd, Option.bind_some, if_neg (show ¬ lg_cmp (lN (wN k (tx β a e))) 1802071652 = 0 from q1), if_neg (show ¬ lg_cmp (lN (wN k (tx β a e))) 499967946343 = 0 from q2), if_neg (show ¬ lg_cmp (lN (wN k (tx β a e))) 465491813746 = 0 from q3), if_neg (show ¬ lg_cmp (lN (wN k (tx β a e))) 1651467385 = 0 from q4), if_neg (show ¬ lg_cmp (lN (wN k (tx β a e))) 1802071652 = 0 from q1), if_neg (show ¬ lg_cmp (lN (wN k (tx β a e))) 499967946343 = 0 from q2), if_neg (show ¬ lg_cmp (lN (wN k (tx β a e))) 465491813746 = 0 from q3), if_neg (show ¬ lg_cmp (lN (wN k (tx β a e))) 1651467385 = 0 from q4), j_must0, show f12_bad 1 μm = _ from x2, Option.bind_some, j_m9 g7 g1 g2, Option.bind_some, if_neg (show ¬ μm' 162 33 = 0 by rw [g7]; exact ne33 g1 g2)]
      unfold f12_read_j220 f12_read_j242 f12_read_j264
      rw [g7, if_neg (ne33 g1 g2), if_neg (ne33 g1 g2), if_neg (ne33 g1 g2)]
      exact rf_275 g7 g1 g2
  · have k1 := wix1 z
    subst k1
    have ew1 := ew rfl
    rw [C]
    by_cases z0 : tx β a e = [107, 105, 110, 100]
    · rw [ew1, if_pos z0]
      exact kindR J z0
    · rw [if_neg z0] at ew1
      by_cases z1 : tx β a e = [116, 104, 105, 110, 103]
      · rw [ew1, if_pos z1]
        exact thingR J z1
      · rw [if_neg z1] at ew1
        by_cases z2 : tx β a e = [108, 97, 121, 101, 114]
        · rw [ew1, if_pos z2]
          exact layerR J z2
        · rw [if_neg z2] at ew1
          by_cases z3 : tx β a e = [98, 111, 100, 121]
          · rw [ew1, if_pos z3]
            exact bodyR J z3
          · rw [if_neg z3] at ew1
            exact absurd ew1 z
theorem readL {β : Nat → Nat} {n : Nat} (K1 : xMu → Option (Int32 × xMu)) (K2 : xMu → Option (Int32 × xMu)) : ∀ (m : Nat) (P : xP) (k a e i f f' : Nat) (μc μm : xMu), n - a ≤ m → m < f → m + 1 < f' → i ≤ a → Jok P β n k a e μc μm →
    (∃ P' k' a' e' μc' μm', f5_readTape_l21 K1 f (nI i) μc = K1 μc' ∧ f12_read_l64 K2 f' μm = K2 μm' ∧ Jok P' β n k' a' e' μc' μm' ∧ (pK P ≤ pK P' ∧ pT P ≤ pT P' ∧ pL P ≤ pL P' ∧ pB P ≤ pB P') ∧ gs (pQ (pK P) (pT P) (pL P) (pB P)) μc μc' ∧ gs (pU (pK P) (pT P) (pL P) (pB P)) μm μm') ∨
    (∃ μc' μm', f5_readTape_l21 K1 f (nI i) μc = K1 μc' ∧ f12_read_l64 K2 f' μm = K2 μm' ∧ FX μc' μm' ∧ gs (pQ (pK P) (pT P) (pL P) (pB P)) μc μc' ∧ gs (pU (pK P) (pT P) (pL P) (pB P)) μm μm') := by
  intro m
  induction m with
  | zero =>
    intro P k a e i f f' μc μm hm hf hf' hi J
    obtain ⟨f, rfl⟩ : ∃ z, f = z + 1 := ⟨f - 1, by omega⟩
    obtain ⟨f', rfl⟩ : ∃ z, f' = z + 1 := ⟨f' - 1, by omega⟩
    have kt := J.1
    have nf := J.2.1
    have k4 : k = 4 := by
      rcases Nat.lt_or_ge k 4 with y | y
      · have h1 := kt.2.2.2.2.1 (by omega)
        have h2 := kt.2.1
        omega
      · have h2 := kt.2.1
        omega
    subst k4
    left
    refine ⟨P, 4, a, e, μc, μm, ?_, ?_, J, ⟨Nat.le_refl _, Nat.le_refl _, Nat.le_refl _, Nat.le_refl _⟩, gs.refl, gs.refl⟩
    · unfold f5_readTape_l21 f10_atEnd
      rw [nf.1, if_pos rfl, kt.2.2.1.1, if_pos (show nI 4 = 4 from rfl), Option.bind_some, if_neg (show ¬ (1 : Int32) = 0 by decide), ite_self]
    · unfold f12_read_l64
      rw [nf.2, if_pos rfl, kt.2.2.2.1.1, if_pos (show nI (mkk 4) = 1 from rfl)]
  | succ m ih =>
    intro P k a e i f f' μc μm hm hf hf' hi J
    obtain ⟨f, rfl⟩ : ∃ z, f = z + 1 := ⟨f - 1, by omega⟩
    obtain ⟨f', rfl⟩ : ∃ z, f' = z + 1 := ⟨f' - 1, by omega⟩
    have kt := J.1
    have nf := J.2.1
    by_cases k4 : k = 4
    · subst k4
      left
      refine ⟨P, 4, a, e, μc, μm, ?_, ?_, J, ⟨Nat.le_refl _, Nat.le_refl _, Nat.le_refl _, Nat.le_refl _⟩, gs.refl, gs.refl⟩
      · unfold f5_readTape_l21 f10_atEnd
        rw [nf.1, if_pos rfl, kt.2.2.1.1, if_pos (show nI 4 = 4 from rfl), Option.bind_some, if_neg (show ¬ (1 : Int32) = 0 by decide), ite_self]
      · unfold f12_read_l64
        rw [nf.2, if_pos rfl, kt.2.2.2.1.1, if_pos (show nI (mkk 4) = 1 from rfl)]
    · have hlt := kt.2.2.2.2.1 k4
      have hle := kt.2.1
      have hn := kt.1.1.1
      have C : f5_readTape_l21 K1 (f + 1) (nI i) μc = (f5_readTelling μc).bind fun μ5 => f5_readTape_l21 K1 f (nI (i + 1)) μ5 := by
        conv => lhs; unfold f5_readTape_l21 f10_atEnd
        rw [if_neg (show ¬ (600 : Int32) ≤ nI i from nI_ge (b := 600) (by omega) (by decide)), nf.1, if_pos rfl, kt.2.2.1.1, if_neg (show ¬ nI k = 4 from nI_ne (b := 4) (by omega) (by decide) k4), Option.bind_some, if_pos rfl, nI_1]
      rcases tellR J k4 with ⟨P', k', a', e', μc', μm', x1, x2, x3, x4, x5, x6, x7⟩ | ⟨μc', μm', x1, x2, x3, x4, x5⟩
      · rw [x1, Option.bind_some] at C
        have D : f12_read_l64 K2 (f' + 1) μm = f12_read_l64 K2 f' μm' := x2 K2 f'
        rcases ih P' k' a' e' (i + 1) f f' μc' μm' (by omega) (by omega) (by omega) (by omega) x3 with ⟨P2, k2, a2, e2, μc2, μm2, y1, y2, y3, y4, y5, y6⟩ | ⟨μc2, μm2, y1, y2, y3, y5, y6⟩
        · left
          exact ⟨P2, k2, a2, e2, μc2, μm2, C.trans y1, D.trans y2, y3, ⟨Nat.le_trans x5.1 y4.1, Nat.le_trans x5.2.1 y4.2.1, Nat.le_trans x5.2.2.1 y4.2.2.1, Nat.le_trans x5.2.2.2 y4.2.2.2⟩, x6.trans (pQm y5 x5), x7.trans (pUm y6 x5)⟩
        · right
          exact ⟨μc2, μm2, C.trans y1, D.trans y2, y3, x6.trans (pQm y5 x5), x7.trans (pUm y6 x5)⟩
      · right
        obtain ⟨f', rfl⟩ : ∃ z, f' = z + 1 := ⟨f' - 1, by omega⟩
        obtain ⟨f, rfl⟩ : ∃ z, f = z + 1 := ⟨f - 1, by omega⟩
        rw [x1, Option.bind_some] at C
        refine ⟨μc', μm', C.trans ?_, x2 K2 f', x3, x4, x5⟩
        unfold f5_readTape_l21
        rw [x3.c, if_neg (show ¬ (1 : Int32) = 0 by decide), ite_self]
