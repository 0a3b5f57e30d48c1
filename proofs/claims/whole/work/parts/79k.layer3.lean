/-! PURE: read: a layer's test, and all of a layer -/
theorem bgT {r : Nat} {f s v : Int32} {μ : xMu} (h : x_isb r 3 = true) (hs : x_cok s = true) : f3_beginTest r f s v μ = some (x_wr (x_wr (x_wr (x_wr μ r 4 1) r 5 f) r 6 s) r 7 v) := by
  unfold f3_beginTest
  rw [a_chk h, a_put, a_put, a_tst hs, a_put, a_put]
theorem p22 {P : xP} {μ μ' : xMu} (w : Pwf P) (hL : pL P < 8) (g : gs (fun a _ => a == 22 + pL P) μ μ') : gs (pQ (pK P) (pT P) (pL P) (pB P)) μ μ' := g.mono (fun a b q => pQy (by simp only [beq_iff_eq] at q; omega))
theorem m172 {μ : xMu} {L g f : Nat} {K : xMu → Option (Int32 × xMu)} (hL : L < 8) (h : μ 162 33 = nI g) (h1 : 1 ≤ g) (h3 : g ≤ 3) : ((f12_readLayer_j172 (nI L) μ).bind fun μ18 => f12_read_j275 (f12_read_l64 K (f + 1)) μ18) = K (x_wr (x_wr μ 173 L 0) 162 37 (μ 162 37 + 1)) := by
  unfold f12_readLayer_j172
  rw [mf_num h h1 h3, Option.bind_some]
  dsimp only
  rw [a_ast hL (by decide), mlT (by rw [x_wr_rd (by decide)]; exact h) h1 h3, x_wr_rd (by decide)]
theorem layT {P : xP} {β : Nat → Nat} {n a e a0 rk : Nat} {μ0 ω0 μc μm : xMu} (w : Pwf P) (hL : pL P < 8) (hrk : rk < 10) (h : KT β n 2 a e μc μm) (nf : NF μc μm) (pc : PC P μc) (pmx : PMx P μm) (c : μm 162 35 = nI (pK P) ∧ μm 162 36 = nI (pT P) ∧ μm 162 37 = nI (pL P) ∧ μm 162 38 = nI (pB P)) (lc : LC (pL P) (fun j => if j = 0 then 2 else if j = 1 then rk else 0) μc) (lm : LM (pL P) (fun j => if j = 0 then 2 else if j = 1 then rk else 0) μm) (ha : a0 < a) (gc : gs (pQ (pK P) (pT P) (pL P) (pB P)) μ0 μc) (gm : gs (pU (pK P) (pT P) (pL P) (pB P)) ω0 μm) :
    RT P β n a0 μ0 ω0 ((f5_readTest (22 + pL P) μc).bind fun μ11 => (f5_readLayer_j84 (22 + pL P) (nI 2) μ11)) (fun K f => ((f12_numberTo (3 : Int32) μm).bind fun q25 => (x_ast q25.2 171 8 (nI (pL P)) q25.1 fun μ26 => (if (μ26 162 33) = 0 then ((f12_is μ26 (60 : Int32)).bind fun x30 => (if x30 = 0 then ((f12_is μ26 (62 : Int32)).bind fun x34 => (if x34 = 0 then ((f12_is μ26 (61 : Int32)).bind fun x35 => (if x35 = 0 then (f12_readLayer_j144 (nI (pL P)) (0 : Int32) μ26) else (f12_readLayer_j139 (nI (pL P)) μ26))) else (f12_readLayer_j139 (nI (pL P)) μ26))) else (f12_readLayer_j139 (nI (pL P)) μ26))) else (f12_readLayer_j172 (nI (pL P)) μ26)))).bind fun μ18 => f12_read_j275 (f12_read_l64 K f) μ18) := by
  have chk : x_isb (22 + pL P) 3 = true := (r_layer (pL P) hL).2
  have hw := w.1.2.2.1
  -- a fault's end in the class
  have cF : ∀ (ν : xMu) (v1 v2 v3 : Int32), ν 126 2 = 1 → (x_wr (x_wr (x_wr (x_wr ν (22 + pL P) 4 1) (22 + pL P) 5 v1) (22 + pL P) 6 v2) (22 + pL P) 7 v3) 126 2 = 1 := fun ν v1 v2 v3 q => by
    rw [x_wr_rd (by omega), x_wr_rd (by omega), x_wr_rd (by omega), x_wr_rd (by omega)]; exact q
  have cG : ∀ (ν : xMu) (v1 v2 v3 : Int32), gs (fun a _ => a == 22 + pL P) ν (x_wr (x_wr (x_wr (x_wr ν (22 + pL P) 4 1) (22 + pL P) 5 v1) (22 + pL P) 6 v2) (22 + pL P) 7 v3) := fun ν v1 v2 v3 => (((gs.refl.wr (by simp)).wr (by simp)).wr (by simp)).wr (by simp)
  have c126 : ∀ (ν : xMu) (v1 v2 v3 : Int32) (b : Nat), (x_wr (x_wr (x_wr (x_wr ν (22 + pL P) 4 1) (22 + pL P) 5 v1) (22 + pL P) 6 v2) (22 + pL P) 7 v3) 126 b = ν 126 b := fun ν v1 v2 v3 b => cG ν v1 v2 v3 126 b (beq_false_of_ne (by omega))
  unfold f5_readTest
  rcases j_num (m := 4) (vm := 3) h nf (by decide) (by decide) with ⟨ft, k1, a1, e1, μc1, μm1, v1, v2, v3, v4, v5, v6, v7, v8⟩ | ⟨v, μc1, μm1, v2, v3, v4, v5, v6, v7⟩
  · rw [show f5_takeNumber 4 μc = _ from v2, Option.bind_some]
    dsimp only
    -- the sign
    obtain ⟨sg, hsg⟩ : ∃ sg : Nat, sg = if k1 = 3 ∧ β a1 = 60 then 60 else if k1 = 3 ∧ β a1 = 62 then 62 else 61 := ⟨_, rfl⟩
    have sg3 : sg = 60 ∨ sg = 61 ∨ sg = 62 := by
      rw [hsg]
      split
      · omega
      · split <;> omega
    have sok : x_cok (nI sg) = true := by rcases sg3 with e | e | e <;> (rw [e]; decide)
    have C1 : ((f10_atSign μc1 (60 : Int32)).bind fun x2 => (if x2 = 0 then ((f10_atSign μc1 (62 : Int32)).bind fun x3 => (if x3 = 0 then (f5_readTest_j42 (22 + pL P) (nI ft) (61 : Int32) μc1) else (f5_readTest_j42 (22 + pL P) (nI ft) (62 : Int32) μc1))) else (f5_readTest_j42 (22 + pL P) (nI ft) (60 : Int32) μc1))) = f5_readTest_j42 (22 + pL P) (nI ft) (nI sg) μc1 := by
      rw [show f10_atSign μc1 60 = _ from (t_as v4 (s := 60) (by decide)).1, Option.bind_some, show f10_atSign μc1 62 = _ from (t_as v4 (s := 62) (by decide)).1, Option.bind_some, hsg]
      by_cases z0 : k1 = 3 ∧ β a1 = 60
      · rw [if_pos z0, if_neg (by decide), if_pos z0]
        rfl
      · rw [if_neg z0, if_pos rfl, if_neg z0]
        by_cases z1 : k1 = 3 ∧ β a1 = 62
        · rw [if_pos z1, if_neg (by decide), if_pos z1]
          rfl
        · rw [if_neg z1, if_pos rfl, if_neg z1]
          rfl
    rw [C1]
    -- the reference
    obtain ⟨xv, hxv⟩ : ∃ xv : Int32, xv = if k1 = 3 ∧ β a1 = sg then nI (β a1) else 0 := ⟨_, rfl⟩
    have ktA : KT β n k1 a1 e1 μc1 (x_wr μm1 171 (pL P) (nI ft)) := v4.of (fun _ _ _ => rfl) (fun a b q => x_wr_rd (by omega))
    have D1 : f12_numberTo 3 μm = some (nI ft, μm1) := v3
    have sgE : (k1 = 3 ∧ β a1 = sg) = (k1 = 3 ∧ (β a1 = 60 ∨ β a1 = 62 ∨ β a1 = 61)) := by
      apply propext
      rw [hsg]
      constructor
      · rintro ⟨x, y⟩
        refine ⟨x, ?_⟩
        split at y
        · omega
        · split at y <;> omega
      · rintro ⟨x, y⟩
        refine ⟨x, ?_⟩
        split
        · next z => exact z.2
        · next z =>
          split
          · next z2 => exact z2.2
          · next z2 =>
            rcases y with y | y | y
            · exact absurd ⟨x, y⟩ z
            · exact absurd ⟨x, y⟩ z2
            · exact y
    have D2 : ((f12_is (x_wr μm1 171 (pL P) (nI ft)) (60 : Int32)).bind fun x30 => (if x30 = 0 then ((f12_is (x_wr μm1 171 (pL P) (nI ft)) (62 : Int32)).bind fun x34 => (if x34 = 0 then ((f12_is (x_wr μm1 171 (pL P) (nI ft)) (61 : Int32)).bind fun x35 => (if x35 = 0 then (f12_readLayer_j144 (nI (pL P)) (0 : Int32) (x_wr μm1 171 (pL P) (nI ft))) else (f12_readLayer_j139 (nI (pL P)) (x_wr μm1 171 (pL P) (nI ft))))) else (f12_readLayer_j139 (nI (pL P)) (x_wr μm1 171 (pL P) (nI ft))))) else (f12_readLayer_j139 (nI (pL P)) (x_wr μm1 171 (pL P) (nI ft))))) = (f12_must (if k1 = 3 ∧ β a1 = sg then 1 else 0) (x_wr (x_wr μm1 171 (pL P) (nI ft)) 172 (pL P) xv)).bind fun μ32 => (f12_readLayer_j172 (nI (pL P)) μ32) := by
      have yes : k1 = 3 ∧ β a1 = sg → f12_readLayer_j139 (nI (pL P)) (x_wr μm1 171 (pL P) (nI ft)) = (f12_must (if k1 = 3 ∧ β a1 = sg then 1 else 0) (x_wr (x_wr μm1 171 (pL P) (nI ft)) 172 (pL P) xv)).bind fun μ32 => (f12_readLayer_j172 (nI (pL P)) μ32) := by
        intro z
        have hlt := ktA.2.2.2.2.1 (by omega)
        have hle := ktA.2.1
        unfold f12_readLayer_j139 f12_readLayer_j144 f12_readLayer_j166
        rw [if_neg (by decide), ktA.2.2.2.1.2.1, u_byte ktA.1.2 (by omega), if_neg (show ¬ n ≤ a1 by omega), Option.bind_some, a_ast hL (by decide), if_pos z, hxv, if_pos z]
      rw [show f12_is (x_wr μm1 171 (pL P) (nI ft)) 60 = _ from (t_as ktA (s := 60) (by decide)).2, Option.bind_some, show f12_is (x_wr μm1 171 (pL P) (nI ft)) 62 = _ from (t_as ktA (s := 62) (by decide)).2, Option.bind_some, show f12_is (x_wr μm1 171 (pL P) (nI ft)) 61 = _ from (t_as ktA (s := 61) (by decide)).2, Option.bind_some]
      by_cases z0 : k1 = 3 ∧ β a1 = 60
      · rw [if_pos z0, if_neg (by decide)]
        exact yes (sgE.mpr ⟨z0.1, Or.inl z0.2⟩)
      · rw [if_neg z0, if_pos rfl]
        by_cases z1 : k1 = 3 ∧ β a1 = 62
        · rw [if_pos z1, if_neg (by decide)]
          exact yes (sgE.mpr ⟨z1.1, Or.inr (Or.inl z1.2)⟩)
        · rw [if_neg z1, if_pos rfl]
          by_cases z2 : k1 = 3 ∧ β a1 = 61
          · rw [if_pos z2, if_neg (by decide)]
            exact yes (sgE.mpr ⟨z2.1, Or.inr (Or.inr z2.2)⟩)
          · rw [if_neg z2, if_pos rfl]
            have no : ¬ (k1 = 3 ∧ β a1 = sg) := by
              rw [sgE]
              rintro ⟨x, y | y | y⟩
              · exact z0 ⟨x, y⟩
              · exact z1 ⟨x, y⟩
              · exact z2 ⟨x, y⟩
            unfold f12_readLayer_j144 f12_readLayer_j166
            rw [if_pos rfl, a_ast hL (by decide), if_neg no, hxv, if_neg no]
    have D3 : ∀ K f, (((f12_numberTo (3 : Int32) μm).bind fun q25 => (x_ast q25.2 171 8 (nI (pL P)) q25.1 fun μ26 => (if (μ26 162 33) = 0 then ((f12_is μ26 (60 : Int32)).bind fun x30 => (if x30 = 0 then ((f12_is μ26 (62 : Int32)).bind fun x34 => (if x34 = 0 then ((f12_is μ26 (61 : Int32)).bind fun x35 => (if x35 = 0 then (f12_readLayer_j144 (nI (pL P)) (0 : Int32) μ26) else (f12_readLayer_j139 (nI (pL P)) μ26))) else (f12_readLayer_j139 (nI (pL P)) μ26))) else (f12_readLayer_j139 (nI (pL P)) μ26))) else (f12_readLayer_j172 (nI (pL P)) μ26)))).bind fun μ18 => f12_read_j275 (f12_read_l64 K f) μ18) = (((f12_must (if k1 = 3 ∧ β a1 = sg then 1 else 0) (x_wr (x_wr μm1 171 (pL P) (nI ft)) 172 (pL P) xv)).bind fun μ32 => (f12_readLayer_j172 (nI (pL P)) μ32)).bind fun μ18 => f12_read_j275 (f12_read_l64 K f) μ18) := fun K f => by
      rw [D1, Option.bind_some]
      dsimp only
      rw [a_ast hL (by decide), if_pos (show (x_wr μm1 171 (pL P) (nI ft)) 162 33 = 0 by rw [x_wr_rd (by decide)]; exact v5.2), D2]
    simp only [D3]
    unfold f5_readTest_j42
    have ktB : KT β n k1 a1 e1 μc1 (x_wr (x_wr μm1 171 (pL P) (nI ft)) 172 (pL P) xv) := v4.of (fun _ _ _ => rfl) (fun a b q => by rw [x_wr_rd (by omega), x_wr_rd (by omega)])
    have nfB : NF μc1 (x_wr (x_wr μm1 171 (pL P) (nI ft)) 172 (pL P) xv) := ⟨v5.1, by rw [x_wr_rd (by decide), x_wr_rd (by decide)]; exact v5.2⟩
    have gc1 : gs (pQ (pK P) (pT P) (pL P) (pB P)) μc μc1 := pQ6 v7
    have gmB : gs (pU (pK P) (pT P) (pL P) (pB P)) μm (x_wr (x_wr μm1 171 (pL P) (nI ft)) 172 (pL P) xv) := ((pU3 v8).wr (pUy (by omega))).wr (pUy (by omega))
    rcases j_sgn (s := sg) ktB nfB (by omega) with ⟨k2, a2, e2, μc2, μm2, y0, y1, y2, y3, y4, y5, y6, y7⟩ | ⟨μc2, μm2, y0, y1, y2, y3, y4, y5, y6⟩
    · rw [y1, Option.bind_some]
      simp only [y2, Option.bind_some]
      have hx : xv = nI sg := by rw [hxv, if_pos y0, y0.2]
      rcases j_num (m := 10) (vm := 9) y3 y4 (by decide) (by decide) with ⟨tv, k3, a3, e3, μc3, μm3, u1, u2, u3, u4, u5, u6, u7, u8⟩ | ⟨v, μc3, μm3, u2, u3, u4, u5, u6, u7⟩
      · rw [show f5_takeNumber 10 μc2 = _ from u2, Option.bind_some]
        dsimp only
        rw [a_chk chk, bgT chk sok, Option.bind_some, Option.bind_some]
        have D4 : f12_readLayer_j172 (nI (pL P)) μm2 = f12_readLayer_l184 (fun (μ29 : xMu) => (f12_readLayer_j305 μ29)) 1000 (nI (pL P)) (x_wr μm3 173 (pL P) (nI tv)) := by
          unfold f12_readLayer_j172
          rw [show f12_numberTo 9 μm2 = _ from u3, Option.bind_some]
          dsimp only
          rw [a_ast hL (by decide)]
        simp only [D4]
        let r' : Nat → Nat := fun j => if j = 0 then 2 else if j = 1 then rk else if j = 4 then 1 else if j = 5 then ft else if j = 6 then sg else if j = 7 then tv else 0
        have g3 : ∀ b, μc3 (22 + pL P) b = μc (22 + pL P) b := fun b => (u7 _ _ (decide_eq_false (by omega))).trans ((y6 _ _ (decide_eq_false (by omega))).trans (v7 _ _ (decide_eq_false (by omega))))
        have m3 : ∀ a, 169 ≤ a → a ≤ 175 → μm3 a (pL P) = (x_wr (x_wr μm1 171 (pL P) (nI ft)) 172 (pL P) xv) a (pL P) := fun a _ _ => (u8 _ _ (decide_eq_false (by omega))).trans (y7 _ _ (decide_eq_false (by omega)))
        have m3' : ∀ a, 169 ≤ a → a ≤ 175 → a ≠ 171 → a ≠ 172 → μm3 a (pL P) = μm a (pL P) := fun a x y z1 z2 => by
          rw [m3 a x y, x_wr_rd z2, x_wr_rd z1, v8 _ _ (decide_eq_false (by omega))]
        have gcF : gs (pQ (pK P) (pT P) (pL P) (pB P)) μc (x_wr (x_wr (x_wr (x_wr μc3 (22 + pL P) 4 1) (22 + pL P) 5 (nI ft)) (22 + pL P) 6 (nI sg)) (22 + pL P) 7 (nI tv)) := ((gc1.trans (pQ6 y6)).trans (pQ6 u7)).trans (p22 w hL (cG μc3 _ _ _))
        have gmF : gs (pU (pK P) (pT P) (pL P) (pB P)) μm (x_wr μm3 173 (pL P) (nI tv)) := ((gmB.trans (pU3 y7)).trans (pU3 u8)).wr (pUy (by omega))
        have w62 : ∀ b, 35 ≤ b → (x_wr μm3 173 (pL P) (nI tv)) 162 b = μm 162 b := fun b q => by
          rw [x_wr_rd (by decide), u8 _ _ (decide_eq_false (by omega)), y7 _ _ (decide_eq_false (by omega)), x_wr_rd (by decide), x_wr_rd (by decide), v8 _ _ (decide_eq_false (by omega))]
        refine layN (r := r') w hL ⟨(by decide : (2 : Nat) < 4), hrk, Nat.two_pow_pos _, Nat.two_pow_pos _, fun _ => rfl, (by decide : (1 : Nat) < 2), fun _ => ⟨v1, sg3, u1⟩⟩ (u4.of (fun a b q => cG μc3 _ _ _ a b (beq_false_of_ne (by omega))) (fun a b q => x_wr_rd (by omega))) ⟨(c126 μc3 _ _ _ 2).trans u5.1, by rw [x_wr_rd (by decide)]; exact u5.2⟩ (PCq w pc gcF (fun j p q => ?_)) (PMq w pmx gmF) ⟨by rw [w62 35 (by decide)]; exact c.1, by rw [w62 36 (by decide)]; exact c.2.1, by rw [w62 37 (by decide)]; exact c.2.2.1, by rw [w62 38 (by decide)]; exact c.2.2.2⟩ ⟨?_, ?_, ?_, ?_, ?_, fun _ => ⟨?_, ?_, ?_⟩⟩ ⟨?_, ?_, ?_, ?_, fun q => absurd q (by decide : ¬ (1 : Nat) = 0), fun _ => ⟨?_, ?_, ?_⟩⟩ (by omega) (gc.trans gcF) (gm.trans gmF)
        · rw [cG μc3 _ _ _ 16 j (beq_false_of_ne (by omega)), u7 _ _ (decide_eq_false (by omega)), y6 _ _ (decide_eq_false (by omega)), v7 _ _ (decide_eq_false (by omega))]
        · rw [w_wr, if_neg (by omega), w_wr, if_neg (by omega), w_wr, if_neg (by omega), w_wr, if_neg (by omega), g3]; exact lc.1
        · rw [w_wr, if_neg (by omega), w_wr, if_neg (by omega), w_wr, if_neg (by omega), w_wr, if_neg (by omega), g3]; exact lc.2.1
        · rw [w_wr, if_neg (by omega), w_wr, if_neg (by omega), w_wr, if_neg (by omega), w_wr, if_neg (by omega), g3]; exact lc.2.2.1
        · rw [w_wr, if_neg (by omega), w_wr, if_neg (by omega), w_wr, if_neg (by omega), w_wr, if_neg (by omega), g3]; exact lc.2.2.2.1
        · rw [w_wr, if_neg (by omega), w_wr, if_neg (by omega), w_wr, if_neg (by omega), w_wr, if_pos ⟨rfl, rfl⟩]; rfl
        · rw [w_wr, if_neg (by omega), w_wr, if_neg (by omega), w_wr, if_pos ⟨rfl, rfl⟩]; rfl
        · rw [w_wr, if_neg (by omega), w_wr, if_pos ⟨rfl, rfl⟩]; rfl
        · rw [w_wr, if_pos ⟨rfl, rfl⟩]; rfl
        · rw [x_wr_rd (by decide), m3' 169 (by decide) (by decide) (by decide) (by decide)]; exact lm.1
        · rw [x_wr_rd (by decide), m3' 170 (by decide) (by decide) (by decide) (by decide)]; exact lm.2.1
        · rw [x_wr_rd (by decide), m3' 174 (by decide) (by decide) (by decide) (by decide)]; exact lm.2.2.1
        · rw [x_wr_rd (by decide), m3' 175 (by decide) (by decide) (by decide) (by decide)]; exact lm.2.2.2.1
        · rw [x_wr_rd (by decide), m3 171 (by decide) (by decide), x_wr_rd (by decide), w_wr, if_pos ⟨rfl, rfl⟩]; rfl
        · rw [x_wr_rd (by decide), m3 172 (by decide) (by decide), w_wr, if_pos ⟨rfl, rfl⟩, hx]; rfl
        · rw [w_wr, if_pos ⟨rfl, rfl⟩]; rfl
      · right
        rw [show f5_takeNumber 10 μc2 = _ from u2, Option.bind_some]
        dsimp only
        rw [a_chk chk, bgT chk sok, Option.bind_some, Option.bind_some, cf_84 (cF μc3 _ _ _ u4.c)]
        obtain ⟨g, g1, g2, g7⟩ := u4.m
        refine ⟨_, x_wr (x_wr μm3 173 (pL P) v) 162 37 ((x_wr μm3 173 (pL P) v) 162 37 + 1), rfl, fun K f => ?_, u4.of (fun b => c126 μc3 _ _ _ b) (by rw [w_wr, if_neg (by decide), x_wr_rd (by decide)]) (by rw [w_wr, if_neg (by decide), x_wr_rd (by decide)]), gc.trans (((gc1.trans (pQ6 y6)).trans (pQ6 u6)).trans (p22 w hL (cG μc3 _ _ _))), ((gm.trans ((gmB.trans (pU3 y7)).trans (pU3 u7))).wr (pUy (by omega))).wr (pUy (by omega))⟩
        unfold f12_readLayer_j172
        rw [show f12_numberTo 9 μm2 = _ from u3, Option.bind_some]
        dsimp only
        rw [a_ast hL (by decide)]
        exact mlT (by rw [x_wr_rd (by decide)]; exact g7) g1 g2
    · right
      rw [y1, Option.bind_some, cf_num y3.c, Option.bind_some]
      dsimp only
      rw [a_chk chk, bgT chk sok, Option.bind_some, Option.bind_some, cf_84 (cF μc2 _ _ _ y3.c)]
      obtain ⟨g, g1, g2, g7⟩ := y3.m
      refine ⟨_, x_wr (x_wr μm2 173 (pL P) 0) 162 37 (μm2 162 37 + 1), rfl, fun K f => ?_, y3.of (fun b => c126 μc2 _ _ _ b) (by rw [w_wr, if_neg (by decide), x_wr_rd (by decide)]) (by rw [w_wr, if_neg (by decide), x_wr_rd (by decide)]), gc.trans ((gc1.trans (pQ6 y5)).trans (p22 w hL (cG μc2 _ _ _))), ((gm.trans (gmB.trans (pU3 y6))).wr (pUy (by omega))).wr (pUy (by omega))⟩
      rw [y2, Option.bind_some]
      exact m172 hL g7 g1 g2
  · right
    obtain ⟨g, g1, g2, g7⟩ := v4.m
    rw [show f5_takeNumber 4 μc = _ from v2, Option.bind_some]
    dsimp only
    have tail : ∀ sg : Int32, x_cok sg = true → f5_readTest_j42 (22 + pL P) 0 sg μc1 = some (x_wr (x_wr (x_wr (x_wr μc1 (22 + pL P) 4 1) (22 + pL P) 5 0) (22 + pL P) 6 sg) (22 + pL P) 7 0) := fun sg q => by
      unfold f5_readTest_j42
      rw [cf_sgn v4.c, Option.bind_some, cf_num v4.c, Option.bind_some]
      dsimp only
      rw [a_chk chk, bgT chk q, Option.bind_some]
    have D : ∀ K f, (((f12_numberTo (3 : Int32) μm).bind fun q25 => (x_ast q25.2 171 8 (nI (pL P)) q25.1 fun μ26 => (if (μ26 162 33) = 0 then ((f12_is μ26 (60 : Int32)).bind fun x30 => (if x30 = 0 then ((f12_is μ26 (62 : Int32)).bind fun x34 => (if x34 = 0 then ((f12_is μ26 (61 : Int32)).bind fun x35 => (if x35 = 0 then (f12_readLayer_j144 (nI (pL P)) (0 : Int32) μ26) else (f12_readLayer_j139 (nI (pL P)) μ26))) else (f12_readLayer_j139 (nI (pL P)) μ26))) else (f12_readLayer_j139 (nI (pL P)) μ26))) else (f12_readLayer_j172 (nI (pL P)) μ26)))).bind fun μ18 => f12_read_j275 (f12_read_l64 K (f + 1)) μ18) = K (x_wr (x_wr (x_wr μm1 171 (pL P) v) 173 (pL P) 0) 162 37 ((x_wr μm1 171 (pL P) v) 162 37 + 1)) := fun K f => by
      rw [show f12_numberTo 3 μm = _ from v3, Option.bind_some]
      dsimp only
      rw [a_ast hL (by decide), if_neg (show ¬ (x_wr μm1 171 (pL P) v) 162 33 = 0 by rw [x_wr_rd (by decide), g7]; exact ne33 g1 g2)]
      exact m172 hL (by rw [x_wr_rd (by decide)]; exact g7) g1 g2
    have fin : ∀ sg : Int32, x_cok sg = true → ((f10_atSign μc1 (60 : Int32)).bind fun x2 => (if x2 = 0 then ((f10_atSign μc1 (62 : Int32)).bind fun x3 => (if x3 = 0 then (f5_readTest_j42 (22 + pL P) 0 (61 : Int32) μc1) else (f5_readTest_j42 (22 + pL P) 0 (62 : Int32) μc1))) else (f5_readTest_j42 (22 + pL P) 0 (60 : Int32) μc1))) = some (x_wr (x_wr (x_wr (x_wr μc1 (22 + pL P) 4 1) (22 + pL P) 5 0) (22 + pL P) 6 sg) (22 + pL P) 7 0) → ∃ μc' μm', (((f10_atSign μc1 (60 : Int32)).bind fun x2 => (if x2 = 0 then ((f10_atSign μc1 (62 : Int32)).bind fun x3 => (if x3 = 0 then (f5_readTest_j42 (22 + pL P) 0 (61 : Int32) μc1) else (f5_readTest_j42 (22 + pL P) 0 (62 : Int32) μc1))) else (f5_readTest_j42 (22 + pL P) 0 (60 : Int32) μc1))).bind fun μ11 => (f5_readLayer_j84 (22 + pL P) (nI 2) μ11)) = some μc' ∧ (∀ K f, (((f12_numberTo (3 : Int32) μm).bind fun q25 => (x_ast q25.2 171 8 (nI (pL P)) q25.1 fun μ26 => (if (μ26 162 33) = 0 then ((f12_is μ26 (60 : Int32)).bind fun x30 => (if x30 = 0 then ((f12_is μ26 (62 : Int32)).bind fun x34 => (if x34 = 0 then ((f12_is μ26 (61 : Int32)).bind fun x35 => (if x35 = 0 then (f12_readLayer_j144 (nI (pL P)) (0 : Int32) μ26) else (f12_readLayer_j139 (nI (pL P)) μ26))) else (f12_readLayer_j139 (nI (pL P)) μ26))) else (f12_readLayer_j139 (nI (pL P)) μ26))) else (f12_readLayer_j172 (nI (pL P)) μ26)))).bind fun μ18 => f12_read_j275 (f12_read_l64 K (f + 1)) μ18) = K μm') ∧ FX μc' μm' ∧ gs (pQ (pK P) (pT P) (pL P) (pB P)) μ0 μc' ∧ gs (pU (pK P) (pT P) (pL P) (pB P)) ω0 μm' := fun sg q e => by
      refine ⟨x_wr (x_wr (x_wr (x_wr μc1 (22 + pL P) 4 1) (22 + pL P) 5 0) (22 + pL P) 6 sg) (22 + pL P) 7 0, _, ?_, D, v4.of (fun b => c126 μc1 _ _ _ b) (by rw [w_wr, if_neg (by decide), x_wr_rd (by decide), x_wr_rd (by decide)]) (by rw [w_wr, if_neg (by decide), x_wr_rd (by decide), x_wr_rd (by decide)]), gc.trans ((pQ6 v6).trans (p22 w hL (cG μc1 _ _ _))), (((gm.trans (pU3 v7)).wr (pUy (by omega))).wr (pUy (by omega))).wr (pUy (by omega))⟩
      rw [e, Option.bind_some, cf_84 (cF μc1 _ _ _ v4.c)]
    have s60 := (t_as v5 (s := 60) (by decide)).1
    have s62 := (t_as v5 (s := 62) (by decide)).1
    by_cases z0 : (2 : Nat) = 3 ∧ β a = 60
    · omega
    · by_cases z1 : (2 : Nat) = 3 ∧ β a = 62
      · omega
      · exact fin 61 (by decide) (by rw [show f10_atSign μc1 60 = _ from s60, Option.bind_some, if_neg z0, if_pos rfl, show f10_atSign μc1 62 = _ from s62, Option.bind_some, if_neg z1, if_pos rfl]; exact tail 61 (by decide))
