/-! PURE: read: all of a body -/
theorem u_way {β : Nat → Nat} {n k a e : Nat} {μc μm : xMu} (h : KT β n k a e μc μm) : f12_wayOfWord μm = some (cN (-1000000) (wix k (tx β a e) nWay)) := by
  have q0 : (lg_cmp (lN (wN k (tx β a e))) (108187649798757 : Int64) = 0) = (k = 1 ∧ tx β a e = [98, 101, 102, 111, 114, 101]) := wis _ (by decide +kernel) h.let (by decide) (by decide) (by decide)
  have q1 : (lg_cmp (lN (wN k (tx β a e))) (108187682958948 : Int64) = 0) = (k = 1 ∧ tx β a e = [98, 101, 104, 105, 110, 100]) := wis _ (by decide +kernel) h.let (by decide) (by decide) (by decide)
  have q2 : (lg_cmp (lN (wN k (tx β a e))) (107144124132964 : Int64) = 0) = (k = 1 ∧ tx β a e = [97, 114, 111, 117, 110, 100]) := wis _ (by decide +kernel) h.let (by decide) (by decide) (by decide)
  have q3 : (lg_cmp (lN (wN k (tx β a e))) (29676314707714404 : Int64) = 0) = (k = 1 ∧ tx β a e = [105, 110, 115, 116, 101, 97, 100]) := wis _ (by decide +kernel) h.let (by decide) (by decide) (by decide)
  unfold f12_wayOfWord wix nWay
  rw [h.wd, Option.bind_some, ix4]
  by_cases c : k = 1
  · rw [if_pos c]
    by_cases z0 : tx β a e = [98, 101, 102, 111, 114, 101]
    · rw [if_pos (q0.mpr ⟨c, z0⟩), if_pos z0]
      rfl
    · rw [if_neg (fun y => z0 (q0.mp y).2), if_neg z0]
      by_cases z1 : tx β a e = [98, 101, 104, 105, 110, 100]
      · rw [if_pos (q1.mpr ⟨c, z1⟩), if_pos z1]
        rfl
      · rw [if_neg (fun y => z1 (q1.mp y).2), if_neg z1]
        by_cases z2 : tx β a e = [97, 114, 111, 117, 110, 100]
        · rw [if_pos (q2.mpr ⟨c, z2⟩), if_pos z2]
          rfl
        · rw [if_neg (fun y => z2 (q2.mp y).2), if_neg z2]
          by_cases z3 : tx β a e = [105, 110, 115, 116, 101, 97, 100]
          · rw [if_pos (q3.mpr ⟨c, z3⟩), if_pos z3]
            rfl
          · rw [if_neg (fun y => z3 (q3.mp y).2), if_neg z3]
            rfl
  · rw [if_neg (fun y => c (q0.mp y).1), if_neg (fun y => c (q1.mp y).1), if_neg (fun y => c (q2.mp y).1), if_neg (fun y => c (q3.mp y).1), if_neg c]
    rfl
def bgB (B : Nat) (o k r v : Int32) (μ : xMu) : xMu := x_wr (x_wr (x_wr (x_wr (x_wr μ (30 + 4 * B) 4 o) (30 + 4 * B) 6 k) (30 + 4 * B) 7 r) (30 + 4 * B) 5 v) (30 + 4 * B) 3 0
theorem bgBE {B : Nat} {o k r v : Int32} {μ : xMu} (h : x_isb (30 + 4 * B) 1 = true) : f1_begin (30 + 4 * B) o k r v μ = some (bgB B o k r v μ) := by
  unfold f1_begin bgB
  rw [a_chk h, a_put, a_put, a_put, a_put, a_put]
theorem bgBG {B : Nat} {o k r v : Int32} {μ : xMu} : gs (fun a _ => decide (30 + 4 * B ≤ a ∧ a ≤ 33 + 4 * B)) μ (bgB B o k r v μ) := ((((gs.refl.wr (decide_eq_true (by omega))).wr (decide_eq_true (by omega))).wr (decide_eq_true (by omega))).wr (decide_eq_true (by omega))).wr (decide_eq_true (by omega))
def q0B (o kd rt wy : Nat) : Nat → Nat → Nat := fun x z => if x = 4 then (if z = 0 then o else if z = 1 then kd else if z = 2 then rt else if z = 3 then wy else 0) else 0
theorem bgBC {B o kd rt wy : Nat} {μ : xMu} : BC B (q0B o kd rt wy) (bgB B (cN (-1) o) (nI kd) (nI rt) (nI wy) μ) := by
  unfold bgB
  refine ⟨?_, ?_, ?_, ?_, ?_, fun i hi => absurd hi (Nat.not_lt_zero i)⟩
  · rw [w_wr, if_pos ⟨rfl, rfl⟩]; rfl
  · rw [w_wr, if_neg (by omega), w_wr, if_neg (by omega), w_wr, if_neg (by omega), w_wr, if_neg (by omega), w_wr, if_pos ⟨rfl, rfl⟩]; rfl
  · rw [w_wr, if_neg (by omega), w_wr, if_pos ⟨rfl, rfl⟩]; rfl
  · rw [w_wr, if_neg (by omega), w_wr, if_neg (by omega), w_wr, if_neg (by omega), w_wr, if_pos ⟨rfl, rfl⟩]; rfl
  · rw [w_wr, if_neg (by omega), w_wr, if_neg (by omega), w_wr, if_pos ⟨rfl, rfl⟩]; rfl
theorem bodK {P : xP} {β : Nat → Nat} {n k a e a0 o : Nat} {μ0 ω0 μc μm : xMu} (w : Pwf P) (hB : pB P < 24) (ho : o ≤ pL P) (kt : KT β n k a e μc μm) (nf : NF μc μm) (pc : PC P μc) (pmx : PMx P μm) (c : μm 162 35 = nI (pK P) ∧ μm 162 36 = nI (pT P) ∧ μm 162 37 = nI (pL P) ∧ μm 162 38 = nI (pB P)) (e6 : μm 176 (pB P) = cN (-1000000) o) (ha : a0 < a) (gc : gs (pQ (pK P) (pT P) (pL P) (pB P)) μ0 μc) (gm : gs (pU (pK P) (pT P) (pL P) (pB P)) ω0 μm) :
    RT P β n a0 μ0 ω0 ((f5_takeNumber (nI (pK P)) μc).bind fun q4 => ((f5_takeNumber (4 : Int32) q4.2).bind fun q5 => ((f5_takeWord 916 q5.2).bind fun q6 => (x_chk (30 + 4 * pB P) 1 ((f1_begin (30 + 4 * pB P) (cN (-1) o) q4.1 q5.1 q6.1 q6.2).bind fun μ8 => (f5_readBody_l82 (fun (μ11 : xMu) => (f5_readBody_j119 μ11)) 1000 (30 + 4 * pB P) (0 : Int32) μ8)))))) (fun K f => (f12_readBody_j47 (nI (pB P)) μm).bind fun μ18 => f12_read_j275 (f12_read_l64 K f) μ18) := by
  have chk : x_isb (30 + 4 * pB P) 1 = true := (r_body (pB P) hB).2.1
  have hK8 := w.1.1
  have cG : ∀ (v1 v2 v3 v4 : Int32) (ν : xMu) (b : Nat), (bgB (pB P) v1 v2 v3 v4 ν) 126 b = ν 126 b := fun v1 v2 v3 v4 ν b => bgBG 126 b (decide_eq_false (by omega))
  unfold f12_readBody_j47
  rw [c.1]
  rcases j_num (m := pK P) kt nf (by omega) (cnt1 (by omega)) with ⟨kd, k1, a1, e1, μc1, μm1, v1, v2, v3, v4, v5, v6, v7, v8⟩ | ⟨v, μc1, μm1, v2, v3, v4, v5, v6, v7⟩
  · rw [v2, Option.bind_some]
    simp only [v3, Option.bind_some, a_ast hB (show 24 < 2 ^ 31 by decide)]
    have ktA : KT β n k1 a1 e1 μc1 (x_wr μm1 177 (pB P) (nI kd)) := v4.of (fun _ _ _ => rfl) (fun a b p => x_wr_rd (by omega))
    have nfA : NF μc1 (x_wr μm1 177 (pB P) (nI kd)) := ⟨v5.1, by rw [x_wr_rd (by decide)]; exact v5.2⟩
    have gmA : gs (pU (pK P) (pT P) (pL P) (pB P)) μm (x_wr μm1 177 (pB P) (nI kd)) := (pU3 v8).wr (pUy (by omega))
    rcases j_num (m := 4) (vm := 3) ktA nfA (by decide) (by decide) with ⟨rt, k2, a2, e2, μc2, μm2, t1, t2, t3, t4, t5, t6, t7, t8⟩ | ⟨v, μc2, μm2, t2, t3, t4, t5, t6, t7⟩
    · rw [show f5_takeNumber 4 μc1 = _ from t2, Option.bind_some]
      simp only [t3, Option.bind_some, a_ast hB (show 24 < 2 ^ 31 by decide)]
      let ν := x_wr (x_wr μm2 178 (pB P) (nI rt)) 180 (pB P) 0
      have nu : ∀ a b, a ≠ 178 → a ≠ 180 → ν a b = μm2 a b := fun a b p q => by
        show (x_wr (x_wr μm2 178 (pB P) (nI rt)) 180 (pB P) 0) a b = _
        rw [x_wr_rd q, x_wr_rd p]
      have ktν : KT β n k2 a2 e2 μc2 ν := t4.of (fun _ _ _ => rfl) (fun a b p => nu a b (by omega) (by omega))
      have nfν : NF μc2 ν := ⟨t5.1, by rw [nu _ _ (by decide) (by decide)]; exact t5.2⟩
      have gmν : gs (pU (pK P) (pT P) (pL P) (pB P)) μm ν := ((gmA.trans (pU3 t8)).wr (pUy (by omega))).wr (pUy (by omega))
      have w4 : wix k2 (tx β a2 e2) nWay ≤ 4 := wix4
      have TW := t_tw ktν nfν.1 (c := 916) (L := 28) (by decide) (by decide) ly916 (by decide) (show wix k2 (tx β a2 e2) nWay ≤ 100 by omega)
      have m62 : ∀ b, 35 ≤ b → ν 162 b = μm 162 b := fun b p => by
        rw [nu _ _ (by decide) (by decide), t8 _ _ (decide_eq_false (by omega)), x_wr_rd (by decide), v8 _ _ (decide_eq_false (by omega))]
      have e33 : (x_wr (x_wr μm2 178 (pB P) (nI rt)) 180 (pB P) 0) 162 33 = 0 := nfν.2
      have D : ∀ (K : xMu → Option (Int32 × xMu)) (f : Nat), ((if (x_wr (x_wr μm2 178 (pB P) (nI rt)) 180 (pB P) 0) 162 33 = 0 then ((f12_wayOfWord (x_wr (x_wr μm2 178 (pB P) (nI rt)) 180 (pB P) 0)).bind fun x14 => (x_ald (x_wr (x_wr (x_wr μm2 178 (pB P) (nI rt)) 180 (pB P) 0) 179 (pB P) x14) 179 24 (nI (pB P)) fun x16 => (if x16 = (-1000000 : Int32) then (f12_readBody_j115 (nI (pB P)) (0 : Int32) (x_wr (x_wr (x_wr μm2 178 (pB P) (nI rt)) 180 (pB P) 0) 179 (pB P) x14)) else (f12_readBody_j115 (nI (pB P)) (1 : Int32) (x_wr (x_wr (x_wr μm2 178 (pB P) (nI rt)) 180 (pB P) 0) 179 (pB P) x14))))) else (f12_readBody_l118 (fun (μ12 : xMu) => (f12_readBody_j148 μ12)) 1000 (nI (pB P)) (x_wr (x_wr μm2 178 (pB P) (nI rt)) 180 (pB P) 0))).bind fun μ18 => f12_read_j275 (f12_read_l64 K f) μ18) = ((f12_must (if wix k2 (tx β a2 e2) nWay = 0 then 0 else 1) (x_wr ν 179 (pB P) (cN (-1000000) (wix k2 (tx β a2 e2) nWay)))).bind fun μ17 => (f12_readBody_l118 (fun (μ18 : xMu) => (f12_readBody_j148 μ18)) 1000 (nI (pB P)) μ17)).bind fun μ18 => f12_read_j275 (f12_read_l64 K f) μ18 := fun K f => by
        rw [if_pos e33, show f12_wayOfWord (x_wr (x_wr μm2 178 (pB P) (nI rt)) 180 (pB P) 0) = _ from u_way ktν, Option.bind_some, a_ald hB (by decide), show (x_wr (x_wr (x_wr μm2 178 (pB P) (nI rt)) 180 (pB P) 0) 179 (pB P) (cN (-1000000) (wix k2 (tx β a2 e2) nWay))) 179 (pB P) = cN (-1000000) (wix k2 (tx β a2 e2) nWay) from by rw [w_wr, if_pos ⟨rfl, rfl⟩]]
        unfold f12_readBody_j115
        by_cases z : wix k2 (tx β a2 e2) nWay = 0
        · rw [if_pos ((cN_no (by omega)).mpr z), if_pos z]
        · rw [if_neg (fun y => z ((cN_no (by omega)).mp y)), if_neg z]
      simp only [D]
      have ktW : KT β n k2 a2 e2 μc2 (x_wr ν 179 (pB P) (cN (-1000000) (wix k2 (tx β a2 e2) nWay))) := ktν.of (fun _ _ _ => rfl) (fun a b p => x_wr_rd (by omega))
      have nfW : NF μc2 (x_wr ν 179 (pB P) (cN (-1000000) (wix k2 (tx β a2 e2) nWay))) := ⟨t5.1, by rw [x_wr_rd (by decide)]; exact nfν.2⟩
      have gmW : gs (pU (pK P) (pT P) (pL P) (pB P)) μm (x_wr ν 179 (pB P) (cN (-1000000) (wix k2 (tx β a2 e2) nWay))) := gmν.wr (pUy (by omega))
      have gc2 : gs (pQ (pK P) (pT P) (pL P) (pB P)) μc μc2 := (pQ6 v7).trans (pQ6 t7)
      by_cases z : wix k2 (tx β a2 e2) nWay = 0
      · right
        rw [if_pos z] at TW
        obtain ⟨μc', μm', x1, x2, x3, x4, x5, x6⟩ := j_bad (f := 1) ktW nfW (by decide) (by decide)
        obtain ⟨g, g1, g2, g7⟩ := x3.m
        rw [show f5_refuse 1 μc2 = _ from x1, Option.bind_some] at TW
        rw [TW, Option.bind_some]
        dsimp only
        rw [a_chk chk, bgBE chk, Option.bind_some, cf_82 (f := 999) ((cG _ _ _ _ _ 2).trans x3.c)]
        refine ⟨_, x_wr μm' 162 38 (μm' 162 38 + 1), rfl, fun K f => ?_, x3.of (fun b => cG _ _ _ _ _ b) (by rw [w_wr, if_neg (by decide)]) (by rw [w_wr, if_neg (by decide)]), ((gc.trans gc2).trans (pQ6 x5)).trans (p30 hB bgBG), ((gm.trans gmW).trans (pU3 x6)).wr (pUy (by omega))⟩
        rw [if_pos z, j_must0, show f12_bad 1 (x_wr ν 179 (pB P) (cN (-1000000) (wix k2 (tx β a2 e2) nWay))) = _ from x2, Option.bind_some, j_m9 g7 g1 g2, Option.bind_some]
        exact mbT (f' := 999) g7 g1 g2
      · have k21 := wix1 z
        subst k21
        rw [if_neg z] at TW
        obtain ⟨k3, a3, e3, μc3, μm3, x1, x2, x3, x4, x5, x6⟩ := j_nx ktW (by decide)
        have nf3 := nfW.nx x5 x6
        rw [x1, Option.bind_some] at TW
        rw [TW, Option.bind_some]
        dsimp only
        rw [a_chk chk, bgBE chk, Option.bind_some]
        have M : f12_must 1 (x_wr ν 179 (pB P) (cN (-1000000) (wix 1 (tx β a2 e2) nWay))) = some μm3 := by rw [j_must1 nfW.2]; exact x2
        simp only [if_neg z, M, Option.bind_some]
        obtain ⟨wy, hwy⟩ : ∃ wy, wy = wix 1 (tx β a2 e2) nWay - 1 := ⟨_, rfl⟩
        have cw : cN (-1000000) (wix 1 (tx β a2 e2) nWay) = nI wy := by unfold cN; rw [if_neg z, hwy]
        rw [← hwy]
        have gcF : gs (pQ (pK P) (pT P) (pL P) (pB P)) μc (bgB (pB P) (cN (-1) o) (nI kd) (nI rt) (nI wy) μc3) := (gc2.trans (pQ6 (p26o x5))).trans (p30 hB bgBG)
        have gmF : gs (pU (pK P) (pT P) (pL P) (pB P)) μm μm3 := gmW.trans (pU3 (p33o x6))
        have cGo : ∀ a b, a < 30 ∨ 126 ≤ a → (bgB (pB P) (cN (-1) o) (nI kd) (nI rt) (nI wy) μc3) a b = μc3 a b := fun a b p => bgBG a b (decide_eq_false (by omega))
        have x6' : ∀ a b, a ≠ 162 → μm3 a b = (x_wr ν 179 (pB P) (cN (-1000000) (wix 1 (tx β a2 e2) nWay))) a b := fun a b p => x6 a b (decide_eq_false (by omega))
        have c62 : ∀ b, 35 ≤ b → μm3 162 b = μm 162 b := fun b p => by
          rw [x6 _ _ (decide_eq_false (by omega)), x_wr_rd (by decide)]; exact m62 b p
        refine actsR w hB 6 k3 a3 e3 0 1000 1000 (q0B o kd rt wy) _ _ (by decide) (by decide) (by decide) rfl ⟨ho, v1, t1, show wy < 4 by omega, Nat.zero_le 6, fun i hi => absurd hi (Nat.not_lt_zero i)⟩ (x3.of (fun a b p => cGo a b (by omega)) (fun _ _ _ => rfl)) ⟨(cGo 126 2 (by omega)).trans nf3.1, nf3.2⟩ (PCq w pc gcF (fun j p r => ?_)) (PMq w pmx gmF) ⟨by rw [c62 35 (by decide)]; exact c.1, by rw [c62 36 (by decide)]; exact c.2.1, by rw [c62 37 (by decide)]; exact c.2.2.1, by rw [c62 38 (by decide)]; exact c.2.2.2⟩ bgBC ⟨?_, ?_, ?_, ?_, ?_, fun i hi => absurd hi (Nat.not_lt_zero i)⟩ (by omega) (gc.trans gcF) (gm.trans gmF)
        · rw [cGo _ _ (by omega), x5 _ _ (decide_eq_false (by omega)), t7 _ _ (decide_eq_false (by omega)), v7 _ _ (decide_eq_false (by omega))]
        · rw [x6' _ _ (by decide), x_wr_rd (by decide)]
          show (x_wr (x_wr μm2 178 (pB P) (nI rt)) 180 (pB P) 0) 180 (pB P) = _
          rw [w_wr, if_pos ⟨rfl, rfl⟩]
          rfl
        · rw [x6' _ _ (by decide), x_wr_rd (by decide), nu _ _ (by decide) (by decide), t8 _ _ (decide_eq_false (by omega)), x_wr_rd (by decide), v8 _ _ (decide_eq_false (by omega))]
          exact e6
        · rw [x6' _ _ (by decide), w_wr, if_pos ⟨rfl, rfl⟩, cw]
          rfl
        · rw [x6' _ _ (by decide), x_wr_rd (by decide), nu _ _ (by decide) (by decide), t8 _ _ (decide_eq_false (by omega)), w_wr, if_pos ⟨rfl, rfl⟩]
          rfl
        · rw [x6' _ _ (by decide), x_wr_rd (by decide)]
          show (x_wr (x_wr μm2 178 (pB P) (nI rt)) 180 (pB P) 0) 178 (pB P) = _
          rw [x_wr_rd (by decide), w_wr, if_pos ⟨rfl, rfl⟩]
          rfl
    · right
      obtain ⟨g, g1, g2, g7⟩ := t4.m
      rw [show f5_takeNumber 4 μc1 = _ from t2, Option.bind_some]
      dsimp only
      rw [cf_wrd t4.c, Option.bind_some]
      dsimp only
      rw [a_chk chk, bgBE chk, Option.bind_some, cf_82 (f := 999) ((cG _ _ _ _ _ 2).trans t4.c)]
      refine ⟨_, x_wr (x_wr (x_wr μm2 178 (pB P) v) 180 (pB P) 0) 162 38 ((x_wr (x_wr μm2 178 (pB P) v) 180 (pB P) 0) 162 38 + 1), rfl, fun K f => ?_, t4.of (fun b => cG _ _ _ _ _ b) (by rw [w_wr, if_neg (by decide), x_wr_rd (by decide), x_wr_rd (by decide)]) (by rw [w_wr, if_neg (by decide), x_wr_rd (by decide), x_wr_rd (by decide)]), ((gc.trans (pQ6 v7)).trans (pQ6 t6)).trans (p30 hB bgBG), ((((gm.trans gmA).trans (pU3 t7)).wr (pUy (by omega))).wr (pUy (by omega))).wr (pUy (by omega))⟩
      rw [t3, Option.bind_some]
      dsimp only
      rw [if_neg (show ¬ (x_wr (x_wr μm2 178 (pB P) v) 180 (pB P) 0) 162 33 = 0 by rw [x_wr_rd (by decide), x_wr_rd (by decide), g7]; exact ne33 g1 g2)]
      exact mbT (f' := 999) (by rw [x_wr_rd (by decide), x_wr_rd (by decide)]; exact g7) g1 g2
  · right
    obtain ⟨g, g1, g2, g7⟩ := v4.m
    rw [v2, Option.bind_some]
    dsimp only
    rw [cf_num v4.c, Option.bind_some]
    dsimp only
    rw [cf_wrd v4.c, Option.bind_some]
    dsimp only
    rw [a_chk chk, bgBE chk, Option.bind_some, cf_82 (f := 999) ((cG _ _ _ _ _ 2).trans v4.c)]
    refine ⟨_, x_wr (x_wr (x_wr (x_wr μm1 177 (pB P) v) 178 (pB P) 0) 180 (pB P) 0) 162 38 ((x_wr (x_wr (x_wr μm1 177 (pB P) v) 178 (pB P) 0) 180 (pB P) 0) 162 38 + 1), rfl, fun K f => ?_, v4.of (fun b => cG _ _ _ _ _ b) (by rw [w_wr, if_neg (by decide), x_wr_rd (by decide), x_wr_rd (by decide), x_wr_rd (by decide)]) (by rw [w_wr, if_neg (by decide), x_wr_rd (by decide), x_wr_rd (by decide), x_wr_rd (by decide)]), (gc.trans (pQ6 v6)).trans (p30 hB bgBG), ((((gm.trans (pU3 v7)).wr (pUy (by omega))).wr (pUy (by omega))).wr (pUy (by omega))).wr (pUy (by omega))⟩
    rw [v3, Option.bind_some]
    dsimp only
    rw [a_ast hB (by decide), mf_num (show (x_wr μm1 177 (pB P) v) 162 33 = nI g by rw [x_wr_rd (by decide)]; exact g7) g1 g2, Option.bind_some]
    dsimp only
    rw [a_ast hB (by decide), a_ast hB (by decide)]
    rw [if_neg (show ¬ (x_wr (x_wr (x_wr μm1 177 (pB P) v) 178 (pB P) 0) 180 (pB P) 0) 162 33 = 0 by rw [x_wr_rd (by decide), x_wr_rd (by decide), x_wr_rd (by decide), g7]; exact ne33 g1 g2)]
    exact mbT (f' := 999) (by rw [x_wr_rd (by decide), x_wr_rd (by decide), x_wr_rd (by decide)]; exact g7) g1 g2
