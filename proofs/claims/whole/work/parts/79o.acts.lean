/-! PURE: read: a body's acts, one after the other -/
theorem p30 {P : xP} {μ μ' : xMu} (hB : pB P < 24) (g : gs (fun a _ => decide (30 + 4 * pB P ≤ a ∧ a ≤ 33 + 4 * pB P)) μ μ') : gs (pQ (pK P) (pT P) (pL P) (pB P)) μ μ' := g.mono (fun a b q => pQy (by have := of_decide_eq_true q; omega))
theorem m259 {B : Nat} {x : Nat} {μ : xMu} (hB : B < 24) (h : μ 180 B = nI x) : f12_readAct_j259 (nI B) μ = some (x_wr μ 180 B (nI (x + 1))) := by
  unfold f12_readAct_j259
  rw [a_ald hB (by decide), h, a_ast hB (by decide), nI_1]
theorem actsR {P : xP} {β : Nat → Nat} {n a0 : Nat} {μ0 ω0 : xMu} (w : Pwf P) (hB : pB P < 24) : ∀ (m k a e i f f' : Nat) (q : Nat → Nat → Nat) (μc μm : xMu), i + m = 6 → m + 2 ≤ f → m + 2 ≤ f' → q 4 4 = i → Bwf P q → KT β n k a e μc μm → NF μc μm → PC P μc → PMx P μm → (μm 162 35 = nI (pK P) ∧ μm 162 36 = nI (pT P) ∧ μm 162 37 = nI (pL P) ∧ μm 162 38 = nI (pB P)) → BC (pB P) q μc → BM (pB P) q μm → a0 < a → gs (pQ (pK P) (pT P) (pL P) (pB P)) μ0 μc → gs (pU (pK P) (pT P) (pL P) (pB P)) ω0 μm →
    RT P β n a0 μ0 ω0 (f5_readBody_l82 (fun (μ11 : xMu) => (f5_readBody_j119 μ11)) f (30 + 4 * pB P) (nI i) μc) (fun K f2 => (f12_readBody_l118 (fun (μ18 : xMu) => (f12_readBody_j148 μ18)) f' (nI (pB P)) μm).bind fun μ18 => f12_read_j275 (f12_read_l64 K f2) μ18) := by
  intro m
  have chk : x_isb (30 + 4 * pB P) 1 = true := (r_body (pB P) hB).2.1
  have hT8 := w.1.2.1
  have hL8 := w.1.2.2.1
  induction m with
  | zero =>
    intro k a e i f f' q μc μm him hf hf' q4 bw kt nf pc pmx cnt bc bm ha gc gm
    obtain ⟨f, rfl⟩ : ∃ z, f = z + 2 := ⟨f - 2, by omega⟩
    obtain ⟨f', rfl⟩ : ∃ z, f' = z + 2 := ⟨f' - 2, by omega⟩
    have hi : i = 6 := by omega
    have way4 := bw.2.2.2.1
    have C : f5_readBody_l82 (fun (μ11 : xMu) => (f5_readBody_j119 μ11)) (f + 2) (30 + 4 * pB P) (nI i) μc = if k = 3 ∧ β a = 59 then f5_readBody_j119 μc else ((f5_readAct (30 + 4 * pB P) μc).bind fun μ10 => (f5_readBody_l82 (fun (μ11 : xMu) => (f5_readBody_j119 μ11)) (f + 1) (30 + 4 * pB P) (nI (i + 1)) μ10)) := by
      conv => lhs; unfold f5_readBody_l82
      rw [if_neg (show ¬ (6 : Int32) < nI i from nI_nlt (a := 6) (by omega) (by omega)), nf.1, if_pos rfl, show f10_atSign μc 59 = _ from (t_as kt (s := 59) (by decide)).1, Option.bind_some, nI_1]
      by_cases y : k = 3 ∧ β a = 59
      · rw [if_pos y, if_pos y, if_neg (by decide)]
      · rw [if_neg y, if_neg y, if_pos rfl]
    have D : f12_readBody_l118 (fun (μ18 : xMu) => (f12_readBody_j148 μ18)) (f' + 2) (nI (pB P)) μm = if wA k (tx β a e) (q 4 3) = 0 then some (x_wr μm 162 38 (nI (pB P + 1))) else ((f12_readAct (nI (pB P)) μm).bind fun μ11 => (f12_readBody_l118 (fun (μ18 : xMu) => (f12_readBody_j148 μ18)) (f' + 1) (nI (pB P)) μ11)) := by
      have w7 := wix7 (k := k) (T := tx β a e)
      have wA7 : wA k (tx β a e) (q 4 3) < 1000 := by unfold wA; split <;> omega
      conv => lhs; unfold f12_readBody_l118
      rw [nf.2, if_pos rfl, a_ald hB (by decide), bm.2.2.1, u_actw kt way4, Option.bind_some]
      by_cases y : wA k (tx β a e) (q 4 3) = 0
      · rw [if_pos ((cN_no wA7).mpr y), if_pos y, m148, cnt.2.2.2, nI_1]
      · rw [if_neg (fun x => y ((cN_no wA7).mp x)), if_neg y]
    have gm38 : gs (pU (pK P) (pT P) (pL P) (pB P)) μm (x_wr μm 162 38 (nI (pB P + 1))) := gs.refl.wr (pUy (by omega))
    have kt38 : KT β n k a e μc (x_wr μm 162 38 (nI (pB P + 1))) := kt.of (fun _ _ _ => rfl) (fun a b z => by rw [w_wr, if_neg (by omega)])
    have nf38 : NF μc (x_wr μm 162 38 (nI (pB P + 1))) := ⟨nf.1, by rw [w_wr, if_neg (by decide)]; exact nf.2⟩
    by_cases y : k = 3 ∧ β a = 59
    · have w0 : wA k (tx β a e) (q 4 3) = 0 := by unfold wA wix; rw [if_neg (show ¬ k = 1 by omega), if_neg (by omega)]
      rw [C, if_pos y]
      simp only [D, w0, if_true, Option.bind_some]
      exact bEnd w hB bw kt38 nf38 pc (PMq w pmx gm38) ⟨cnt.1, cnt.2.1, cnt.2.2.1, rfl⟩ bc (bm.of (fun a b p r => by rw [w_wr, if_neg (by omega)])) ha gc (gm.trans gm38)
    · rw [if_neg y, t_ract kt way4 chk bc.2.2.1] at C
      by_cases z : wA k (tx β a e) (q 4 3) = 0
      · right
        rw [if_pos z] at C D
        obtain ⟨μc', μm', x1, x2, x3, x4, x5, x6⟩ := j_bad (f := 1) kt38 nf38 (by decide) (by decide)
        obtain ⟨g, g1, g2, g7⟩ := x3.m
        rw [show f5_refuse 1 μc = _ from x1, Option.bind_some, Option.bind_some, cf_82 x3.c] at C
        refine ⟨μc', μm', C, fun K f2 => ?_, x3, gc.trans (pQ6 x5), (gm.trans gm38).trans (pU3 x6)⟩
        dsimp only
        rw [D, Option.bind_some]
        unfold f12_read_j275 f12_read_j292
        rw [nf38.2, if_pos rfl, show f12_is (x_wr μm 162 38 (nI (pB P + 1))) 59 = _ from (t_as kt38 (s := 59) (by decide)).2, Option.bind_some, if_neg y, j_must0, show f12_bad 1 (x_wr μm 162 38 (nI (pB P + 1))) = _ from x2, Option.bind_some, j_m9 g7 g1 g2, Option.bind_some, rf_64 g7 g1 g2]
      · right
        rw [if_neg z] at C D
        obtain ⟨μc', μm', x1, x2, x3, x4, x5, x6⟩ := j_bad (f := 3) kt nf (by decide) (by decide)
        obtain ⟨g, g1, g2, g7⟩ := x3.m
        unfold f5_readAct_j35 at C
        rw [a_chk chk, bc.1, q4, hi, if_neg (by decide), show f5_refuse 3 μc = _ from x1, Option.bind_some, Option.bind_some, cf_82 x3.c] at C
        unfold f12_readAct f12_readAct_j27 at D
        rw [a_ald hB (by decide), bm.2.2.1, u_actw kt way4, Option.bind_some, a_ald hB (by decide), bm.1, q4, hi, if_pos (show nI 6 = 6 from rfl), show f12_bad 3 μm = _ from x2, Option.bind_some, mf_must g7 g1 g2, Option.bind_some, g7, if_neg (nI_nle (by omega) (by omega)), Option.bind_some] at D
        refine ⟨μc', x_wr μm' 162 38 (μm' 162 38 + 1), by rw [hi]; exact C, fun K f2 => ?_, x3.of (fun _ => rfl) (by rw [w_wr, if_neg (by decide)]) (by rw [w_wr, if_neg (by decide)]), gc.trans (pQ6 x5), (gm.trans (pU3 x6)).wr (pUy (by omega))⟩
        dsimp only
        rw [D]
        exact mbT g7 g1 g2
  | succ m ih =>
    intro k a e i f f' q μc μm him hf hf' q4 bw kt nf pc pmx cnt bc bm ha gc gm
    obtain ⟨f, rfl⟩ : ∃ z, f = z + 2 := ⟨f - 2, by omega⟩
    obtain ⟨f', rfl⟩ : ∃ z, f' = z + 2 := ⟨f' - 2, by omega⟩
    have hi : i < 6 := by omega
    have way4 := bw.2.2.2.1
    have C : f5_readBody_l82 (fun (μ11 : xMu) => (f5_readBody_j119 μ11)) (f + 2) (30 + 4 * pB P) (nI i) μc = if k = 3 ∧ β a = 59 then f5_readBody_j119 μc else ((f5_readAct (30 + 4 * pB P) μc).bind fun μ10 => (f5_readBody_l82 (fun (μ11 : xMu) => (f5_readBody_j119 μ11)) (f + 1) (30 + 4 * pB P) (nI (i + 1)) μ10)) := by
      conv => lhs; unfold f5_readBody_l82
      rw [if_neg (show ¬ (6 : Int32) < nI i from nI_nlt (a := 6) (by omega) (by omega)), nf.1, if_pos rfl, show f10_atSign μc 59 = _ from (t_as kt (s := 59) (by decide)).1, Option.bind_some, nI_1]
      by_cases y : k = 3 ∧ β a = 59
      · rw [if_pos y, if_pos y, if_neg (by decide)]
      · rw [if_neg y, if_neg y, if_pos rfl]
    have D : f12_readBody_l118 (fun (μ18 : xMu) => (f12_readBody_j148 μ18)) (f' + 2) (nI (pB P)) μm = if wA k (tx β a e) (q 4 3) = 0 then some (x_wr μm 162 38 (nI (pB P + 1))) else ((f12_readAct (nI (pB P)) μm).bind fun μ11 => (f12_readBody_l118 (fun (μ18 : xMu) => (f12_readBody_j148 μ18)) (f' + 1) (nI (pB P)) μ11)) := by
      have w7 := wix7 (k := k) (T := tx β a e)
      have wA7 : wA k (tx β a e) (q 4 3) < 1000 := by unfold wA; split <;> omega
      conv => lhs; unfold f12_readBody_l118
      rw [nf.2, if_pos rfl, a_ald hB (by decide), bm.2.2.1, u_actw kt way4, Option.bind_some]
      by_cases y : wA k (tx β a e) (q 4 3) = 0
      · rw [if_pos ((cN_no wA7).mpr y), if_pos y, m148, cnt.2.2.2, nI_1]
      · rw [if_neg (fun x => y ((cN_no wA7).mp x)), if_neg y]
    have gm38 : gs (pU (pK P) (pT P) (pL P) (pB P)) μm (x_wr μm 162 38 (nI (pB P + 1))) := gs.refl.wr (pUy (by omega))
    have kt38 : KT β n k a e μc (x_wr μm 162 38 (nI (pB P + 1))) := kt.of (fun _ _ _ => rfl) (fun a b z => by rw [w_wr, if_neg (by omega)])
    have nf38 : NF μc (x_wr μm 162 38 (nI (pB P + 1))) := ⟨nf.1, by rw [w_wr, if_neg (by decide)]; exact nf.2⟩
    by_cases y : k = 3 ∧ β a = 59
    · have w0 : wA k (tx β a e) (q 4 3) = 0 := by unfold wA wix; rw [if_neg (show ¬ k = 1 by omega), if_neg (by omega)]
      rw [C, if_pos y]
      simp only [D, w0, if_true, Option.bind_some]
      exact bEnd w hB bw kt38 nf38 pc (PMq w pmx gm38) ⟨cnt.1, cnt.2.1, cnt.2.2.1, rfl⟩ bc (bm.of (fun a b p r => by rw [w_wr, if_neg (by omega)])) ha gc (gm.trans gm38)
    · rw [if_neg y, t_ract kt way4 chk bc.2.2.1] at C
      by_cases z : wA k (tx β a e) (q 4 3) = 0
      · right
        rw [if_pos z] at C D
        obtain ⟨μc', μm', x1, x2, x3, x4, x5, x6⟩ := j_bad (f := 1) kt38 nf38 (by decide) (by decide)
        obtain ⟨g, g1, g2, g7⟩ := x3.m
        rw [show f5_refuse 1 μc = _ from x1, Option.bind_some, Option.bind_some, cf_82 x3.c] at C
        refine ⟨μc', μm', C, fun K f2 => ?_, x3, gc.trans (pQ6 x5), (gm.trans gm38).trans (pU3 x6)⟩
        dsimp only
        rw [D, Option.bind_some]
        unfold f12_read_j275 f12_read_j292
        rw [nf38.2, if_pos rfl, show f12_is (x_wr μm 162 38 (nI (pB P + 1))) 59 = _ from (t_as kt38 (s := 59) (by decide)).2, Option.bind_some, if_neg y, j_must0, show f12_bad 1 (x_wr μm 162 38 (nI (pB P + 1))) = _ from x2, Option.bind_some, j_m9 g7 g1 g2, Option.bind_some, rf_64 g7 g1 g2]
      · rw [if_neg z] at C D
        have w7 := wix7 (k := k) (T := tx β a e)
        have k1 : k = 1 := wix1 (Ns := nAct) (T := tx β a e) (fun x => z (by unfold wA; rw [x, if_neg (by omega)]))
        subst k1
        obtain ⟨op, hop⟩ : ∃ op, op = wA 1 (tx β a e) (q 4 3) - 1 := ⟨_, rfl⟩
        have op7 : op < 7 := by
          rw [hop]
          unfold wA at z ⊢
          split
          · omega
          · omega
        have op3 : op = 3 → q 4 3 = 2 := by
          intro x
          rw [hop] at x
          unfold wA at x
          split at x
          · omega
          · next y' =>
            rcases Nat.lt_or_ge (q 4 3) 2 with u | u
            · exact absurd ⟨by omega, by omega⟩ y'
            · rcases Nat.eq_or_lt_of_le u with v | v
              · exact v.symm
              · exact absurd ⟨by omega, by omega⟩ y'
        have cop : cN (-1000000) (wA 1 (tx β a e) (q 4 3)) = nI op := by unfold cN; rw [if_neg z, hop]
        rw [← hop] at C
        obtain ⟨k1, a1, e1, μc1, μm1, x1, x2, x3, x4, x5, x6⟩ := j_nx kt (by decide)
        have nf1 := nf.nx x5 x6
        have gc1 : gs (pQ (pK P) (pT P) (pL P) (pB P)) μc μc1 := pQ6 (p26o x5)
        have gm1 : gs (pU (pK P) (pT P) (pL P) (pB P)) μm μm1 := pU3 (p33o x6)
        have pc1 := PCq w pc gc1 (fun j _ _ => x5 16 j (decide_eq_false (by omega)))
        have bc1 : BC (pB P) q μc1 := bc.of (fun a j _ _ => x5 _ _ (decide_eq_false (by omega)))
        have bm1 : BM (pB P) q μm1 := bm.of (fun a j _ _ => x6 _ _ (decide_eq_false (by omega)))
        let v3 := 18 * pB P + 3 * i
        let μ8 := x_wr (x_wr (x_wr μm1 181 v3 (nI op)) 181 (v3 + 1) 0) 181 (v3 + 2) 0
        have hv3 : v3 + 2 < 432 := by show 18 * pB P + 3 * i + 2 < 432; omega
        have ei : ((18 : Int32) * nI (pB P)) + ((3 : Int32) * nI i) = nI v3 := by
          rw [show (18 : Int32) = nI 18 from rfl, show (3 : Int32) = nI 3 from rfl, pk_mul, pk_mul, nI_add]
        have ei1 : nI v3 + (1 : Int32) = nI (v3 + 1) := nI_1 v3
        have ei2 : nI v3 + (2 : Int32) = nI (v3 + 2) := nI_add v3 2
        have D2 : f12_readAct (nI (pB P)) μm = (if nI op = 0 then (f12_readAct_j88 (nI (pB P)) (nI v3) μ8) else (if nI op = (1 : Int32) then (f12_readAct_j88 (nI (pB P)) (nI v3) μ8) else (if nI op = (4 : Int32) then ((f12_numberTo ((μ8 162 36) - (1 : Int32)) μ8).bind fun q22 => (x_ast q22.2 181 432 (nI (v3 + 1)) q22.1 fun μ23 => ((f12_numberTo (3 : Int32) μ23).bind fun q24 => (x_ast q24.2 181 432 (nI (v3 + 2)) q24.1 fun μ25 => (f12_readAct_j259 (nI (pB P)) μ25))))) else (if nI op = (5 : Int32) then (f12_readAct_l158 (fun (y14 : Int32) (y15 : Int32) (y16 : Int32) (μ17 : xMu) => (f12_readAct_j199 y14 y15 y16 μ17)) 1000 (nI (pB P)) (nI v3) (0 : Int32) (μ8 162 31) μ8) else (f12_readAct_j259 (nI (pB P)) μ8))))) := by
          unfold f12_readAct f12_readAct_j27
          rw [a_ald hB (by decide), bm.2.2.1, u_actw kt way4, Option.bind_some, a_ald hB (by decide), bm.1, q4, if_neg (show ¬ nI i = 6 from nI_ne (b := 6) (by omega) (by decide) (by omega)), j_must1 nf.2, x2, Option.bind_some, nf1.2, if_pos (show (0 : Int32) ≤ 0 by decide), a_ald hB (by decide), bm1.1, q4, cop, ei, ei1, ei2, a_ast (by omega) (by decide), a_ast (by omega) (by decide), a_ast (by omega) (by decide)]
        have C2 : f5_readAct_j35 (30 + 4 * pB P) (nI op) μc = (if nI op = 0 then (f5_readAct_j73 (30 + 4 * pB P) (nI op) (0 : Int32) μc1) else (if nI op = (1 : Int32) then (f5_readAct_j73 (30 + 4 * pB P) (nI op) (0 : Int32) μc1) else (if nI op = (4 : Int32) then ((f5_takeNumber (μc1 16 6) μc1).bind fun q10 => ((f5_takeNumber (4 : Int32) q10.2).bind fun q11 => (f5_readAct_j131 (30 + 4 * pB P) (nI op) q10.1 q11.1 q11.2))) else (if nI op = (5 : Int32) then ((f5_refuseUnwoken μc1).bind fun μ8 => ((f5_takeNumber (μ8 16 7) μ8).bind fun q9 => (f5_readAct_j131 (30 + 4 * pB P) (nI op) q9.1 (0 : Int32) q9.2))) else (f5_readAct_j131 (30 + 4 * pB P) (nI op) (0 : Int32) (0 : Int32) μc1))))) := by
          unfold f5_readAct_j35
          rw [a_chk chk, bc.1, q4, if_pos (show nI i < 6 from nI_lt (b := 6) hi (by decide)), x1, Option.bind_some]
        have m8 : ∀ a b, a ≠ 181 → μ8 a b = μm1 a b := fun a b p => by
          show (x_wr (x_wr (x_wr μm1 181 v3 (nI op)) 181 (v3 + 1) 0) 181 (v3 + 2) 0) a b = _
          rw [x_wr_rd p, x_wr_rd p, x_wr_rd p]
        have kt8 : KT β n k1 a1 e1 μc1 μ8 := x3.of (fun _ _ _ => rfl) (fun a b p => m8 a b (by omega))
        have nf8 : NF μc1 μ8 := ⟨nf1.1, by rw [m8 _ _ (by decide)]; exact nf1.2⟩
        have gm8 : gs (pU (pK P) (pT P) (pL P) (pB P)) μm μ8 := ((gm1.wr (pUy (by show _ ∨ _; omega))).wr (pUy (by show _ ∨ _; omega))).wr (pUy (by show _ ∨ _; omega))
        have c8 : ∀ b, 35 ≤ b → μ8 162 b = μm 162 b := fun b p => (m8 _ _ (by decide)).trans (x6 162 b (decide_eq_false (by omega)))
        have v8a : μ8 181 v3 = nI op := by
          show (x_wr (x_wr (x_wr μm1 181 v3 (nI op)) 181 (v3 + 1) 0) 181 (v3 + 2) 0) 181 v3 = _
          rw [w_wr, if_neg (by omega), w_wr, if_neg (by omega), w_wr, if_pos ⟨rfl, rfl⟩]
        have v8b : μ8 181 (v3 + 1) = nI 0 := by
          show (x_wr (x_wr (x_wr μm1 181 v3 (nI op)) 181 (v3 + 1) 0) 181 (v3 + 2) 0) 181 (v3 + 1) = _
          rw [w_wr, if_neg (by omega), w_wr, if_pos ⟨rfl, rfl⟩]
          rfl
        have v8c : μ8 181 (v3 + 2) = nI 0 := by
          show (x_wr (x_wr (x_wr μm1 181 v3 (nI op)) 181 (v3 + 1) 0) 181 (v3 + 2) 0) 181 (v3 + 2) = _
          rw [w_wr, if_pos ⟨rfl, rfl⟩]
          rfl
        have v8o : ∀ j, j < v3 → μ8 181 j = μm 181 j := fun j p => by
          show (x_wr (x_wr (x_wr μm1 181 v3 (nI op)) 181 (v3 + 1) 0) 181 (v3 + 2) 0) 181 j = _
          rw [w_wr, if_neg (by omega), w_wr, if_neg (by omega), w_wr, if_neg (by omega), x6 _ _ (decide_eq_false (by omega))]
        -- the act is taken
        have okE : ∀ (o1 o2 k' a' e' : Nat) (ν ω : xMu), KT β n k' a' e' ν ω → NF ν ω → a < a' → gs p26 μc ν → gs (pU (pK P) (pT P) (pL P) (pB P)) μm ω → (∀ b, 35 ≤ b → ω 162 b = μm 162 b) → ω 181 v3 = nI op → ω 181 (v3 + 1) = nI o1 → ω 181 (v3 + 2) = nI o2 → (∀ j, j < v3 → ω 181 j = μm 181 j) → (∀ a, 176 ≤ a → a ≤ 180 → ω a (pB P) = μm a (pB P)) → o1 < 10 → o2 < 4 → (op = 4 → o1 < pT P) → (op = 5 → o1 < pL P ∧ P 3 o1 0 < 2) → f5_readAct_j35 (30 + 4 * pB P) (nI op) μc = f5_readAct_j131 (30 + 4 * pB P) (nI op) (nI o1) (nI o2) ν → f12_readAct (nI (pB P)) μm = f12_readAct_j259 (nI (pB P)) ω → RT P β n a0 μ0 ω0 (f5_readBody_l82 (fun (μ11 : xMu) => (f5_readBody_j119 μ11)) (f + 2) (30 + 4 * pB P) (nI i) μc) (fun K f2 => (f12_readBody_l118 (fun (μ18 : xMu) => (f12_readBody_j148 μ18)) (f' + 2) (nI (pB P)) μm).bind fun μ18 => f12_read_j275 (f12_read_l64 K f2) μ18) := by
          intro o1 o2 k' a' e' ν ω y1 y2 y3 y4 y5 y6 y7 y8 y9 y10 y11 y12 y13 y14 y15 y16 y17
          have y4' : ∀ a b, ¬ ((a = 14 ∧ (2 ≤ b ∧ b ≤ 5)) ∨ (a = 126 ∧ (2 ≤ b ∧ b ≤ 4))) → ν a b = μc a b := fun a b p => y4 a b (decide_eq_false p)
          have bcν : BC (pB P) q ν := bc.of (fun a j _ _ => y4' _ _ (by omega))
          have e80 : ω 180 (pB P) = nI i := by rw [y11 180 (by decide) (by decide), bm.1, q4]
          unfold f5_readAct_j131 at y16
          rw [a_chk chk, aAE hB hi (by rw [bcν.1, q4]), Option.bind_some] at y16
          rw [m259 hB e80] at y17
          rw [y16, Option.bind_some] at C
          rw [y17, Option.bind_some] at D
          have gcF : gs (pQ (pK P) (pT P) (pL P) (pB P)) μc (aA (pB P) i (nI op) (nI o1) (nI o2) ν) := (pQ6 y4).trans (p30 hB aAG)
          have gmF : gs (pU (pK P) (pT P) (pL P) (pB P)) μm (x_wr ω 180 (pB P) (nI (i + 1))) := y5.wr (pUy (by omega))
          have aG : ∀ a b, a < 30 ∨ 126 ≤ a → (aA (pB P) i (nI op) (nI o1) (nI o2) ν) a b = ν a b := fun a b p => aAG a b (decide_eq_false (by omega))
          rw [C]
          simp only [D]
          refine ih k' a' e' (i + 1) (f + 1) (f' + 1) (qA q i op o1 o2) _ _ (by omega) (by omega) (by omega) rfl (aAW bw q4 hi op7 y12 y13 y14 y15 op3) (y1.of (fun a b p => aG a b (by omega)) (fun a b p => x_wr_rd (by omega))) ⟨(aG 126 2 (by omega)).trans y2.1, by rw [x_wr_rd (by decide)]; exact y2.2⟩ (PCq w pc gcF (fun j p r => (aG 16 j (by omega)).trans (y4' _ _ (by omega)))) (PMq w pmx gmF) ⟨?_, ?_, ?_, ?_⟩ (aAC bcν q4) (aAM bm q4 ?_ ?_ ?_ ?_ (fun a p r => ?_) (fun j p r => ?_)) (by omega) (gc.trans gcF) (gm.trans gmF)
          · rw [x_wr_rd (by decide), y6 35 (by decide)]; exact cnt.1
          · rw [x_wr_rd (by decide), y6 36 (by decide)]; exact cnt.2.1
          · rw [x_wr_rd (by decide), y6 37 (by decide)]; exact cnt.2.2.1
          · rw [x_wr_rd (by decide), y6 38 (by decide)]; exact cnt.2.2.2
          · rw [w_wr, if_pos ⟨rfl, rfl⟩]
          · rw [x_wr_rd (by decide)]; exact y7
          · rw [x_wr_rd (by decide)]; exact y8
          · rw [x_wr_rd (by decide)]; exact y9
          · rw [x_wr_rd (by omega)]; exact y11 a p (by omega)
          · rw [x_wr_rd (by decide)]; exact y10 j r
        -- a fault in the act
        have noE : ∀ (o1 o2 : Int32) (ν ω : xMu), FX ν ω → gs p26 μc ν → gs (pU (pK P) (pT P) (pL P) (pB P)) μm ω → ω 180 (pB P) = nI i → f5_readAct_j35 (30 + 4 * pB P) (nI op) μc = f5_readAct_j131 (30 + 4 * pB P) (nI op) o1 o2 ν → f12_readAct (nI (pB P)) μm = f12_readAct_j259 (nI (pB P)) ω → RT P β n a0 μ0 ω0 (f5_readBody_l82 (fun (μ11 : xMu) => (f5_readBody_j119 μ11)) (f + 2) (30 + 4 * pB P) (nI i) μc) (fun K f2 => (f12_readBody_l118 (fun (μ18 : xMu) => (f12_readBody_j148 μ18)) (f' + 2) (nI (pB P)) μm).bind fun μ18 => f12_read_j275 (f12_read_l64 K f2) μ18) := by
          intro o1 o2 ν ω y1 y4 y5 e80 y16 y17
          right
          obtain ⟨g, g1, g2, g7⟩ := y1.m
          have bcν : BC (pB P) q ν := bc.of (fun a j _ _ => y4 _ _ (decide_eq_false (by omega)))
          unfold f5_readAct_j131 at y16
          rw [a_chk chk, aAE hB hi (by rw [bcν.1, q4]), Option.bind_some] at y16
          rw [m259 hB e80] at y17
          rw [y16, Option.bind_some, cf_82 ((aAG 126 2 (decide_eq_false (by omega))).trans y1.c)] at C
          rw [y17, Option.bind_some] at D
          refine ⟨_, x_wr (x_wr ω 180 (pB P) (nI (i + 1))) 162 38 ((x_wr ω 180 (pB P) (nI (i + 1))) 162 38 + 1), C, fun K f2 => ?_, y1.of (fun b => aAG 126 b (decide_eq_false (by omega))) (by rw [w_wr, if_neg (by decide), x_wr_rd (by decide)]) (by rw [w_wr, if_neg (by decide), x_wr_rd (by decide)]), (gc.trans (pQ6 y4)).trans (p30 hB aAG), ((gm.trans y5).wr (pUy (by omega))).wr (pUy (by omega))⟩
          dsimp only
          rw [D]
          exact mbT (by rw [x_wr_rd (by decide)]; exact g7) g1 g2
        have e80 : μ8 180 (pB P) = nI i := by rw [m8 _ _ (by decide), x6 _ _ (decide_eq_false (by omega)), bm.1, q4]
        have o8 : ∀ a, 176 ≤ a → a ≤ 180 → μ8 a (pB P) = μm a (pB P) := fun a p r => by rw [m8 _ _ (by omega), x6 _ _ (decide_eq_false (by omega))]
        have e1n : ∀ x, x < 7 → (nI op = nI x) = (op = x) := fun x hx => propext (nI_eq (by omega) (by omega))
        have i0 : (nI op = (0 : Int32)) = (op = 0) := e1n 0 (by decide)
        have i1 : (nI op = (1 : Int32)) = (op = 1) := e1n 1 (by decide)
        have i4 : (nI op = (4 : Int32)) = (op = 4) := e1n 4 (by decide)
        have i5 : (nI op = (5 : Int32)) = (op = 5) := e1n 5 (by decide)
        simp only [i0, i1, i4, i5] at C2 D2
        by_cases h01 : op = 0 ∨ op = 1
        · have C3 : f5_readAct_j35 (30 + 4 * pB P) (nI op) μc = f5_readAct_j73 (30 + 4 * pB P) (nI op) (0 : Int32) μc1 := by
            rcases h01 with h | h
            · rw [C2, if_pos h]
            · rw [C2, if_neg (by omega), if_pos h]
          have D3 : f12_readAct (nI (pB P)) μm = f12_readAct_j88 (nI (pB P)) (nI v3) μ8 := by
            rcases h01 with h | h
            · rw [D2, if_pos h]
            · rw [D2, if_neg (by omega), if_pos h]
          unfold f5_readAct_j73 at C3
          unfold f12_readAct_j88 at D3
          rcases j_num (m := 10) (vm := 9) kt8 nf8 (by decide) (by decide) with ⟨v, k2, a2, e2, μc2, μm2, u1, u2, u3, u4, u5, u6, u7, u8⟩ | ⟨v, μc2, μm2, u2, u3, u4, u5, u6, u7⟩
          · rw [show f5_takeNumber 10 μc1 = _ from u2, Option.bind_some] at C3
            rw [show f12_numberTo 9 μ8 = _ from u3, Option.bind_some, ei1] at D3
            dsimp only at C3 D3
            rw [a_ast (by omega) (by decide)] at D3
            have u8' : ∀ a b, a ≠ 162 → μm2 a b = μ8 a b := fun a b p => u8 a b (decide_eq_false (by omega))
            refine okE v 0 k2 a2 e2 μc2 (x_wr μm2 181 (v3 + 1) (nI v)) (u4.of (fun _ _ _ => rfl) (fun a b p => x_wr_rd (by omega))) ⟨u5.1, by rw [x_wr_rd (by decide)]; exact u5.2⟩ (by omega) ((p26o x5).trans u7) ((gm8.trans (pU3 u8)).wr (pUy (by show _ ∨ _; omega))) (fun b p => ?_) ?_ ?_ ?_ (fun j p => ?_) (fun a p r => ?_) u1 (by decide) (fun h => by omega) (fun h => by omega) C3 D3
            · rw [x_wr_rd (by decide), u8 _ _ (decide_eq_false (by omega))]; exact c8 b p
            · rw [w_wr, if_neg (by omega), u8' _ _ (by decide)]; exact v8a
            · rw [w_wr, if_pos ⟨rfl, rfl⟩]
            · rw [w_wr, if_neg (by omega), u8' _ _ (by decide)]; exact v8c
            · rw [w_wr, if_neg (by omega), u8' _ _ (by decide)]; exact v8o j p
            · rw [x_wr_rd (by omega), u8' _ _ (by omega)]; exact o8 a p r
          · rw [show f5_takeNumber 10 μc1 = _ from u2, Option.bind_some] at C3
            rw [show f12_numberTo 9 μ8 = _ from u3, Option.bind_some, ei1] at D3
            dsimp only at C3 D3
            rw [a_ast (by omega) (by decide)] at D3
            exact noE 0 0 μc2 _ (u4.of (fun _ => rfl) (by rw [x_wr_rd (by decide)]) (by rw [x_wr_rd (by decide)])) ((p26o x5).trans u6) ((gm8.trans (pU3 u7)).wr (pUy (by show _ ∨ _; omega))) (by rw [x_wr_rd (by decide), u7 _ _ (decide_eq_false (by omega))]; exact e80) C3 D3
        · rw [if_neg (by omega), if_neg (by omega)] at C2 D2
          by_cases h4 : op = 4
          · rw [if_pos h4] at C2 D2
            rw [pc1.1.2.1] at C2
            rw [c8 36 (by decide), cnt.2.1] at D2
            rcases j_num (m := pT P) kt8 nf8 (by omega) (cnt1 (by omega)) with ⟨v, k2, a2, e2, μc2, μm2, u1, u2, u3, u4, u5, u6, u7, u8⟩ | ⟨v, μc2, μm2, u2, u3, u4, u5, u6, u7⟩
            · rw [u2, Option.bind_some] at C2
              rw [u3, Option.bind_some] at D2
              dsimp only at C2 D2
              rw [a_ast (by omega) (by decide)] at D2
              have u8' : ∀ a b, a ≠ 162 → μm2 a b = μ8 a b := fun a b p => u8 a b (decide_eq_false (by omega))
              have ktw : KT β n k2 a2 e2 μc2 (x_wr μm2 181 (v3 + 1) (nI v)) := u4.of (fun _ _ _ => rfl) (fun a b p => x_wr_rd (by omega))
              have nfw : NF μc2 (x_wr μm2 181 (v3 + 1) (nI v)) := ⟨u5.1, by rw [x_wr_rd (by decide)]; exact u5.2⟩
              have gmw : gs (pU (pK P) (pT P) (pL P) (pB P)) μm (x_wr μm2 181 (v3 + 1) (nI v)) := (gm8.trans (pU3 u8)).wr (pUy (by show _ ∨ _; omega))
              rcases j_num (m := 4) (vm := 3) ktw nfw (by decide) (by decide) with ⟨v', k5, a5, e5, μc5, μm5, t1, t2, t3, t4, t5, t6, t7, t8⟩ | ⟨v', μc5, μm5, t2, t3, t4, t5, t6, t7⟩
              · rw [show f5_takeNumber 4 μc2 = _ from t2, Option.bind_some] at C2
                rw [t3, Option.bind_some] at D2
                dsimp only at C2 D2
                rw [a_ast (by omega) (by decide)] at D2
                have t8' : ∀ a b, a ≠ 162 → μm5 a b = (x_wr μm2 181 (v3 + 1) (nI v)) a b := fun a b p => t8 a b (decide_eq_false (by omega))
                refine okE v v' k5 a5 e5 μc5 (x_wr μm5 181 (v3 + 2) (nI v')) (t4.of (fun _ _ _ => rfl) (fun a b p => x_wr_rd (by omega))) ⟨t5.1, by rw [x_wr_rd (by decide)]; exact t5.2⟩ (by omega) (((p26o x5).trans u7).trans t7) ((gmw.trans (pU3 t8)).wr (pUy (by show _ ∨ _; omega))) (fun b p => ?_) ?_ ?_ ?_ (fun j p => ?_) (fun a p r => ?_) (by omega) t1 (fun _ => u1) (fun h => by omega) C2 D2
                · rw [x_wr_rd (by decide), t8 _ _ (decide_eq_false (by omega)), x_wr_rd (by decide), u8 _ _ (decide_eq_false (by omega))]; exact c8 b p
                · rw [w_wr, if_neg (by omega), t8' _ _ (by decide), w_wr, if_neg (by omega), u8' _ _ (by decide)]; exact v8a
                · rw [w_wr, if_neg (by omega), t8' _ _ (by decide), w_wr, if_pos ⟨rfl, rfl⟩]
                · rw [w_wr, if_pos ⟨rfl, rfl⟩]
                · rw [w_wr, if_neg (by omega), t8' _ _ (by decide), w_wr, if_neg (by omega), u8' _ _ (by decide)]; exact v8o j p
                · rw [x_wr_rd (by omega), t8' _ _ (by omega), x_wr_rd (by omega), u8' _ _ (by omega)]; exact o8 a p r
              · rw [show f5_takeNumber 4 μc2 = _ from t2, Option.bind_some] at C2
                rw [t3, Option.bind_some] at D2
                dsimp only at C2 D2
                rw [a_ast (by omega) (by decide)] at D2
                exact noE _ _ μc5 _ (t4.of (fun _ => rfl) (by rw [x_wr_rd (by decide)]) (by rw [x_wr_rd (by decide)])) (((p26o x5).trans u7).trans t6) ((gmw.trans (pU3 t7)).wr (pUy (by show _ ∨ _; omega))) (by rw [x_wr_rd (by decide), t7 _ _ (decide_eq_false (by omega)), x_wr_rd (by decide), u8' _ _ (by decide)]; exact e80) C2 D2
            · obtain ⟨g, g1, g2, g7⟩ := u4.m
              rw [u2, Option.bind_some] at C2
              dsimp only at C2
              rw [cf_num u4.c, Option.bind_some] at C2
              dsimp only at C2
              rw [u3, Option.bind_some] at D2
              dsimp only at D2
              rw [a_ast (by omega) (by decide), mf_num (show (x_wr μm2 181 (v3 + 1) v) 162 33 = nI g by rw [x_wr_rd (by decide)]; exact g7) g1 g2, Option.bind_some] at D2
              dsimp only at D2
              rw [a_ast (by omega) (by decide)] at D2
              exact noE _ _ μc2 _ (u4.of (fun _ => rfl) (by rw [x_wr_rd (by decide), x_wr_rd (by decide)]) (by rw [x_wr_rd (by decide), x_wr_rd (by decide)])) ((p26o x5).trans u6) (((gm8.trans (pU3 u7)).wr (pUy (by show _ ∨ _; omega))).wr (pUy (by show _ ∨ _; omega))) (by rw [x_wr_rd (by decide), x_wr_rd (by decide), u7 _ _ (decide_eq_false (by omega))]; exact e80) C2 D2
          · rw [if_neg h4] at C2 D2
            by_cases h5 : op = 5
            · rw [if_pos h5] at C2 D2
              have C3 : f5_readAct_j35 (30 + 4 * pB P) (nI op) μc = ((f5_refuseUnwoken μc1).bind fun μ8 => f5_takeNumber (μ8 16 7) μ8).bind fun q9 => (f5_readAct_j131 (30 + 4 * pB P) (nI op) q9.1 (0 : Int32) q9.2) := by
                rw [C2]
                cases f5_refuseUnwoken μc1 <;> rfl
              rcases j_wak (v1 := nI (pB P)) (v3 := nI v3) w kt8 nf8 pc1 (PMq w pmx gm8) (by rw [c8 37 (by decide)]; exact cnt.2.2.1) with ⟨v, k2, a2, e2, μc2, μm2, u1, u1', u2, u3, u4, u5, u6, u7, u8⟩ | ⟨v, μc2, μm2, u2, u3, u4, u6, u7⟩
              · rw [u2, Option.bind_some] at C3
                rw [u3, ei1, a_ast (by omega) (by decide)] at D2
                dsimp only at C3
                have u8' : ∀ a b, a ≠ 162 → μm2 a b = μ8 a b := fun a b p => u8 a b (decide_eq_false (by omega))
                refine okE v 0 k2 a2 e2 μc2 (x_wr μm2 181 (v3 + 1) (nI v)) (u4.of (fun _ _ _ => rfl) (fun a b p => x_wr_rd (by omega))) ⟨u5.1, by rw [x_wr_rd (by decide)]; exact u5.2⟩ (by omega) ((p26o x5).trans u7) ((gm8.trans (pU3 u8)).wr (pUy (by show _ ∨ _; omega))) (fun b p => ?_) ?_ ?_ ?_ (fun j p => ?_) (fun a p r => ?_) (by omega) (by decide) (fun h => by omega) (fun _ => ⟨u1, u1'⟩) C3 D2
                · rw [x_wr_rd (by decide), u8 _ _ (decide_eq_false (by omega))]; exact c8 b p
                · rw [w_wr, if_neg (by omega), u8' _ _ (by decide)]; exact v8a
                · rw [w_wr, if_pos ⟨rfl, rfl⟩]
                · rw [w_wr, if_neg (by omega), u8' _ _ (by decide)]; exact v8c
                · rw [w_wr, if_neg (by omega), u8' _ _ (by decide)]; exact v8o j p
                · rw [x_wr_rd (by omega), u8' _ _ (by omega)]; exact o8 a p r
              · rw [u2, Option.bind_some] at C3
                rw [u3, ei1, a_ast (by omega) (by decide)] at D2
                dsimp only at C3
                exact noE _ _ μc2 _ (u4.of (fun _ => rfl) (by rw [x_wr_rd (by decide)]) (by rw [x_wr_rd (by decide)])) ((p26o x5).trans u6) ((gm8.trans (pU3 u7)).wr (pUy (by show _ ∨ _; omega))) (by rw [x_wr_rd (by decide), u7 _ _ (decide_eq_false (by omega))]; exact e80) C3 D2
            · rw [if_neg h5] at C2 D2
              exact okE 0 0 k1 a1 e1 μc1 μ8 kt8 nf8 x4 (p26o x5) gm8 c8 v8a v8b v8c v8o o8 (by decide) (by decide) (fun h => absurd h h4) (fun h => absurd h h5) C2 D2
