/-! PURE: runs: a body, and all of a row -/
section
variable {α : Type} {a0 a1 d : Option α} {r : List (Option α)}
theorem sz0 : x_sw (nI 0) (0 : Int32) (a0 :: r) d = a0 := rfl
theorem sz1 : x_sw (nI 1) (0 : Int32) (a0 :: a1 :: r) d = a1 := rfl
theorem sz2 : x_sw (nI 2) (0 : Int32) [a0, a1] d = d := rfl
theorem sz3 : x_sw (nI 3) (0 : Int32) [a0, a1] d = d := rfl
end
theorem t_das {v0 s p t b : Nat} {v : Int32} {R : List Nat} {μ : xMu} (hv : rnr v0) (hs : s < 6) (sc : SC v0 s t R μ) (hR : R.length ≤ 24) (hb : R[p]? = some b) (hb24 : b < 24) (rf : Nat → Int32 → Int32 → Int32 → xMu → Option (Int32 × xMu)) : f7_doActs rf v0 (nI s) (nI p) v μ = f7_doActs_l24 rf K0 1000 v0 (nI s) (nI p) (30 + 4 * b) v (nI 0) μ := by
  obtain ⟨n1, n2, n3, n4, n5, n6, n7, n8, n9, z1, z2, z3, z4⟩ := rn1 hv
  have hp : p < R.length := (List.getElem?_eq_some_iff.mp hb).1
  obtain ⟨q1, q2, q3⟩ := rn2 hv s hs
  unfold f7_doActs
  rw [a_chk n1, a_rfd n2, a_chk n6, z1, a_rld hs (by decide) q1, a_chk q2, q3, a_ald (by omega) (by decide), sc.1 p b hb, a_rld hb24 (by decide) (r_body b hb24).1]
  rfl
theorem finR {P : xP} {v0 s p h g u i y n x z F : Nat} {O E : xO} {μc μm : xMu} (w : Pwf P) (hv : rnr v0) (hh : h < 61) (hz : z < 2) (S : SS v0 P (O ++ E) F n x μc μm) (e : EN h s p g u i E.length y μm) (h8 : μm 162 48 = nI (h + 1)) :
    ∃ (F' : Nat) (μc' μm' : xMu), f2_closeDownTo (nI O.length) μc = some μc' ∧ f12_over (nI z) μm = some μm' ∧ SS v0 P O F' n x μc' μm' ∧ μm' 162 48 = nI h ∧ μm' 162 60 = 1 ∧ μm' 162 61 = nI z ∧ μm' 162 62 = nI u ∧ gs (pC v0 (s + 1)) μc μc' ∧ gs (pD h (s + 1)) μm μm' := by
  have h' : v0 = 135 ∨ v0 = 147 := hv
  obtain ⟨⟨pc, cc, c7, c8⟩, ⟨pm, cm, m7, m9⟩, ow, fw, hn, hx, bg⟩ := S
  have ow1 : Owf P O := ⟨by have := ow.1; rw [List.length_append] at this; omega, fun q hq => ow.2 q (List.mem_append_left _ hq)⟩
  obtain ⟨A, -, hA⟩ := auM w ow1
  obtain ⟨μc', a1, a2, a3⟩ := t_cdt w pc ow cc fw hA
  obtain ⟨μm', b1, b2, b3, b4, b5, b6, b7, b8, b9, b10⟩ := u_ovr (s' := s + 1) w hA hh e h8 hz rfl pm ow fw cm
  have gc : gs (pC v0 (s + 1)) μc μc' := a3.mono (fun a b q => pCy (by simp only [beq_iff_eq] at q; omega))
  have a3' : ∀ a b, a ≠ 127 → μc' a b = μc a b := fun a b q => a3 a b (beq_false_of_ne q)
  refine ⟨cl P A E F, μc', μm', a1, b1, ⟨⟨pCP hv w pc gc, a2, ?_, ?_⟩, ⟨pDP pm b10, b2, ?_, ?_⟩, ow1, cl_wf fw, hn, hx, fun i p q => ?_⟩, b3, b4, b5, b6, gc, b10⟩
  · rw [a3' _ _ (by omega)]; exact c7
  · rw [a3' _ _ (by omega)]; exact c8
  · rw [b7]; exact m7
  · rw [b8]; exact m9
  · rw [a3' _ _ (by omega), b9]; exact bg i p q
theorem rsim0 : RSim 0 := by
  intro P v0 s t p v F n h R O μc μm w hv hk hs S
  have := S.2.2.2.2.1
  omega
theorem rsimS {k : Nat} (RS : RSim k) : RSim (k + 1) := by
  intro P v0 s t p v F n h R O μc μm w hv hk hs S sc sm ht hR hRb hh hp hv3 r48 r60 r62 r63 r64
  have S' := S
  have h' : v0 = 135 ∨ v0 = 147 := hv
  obtain ⟨⟨pc, cc, c7, c8⟩, ⟨pm, cm, m7, m9⟩, ow, fw, hn60, -, bg⟩ := S
  obtain ⟨n1, n2, n3, n4, n5, n6, n7, n8, n9, z1, z2, z3, z4⟩ := rn1 hv
  obtain ⟨q1, q2, q3⟩ := rn2 hv s hs
  have hB := w.1.2.2.2
  have L1 : ∀ K f, f12_outermost_l47 K (f + 1) μm = (f12_begin μm).bind fun q10 => f12_outermost_j79 (f12_outermost_l47 K f) q10.1 q10.2 := by
    intro K f
    conv => lhs; unfold f12_outermost_l47 f12_outermost_j61
    rw [r60, if_pos rfl, if_pos rfl]
  have D0 : ∀ (K : xMu → Option (Int32 × xMu)) (f : Nat) (ν : xMu), f12_outermost_j79 (f12_outermost_l47 K f) 0 ν = f12_outermost_l47 K f ν := fun K f ν => by
    unfold f12_outermost_j79
    rw [if_pos rfl]
    rfl
  have D1 : ∀ (K : xMu → Option (Int32 × xMu)) (f : Nat) (ν : xMu), f12_outermost_j79 (f12_outermost_l47 K f) 1 ν = DA K f 1000 ν := fun K f ν => by
    unfold f12_outermost_j79 f12_doActs DA
    rw [if_neg (by decide)]
    rfl
  have C0 : f7_runFrom (k + 1) v0 (nI s) (nI p) (nI v) μc = f7_runFrom_b (f7_runFrom k) v0 (nI s) (nI p) (nI v) μc := rfl
  unfold f7_runFrom_b at C0
  rw [a_chk n1, a_rfd n3, a_chk n7, z2, a_ald hs (by decide), sc.2.1] at C0
  by_cases e : p = R.length
  · rw [if_neg (nI_nlt (by omega) (by omega))] at C0
    refine ⟨0, v, F, n, 0, 1, μc, x_wr (x_wr μm 162 60 1) 162 61 0, C0, fun K f => ?_, by omega, Nat.le_refl n, by decide, hv3, fun z => absurd z (by decide), S'.m ((gs.refl.wr (decide_eq_true (by omega))).wr (decide_eq_true (by omega))), r48, rfl, rfl, fun _ => r62, gs.refl, (gs.refl.wr (pDy (by omega))).wr (pDy (by omega))⟩
    rw [L1]
    unfold f12_begin
    rw [r63, a_ald (show s + 1 < 7 by omega) (by decide), sm.1.1, r64, e, if_pos rfl, a_put, a_put]
    exact D0 K f _
  · have hpl : p < R.length := by omega
    obtain ⟨b, hb⟩ : ∃ b, R[p]? = some b := ⟨R[p], List.getElem?_eq_getElem hpl⟩
    have hbB : b < pB P := hRb b (List.mem_of_getElem? hb)
    have hb24 : b < 24 := by omega
    have q := w.2.2.2.2 b hbB
    rw [if_pos (nI_lt hpl (by omega)), c7] at C0
    by_cases e6 : n = 60
    · rw [if_neg (show ¬ nI n < 60 from nI_nlt (b := 60) (by omega) (by omega)), a_put] at C0
      have gc : gs (pC v0 (s + 1)) μc (x_wr μc v0 8 1) := gs.refl.wr (pCy (by omega))
      have gm : gs (pD h (s + 1)) μm (x_wr (x_wr (x_wr μm 162 59 1) 162 60 1) 162 61 1) := ((gs.refl.wr (pDy (by omega))).wr (pDy (by omega))).wr (pDy (by omega))
      refine ⟨1, 0, F, n, 1, 1, x_wr μc v0 8 1, x_wr (x_wr (x_wr μm 162 59 1) 162 60 1) 162 61 1, C0, fun K f => ?_, by omega, Nat.le_refl n, by decide, by decide, fun _ => rfl, ⟨⟨pCP hv w pc gc, cc.of (x_wr_rd (by omega)) (x_wr_rd (by omega)) (x_wr_ne (by omega)) (x_wr_ne (by omega)), ?_, ?_⟩, ⟨pDP pm gm, cm.of rfl rfl rfl rfl, m7, rfl⟩, ow, fw, hn60, by decide, fun a1 a2 a3 => (x_wr_rd (by omega)).trans (bg a1 a2 a3)⟩, r48, rfl, rfl, fun z => absurd z (by decide), gc, gm⟩
      · rw [L1]
        unfold f12_begin
        rw [r63, a_ald (show s + 1 < 7 by omega) (by decide), sm.1.1, r64, if_neg (nI_ne (by omega) (by omega) (by omega)), m7, e6, if_pos (show nI 60 = 60 from rfl), a_put, a_put, a_put]
        exact D0 K f _
      · rw [w_wr, if_neg (by omega)]; exact c7
      · rw [w_wr, if_pos ⟨rfl, rfl⟩]; rfl
    · have hn : n < 60 := by omega
      obtain ⟨μm1, b1, en, h8, b4, b5, b6, b7, b8⟩ := u_beg w pm hs hh hn sm hR hb hbB m7 r48 r62 r63 r64
      -- the class notes the body
      obtain ⟨μc1, k1, k2, k3, k4, k5⟩ : ∃ μc1, f7_noteBegun v0 (nI b) μc = some μc1 ∧ μc1 v0 7 = nI (n + 1) ∧ (∀ i, i < n → μc1 (v0 + 10) i = μc (v0 + 10) i) ∧ (n < 40 → μc1 (v0 + 10) n = nI b) ∧ gs (fun a j => decide ((a = v0 ∧ j = 7) ∨ a = v0 + 10)) μc μc1 := by
        unfold f7_noteBegun f7_noteBegun_j19
        rw [a_chk n1, c7]
        by_cases c : 40 ≤ n
        · rw [if_pos (show (40 : Int32) ≤ nI n from nI_le (a := 40) c (by omega)), a_chk n1, a_put, nI_1]
          refine ⟨_, rfl, ?_, fun i _ => x_wr_rd (by omega), fun z => by omega, gs.refl.wr (decide_eq_true (by omega))⟩
          rw [w_wr, if_pos ⟨rfl, rfl⟩]
        · rw [if_neg (show ¬ (40 : Int32) ≤ nI n from nI_ge (b := 40) (by omega) (by decide)), a_rfd n5, a_chk n9, z4, a_ast (by omega) (by decide), a_chk n1, a_put, x_wr_rd (show v0 ≠ v0 + 10 by omega), c7, nI_1]
          refine ⟨_, rfl, ?_, fun i hi => ?_, fun _ => ?_, (gs.refl.wr (decide_eq_true (by omega))).wr (decide_eq_true (by omega))⟩
          · rw [w_wr, if_pos ⟨rfl, rfl⟩]
          · rw [x_wr_rd (by omega), w_wr, if_neg (by omega)]
          · rw [x_wr_rd (by omega), w_wr, if_pos ⟨rfl, rfl⟩]
      have k5' : ∀ a j, ¬ ((a = v0 ∧ j = 7) ∨ a = v0 + 10) → μc1 a j = μc a j := fun a j z => k5 a j (decide_eq_false z)
      have gc1 : gs (pC v0 (s + 1)) μc μc1 := k5.mono (fun a j z => pCy (by have := of_decide_eq_true z; omega))
      have gm1 : gs (pD h (s + 1)) μm μm1 := b8.mono (fun a j z => pDy (by have := of_decide_eq_true z; omega))
      have pc1 := pCP hv w pc gc1
      have cc1 : CC O F μc1 := cc.of (k5' _ _ (by omega)) (k5' _ _ (by omega)) (funext fun j => k5' _ _ (by omega)) (funext fun j => k5' _ _ (by omega))
      have b8' : ∀ a j, ¬ ((a = 162 ∧ (j = 57 ∨ j = 48)) ∨ a = 198 ∨ (190 ≤ a ∧ a ≤ 197 ∧ h ≤ j)) → μm1 a j = μm a j := fun a j z => b8 a j (decide_eq_false z)
      have cm1 : CM O F μm1 := cm.of (b8' _ _ (by omega)) (b8' _ _ (by omega)) (funext fun j => b8' _ _ (by omega)) (funext fun j => b8' _ _ (by omega))
      have S1 : SS v0 P (O ++ []) F (n + 1) 0 μc1 μm1 := by
        rw [List.append_nil]
        refine ⟨⟨pc1, cc1, k2, ?_⟩, ⟨pDP pm gm1, cm1, b4, by rw [b5]; exact m9⟩, ow, fw, by omega, by decide, fun i a1 a2 => ?_⟩
        · rw [k5' _ _ (by omega)]; exact c8
        · by_cases c : i = n
          · rw [c, k4 (by omega), b7 (by omega)]
          · rw [k3 i (by omega), b6 i (by omega)]; exact bg i (by omega) a2
      have sc1 := sc.of hv gc1 (by omega) hs
      have sm1 := sm.of hR gm1 (by omega)
      have en1 : EN h s p v v 0 ([] : xO).length 0 μm1 := en
      have C1 : f7_runFrom (k + 1) v0 (nI s) (nI p) (nI v) μc = x_sw (nI (P 4 b 3)) 0 [((f7_doActs (f7_runFrom k) v0 (nI s) (nI p) (nI v) μc1).bind fun q19 => (if 0 ≤ q19.1 then ((f7_runFrom k v0 (nI s) (nI (p + 1)) q19.1 q19.2).bind fun q20 => (f2_closeDownTo (nI O.length) q20.2).bind fun μ22 => some (q20.1, μ22)) else ((f2_closeDownTo (nI O.length) q19.2).bind fun μ22 => some (q19.1, μ22)))), ((f7_runBehind (f7_runFrom k) v0 (nI s) (nI p) (nI v) μc1).bind fun q23 => (f2_closeDownTo (nI O.length) q23.2).bind fun μ22 => some (q23.1, μ22))] ((f7_doActs (f7_runFrom k) v0 (nI s) (nI p) (nI v) μc1).bind fun q24 => (f2_closeDownTo (nI O.length) q24.2).bind fun μ22 => some (q24.1, μ22)) := by
        rw [C0, if_pos (show nI n < 60 from nI_lt (b := 60) hn (by decide)), a_rfd n2, a_chk n6, z1, a_rld hs (by decide) q1, a_chk q2, q3, a_ald (by omega) (by decide), sc.1 p b hb, k1]
        simp only [Option.bind_some]
        unfold f2_openCount
        simp only [Option.bind_some]
        rw [a_rfd n2, a_chk n6, z1, a_rld hs (by decide) q1, a_chk q2, q3, a_ald (by omega) (by decide), sc1.1 p b hb, a_rld hb24 (by decide) (r_body b hb24).1, a_chk (r_body b hb24).2.1, (pc1.2.2.2.2 b hbB).2.2.1, cc1.1, nI_1]
        unfold f7_runFrom_j125 f7_runFrom_j151
        simp only [a_chk n1]
      -- the end
      have done : ∀ (rc a u F1 nn x1 i' y g1 T : Nat) (E : xO) (ν ω : xMu), rc < 2 → a < 1000003 → (x1 = 1 → rc = 1) → f7_runFrom (k + 1) v0 (nI s) (nI p) (nI v) μc = (f2_closeDownTo (nI O.length) ν).bind (fun μ22 => some (cd rc a, μ22)) → (∀ K f, f12_outermost_l47 K (f + T) μm = (f12_over (nI rc) ω).bind fun μ => f12_outermost_l47 K f μ) → T ≤ 16 * (nn - n) + 1 → n ≤ nn → SS v0 P (O ++ E) F1 nn x1 ν ω → EN h s p g1 u i' E.length y ω → (rc = 0 → u = a) → ω 162 48 = nI (h + 1) → gs (pC v0 (s + 1)) μc ν → gs (pD h (s + 1)) μm ω →
          ∃ (rc a F' n' x' T : Nat) (μc' μm' : xMu), f7_runFrom (k + 1) v0 (nI s) (nI p) (nI v) μc = some (cd rc a, μc') ∧ (∀ K f, f12_outermost_l47 K (f + T) μm = f12_outermost_l47 K f μm') ∧ T ≤ 16 * (n' - n) + 1 ∧ n ≤ n' ∧ rc < 2 ∧ a < 1000003 ∧ (x' = 1 → rc = 1) ∧ SS v0 P O F' n' x' μc' μm' ∧ μm' 162 48 = nI h ∧ μm' 162 60 = 1 ∧ μm' 162 61 = nI rc ∧ (rc = 0 → μm' 162 62 = nI a) ∧ gs (pC v0 (s + 1)) μc μc' ∧ gs (pD h (s + 1)) μm μm' := by
        intro rc a u F1 nn x1 i' y g1 T E ν ω y1 y2 y3 y4 y5 y6 y7 y8 y9 y10 y11 y12 y13
        obtain ⟨F', μc', μm', f1, f2, f3, f4, f5, f6, f7, f8, f9⟩ := finR (z := rc) w hv (by omega) y1 y8 y9 y11
        refine ⟨rc, a, F', nn, x1, T, μc', μm', ?_, fun K f => ?_, y6, y7, y1, y2, y3, f3, f4, f5, f6, fun z => by rw [f7, y10 z], y12.trans f8, y13.trans f9⟩
        · rw [y4, f1]; rfl
        · rw [y5, f2]; rfl
      have m1000 : (-1000004 : Int32) = cd 1 0 := rfl
      have hh1 : h < 61 := by omega
      have h46 : P 4 b 4 ≤ 6 := q.2.2.2.2.1
      have bO : ∀ (o : Option xMu) (K : xMu → Option (Int32 × xMu)) (f : Nat), ((o.bind fun (μ47 : xMu) => (some μ47)).bind fun μ11 => f12_outermost_l47 K f μ11) = o.bind fun μ => f12_outermost_l47 K f μ := fun o K f => by cases o <;> rfl
      -- what a body's acts come to where its way is not 0
      have tail : ∀ (rc g' i' u a y g1 F' n' x' : Nat) (E' : xO) (ν ω : xMu), P 4 b 3 ≠ 0 → SS v0 P (O ++ E') F' n' x' ν ω → SM s t R ω → EN h s p g1 u i' E'.length y ω → (i' = P 4 b 4 ∧ u = a) → ω 162 48 = nI (h + 1) → ∀ K f, DA K f (g' + 2) ω = (f12_over (nI y) ω).bind fun μ => f12_outermost_l47 K f μ := by
        intro rc g' i' u a y g1 F' n' x' E' ν ω y0 y1 y2 y3 y4 y5 K f
        obtain ⟨rfl, rfl⟩ := y4
        unfold DA
        rw [u_ace w y1.2.1.1 hs hh1 y3 y2 hR hb hbB y5, if_neg y0]
        exact bO _ K f
      rcases (show P 4 b 3 = 0 ∨ P 4 b 3 = 1 ∨ (P 4 b 3 = 2 ∨ P 4 b 3 = 3) by omega) with z | z | z
      · rw [z, sz0, t_das hv hs sc1 hR hb hb24] at C1
        have L2 : ∀ K f, f12_outermost_l47 K (f + 1) μm = DA K f 1000 μm1 := fun K f => by
          rw [L1, b1, if_neg (by omega)]
          exact D1 K f μm1
        obtain ⟨rc, a, F', n', x', T, g', i', u, E', ν, ω, h1, h2, h3, h4, h5, h6, h7, h8', h9, h10, h11, h12, h13, h14⟩ := acts RS w hv hs ht hR hRb hb (P 4 b 4) 0 1000 1000 v F (n + 1) [] μc1 μm1 (by omega) (by omega) (by omega) (by omega) hv3 (by omega) S1 sc1 sm1 en1 h8
        rw [h1] at C1
        simp only [Option.bind_some] at C1
        rcases (show rc = 0 ∨ rc = 1 by omega) with rfl | rfl
        · obtain ⟨rfl, rfl⟩ := h11 rfl
          obtain rfl : x' = 0 := by
            have := h9.2.2.2.2.2.1
            rcases (show x' = 0 ∨ x' = 1 by omega) with e | e
            · exact e
            · have := h8' e; omega
          have gA := gc1.trans h13
          have gB := gm1.trans h14
          have smA := sm.of hR gB (by omega)
          rw [if_pos (show 0 ≤ cd 0 u from nI_pos' (by omega))] at C1
          have gX : gs (fun a b => decide ((187 ≤ a ∧ a ≤ 197) ∨ (a = 162 ∧ (b = 48 ∨ (60 ≤ b ∧ b ≤ 64))))) ω (gN h s p u ω) := by
            unfold gN
            refine gs.wr (gs.wr (gs.wr (gs.wr (gs.wr gs.refl ?_) ?_) ?_) ?_) ?_ <;> exact decide_eq_true (by omega)
          have gY : gs (pD h (s + 1)) μm (gN h s p u ω) := gB.trans gN_g
          have L3 : ∀ K f, DA K f (g' + 2) ω = f12_outermost_l47 K f (gN h s p u ω) := fun K f => by
            unfold DA
            rw [u_ace w h9.2.1.1 hs hh1 h10 smA hR hb hbB h12, if_pos z]
            rfl
          obtain ⟨rc2, a2, F2, n2, x2, T2, ν2, ω2, c1, c2, c3, c4, c5, c6, c7', c8', c9, c10, c11, c12, c13, c14⟩ := RS P v0 s t (p + 1) u F' n' (h + 1) R (O ++ E') ν (gN h s p u ω) w hv (by omega) hs (h9.m gX) (sc.of hv gA (by omega) hs) (sm.of hR gY (by omega)) ht hR hRb (by omega) (by omega) h7 h12 rfl rfl rfl rfl
          rw [show f7_runFrom k v0 (nI s) (nI (p + 1)) (cd 0 u) ν = _ from c1] at C1
          have gC := gA.trans c13
          have gD : gs (pD h (s + 1)) μm ω2 := gY.trans (pD_up c14 (by omega) (by omega))
          have eN2 : EN h s p v u (P 4 b 4) E'.length 0 ω2 := (h10.w6 (x := 1)).of (fun a _ _ => (c14 a h (pDn (by omega))).trans (by
            unfold gN
            rw [x_wr_rd (by omega), x_wr_rd (by omega), x_wr_rd (by omega), x_wr_rd (by omega)]))
          have e96 : ω2 196 h = nI 1 := by
            rw [c14 196 h (pDn (by omega))]
            show (x_wr _ 196 h 1) 196 h = nI 1
            rw [w_wr, if_pos ⟨rfl, rfl⟩]
            rfl
          have sm2 := sm.of hR gD (by omega)
          have x8 : gs (fun a b => decide ((187 ≤ a ∧ a ≤ 197) ∨ (a = 162 ∧ (b = 48 ∨ (60 ≤ b ∧ b ≤ 64))))) ω2 (x_wr ω2 196 h 0) := gs.refl.wr (decide_eq_true (by omega))
          have L4 : ∀ K f, f12_outermost_l47 K (f + (T + T2 + 2)) μm = f12_outermost_l47 K (f + 1) ω2 := fun K f => by
            rw [show f + (T + T2 + 2) = (f + 1 + T2 + T) + 1 by omega, L2, h2 rfl, L3, c2]
          rcases (show rc2 = 0 ∨ rc2 = 1 by omega) with rfl | rfl
          · refine done 0 a2 a2 F2 n2 x2 (P 4 b 4) 0 v (T + T2 + 2) E' ν2 (x_wr (x_wr ω2 196 h 0) 193 h (nI a2)) (by decide) c6 c7' C1 (fun K f => ?_) (by omega) (by omega) (c8'.m (x8.wr (decide_eq_true (by omega)))) (eN2.w6.v1 a2) (fun _ => rfl) c9 gC ((gD.wr (pDy (by omega))).wr (pDy (by omega)))
            rw [L4, u_cbO w c8'.2.1.1 hs hh1 eN2 sm2 hR hb hbB c9 c10 e96 (Or.inl rfl) c11 (c12 rfl), if_pos ⟨z, rfl⟩]
            rfl
          · refine done 1 a2 u F2 n2 x2 (P 4 b 4) 0 v (T + T2 + 2) E' ν2 (x_wr ω2 196 h 0) (by decide) c6 (fun _ => rfl) C1 (fun K f => ?_) (by omega) (by omega) (c8'.m x8) eN2.w6 (fun e => absurd e (by decide)) c9 gC (gD.wr (pDy (by omega)))
            rw [L4, u_cbN w c8'.2.1.1 hs hh1 eN2 sm2 hR hb hbB c9 c10 e96 (Or.inl rfl) c11 c8'.2.1.2.2.2 c8'.2.2.2.2.2.1, if_neg (by omega)]
            rfl
        · rw [if_neg (show ¬ 0 ≤ cd 1 a from (by decide : ¬ (0 : Int32) ≤ -1000004))] at C1
          refine done 1 a u F' n' x' i' 0 v (T + 1) E' ν ω (by decide) h7 (fun _ => rfl) C1 (fun K f => ?_) (by omega) (by omega) h9 h10 (fun e => absurd e (by decide)) h12 (gc1.trans h13) (gm1.trans h14)
          rw [show f + (T + 1) = (f + T) + 1 by omega, L2, h3 rfl]
          rfl
      · rw [z, sz1] at C1
        unfold f7_runBehind at C1
        rw [a_chk n1, nI_1] at C1
        have gX : gs (fun a b => decide ((187 ≤ a ∧ a ≤ 197) ∨ (a = 162 ∧ (b = 48 ∨ (60 ≤ b ∧ b ≤ 64))))) μm1 (gN h s p v μm1) := by
          unfold gN
          refine gs.wr (gs.wr (gs.wr (gs.wr (gs.wr gs.refl ?_) ?_) ?_) ?_) ?_ <;> exact decide_eq_true (by omega)
        have gY : gs (pD h (s + 1)) μm (gN h s p v μm1) := gm1.trans gN_g
        have L2 : ∀ K f, f12_outermost_l47 K (f + 1) μm = f12_outermost_l47 K f (gN h s p v μm1) := fun K f => by
          rw [L1, b1, if_pos z, u_gn hh1 en h8]
          exact D0 K f _
        obtain ⟨rc2, a2, F2, n2, x2, T2, ν2, ω2, c1, c2, c3, c4, c5, c6, c7', c8', c9, c10, c11, c12, c13, c14⟩ := RS P v0 s t (p + 1) v F (n + 1) (h + 1) R (O ++ []) μc1 (gN h s p v μm1) w hv (by omega) hs (S1.m gX) sc1 (sm.of hR gY (by omega)) ht hR hRb (by omega) (by omega) hv3 h8 rfl rfl rfl rfl
        rw [c1] at C1
        simp only [Option.bind_some] at C1
        have gC := gc1.trans c13
        have gD : gs (pD h (s + 1)) μm ω2 := gY.trans (pD_up c14 (by omega) (by omega))
        have eN2 : EN h s p v v 0 ([] : xO).length 0 ω2 := (en1.w6 (x := 1)).of (fun a _ _ => (c14 a h (pDn (by omega))).trans (by
          unfold gN
          rw [x_wr_rd (by omega), x_wr_rd (by omega), x_wr_rd (by omega), x_wr_rd (by omega)]))
        have e96 : ω2 196 h = nI 1 := by
          rw [c14 196 h (pDn (by omega))]
          show (x_wr _ 196 h 1) 196 h = nI 1
          rw [w_wr, if_pos ⟨rfl, rfl⟩]
          rfl
        have sm2 := sm.of hR gD (by omega)
        have sc2 := sc.of hv gC (by omega) hs
        have x8 : gs (fun a b => decide ((187 ≤ a ∧ a ≤ 197) ∨ (a = 162 ∧ (b = 48 ∨ (60 ≤ b ∧ b ≤ 64))))) ω2 (x_wr ω2 196 h 0) := gs.refl.wr (decide_eq_true (by omega))
        have L4 : ∀ K f, f12_outermost_l47 K (f + (T2 + 1)) μm = f12_outermost_l47 K f ω2 := fun K f => by
          rw [show f + (T2 + 1) = (f + T2) + 1 by omega, L2, c2]
        rcases (show rc2 = 0 ∨ rc2 = 1 by omega) with rfl | rfl
        · obtain rfl : x2 = 0 := by
            have := c8'.2.2.2.2.2.1
            rcases (show x2 = 0 ∨ x2 = 1 by omega) with e | e
            · exact e
            · have := c7' e; omega
          rw [if_neg (show ¬ cd 0 a2 < 0 from nI_pos (by omega)), show f7_doActs (f7_runFrom k) v0 (nI s) (nI p) (cd 0 a2) ν2 = _ from t_das hv hs sc2 hR hb hb24 (f7_runFrom k)] at C1
          have L5 : ∀ K f, f12_outermost_l47 K (f + 1) ω2 = DA K f 1000 (x_wr (x_wr ω2 196 h 0) 193 h (nI a2)) := fun K f => by
            rw [u_cbO w c8'.2.1.1 hs hh1 eN2 sm2 hR hb hbB c9 c10 e96 (Or.inl rfl) c11 (c12 rfl), if_neg (by omega)]
          have gE : gs (pD h (s + 1)) μm (x_wr (x_wr ω2 196 h 0) 193 h (nI a2)) := (gD.wr (pDy (by omega))).wr (pDy (by omega))
          obtain ⟨rc, a, F', n', x', T, g', i', u, E', ν, ω, h1, h2, h3, h4, h5, h6, h7, h8', h9, h10, h11, h12, h13, h14⟩ := acts RS w hv hs ht hR hRb hb (P 4 b 4) 0 1000 1000 a2 F2 n2 [] ν2 (x_wr (x_wr ω2 196 h 0) 193 h (nI a2)) (by omega) (by omega) (by omega) (by omega) c6 (by omega) (c8'.m (x8.wr (decide_eq_true (by omega)))) sc2 (sm.of hR gE (by omega)) (eN2.w6.v1 a2) c9
          rw [show f7_doActs_l24 (f7_runFrom k) K0 1000 v0 (nI s) (nI p) (30 + 4 * b) (cd 0 a2) (nI 0) ν2 = _ from h1] at C1
          simp only [Option.bind_some] at C1
          have gF := gE.trans h14
          refine done rc a u F' n' x' i' 0 v (T2 + T + 2) E' ν ω h6 h7 h8' C1 (fun K f => ?_) (by omega) (by omega) h9 h10 (fun e => (h11 e).2) h12 (gC.trans h13) gF
          rw [show f + (T2 + T + 2) = (f + T + 1) + (T2 + 1) by omega, L4, L5]
          rcases (show rc = 0 ∨ rc = 1 by omega) with rfl | rfl
          · rw [h2 rfl]
            exact tail 0 g' i' u a 0 v F' n' x' E' ν ω (by omega) h9 (sm.of hR gF (by omega)) h10 (h11 rfl) h12 K f
          · rw [h3 rfl]
            rfl
        · rw [if_pos (show cd 1 a2 < 0 from (by decide : (-1000004 : Int32) < 0)), c8'.1.2.2.2] at C1
          rcases (show x2 = 0 ∨ x2 = 1 by have := c8'.2.2.2.2.2.1; omega) with rfl | rfl
          · rw [if_pos (show nI 0 = 0 from rfl), t_das hv hs sc2 hR hb hb24] at C1
            have L5 : ∀ K f, f12_outermost_l47 K (f + 1) ω2 = DA K f 1000 (x_wr (x_wr (x_wr ω2 196 h 0) 193 h (nI v)) 197 h 1) := fun K f => by
              rw [u_cbN w c8'.2.1.1 hs hh1 eN2 sm2 hR hb hbB c9 c10 e96 (Or.inl rfl) c11 c8'.2.1.2.2.2 c8'.2.2.2.2.2.1, if_pos ⟨z, rfl, rfl⟩]
            have gE : gs (pD h (s + 1)) μm (x_wr (x_wr (x_wr ω2 196 h 0) 193 h (nI v)) 197 h 1) := ((gD.wr (pDy (by omega))).wr (pDy (by omega))).wr (pDy (by omega))
            have eN3 : EN h s p v v 0 ([] : xO).length 1 (x_wr (x_wr (x_wr ω2 196 h 0) 193 h (nI v)) 197 h 1) := by
              have e3 := (eN2.w6 (x := 0)).v1 v
              refine ⟨e3.1, e3.2.1, e3.2.2.1, e3.2.2.2.1, e3.2.2.2.2.1, e3.2.2.2.2.2.1, ?_⟩
              rw [w_wr, if_pos ⟨rfl, rfl⟩]
              rfl
            obtain ⟨rc, a, F', n', x', T, g', i', u, E', ν, ω, h1, h2, h3, h4, h5, h6, h7, h8', h9, h10, h11, h12, h13, h14⟩ := acts RS w hv hs ht hR hRb hb (P 4 b 4) 0 1000 1000 v F2 n2 [] ν2 (x_wr (x_wr (x_wr ω2 196 h 0) 193 h (nI v)) 197 h 1) (by omega) (by omega) (by omega) (by omega) hv3 (by omega) (c8'.m ((x8.wr (decide_eq_true (by omega))).wr (decide_eq_true (by omega)))) sc2 (sm.of hR gE (by omega)) eN3 c9
            rw [h1] at C1
            simp only [Option.bind_some] at C1
            have gF := gE.trans h14
            refine done 1 0 u F' n' x' i' 1 v (T2 + T + 2) E' ν ω (by decide) (by decide) (fun _ => rfl) C1 (fun K f => ?_) (by omega) (by omega) h9 h10 (fun e => absurd e (by decide)) h12 (gC.trans h13) gF
            rw [show f + (T2 + T + 2) = (f + T + 1) + (T2 + 1) by omega, L4, L5]
            rcases (show rc = 0 ∨ rc = 1 by omega) with rfl | rfl
            · rw [h2 rfl]
              exact tail 0 g' i' u a 1 v F' n' x' E' ν ω (by omega) h9 (sm.of hR gF (by omega)) h10 (h11 rfl) h12 K f
            · rw [h3 rfl]
              rfl
          · rw [if_neg (show ¬ nI 1 = 0 by decide)] at C1
            simp only [Option.bind_some] at C1
            refine done 1 0 v F2 n2 1 0 0 v (T2 + 2) [] ν2 (x_wr ω2 196 h 0) (by decide) (by decide) (fun _ => rfl) C1 (fun K f => ?_) (by omega) (by omega) (c8'.m x8) eN2.w6 (fun e => absurd e (by decide)) c9 gC (gD.wr (pDy (by omega)))
            rw [show f + (T2 + 2) = (f + 1) + (T2 + 1) by omega, L4, u_cbN w c8'.2.1.1 hs hh1 eN2 sm2 hR hb hbB c9 c10 e96 (Or.inl rfl) c11 c8'.2.1.2.2.2 c8'.2.2.2.2.2.1, if_neg (by omega)]
            rfl
      · have C2 : f7_runFrom (k + 1) v0 (nI s) (nI p) (nI v) μc = (f7_doActs (f7_runFrom k) v0 (nI s) (nI p) (nI v) μc1).bind fun q24 => (f2_closeDownTo (nI O.length) q24.2).bind fun μ22 => some (q24.1, μ22) := by
          rw [C1]
          rcases z with z | z <;> rw [z]
          · exact sz2
          · exact sz3
        rw [t_das hv hs sc1 hR hb hb24] at C2
        have L2 : ∀ K f, f12_outermost_l47 K (f + 1) μm = DA K f 1000 μm1 := fun K f => by
          rw [L1, b1, if_neg (by omega)]
          exact D1 K f μm1
        obtain ⟨rc, a, F', n', x', T, g', i', u, E', ν, ω, h1, h2, h3, h4, h5, h6, h7, h8', h9, h10, h11, h12, h13, h14⟩ := acts RS w hv hs ht hR hRb hb (P 4 b 4) 0 1000 1000 v F (n + 1) [] μc1 μm1 (by omega) (by omega) (by omega) (by omega) hv3 (by omega) S1 sc1 sm1 en1 h8
        rw [h1] at C2
        simp only [Option.bind_some] at C2
        have gF := gm1.trans h14
        refine done rc a u F' n' x' i' 0 v (T + 1) E' ν ω h6 h7 h8' C2 (fun K f => ?_) (by omega) (by omega) h9 h10 (fun e => (h11 e).2) h12 (gc1.trans h13) gF
        rw [show f + (T + 1) = (f + T) + 1 by omega, L2]
        rcases (show rc = 0 ∨ rc = 1 by omega) with rfl | rfl
        · rw [h2 rfl]
          exact tail 0 g' i' u a 0 v F' n' x' E' ν ω (by omega) h9 (sm.of hR gF (by omega)) h10 (h11 rfl) h12 K f
        · rw [h3 rfl]
          rfl
theorem rsim : ∀ k, RSim k := by
  intro k
  induction k with
  | zero => exact rsim0
  | succ k ih => exact rsimS ih
