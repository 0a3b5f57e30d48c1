/-! PURE: read: a layer -/
theorem FX.of {μc μm μc' μm' : xMu} (h : FX μc μm) (hc : ∀ b, μc' 126 b = μc 126 b) (h3 : μm' 162 33 = μm 162 33) (h4 : μm' 162 34 = μm 162 34) : FX μc' μm' := by
  obtain ⟨f, pl, g1, g2, g3, g4, g5, g6, g7, g8⟩ := h
  exact ⟨f, pl, g1, g2, g3, by rw [hc]; exact g4, by rw [hc]; exact g5, by rw [hc]; exact g6, by rw [h3]; exact g7, by rw [h4]; exact g8⟩
theorem FX.c {μc μm : xMu} (h : FX μc μm) : μc 126 2 = 1 := by
  obtain ⟨f, pl, g1, g2, g3, g4, g5, g6, g7, g8⟩ := h
  exact g4
theorem FX.m {μc μm : xMu} (h : FX μc μm) : ∃ g, 1 ≤ g ∧ g ≤ 3 ∧ μm 162 33 = nI g := by
  obtain ⟨f, pl, g1, g2, g3, g4, g5, g6, g7, g8⟩ := h
  exact ⟨f, g1, g2, g7⟩
theorem mlT {μ : xMu} {v1 : Int32} {g f : Nat} {K : xMu → Option (Int32 × xMu)} (h : μ 162 33 = nI g) (h1 : 1 ≤ g) (h3 : g ≤ 3) : ((f12_readLayer_l184 (fun (μ29 : xMu) => (f12_readLayer_j305 μ29)) 1000 v1 μ).bind fun μ18 => f12_read_j275 (f12_read_l64 K (f + 1)) μ18) = K (x_wr μ 162 37 (μ 162 37 + 1)) := by
  rw [mf_184 (f := 999) h h1 h3, m305, Option.bind_some]
  exact rf_275 (by rw [w_wr, if_neg (by decide)]; exact h) h1 h3
theorem ix4 (T A B C D : List Nat) : ix T [A, B, C, D] = if T = A then 1 else if T = B then 2 else if T = C then 3 else if T = D then 4 else 0 := by
  unfold ix
  split
  · rfl
  · unfold ix
    split
    · rfl
    · unfold ix
      split
      · rfl
      · unfold ix
        split
        · rfl
        · rfl
theorem u_sor {β : Nat → Nat} {n k a e : Nat} {μc μm : xMu} (h : KT β n k a e μc μm) : f12_sortOfWord μm = some (cN (-1000000) (wix k (tx β a e) nSor)) := by
  have q0 : (lg_cmp (lN (wN k (tx β a e))) (1936744814 : Int64) = 0) = (k = 1 ∧ tx β a e = [115, 112, 97, 110]) := wis _ (by decide +kernel) h.let (by decide) (by decide) (by decide)
  have q1 : (lg_cmp (lN (wN k (tx β a e))) (499967946343 : Int64) = 0) = (k = 1 ∧ tx β a e = [116, 104, 105, 110, 103]) := wis _ (by decide +kernel) h.let (by decide) (by decide) (by decide)
  have q2 : (lg_cmp (lN (wN k (tx β a e))) (6386539 : Int64) = 0) = (k = 1 ∧ tx β a e = [97, 115, 107]) := wis _ (by decide +kernel) h.let (by decide) (by decide) (by decide)
  have q3 : (lg_cmp (lN (wN k (tx β a e))) (1702258034 : Int64) = 0) = (k = 1 ∧ tx β a e = [101, 118, 101, 114]) := wis _ (by decide +kernel) h.let (by decide) (by decide) (by decide)
  unfold f12_sortOfWord wix nSor
  rw [h.wd, Option.bind_some, ix4]
  by_cases c : k = 1
  · rw [if_pos c]
    by_cases z0 : tx β a e = [115, 112, 97, 110]
    · rw [if_pos (q0.mpr ⟨c, z0⟩), if_pos z0]
      rfl
    · rw [if_neg (fun y => z0 (q0.mp y).2), if_neg z0]
      by_cases z1 : tx β a e = [116, 104, 105, 110, 103]
      · rw [if_pos (q1.mpr ⟨c, z1⟩), if_pos z1]
        rfl
      · rw [if_neg (fun y => z1 (q1.mp y).2), if_neg z1]
        by_cases z2 : tx β a e = [97, 115, 107]
        · rw [if_pos (q2.mpr ⟨c, z2⟩), if_pos z2]
          rfl
        · rw [if_neg (fun y => z2 (q2.mp y).2), if_neg z2]
          by_cases z3 : tx β a e = [101, 118, 101, 114]
          · rw [if_pos (q3.mpr ⟨c, z3⟩), if_pos z3]
            rfl
          · rw [if_neg (fun y => z3 (q3.mp y).2), if_neg z3]
            rfl
  · rw [if_neg (fun y => c (q0.mp y).1), if_neg (fun y => c (q1.mp y).1), if_neg (fun y => c (q2.mp y).1), if_neg (fun y => c (q3.mp y).1), if_neg c]
    rfl
theorem wix4 {k : Nat} {T A B C D : List Nat} : wix k T [A, B, C, D] ≤ 4 := by
  unfold wix
  rw [ix4]
  split
  · split
    · omega
    · split
      · omega
      · split
        · omega
        · split <;> omega
  · omega
theorem KT.na {β : Nat → Nat} {n k a e c L : Nat} {μc μm : xMu} {Ns : List (List Nat)} (h : KT β n k a e μc μm) (hL : x_slen c = some (nI L)) (hL2 : L < 100) (ly : LY c L 0 Ns) (h7 : Ns.length ≤ 7) : f10_nameAmong μc c = some (cN (-1) (wix k (tx β a e) Ns)) := t_na h.1.1 h.2.1.1 h.2.2.1.1 h.2.2.1.2.1 h.2.2.1.2.2 h.2.1.2.1 h.2.1.2.2 hL hL2 ly h7
theorem t_tw {β : Nat → Nat} {n k a e c L : Nat} {μc μm : xMu} {Ns : List (List Nat)} (h : KT β n k a e μc μm) (nf : μc 126 2 = 0) (hL : x_slen c = some (nI L)) (hL2 : L < 100) (ly : LY c L 0 Ns) (h7 : Ns.length ≤ 7) (hw : wix k (tx β a e) Ns ≤ 100) : f5_takeWord c μc = if wix k (tx β a e) Ns = 0 then ((f5_refuse 1 μc).bind fun μ3 => some (0, μ3)) else ((f10_nextToken μc).bind fun μ2 => some (nI (wix k (tx β a e) Ns - 1), μ2)) := by
  unfold f5_takeWord f5_takeWord_j19
  rw [nf, if_pos rfl, h.na hL hL2 ly h7, Option.bind_some]
  unfold cN
  by_cases z : wix k (tx β a e) Ns = 0
  · rw [if_pos z, if_pos z, if_neg (by decide)]
  · rw [if_neg z, if_neg z, if_pos (nI_pos' (by omega))]
theorem wix1 {k : Nat} {T : List Nat} {Ns : List (List Nat)} (h : wix k T Ns ≠ 0) : k = 1 := by
  unfold wix at h
  by_cases c : k = 1
  · exact c
  · rw [if_neg c] at h
    exact absurd rfl h
theorem layN {P : xP} {β : Nat → Nat} {n k a e a0 : Nat} {r : Nat → Nat} {μ0 ω0 μc μm : xMu} (w : Pwf P) (hL : pL P < 8) (lw : Lwf (pL P) r) (h : KT β n k a e μc μm) (nf : NF μc μm) (pc : PC P μc) (pmx : PMx P μm) (c : μm 162 35 = nI (pK P) ∧ μm 162 36 = nI (pT P) ∧ μm 162 37 = nI (pL P) ∧ μm 162 38 = nI (pB P)) (lc : LC (pL P) r μc) (lm : LM (pL P) r μm) (ha : a0 < a) (gc : gs (pQ (pK P) (pT P) (pL P) (pB P)) μ0 μc) (gm : gs (pU (pK P) (pT P) (pL P) (pB P)) ω0 μm) :
    RT P β n a0 μ0 ω0 (f5_readLayer_j84 (22 + pL P) (nI (r 0)) μc) (fun K f => (f12_readLayer_l184 (fun (μ29 : xMu) => (f12_readLayer_j305 μ29)) 1000 (nI (pL P)) μm).bind fun μ18 => f12_read_j275 (f12_read_l64 K f) μ18) := by
  have fin : ∀ (r' : Nat → Nat) (k' a' e' : Nat) (μc' μm' : xMu), KT β n k' a' e' μc' μm' → NF μc' μm' → LC (pL P) r' μc' → LM (pL P) r' μm' → Lwf (pL P) r' → a ≤ a' → gs (fun a b => p26 a b || a == 22 + pL P) μc μc' → gs (fun a b => p33 a b || (decide (169 ≤ a ∧ a ≤ 175) && b == pL P)) μm μm' → RT P β n a0 μ0 ω0 (f5_readLayer_j94 μc') (fun K f => f12_read_j275 (f12_read_l64 K f) (x_wr μm' 162 37 (nI (pL P + 1)))) := by
    intro r' k' a' e' μc' μm' y1 y2 y3 y4 y5 y6 y7 y8
    have y7' : gs (pQ (pK P) (pT P) (pL P) (pB P)) μc μc' := y7.mono (fun a b q => by
      rw [Bool.or_eq_true, beq_iff_eq] at q
      rcases q with q | q
      · exact pQy (by have := of_decide_eq_true q; omega)
      · exact pQy (by omega))
    have y8' : gs (pU (pK P) (pT P) (pL P) (pB P)) μm μm' := y8.mono (fun a b q => by
      rw [Bool.or_eq_true, Bool.and_eq_true, beq_iff_eq, decide_eq_true_eq] at q
      rcases q with q | q
      · exact pUy (by have := of_decide_eq_true q; omega)
      · exact pUy (by omega))
    have y8c : ∀ b, 35 ≤ b → μm' 162 b = μm 162 b := fun b q => y8 162 b (by
      rw [Bool.or_eq_false_iff]
      exact ⟨decide_eq_false (by omega), by rw [decide_eq_false (by omega)]; rfl⟩)
    have y8f : gs (pU (pK P) (pT P) (pL P) (pB P)) μm (x_wr μm' 162 37 (nI (pL P + 1))) := y8'.wr (pUy (by omega))
    refine lEnd w hL y5 (y1.of (fun _ _ _ => rfl) (fun a b z => by rw [w_wr, if_neg (by omega)])) ⟨y2.1, by rw [w_wr, if_neg (by decide)]; exact y2.2⟩ (PCq w pc y7' (fun j _ _ => y7 16 j (by rw [Bool.or_eq_false_iff]; exact ⟨decide_eq_false (by omega), beq_false_of_ne (by omega)⟩))) (PMq w pmx y8f) ⟨?_, ?_, rfl, ?_⟩ y3 (y4.of (fun a _ _ => x_wr_rd (by omega))) (by omega) (gc.trans y7') (gm.trans y8f)
    · rw [w_wr, if_neg (by decide), y8c 35 (by decide)]; exact c.1
    · rw [w_wr, if_neg (by decide), y8c 36 (by decide)]; exact c.2.1
    · rw [w_wr, if_neg (by decide), y8c 38 (by decide)]; exact c.2.2.2
  by_cases r2 : r 0 = 2
  · unfold f5_readLayer_j84 f5_readNeedsAndBars
    rw [r2, if_pos (show nI 2 = 2 from rfl)]
    have hn := h.1.1.1
    rcases nbR w hL (fun (μ11 : xMu) => (some μ11)) (fun (μ29 : xMu) => (f12_readLayer_j305 μ29)) 600 k a e 0 1000 1000 r μc μm (by omega) (by decide) (by decide) (by omega) h nf pc.1.2.2.1 c.2.2.1 lc lm lw r2 with ⟨r', k', a', e', μc', μm', s1, s2, s3, s4, s5, s6, s7, s8, s9, s10⟩ | ⟨μc', μm', s1, s2, s3, s9, s10⟩
    · have E := fin r' k' a' e' μc' μm' s3 s4 s5 s6 s7 s8 s9 s10
      have m37 : μm' 162 37 = nI (pL P) := by
        rw [s10 162 37 (by rw [Bool.or_eq_false_iff]; exact ⟨decide_eq_false (by omega), by rw [decide_eq_false (by omega)]; rfl⟩)]
        exact c.2.2.1
      rw [show f5_readNeedsAndBars_l2 (fun (μ11 : xMu) => (some μ11)) 1000 (22 + pL P) 0 μc = _ from s1, Option.bind_some]
      have s2' : f12_readLayer_l184 (fun (μ29 : xMu) => (f12_readLayer_j305 μ29)) 1000 (nI (pL P)) μm = some (x_wr μm' 162 37 (nI (pL P + 1))) := by rw [s2, m305, m37, nI_1]
      simp only [s2', Option.bind_some]
      exact E
    · right
      obtain ⟨g, g1, g2, g7⟩ := s3.m
      rw [show f5_readNeedsAndBars_l2 (fun (μ11 : xMu) => (some μ11)) 1000 (22 + pL P) 0 μc = _ from s1, Option.bind_some, cf_94 s3.c]
      refine ⟨μc', x_wr μm' 162 37 (μm' 162 37 + 1), rfl, fun K f => ?_, s3.of (fun _ => rfl) (by rw [w_wr, if_neg (by decide)]) (by rw [w_wr, if_neg (by decide)]), gc.trans (s9.mono (fun a b q => ?_)), (gm.trans (s10.mono (fun a b q => ?_))).wr (pUy (by omega))⟩
      · dsimp only
        rw [s2, m305, Option.bind_some]
        exact rf_275 (by rw [w_wr, if_neg (by decide)]; exact g7) g1 g2
      · rw [Bool.or_eq_true, beq_iff_eq] at q
        rcases q with q | q
        · exact pQy (by have := of_decide_eq_true q; omega)
        · exact pQy (by omega)
      · rw [Bool.or_eq_true, Bool.and_eq_true, beq_iff_eq, decide_eq_true_eq] at q
        rcases q with q | q
        · exact pUy (by have := of_decide_eq_true q; omega)
        · exact pUy (by omega)
  · have hr := lw.1
    have n2 : ¬ nI (r 0) = (2 : Int32) := nI_ne (b := 2) (by omega) (by decide) r2
    have E := fin r k a e μc μm h nf lc lm lw (Nat.le_refl a) gs.refl gs.refl
    have s2 : f12_readLayer_l184 (fun (μ29 : xMu) => (f12_readLayer_j305 μ29)) 1000 (nI (pL P)) μm = some (x_wr μm 162 37 (nI (pL P + 1))) := by
      unfold f12_readLayer_l184
      rw [nf.2, if_pos rfl, a_ald hL (by decide), lm.1, if_neg n2, m305, c.2.2.1, nI_1]
    unfold f5_readLayer_j84
    rw [if_neg n2]
    simp only [s2, Option.bind_some]
    exact E
