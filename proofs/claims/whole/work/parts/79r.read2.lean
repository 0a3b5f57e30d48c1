/-! PURE: read -/
def gR : Nat → Bool := fun n => n == 0 || n == 2 || n == 4 || n == 8
def pRC : Nat → Nat → Bool := fun a b => decide (a < 162) && gR (x_gr a b)
def pRM : Nat → Nat → Bool := fun a b => decide (162 ≤ a) && gR (x_gr a b)
theorem pRCy {a b : Nat} (q : (a = 14 ∧ (1 ≤ b ∧ b ≤ 5)) ∨ (a = 126 ∧ (2 ≤ b ∧ b ≤ 4)) ∨ (a = 16 ∧ (5 ≤ b ∧ b ≤ 12)) ∨ (17 ≤ a ∧ a ≤ 125)) : pRC a b = true := by
  unfold pRC
  rw [decide_eq_true (show a < 162 by omega), Bool.true_and]
  rcases q with ⟨rfl, q⟩ | ⟨rfl, q⟩ | ⟨rfl, q⟩ | ⟨q1, q2⟩
  · show gR (if b = 1 then 4 else 0) = true
    split <;> rfl
  · show gR (if b = 4 then 2 else 0) = true
    split <;> rfl
  · show gR (if 5 ≤ b ∧ b ≤ 8 then 8 else 0) = true
    split <;> rfl
  · rw [gr8 q1 q2]; rfl
theorem pRMy {a b : Nat} (q : (a = 162 ∧ (b = 0 ∨ b = 5 ∨ b = 7 ∨ b = 10 ∨ b = 18 ∨ (26 ≤ b ∧ b ≤ 38))) ∨ (166 ≤ a ∧ a ≤ 181)) : pRM a b = true := by
  unfold pRM
  rw [decide_eq_true (show 162 ≤ a by omega), Bool.true_and]
  rcases q with ⟨rfl, q⟩ | ⟨q1, q2⟩
  · rcases (show b = 0 ∨ b = 5 ∨ b = 7 ∨ b = 10 ∨ b = 18 ∨ b = 26 ∨ b = 27 ∨ b = 28 ∨ b = 29 ∨ b = 30 ∨ b = 31 ∨ b = 32 ∨ b = 33 ∨ b = 34 ∨ b = 35 ∨ b = 36 ∨ b = 37 ∨ b = 38 by omega) with rfl | rfl | rfl | rfl | rfl | rfl | rfl | rfl | rfl | rfl | rfl | rfl | rfl | rfl | rfl | rfl | rfl | rfl <;> rfl
  · rw [gr8m q1 q2]; rfl
theorem pQR {K T L B : Nat} {μ μ' : xMu} (g : gs (pQ K T L B) μ μ') : gs pRC μ μ' := g.mono (fun a b q => pRCy (by have := of_decide_eq_true q; omega))
theorem pUR {K T L B : Nat} {μ μ' : xMu} (g : gs (pU K T L B) μ μ') : gs pRM μ μ' := g.mono (fun a b q => pRMy (by have := of_decide_eq_true q; omega))
def KA : xMu → Option (Int32 × xMu) := fun (μ6 : xMu) => (f5_readTape_j55 μ6)
def KB : xMu → Option (Int32 × xMu) := fun (μ20 : xMu) => (f12_read_j295 μ20)
def sA (μ : xMu) : xMu := x_wr (x_wr (x_wr (x_wr (x_wr (x_wr μ 126 2 0) 16 9 (μ 16 5)) 16 10 (μ 16 6)) 16 11 (μ 16 7)) 16 12 (μ 16 8)) 14 4 0
theorem t_rdt (μ : xMu) : f5_readTape μ = (f10_nextToken (sA μ)).bind fun μ3 => f5_readTape_l21 KA 1000 (nI 0) μ3 := by
  have k : f4_keepCounts (x_wr μ 126 2 0) = some (x_wr (x_wr (x_wr (x_wr (x_wr μ 126 2 0) 16 9 (μ 16 5)) 16 10 (μ 16 6)) 16 11 (μ 16 7)) 16 12 (μ 16 8)) := rfl
  unfold f5_readTape f10_firstToken
  rw [a_put, k, Option.bind_some, a_put]
  show ((f10_nextToken (sA μ)).bind fun μ2 => some μ2).bind _ = _
  cases f10_nextToken (sA μ) <;> rfl
def sB (μ : xMu) : xMu := x_wr (x_wr (x_wr (x_wr (x_wr (x_wr (x_wr (x_wr (x_wr μ 162 0 0) 162 28 (μ 162 26)) 162 26 0) 162 29 0) 162 33 0) 162 35 (μ 162 5)) 162 36 (μ 162 7)) 162 37 (μ 162 10)) 162 38 (μ 162 18)
theorem u_rdt (μ : xMu) : f12_read μ = (f12_step (sB μ)).bind fun μ10 => f12_read_l64 KB 1000 μ10 := by
  unfold f12_read
  rw [a_put, a_put, a_put, a_put, a_put, a_put, a_put, a_put, a_put]
  rfl
theorem sAG {μ : xMu} : gs pRC μ (sA μ) := (((((gs.refl.wr (pRCy (by omega))).wr (pRCy (by omega))).wr (pRCy (by omega))).wr (pRCy (by omega))).wr (pRCy (by omega))).wr (pRCy (by omega))
theorem sBG {μ : xMu} : gs pRM μ (sB μ) := ((((((((gs.refl.wr (pRMy (by omega))).wr (pRMy (by omega))).wr (pRMy (by omega))).wr (pRMy (by omega))).wr (pRMy (by omega))).wr (pRMy (by omega))).wr (pRMy (by omega))).wr (pRMy (by omega))).wr (pRMy (by omega))
theorem q_read {P : xP} {β : Nat → Nat} {n : Nat} {μc μm : xMu} (w : Pwf P) (pc : PC P μc) (pm : PM P μm) (tc : TC β n μc) (t6 : μm 162 26 = nI n) (tb : ∀ i, i < n → μm 182 i = nI (β i)) (hz : μc 126 4 = μm 162 27) :
    ∃ (r : Int32) (P' : xP) (μc' μm' : xMu), f11_read μc = some (r, μc') ∧ f12_read μm = some (r, μm') ∧ Pwf P' ∧ PC P' μc' ∧ PM P' μm' ∧ (pT P ≤ pT P' ∧ pL P ≤ pL P' ∧ ∀ l, l < pL P → P' 3 l 0 = P 3 l 0) ∧ μc' 126 4 = μm' 162 27 ∧ μc' 14 1 = 0 ∧ μm' 162 26 = 0 ∧ gs pRC μc μc' ∧ gs pRM μm μm' := by
  have tcA : TC β n (sA μc) := ⟨tc.1, tc.2.1, tc.2.2⟩
  have tmB : TM β n (sB μm) := ⟨tc.1, t6, fun i hi => ⟨(tc.2.2 i hi).1, tb i hi⟩⟩
  obtain ⟨k, a, e, μc0, μm0, x1, x2, x3, x4, x5, x6⟩ := j_nx0 tcA tmB (Nat.zero_le n) (show (sA μc) 14 4 = nI 0 from rfl) (show (sB μm) 162 29 = nI 0 from rfl) (fun _ => hz)
  have nf0 : NF μc0 μm0 := ⟨by rw [x5 126 2 (decide_eq_false (by omega))]; rfl, by rw [x6 162 33 (decide_eq_false (by omega))]; rfl⟩
  have pcA : PC P (sA μc) := pc.of (fun j a b => by
    unfold sA
    rw [w_wr, if_neg (by omega), w_wr, if_neg (by omega), w_wr, if_neg (by omega), w_wr, if_neg (by omega), w_wr, if_neg (by omega), w_wr, if_neg (by omega)]) (fun k a b => by
    unfold sA
    rw [x_wr_ne (by omega), x_wr_ne (by omega), x_wr_ne (by omega), x_wr_ne (by omega), x_wr_ne (by omega), x_wr_ne (by omega)]) w
  have pc0 : PC P μc0 := PCq w pcA (pQ6 (p26o x5)) (fun j _ _ => x5 16 j (decide_eq_false (by omega)))
  have pmxB : PMx P (sB μm) := pm.2
  have pmx0 : PMx P μm0 := PMq w pmxB (pU3 (p33o x6))
  have c0 : ∀ b, 35 ≤ b → μm0 162 b = (sB μm) 162 b := fun b p => x6 162 b (decide_eq_false (by omega))
  have J0 : Jok P β n k a e μc0 μm0 := ⟨x3, nf0, pc0, pmx0, ⟨by rw [c0 35 (by decide)]; exact pm.1.1, by rw [c0 36 (by decide)]; exact pm.1.2.1, by rw [c0 37 (by decide)]; exact pm.1.2.2.1, by rw [c0 38 (by decide)]; exact pm.1.2.2.2⟩, w⟩
  have hn := tc.1
  have C0 : f11_read μc = (f5_readTape_l21 KA 1000 (nI 0) μc0).bind fun q1 => (if 0 ≤ q1.1 then (some (((-1000100 : Int32) - q1.1), q1.2)) else (some ((q1.2 16 8), q1.2))) := by
    unfold f11_read
    rw [t_rdt, x1, Option.bind_some]
  have D0 : f12_read μm = f12_read_l64 KB 1000 μm0 := by rw [u_rdt, x2, Option.bind_some]
  have gA : gs pRC μc μc0 := sAG.trans (pQR (K := 0) (T := 0) (L := 0) (B := 0) (pQ6 (p26o x5)))
  have gB : gs pRM μm μm0 := sBG.trans (pUR (K := 0) (T := 0) (L := 0) (B := 0) (pU3 (p33o x6)))
  rcases readL KA KB 600 P k a e 0 1000 1000 μc0 μm0 (by omega) (by decide) (by decide) (Nat.zero_le _) J0 with ⟨P', k', a', e', μc', μm', y1, y2, y3, y4, y5, y6⟩ | ⟨μc', μm', y1, y2, y3, y5, y6⟩
  · obtain ⟨kt, nf, pc', pmx', ⟨d5, d6, d7, d8⟩, w'⟩ := y3
    have KC : KA μc' = some (-1, x_wr μc' 14 1 0) := by
      unfold KA f5_readTape_j55 f5_readTape_j69 f10_clear
      rw [nf.1, if_pos rfl, a_put, Option.bind_some, show (x_wr μc' 14 1 0) 126 2 = 0 from nf.1, if_pos rfl]
    have KM : KB μm' = some (nI (pB P'), x_wr (x_wr (x_wr (x_wr μm' 162 5 (nI (pK P'))) 162 7 (nI (pT P'))) 162 10 (nI (pL P'))) 162 18 (nI (pB P'))) := by
      unfold KB f12_read_j295
      rw [nf.2, if_pos (show (0 : Int32) ≤ 0 by decide), a_put, a_put, a_put, a_put, d5, show (x_wr μm' 162 5 (nI (pK P'))) 162 36 = nI (pT P') from d6, show (x_wr (x_wr μm' 162 5 (nI (pK P'))) 162 7 (nI (pT P'))) 162 37 = nI (pL P') from d7, show (x_wr (x_wr (x_wr μm' 162 5 (nI (pK P'))) 162 7 (nI (pT P'))) 162 10 (nI (pL P'))) 162 38 = nI (pB P') from d8]
      rfl
    refine ⟨nI (pB P'), P', x_wr μc' 14 1 0, x_wr (x_wr (x_wr (x_wr μm' 162 5 (nI (pK P'))) 162 7 (nI (pT P'))) 162 10 (nI (pL P'))) 162 18 (nI (pB P')), ?_, ?_, w', ?_, ⟨⟨rfl, rfl, rfl, rfl⟩, pmx'⟩, ⟨y4.2.1, y4.2.2.1, fun l hl => ?_⟩, ?_, rfl, ?_, (gA.trans (pQR y5)).wr (pRCy (by omega)), ((((gB.trans (pUR y6)).wr (pRMy (by omega))).wr (pRMy (by omega))).wr (pRMy (by omega))).wr (pRMy (by omega))⟩
    · rw [C0, y1, KC, Option.bind_some]
      dsimp only
      rw [if_neg (by decide), show (x_wr μc' 14 1 0) 16 8 = nI (pB P') from pc'.1.2.2.2]
    · rw [D0, y2, KM]
    · exact pc'.of (fun j _ _ => x_wr_rd (by decide)) (fun k a b => x_wr_ne (by omega)) w'
    · have hL8 := w.1.2.2.1
      have e1 := (pc'.2.2.2.1 l (by omega)).1
      have e2 := (pc0.2.2.2.1 l hl).1
      rw [y5 (22 + l) 0 (pQn (by omega)), e2] at e1
      have b1 := (w.2.2.2.1 l hl).1
      have b2 := (w'.2.2.2.1 l (by omega)).1
      exact ((nI_eq (by omega) (by omega)).mp e1).symm
    · exact kt.2.2.2.2.2.2.2 nf.1
    · show μm' 162 26 = 0
      rw [y6 162 26 (pUn (by omega)), x6 162 26 (decide_eq_false (by omega))]
      rfl
  · obtain ⟨f, pl, g1, g2, g3, g4, g5, g6, g7, g8⟩ := y3
    let μr := x_wr (x_wr (x_wr (x_wr μc' 16 5 (nI (pK P))) 16 6 (nI (pT P))) 16 7 (nI (pL P))) 16 8 (nI (pB P))
    have k9 : ∀ j, 9 ≤ j → j ≤ 12 → μc' 16 j = (sA μc) 16 j := fun j p q => (y5 16 j (pQn (by omega))).trans (x5 16 j (decide_eq_false (by omega)))
    have s9 : (sA μc) 16 9 = nI (pK P) ∧ (sA μc) 16 10 = nI (pT P) ∧ (sA μc) 16 11 = nI (pL P) ∧ (sA μc) 16 12 = nI (pB P) := ⟨pc.1.1, pc.1.2.1, pc.1.2.2.1, pc.1.2.2.2⟩
    have RC : f4_restoreCounts μc' = some μr := by
      unfold f4_restoreCounts
      rw [a_put, a_put, a_put, a_put, k9 9 (by decide) (by decide), s9.1, show (x_wr μc' 16 5 (nI (pK P))) 16 10 = nI (pT P) from (k9 10 (by decide) (by decide)).trans s9.2.1, show (x_wr (x_wr μc' 16 5 (nI (pK P))) 16 6 (nI (pT P))) 16 11 = nI (pL P) from (k9 11 (by decide) (by decide)).trans s9.2.2.1, show (x_wr (x_wr (x_wr μc' 16 5 (nI (pK P))) 16 6 (nI (pT P))) 16 7 (nI (pL P))) 16 12 = nI (pB P) from (k9 12 (by decide) (by decide)).trans s9.2.2.2]
    have r126 : ∀ b, (x_wr μr 14 1 0) 126 b = μc' 126 b := fun b => rfl
    have KC : KA μc' = some (nI pl, x_wr μr 14 1 0) := by
      unfold KA f5_readTape_j55 f5_readTape_j69 f10_clear
      rw [g4, if_neg (show ¬ (1 : Int32) = 0 by decide), RC, Option.bind_some, a_put, Option.bind_some, r126, g4, if_neg (show ¬ (1 : Int32) = 0 by decide), r126, g6]
    have KM : KB μm' = some (-1000100 - nI pl, x_wr μm' 162 27 (nI f)) := by
      unfold KB f12_read_j295
      rw [g7, if_neg (nI_nle (by omega) (by omega)), a_put, show (x_wr μm' 162 27 (nI f)) 162 34 = nI pl from g8]
    have gQr : gs (pQ (pK P) (pT P) (pL P) (pB P)) μc0 μr := (((y5.wr (pQy (by omega))).wr (pQy (by omega))).wr (pQy (by omega))).wr (pQy (by omega))
    have pcr : PC P μr := PCq w pc0 gQr (fun j p q => by
      rcases (show j = 5 ∨ j = 6 ∨ j = 7 ∨ j = 8 by omega) with rfl | rfl | rfl | rfl
      · exact pc0.1.1.symm
      · exact pc0.1.2.1.symm
      · exact pc0.1.2.2.1.symm
      · exact pc0.1.2.2.2.symm)
    have pmx' := PMq w pmx0 y6
    have mc : ∀ b, b < 29 → μm' 162 b = (sB μm) 162 b := fun b p => (y6 162 b (pUn (by omega))).trans (x6 162 b (decide_eq_false (by omega)))
    refine ⟨-1000100 - nI pl, P, x_wr μr 14 1 0, x_wr μm' 162 27 (nI f), ?_, ?_, w, ?_, ⟨⟨?_, ?_, ?_, ?_⟩, pmx'⟩, ⟨Nat.le_refl _, Nat.le_refl _, fun l _ => rfl⟩, ?_, rfl, ?_, (gA.trans (pQR gQr)).wr (pRCy (by omega)), (gB.trans (pUR y6)).wr (pRMy (by omega))⟩
    · rw [C0, y1, KC, Option.bind_some]
      dsimp only
      rw [if_pos (nI_pos' (by omega))]
    · rw [D0, y2, KM]
    · exact pcr.of (fun j _ _ => x_wr_rd (by decide)) (fun k a b => x_wr_ne (by omega)) w
    · show μm' 162 5 = _
      rw [mc 5 (by decide)]; exact pm.1.1
    · show μm' 162 7 = _
      rw [mc 7 (by decide)]; exact pm.1.2.1
    · show μm' 162 10 = _
      rw [mc 10 (by decide)]; exact pm.1.2.2.1
    · show μm' 162 18 = _
      rw [mc 18 (by decide)]; exact pm.1.2.2.2
    · show μc' 126 4 = nI f
      exact g5
    · show μm' 162 26 = 0
      rw [mc 26 (by decide)]
      rfl
theorem s_read : x_S_read x_R := by
  intro μ h
  obtain ⟨P, O, F, w, pc, pm, ow, fw, cc, cm⟩ := h.2.2.2.2.2.2.2
  obtain ⟨n, n6, t1, t2, t3⟩ := h.2.2.2.1
  have tc : TC (fun i => (μ 15 i).toNatClampNeg) n μ := ⟨n6, t1, fun i hi => by
    obtain ⟨b, b1, b2, b3⟩ := t3 i hi
    dsimp only
    rw [b2, nI_clamp (by omega)]
    exact ⟨b1, rfl⟩⟩
  have tb : ∀ i, i < n → μ 182 i = nI ((fun i => (μ 15 i).toNatClampNeg) i) := fun i hi => by
    obtain ⟨b, b1, b2, b3⟩ := t3 i hi
    dsimp only
    rw [b2, b3, nI_clamp (by omega)]
  obtain ⟨r0, P0, μ1, -, a1, -, -, -, -, -, -, -, -, gc, -⟩ := q_read w pc pm tc t2 tb h.2.1
  have g1 : ∀ k j, 162 ≤ k → μ1 k j = μ k j := fun k j q => gc k j (by unfold pRC; rw [decide_eq_false (by omega)]; rfl)
  have pm1 : PM P μ1 := pm.of (fun j _ => g1 _ _ (by decide)) (fun k a b => funext fun j => g1 _ _ (by omega))
  obtain ⟨r, P', μ1', μ2, b1, b2, b3, b4, b5, ⟨b6, b7, b8⟩, b9, b10, b11, b12, b13⟩ := q_read (μm := μ1) w pc pm1 tc (by rw [g1 _ _ (by decide)]; exact t2) (fun i hi => by rw [g1 _ _ (by decide)]; exact tb i hi) (by rw [g1 _ _ (by decide)]; exact h.2.1)
  obtain ⟨rfl, rfl⟩ := Prod.mk.inj (Option.some.inj (a1.symm.trans b1))
  have G : gs (fun k j => gR (x_gr k j)) μ μ2 := (b12.mono (fun a b q => by
    unfold pRC at q
    rw [Bool.and_eq_true] at q
    exact q.2)).trans (b13.mono (fun a b q => by
    unfold pRM at q
    rw [Bool.and_eq_true] at q
    exact q.2))
  have g2 : ∀ k j, k < 162 → μ2 k j = μ1 k j := fun k j q => b13 k j (by unfold pRM; rw [decide_eq_false (by omega)]; rfl)
  refine ⟨r0, μ1, μ2, b1, b2, h.grp gR G (Or.inl rfl) (Or.inr ?_) (Or.inl rfl) (Or.inr ⟨0, by decide, ?_, b11, fun i hi => by omega⟩) (Or.inl rfl) (Or.inl rfl) (Or.inl rfl) (Or.inr ⟨P', O, F, b3, ?_, b5, ⟨ow.1, fun q hq => ?_⟩, ⟨fw.1, fun l hl => ?_⟩, gCC cc G rfl, gCM cm G rfl⟩)⟩
  · rw [g2 _ _ (by decide)]; exact b9
  · rw [g2 _ _ (by decide)]; exact b10
  · exact b4.of (fun j _ _ => g2 _ _ (by decide)) (fun k a b => funext fun j => g2 _ _ (by omega)) b3
  · obtain ⟨q1, q2⟩ := ow.2 q hq
    refine ⟨by omega, ?_⟩
    rw [b8 _ q1]
    rcases q2 with ⟨y1, y2⟩ | ⟨y1, y2, y3⟩
    · exact Or.inl ⟨y1, y2⟩
    · exact Or.inr ⟨y1, y2, by omega⟩
  · obtain ⟨q1, q2⟩ := fw.2 l hl
    exact ⟨by omega, by rw [b8 _ q1]; exact q2⟩
