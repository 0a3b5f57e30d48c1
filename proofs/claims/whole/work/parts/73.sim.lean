/-! PURE: runs: coming back; the class's call -/
def cd (rc a : Nat) : Int32 := if rc = 1 then -1000004 else nI a
def DA (K : xMu → Option (Int32 × xMu)) (f g : Nat) (μ : xMu) : Option (Int32 × xMu) := (f12_doActs_l2 (fun (μ47 : xMu) => (some μ47)) g 1 μ).bind fun μ11 => f12_outermost_l47 K f μ11
/-- a run from place p of the row in slot s: what class and reference do -/
def RSim (k : Nat) : Prop := ∀ (P : xP) (v0 s t p v F n h : Nat) (R : List Nat) (O : xO) (μc μm : xMu), Pwf P → rnr v0 → 61 ≤ k + n → s < 6 → SS v0 P O F n 0 μc μm → SC v0 s t R μc → SM s t R μm → t < pT P → R.length ≤ 24 → (∀ b ∈ R, b < pB P) → h ≤ n → p ≤ R.length → v < 1000003 → μm 162 48 = nI h → μm 162 60 = 0 → μm 162 62 = nI v → μm 162 63 = nI (s + 1) → μm 162 64 = nI p →
  ∃ (rc a F' n' x' T : Nat) (μc' μm' : xMu), f7_runFrom k v0 (nI s) (nI p) (nI v) μc = some (cd rc a, μc') ∧ (∀ K f, f12_outermost_l47 K (f + T) μm = f12_outermost_l47 K f μm') ∧ T ≤ 16 * (n' - n) + 1 ∧ n ≤ n' ∧ rc < 2 ∧ a < 1000003 ∧ (x' = 1 → rc = 1) ∧ SS v0 P O F' n' x' μc' μm' ∧ μm' 162 48 = nI h ∧ μm' 162 60 = 1 ∧ μm' 162 61 = nI rc ∧ (rc = 0 → μm' 162 62 = nI a) ∧ gs (pC v0 (s + 1)) μc μc' ∧ gs (pD h (s + 1)) μm μm'
theorem u_cb {P : xP} {h s p g v i c y t b f z : Nat} {R : List Nat} {μ : xMu} {K : xMu → Option (Int32 × xMu)} (w : Pwf P) (pm : PM P μ) (hs : s < 6) (hh : h < 61) (e : EN h s p g v i c y μ) (m : SM s t R μ) (hR : R.length ≤ 24) (hb : R[p]? = some b) (hbB : b < pB P) (h8 : μ 162 48 = nI (h + 1)) (h60 : μ 162 60 = 1) (h96 : μ 196 h = nI z) (hz : z = 1 ∨ z = 2) :
    f12_outermost_l47 K (f + 1) μ = (f12_comeBack_j32 (nI h) (nI (P 4 b 3)) (if z = 1 then 1 else 0) μ).bind fun q12 => f12_outermost_j79 (f12_outermost_l47 K f) q12.1 q12.2 := by
  have hB := w.1.2.2.2
  have e0 : (μ 162 48) - (1 : Int32) = nI h := by rw [h8, show (1 : Int32) = nI 1 from rfl, pk_sub (by omega)]; rfl
  conv => lhs; unfold f12_outermost_l47 f12_outermost_j61 f12_comeBack
  rw [h60, if_neg (by decide), h8, if_neg (nI_nle (by omega) (by omega)), if_neg (by decide), u_top hs hh e m hR hb h8]
  simp only [Option.bind_some]
  rw [a_ald (by omega) (by decide), (pm.2.2.2.2 b hbB).2.2.1, ← h8, e0, a_ald hh (by decide), h96]
  rcases hz with rfl | rfl
  · rw [if_pos (show nI 1 = 1 from rfl), if_pos rfl]
  · rw [if_neg (show ¬ nI 2 = 1 by decide), if_neg (by decide)]
theorem u_cbO {P : xP} {h s p g v i c y t b f z a : Nat} {R : List Nat} {μ : xMu} {K : xMu → Option (Int32 × xMu)} (w : Pwf P) (pm : PM P μ) (hs : s < 6) (hh : h < 61) (e : EN h s p g v i c y μ) (m : SM s t R μ) (hR : R.length ≤ 24) (hb : R[p]? = some b) (hbB : b < pB P) (h8 : μ 162 48 = nI (h + 1)) (h60 : μ 162 60 = 1) (h96 : μ 196 h = nI z) (hz : z = 1 ∨ z = 2) (h61 : μ 162 61 = nI 0) (h62 : μ 162 62 = nI a) :
    f12_outermost_l47 K (f + 1) μ = if P 4 b 3 = 0 ∧ z = 1 then (f12_over 0 (x_wr (x_wr μ 196 h 0) 193 h (nI a))).bind (fun μ' => f12_outermost_l47 K f μ') else DA K f 1000 (x_wr (x_wr μ 196 h 0) 193 h (nI a)) := by
  have q := w.2.2.2.2 b hbB
  rw [u_cb w pm hs hh e m hR hb hbB h8 h60 h96 hz]
  unfold f12_comeBack_j32
  rw [a_ast hh (by decide), show (x_wr μ 196 h 0) 162 61 = nI 0 from h61, if_pos (show nI 0 = 0 from rfl), show (x_wr μ 196 h 0) 162 62 = nI a from h62, a_ast hh (by decide)]
  have D : f12_outermost_j79 (f12_outermost_l47 K f) 1 (x_wr (x_wr μ 196 h 0) 193 h (nI a)) = DA K f 1000 (x_wr (x_wr μ 196 h 0) 193 h (nI a)) := by
    unfold f12_outermost_j79 f12_doActs DA
    rw [if_neg (by decide)]
    rfl
  have D0 : ∀ ν, f12_outermost_j79 (f12_outermost_l47 K f) 0 ν = f12_outermost_l47 K f ν := fun ν => by
    unfold f12_outermost_j79
    rw [if_pos rfl]
    rfl
  by_cases x : P 4 b 3 = 0
  · rw [x, if_pos (show nI 0 = 0 from rfl)]
    rcases hz with rfl | rfl
    · rw [if_pos rfl, if_neg (by decide), if_pos ⟨rfl, rfl⟩]
      cases f12_over 0 (x_wr (x_wr μ 196 h 0) 193 h (nI a)) with
      | none => rfl
      | some ν => exact D0 ν
    · rw [if_pos (by decide), if_neg (by omega)]
      exact D
  · rw [if_neg (nI_ne0 (by omega) (by omega)), if_neg (fun z => x z.1)]
    exact D
theorem u_cbN {P : xP} {h s p g v i c y t b f z x : Nat} {R : List Nat} {μ : xMu} {K : xMu → Option (Int32 × xMu)} (w : Pwf P) (pm : PM P μ) (hs : s < 6) (hh : h < 61) (e : EN h s p g v i c y μ) (m : SM s t R μ) (hR : R.length ≤ 24) (hb : R[p]? = some b) (hbB : b < pB P) (h8 : μ 162 48 = nI (h + 1)) (h60 : μ 162 60 = 1) (h96 : μ 196 h = nI z) (hz : z = 1 ∨ z = 2) (h61 : μ 162 61 = nI 1) (h59 : μ 162 59 = nI x) (hx : x < 2) :
    f12_outermost_l47 K (f + 1) μ = if P 4 b 3 = 1 ∧ z = 1 ∧ x = 0 then DA K f 1000 (x_wr (x_wr (x_wr μ 196 h 0) 193 h (nI g)) 197 h 1) else (f12_over 1 (x_wr μ 196 h 0)).bind (fun μ' => f12_outermost_l47 K f μ') := by
  have q := w.2.2.2.2 b hbB
  rw [u_cb w pm hs hh e m hR hb hbB h8 h60 h96 hz]
  unfold f12_comeBack_j32 f12_comeBack_j84
  rw [a_ast hh (by decide), show (x_wr μ 196 h 0) 162 61 = nI 1 from h61, if_neg (show ¬ nI 1 = 0 by decide)]
  have D0 : ∀ ν, f12_outermost_j79 (f12_outermost_l47 K f) 0 ν = f12_outermost_l47 K f ν := fun ν => by
    unfold f12_outermost_j79
    rw [if_pos rfl]
    rfl
  have N : ((f12_over 1 (x_wr μ 196 h 0)).bind fun μ7 => some ((0 : Int32), μ7)).bind (fun q12 => f12_outermost_j79 (f12_outermost_l47 K f) q12.1 q12.2) = (f12_over 1 (x_wr μ 196 h 0)).bind (fun μ' => f12_outermost_l47 K f μ') := by
    cases f12_over 1 (x_wr μ 196 h 0) with
    | none => rfl
    | some ν => exact D0 ν
  by_cases y1 : P 4 b 3 = 1
  · rw [y1, if_pos (show nI 1 = 1 from rfl)]
    rcases hz with rfl | rfl
    · rw [if_pos rfl, if_neg (by decide), show (x_wr μ 196 h 0) 162 59 = nI x from h59]
      rcases (show x = 0 ∨ x = 1 by omega) with rfl | rfl
      · rw [if_pos (show nI 0 = 0 from rfl), if_pos ⟨rfl, rfl, rfl⟩, a_ald hh (by decide), show (x_wr μ 196 h 0) 192 h = nI g from e.2.2.1, a_ast hh (by decide), a_ast hh (by decide)]
        show f12_outermost_j79 (f12_outermost_l47 K f) 1 _ = _
        unfold f12_outermost_j79 f12_doActs DA
        rw [if_neg (by decide)]
        rfl
      · rw [if_neg (show ¬ nI 1 = 0 by decide), if_neg (fun z => absurd z.2.2 (by decide))]
        exact N
    · rw [if_pos (by decide), if_neg (fun z => absurd z.2.1 (by decide))]
      exact N
  · rw [if_neg (show ¬ nI (P 4 b 3) = 1 from nI_ne (b := 1) (by omega) (by decide) y1), if_neg (fun z => y1 z.1)]
    exact N
/-- the class's call into slot s -/
theorem t_call {P : xP} {O : xO} {F v0 s t r v : Nat} {μ : xMu} (w : Pwf P) (hv : rnr v0) (pc : PC P μ) (ow : Owf P O) (fw : Fwf P F) (cc : CC O F μ) (hs : s < 6) (ht : t < pT P) (hr : r < 4) (rf : Nat → Int32 → Int32 → Int32 → xMu → Option (Int32 × xMu)) :
    ∃ μ', f7_callAt rf v0 (nI s) (nI t) (nI r) (nI v) μ = rf v0 (nI s) 0 (nI v) μ' ∧ SC v0 s t (rowM P O F t r) μ' ∧ gs (fun a b => decide ((131 ≤ a ∧ a ≤ 133) ∨ a = v0 + 2 + s ∨ ((a = v0 + 8 ∨ a = v0 + 9) ∧ b = s))) μ μ' := by
  obtain ⟨n1, n2, n3, n4, n5, n6, n7, n8, n9, z1, z2, z3, z4⟩ := rn1 hv
  have h' : v0 = 135 ∨ v0 = 147 := hv
  have g1 : gs (fun a b => decide ((131 ≤ a ∧ a ≤ 133) ∨ a = v0 + 2 + s ∨ ((a = v0 + 8 ∨ a = v0 + 9) ∧ b = s))) μ (x_wr μ (v0 + 9) s (nI t)) := gs.refl.wr (decide_eq_true (by omega))
  have g1' : gs (pC v0 0) μ (x_wr μ (v0 + 9) s (nI t)) := gs.refl.wr (pCy (by omega))
  have cc1 : CC O F (x_wr μ (v0 + 9) s (nI t)) := cc.of (g1 _ _ (decide_eq_false (by omega))) (g1 _ _ (decide_eq_false (by omega))) (g1.row fun _ => decide_eq_false (by omega)) (g1.row fun _ => decide_eq_false (by omega))
  obtain ⟨μa, a1, a2, a3⟩ := t_fill w (pCP hv w pc g1') ow fw cc1 (rnC hv hs) ht hr
  have g2 : gs (fun a b => decide ((131 ≤ a ∧ a ≤ 133) ∨ a = v0 + 2 + s ∨ ((a = v0 + 8 ∨ a = v0 + 9) ∧ b = s))) (x_wr μ (v0 + 9) s (nI t)) μa := a3.mono (fun k j q => by
    unfold pF pG at q
    simp only [Bool.or_eq_true, beq_iff_eq, Bool.and_eq_true] at q
    exact decide_eq_true (by omega))
  refine ⟨x_wr μa (v0 + 8) s (nI (rowM P O F t r).length), ?_, ⟨fun i b q => ?_, ?_, ?_⟩, (g1.trans g2).wr (decide_eq_true (by omega))⟩
  · unfold f7_callAt
    rw [if_pos (show nI s < 6 from nI_lt (b := 6) hs (by decide)), a_chk n1, a_rfd n4, a_chk n8, z3, a_ast hs (by decide), a_rfd n3, a_rfd n2, a_chk n6, z1, a_rld hs (by decide) (rn2 hv s hs).1, a1]
    simp only [Option.bind_some]
    rw [a_chk n7, z2, a_ast hs (by decide)]
    cases rf v0 (nI s) 0 (nI v) (x_wr μa (v0 + 8) s (nI (rowM P O F t r).length)) <;> rfl
  · rw [x_wr_ne (by omega)]
    exact a2 i b q
  · rw [w_wr, if_pos ⟨rfl, rfl⟩]
  · rw [x_wr_ne (by omega), a3 (v0 + 9) s (by
      unfold pF pG
      simp only [Bool.or_eq_false_iff, Bool.and_eq_false_iff, beq_eq_false_iff_ne]
      omega), w_wr, if_pos ⟨rfl, rfl⟩]
