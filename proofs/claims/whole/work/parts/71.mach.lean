/-! PURE: runs: the reference's machine, step by step -/
def pD (h s : Nat) : Nat → Nat → Bool := fun a b => decide ((a = 162 ∧ (b = 41 ∨ b = 44 ∨ b = 48 ∨ b = 57 ∨ (59 ≤ b ∧ b ≤ 64))) ∨ a = 185 ∨ a = 186 ∨ a = 198 ∨ (190 ≤ a ∧ a ≤ 197 ∧ h ≤ b) ∨ ((a = 187 ∨ a = 189) ∧ s + 1 ≤ b) ∨ (a = 188 ∧ 24 * (s + 1) ≤ b))
theorem pDy {h s a b : Nat} (q : (a = 162 ∧ (b = 41 ∨ b = 44 ∨ b = 48 ∨ b = 57 ∨ (59 ≤ b ∧ b ≤ 64))) ∨ a = 185 ∨ a = 186 ∨ a = 198 ∨ (190 ≤ a ∧ a ≤ 197 ∧ h ≤ b) ∨ ((a = 187 ∨ a = 189) ∧ s + 1 ≤ b) ∨ (a = 188 ∧ 24 * (s + 1) ≤ b)) : pD h s a b = true := decide_eq_true q
theorem pDn {h s a b : Nat} (q : ¬ ((a = 162 ∧ (b = 41 ∨ b = 44 ∨ b = 48 ∨ b = 57 ∨ (59 ≤ b ∧ b ≤ 64))) ∨ a = 185 ∨ a = 186 ∨ a = 198 ∨ (190 ≤ a ∧ a ≤ 197 ∧ h ≤ b) ∨ ((a = 187 ∨ a = 189) ∧ s + 1 ≤ b) ∨ (a = 188 ∧ 24 * (s + 1) ≤ b))) : pD h s a b = false := decide_eq_false q
theorem pDi {h s a b : Nat} (q : pD h s a b = true) : (a = 162 ∧ (b = 41 ∨ b = 44 ∨ b = 48 ∨ b = 57 ∨ (59 ≤ b ∧ b ≤ 64))) ∨ a = 185 ∨ a = 186 ∨ a = 198 ∨ (190 ≤ a ∧ a ≤ 197 ∧ h ≤ b) ∨ ((a = 187 ∨ a = 189) ∧ s + 1 ≤ b) ∨ (a = 188 ∧ 24 * (s + 1) ≤ b) := of_decide_eq_true q
theorem pDP {P : xP} {h s : Nat} {μ μ' : xMu} (pm : PM P μ) (g : gs (pD h s) μ μ') : PM P μ' :=
  pm.of (fun j hj => g 162 j (pDn (by omega))) (fun k a b => g.row fun j => pDn (by omega))
theorem pD_up {h h' s s' : Nat} {μ μ' : xMu} (g : gs (pD h' s') μ μ') (a : h ≤ h') (b : s ≤ s') : gs (pD h s) μ μ' := g.mono (fun k j q => pDy (by have := pDi q; omega))
/-- an entry of the pile -/
def EN (h s p g v i c y : Nat) (μ : xMu) : Prop := μ 190 h = nI (s + 1) ∧ μ 191 h = nI p ∧ μ 192 h = nI g ∧ μ 193 h = nI v ∧ μ 194 h = nI i ∧ μ 195 h = nI c ∧ μ 197 h = nI y
theorem EN.of {h s p g v i c y : Nat} {μ μ' : xMu} (e : EN h s p g v i c y μ) (q : ∀ a, 190 ≤ a → a ≤ 197 → μ' a h = μ a h) : EN h s p g v i c y μ' := by
  unfold EN at e ⊢
  rw [q 190 (by omega) (by omega), q 191 (by omega) (by omega), q 192 (by omega) (by omega), q 193 (by omega) (by omega), q 194 (by omega) (by omega), q 195 (by omega) (by omega), q 197 (by omega) (by omega)]
  exact e
/-- a row with its thing, in the reference's slot s + 1 -/
def SM (s t : Nat) (R : List Nat) (μ : xMu) : Prop := MW (s + 1) R μ ∧ μ 189 (s + 1) = nI t
theorem MW.of {s : Nat} {R : List Nat} {μ μ' : xMu} (m : MW s R μ) (hR : R.length ≤ 24) (q1 : μ' 187 s = μ 187 s) (q2 : ∀ i, i < 24 → μ' 188 (24 * s + i) = μ 188 (24 * s + i)) : MW s R μ' := by
  refine ⟨by rw [q1]; exact m.1, fun i b h => ?_⟩
  rw [q2 i (by have := (List.getElem?_eq_some_iff.mp h).1; omega)]
  exact m.2 i b h
theorem SM.of {h s s' t : Nat} {R : List Nat} {μ μ' : xMu} (m : SM s t R μ) (hR : R.length ≤ 24) (g : gs (pD h s') μ μ') (hs : s < s') : SM s t R μ' :=
  ⟨m.1.of hR (g _ _ (pDn (by omega))) (fun i hi => g _ _ (pDn (by omega))), by rw [g _ _ (pDn (by omega))]; exact m.2⟩
theorem u_top {h s p g v i c y t b : Nat} {R : List Nat} {μ : xMu} (hs : s < 6) (hh : h < 61) (e : EN h s p g v i c y μ) (m : SM s t R μ) (hR : R.length ≤ 24) (hb : R[p]? = some b) (h8 : μ 162 48 = nI (h + 1)) : f12_topBody μ = some (nI b) := by
  have hp : p < R.length := (List.getElem?_eq_some_iff.mp hb).1
  unfold f12_topBody
  rw [h8, show (1 : Int32) = nI 1 from rfl, pk_sub (by omega), show h + 1 - 1 = h by omega, a_ald hh (by decide), e.1, a_ald hh (by decide), e.2.1, show (24 : Int32) = nI 24 from rfl, pk_mul, nI_add, a_ald (by omega) (by decide), m.1.2 p b hb]
/-- the reference goes to the next body -/
def gN (h s p v : Nat) (μ : xMu) : xMu := x_wr (x_wr (x_wr (x_wr (x_wr μ 196 h 1) 162 60 0) 162 63 (nI (s + 1))) 162 64 (nI (p + 1))) 162 62 (nI v)
theorem u_gn {h s p g v i c y : Nat} {μ : xMu} (hh : h < 61) (e : EN h s p g v i c y μ) (h8 : μ 162 48 = nI (h + 1)) : f12_goNext μ = some (gN h s p v μ) := by
  have e0 : (μ 162 48) - (1 : Int32) = nI h := by rw [h8, show (1 : Int32) = nI 1 from rfl, pk_sub (by omega)]; rfl
  unfold f12_goNext
  simp only [e0, a_ast hh (show 61 < 2 ^ 31 by decide), a_ald hh (show 61 < 2 ^ 31 by decide), a_put]
  unfold gN
  rw [show (x_wr (x_wr μ 196 h 1) 162 60 0) 190 h = nI (s + 1) from e.1]
  rw [show (x_wr (x_wr (x_wr μ 196 h 1) 162 60 0) 162 63 (nI (s + 1))) 191 h = nI p from e.2.1, nI_1]
  rw [show (x_wr (x_wr (x_wr (x_wr μ 196 h 1) 162 60 0) 162 63 (nI (s + 1))) 162 64 (nI (p + 1))) 193 h = nI v from e.2.2.2.1]
theorem gN_g {h s p v s' : Nat} {μ : xMu} : gs (pD h s') μ (gN h s p v μ) := (((((gs.refl.wr (pDy (by omega))).wr (pDy (by omega))).wr (pDy (by omega))).wr (pDy (by omega))).wr (pDy (by omega)))
/-- a body is over -/
theorem u_ovr {P : xP} {O E : xO} {A F h s p g v i c y z s' : Nat} {μ : xMu} (w : Pwf P) (hA : ∀ l, A.testBit l = awU P O l) (hh : h < 61) (e : EN h s p g v i c y μ) (h8 : μ 162 48 = nI (h + 1)) (hz : z < 2) (hE : E.length = c) (pm : PM P μ) (ow : Owf P (O ++ E)) (fw : Fwf P F) (cm : CM (O ++ E) F μ) :
    ∃ μ', f12_over (nI z) μ = some μ' ∧ CM O (cl P A E F) μ' ∧ μ' 162 48 = nI h ∧ μ' 162 60 = 1 ∧ μ' 162 61 = nI z ∧ μ' 162 62 = nI v ∧ μ' 162 57 = μ 162 57 ∧ μ' 162 59 = μ 162 59 ∧ μ' 198 = μ 198 ∧ gs (pD h s') μ μ' := by
  have e0 : (μ 162 48) - (1 : Int32) = nI h := by rw [h8, show (1 : Int32) = nI 1 from rfl, pk_sub (by omega)]; rfl
  have h16 := ow.1
  rw [List.length_append] at h16
  have zk : x_zok (nI z) = true := by
    rcases (show z = 0 ∨ z = 1 by omega) with rfl | rfl <;> rfl
  have g1 : gs (pD h s') μ (x_wr (x_wr (x_wr μ 162 62 (nI v)) 162 61 (nI z)) 162 60 1) := ((gs.refl.wr (pDy (by omega))).wr (pDy (by omega))).wr (pDy (by omega))
  obtain ⟨μa, a1, a2, a3⟩ := l_ovr (A := A) (h := h) w hA hh (fun (μ10 : xMu) => (x_put μ10 162 48 ((μ10 162 48) - (1 : Int32)) fun μ11 => (some μ11))) c 1000 E F _ hE (by omega) (pDP pm g1) ow fw (show CM (O ++ E) F (x_wr (x_wr (x_wr μ 162 62 (nI v)) 162 61 (nI z)) 162 60 1) from ⟨cm.1, cm.2.1, cm.2.2⟩) (show _ = nI c from e.2.2.2.2.2.1)
  have h8a : μa 162 48 = nI (h + 1) := by rw [a3 162 48 (pVn (by omega))]; exact h8
  refine ⟨x_wr μa 162 48 (nI h), ?_, ⟨a2.1, a2.2.1, a2.2.2⟩, rfl, ?_, ?_, ?_, ?_, ?_, ?_, ?_⟩
  · unfold f12_over
    rw [e0, a_ald hh (by decide), e.2.2.2.1, a_put, a_tst zk, a_put, a_put]
    refine a1.trans ?_
    rw [a_put, h8a, show (1 : Int32) = nI 1 from rfl, pk_sub (by omega)]
    rfl
  · show μa 162 60 = 1
    rw [a3 162 60 (pVn (by omega))]; rfl
  · show μa 162 61 = _
    rw [a3 162 61 (pVn (by omega))]; rfl
  · show μa 162 62 = _
    rw [a3 162 62 (pVn (by omega))]; rfl
  · show μa 162 57 = _
    rw [a3 162 57 (pVn (by omega))]; rfl
  · show μa 162 59 = _
    rw [a3 162 59 (pVn (by omega))]; rfl
  · rw [x_wr_ne (by decide), a3.row (fun j => pVn (by omega))]
    rfl
  · refine (g1.trans (a3.mono (fun k j q => pDy ?_))).wr (pDy (by omega))
    have := of_decide_eq_true q
    omega
/-- a body begins -/
theorem u_beg {P : xP} {s p v n h b t : Nat} {R : List Nat} {μ : xMu} (w : Pwf P) (pm : PM P μ) (hs : s < 6) (hh : h ≤ n) (hn : n < 60) (m : SM s t R μ) (hR : R.length ≤ 24) (hb : R[p]? = some b) (hbB : b < pB P) (r7 : μ 162 57 = nI n) (r8 : μ 162 48 = nI h) (r2 : μ 162 62 = nI v) (r3 : μ 162 63 = nI (s + 1)) (r4 : μ 162 64 = nI p) :
    ∃ μ', f12_begin μ = (if P 4 b 3 = 1 then (f12_goNext μ').bind (fun μ14 => some ((0 : Int32), μ14)) else some ((1 : Int32), μ')) ∧ EN h s p v v 0 0 0 μ' ∧ μ' 162 48 = nI (h + 1) ∧ μ' 162 57 = nI (n + 1) ∧ μ' 162 59 = μ 162 59 ∧ (∀ i, i < n → μ' 198 i = μ 198 i) ∧ (n < 40 → μ' 198 n = nI b) ∧ gs (fun a j => decide ((a = 162 ∧ (j = 57 ∨ j = 48)) ∨ a = 198 ∨ (190 ≤ a ∧ a ≤ 197 ∧ h ≤ j))) μ μ' := by
  have hp : p < R.length := (List.getElem?_eq_some_iff.mp hb).1
  have hB := w.1.2.2.2
  have q := w.2.2.2.2 b hbB
  have key : ∀ μ1 : xMu, μ1 162 57 = nI n → μ1 162 48 = nI h → μ1 162 62 = nI v → μ1 162 63 = nI (s + 1) → μ1 162 64 = nI p → SM s t R μ1 → PM P μ1 →
      ∃ μ', f12_begin_j89 μ1 = (if P 4 b 3 = 1 then (f12_goNext μ').bind (fun μ14 => some ((0 : Int32), μ14)) else some ((1 : Int32), μ')) ∧ EN h s p v v 0 0 0 μ' ∧ μ' 162 48 = nI (h + 1) ∧ μ' 162 57 = nI (n + 1) ∧ μ' 162 59 = μ1 162 59 ∧ μ' 198 = μ1 198 ∧ gs (fun a j => decide ((a = 162 ∧ (j = 57 ∨ j = 48)) ∨ (190 ≤ a ∧ a ≤ 197 ∧ h ≤ j))) μ1 μ' := by
    intro μ1 r7 r8 r2 r3 r4 m pm
    have hh2 : h < 61 := by omega
    let μ2 := x_wr μ1 162 57 (nI (n + 1))
    let μa := x_wr (x_wr (x_wr (x_wr (x_wr (x_wr (x_wr (x_wr μ2 190 h (nI (s + 1))) 191 h (nI p)) 192 h (nI v)) 193 h (nI v)) 194 h 0) 195 h 0) 196 h 0) 197 h 0
    let μb := x_wr μa 162 48 (nI (h + 1))
    have eN : EN h s p v v 0 0 0 μb := by
      refine ⟨?_, ?_, ?_, ?_, ?_, ?_, ?_⟩ <;> (simp [μb, μa, x_wr]; try rfl)
    have g : gs (fun a j => decide ((a = 162 ∧ (j = 57 ∨ j = 48)) ∨ (190 ≤ a ∧ a ≤ 197 ∧ h ≤ j))) μ1 μb := by
      refine gs.wr (gs.wr (gs.wr (gs.wr (gs.wr (gs.wr (gs.wr (gs.wr (gs.wr (gs.wr gs.refl ?_) ?_) ?_) ?_) ?_) ?_) ?_) ?_) ?_) ?_ <;> exact decide_eq_true (by omega)
    have mb : SM s t R μb := ⟨m.1.of hR (g _ _ (decide_eq_false (by omega))) (fun i hi => g _ _ (decide_eq_false (by omega))), by rw [g _ _ (decide_eq_false (by omega))]; exact m.2⟩
    have pmb : PM P μb := pm.of (fun j hj => g 162 j (decide_eq_false (by omega))) (fun k a b => g.row fun j => decide_eq_false (by omega))
    refine ⟨μb, ?_, eN, rfl, rfl, rfl, ?_, g⟩
    · unfold f12_begin_j89
      rw [a_put, r7, nI_1]
      rw [show (x_wr μ1 162 57 (nI (n + 1))) 162 48 = nI h from r8, show (x_wr μ1 162 57 (nI (n + 1))) 162 63 = nI (s + 1) from r3, a_ast hh2 (by decide)]
      have k8 : ∀ (ν : xMu) (c : Nat) (u : Int32), c ≠ 162 → x_wr ν c h u 162 = ν 162 := fun ν c u hc => x_wr_ne (Ne.symm hc)
      simp only [k8 _ 190 _ (by decide), k8 _ 191 _ (by decide), k8 _ 192 _ (by decide), k8 _ 193 _ (by decide), k8 _ 194 _ (by decide), k8 _ 195 _ (by decide), k8 _ 196 _ (by decide), k8 _ 197 _ (by decide), show (x_wr μ1 162 57 (nI (n + 1))) 162 48 = nI h from r8, show (x_wr μ1 162 57 (nI (n + 1))) 162 62 = nI v from r2, show (x_wr μ1 162 57 (nI (n + 1))) 162 64 = nI p from r4, a_ast hh2 (show 61 < 2 ^ 31 by decide), a_put, nI_1]
      change (f12_topBody μb).bind (fun x12 => x_ald μb 179 24 x12 fun x13 => if x13 = (1 : Int32) then (f12_goNext μb).bind (fun μ14 => some ((0 : Int32), μ14)) else some ((1 : Int32), μb)) = _
      rw [u_top hs hh2 eN mb hR hb rfl]
      simp only [Option.bind_some]
      rw [a_ald (by omega) (by decide), (pmb.2.2.2.2 b hbB).2.2.1]
      by_cases y : P 4 b 3 = 1
      · rw [y, if_pos (show nI 1 = 1 from rfl), if_pos rfl]
      · rw [if_neg (show ¬ nI (P 4 b 3) = 1 from nI_ne (b := 1) (by omega) (by decide) y), if_neg y]
    · simp [μb, μa, μ2, x_wr_ne]
  unfold f12_begin
  rw [r3, a_ald (show s + 1 < 7 by omega) (by decide), m.1.1, r4, if_neg (nI_ne (by omega) (by omega) (by omega)), r7, if_neg (show ¬ nI n = 60 from nI_ne (b := 60) (by omega) (by decide) (by omega))]
  by_cases c : 40 ≤ n
  · rw [if_pos (show (40 : Int32) ≤ nI n from nI_le (a := 40) c (by omega))]
    obtain ⟨μ', a1, a2, a3, a4, a5, a6, a7⟩ := key μ r7 r8 r2 r3 r4 m pm
    exact ⟨μ', a1, a2, a3, a4, a5, fun i _ => by rw [a6], fun z => by omega, a7.mono (fun k j z => decide_eq_true (by have := of_decide_eq_true z; omega))⟩
  · rw [if_neg (show ¬ (40 : Int32) ≤ nI n from nI_ge (b := 40) (by omega) (by decide)), show (24 : Int32) = nI 24 from rfl, pk_mul, nI_add, a_ald (by omega) (by decide), m.1.2 p b hb, a_ast (by omega) (by decide)]
    have g0 : gs (pD h 6) μ (x_wr μ 198 n (nI b)) := gs.refl.wr (pDy (by omega))
    obtain ⟨μ', a1, a2, a3, a4, a5, a6, a7⟩ := key (x_wr μ 198 n (nI b)) r7 r8 r2 r3 r4 (m.of hR g0 hs) (pDP pm g0)
    refine ⟨μ', a1, a2, a3, a4, a5, fun i hi => ?_, fun _ => ?_, ?_⟩
    · rw [a6, w_wr, if_neg (by omega)]
    · rw [a6, w_wr, if_pos ⟨rfl, rfl⟩]
    · refine gs.trans (gs.wr gs.refl (decide_eq_true (by omega))) (a7.mono (fun k j z => decide_eq_true (by have := of_decide_eq_true z; omega)))
