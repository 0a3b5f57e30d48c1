/-! PURE: runs: the class's runner; one act -/
def rnr (v : Nat) : Prop := v = 135 ∨ v = 147
theorem rn1 {v : Nat} (h : rnr v) : x_isb v 7 = true ∧ x_rf v 3 = some (v + 1) ∧ x_rf v 4 = some (v + 8) ∧ x_rf v 5 = some (v + 9) ∧ x_rf v 6 = some (v + 10) ∧ x_isb (v + 1) 17 = true ∧ x_isb (v + 8) 13 = true ∧ x_isb (v + 9) 13 = true ∧ x_isb (v + 10) 13 = true ∧ x_sz (v + 1) = 6 ∧ x_sz (v + 8) = 6 ∧ x_sz (v + 9) = 6 ∧ x_sz (v + 10) = 40 := by
  rcases h with rfl | rfl <;> decide +kernel
theorem gr0 {k j : Nat} (h : (136 ≤ k ∧ k ≤ 144) ∨ (146 ≤ k ∧ k ≤ 159) ∨ (131 ≤ k ∧ k ≤ 134)) : x_gr k j = 0 := by
  unfold x_gr
  rw [if_neg (by omega), if_neg (by omega), if_neg (by omega), if_pos (by omega), if_neg (by omega), if_neg (by omega), if_neg (by omega), if_neg (by omega), if_neg (by omega), if_neg (by omega), if_neg (by omega), if_neg (by omega)]
theorem rn2 {v : Nat} (h : rnr v) : ∀ s, s < 6 → x_rf (v + 1) s = some (v + 2 + s) ∧ x_isb (v + 2 + s) 13 = true ∧ x_sz (v + 2 + s) = 24 := by
  rcases h with rfl | rfl <;> decide +kernel
theorem rnC {v s : Nat} (h : rnr v) (hs : s < 6) : rowC (v + 2 + s) := by
  obtain ⟨-, a, b⟩ := rn2 h s hs
  have h' : v = 135 ∨ v = 147 := h
  exact ⟨a, by omega, by omega, fun j => gr0 (by omega), by omega, by omega, by omega⟩
def pC (v s : Nat) : Nat → Nat → Bool := fun a b => decide ((a = v ∧ (b = 7 ∨ b = 8)) ∨ a = v + 10 ∨ a = 127 ∨ (129 ≤ a ∧ a ≤ 133) ∨ (v + 2 + s ≤ a ∧ a < v + 8) ∨ ((a = v + 8 ∨ a = v + 9) ∧ s ≤ b))
theorem pCy {v s a b : Nat} (q : (a = v ∧ (b = 7 ∨ b = 8)) ∨ a = v + 10 ∨ a = 127 ∨ (129 ≤ a ∧ a ≤ 133) ∨ (v + 2 + s ≤ a ∧ a < v + 8) ∨ ((a = v + 8 ∨ a = v + 9) ∧ s ≤ b)) : pC v s a b = true := decide_eq_true q
theorem pCn {v s a b : Nat} (q : ¬ ((a = v ∧ (b = 7 ∨ b = 8)) ∨ a = v + 10 ∨ a = 127 ∨ (129 ≤ a ∧ a ≤ 133) ∨ (v + 2 + s ≤ a ∧ a < v + 8) ∨ ((a = v + 8 ∨ a = v + 9) ∧ s ≤ b))) : pC v s a b = false := decide_eq_false q
theorem pCi {v s a b : Nat} (q : pC v s a b = true) : (a = v ∧ (b = 7 ∨ b = 8)) ∨ a = v + 10 ∨ a = 127 ∨ (129 ≤ a ∧ a ≤ 133) ∨ (v + 2 + s ≤ a ∧ a < v + 8) ∨ ((a = v + 8 ∨ a = v + 9) ∧ s ≤ b) := of_decide_eq_true q
theorem pC_up {v s s' : Nat} {μ μ' : xMu} (g : gs (pC v s') μ μ') (b : s ≤ s') : gs (pC v s) μ μ' := g.mono (fun k j q => pCy (by have := pCi q; omega))
theorem pCP {P : xP} {v s : Nat} {μ μ' : xMu} (h : rnr v) (w : Pwf P) (pc : PC P μ) (g : gs (pC v s) μ μ') : PC P μ' := by
  have h' : v = 135 ∨ v = 147 := h
  exact pc.of (fun j _ _ => g 16 j (pCn (by omega))) (fun k a b => g.row fun j => pCn (by omega)) w
def SC (v s t : Nat) (R : List Nat) (μ : xMu) : Prop := RW (v + 2 + s) R μ ∧ μ (v + 8) s = nI R.length ∧ μ (v + 9) s = nI t
theorem SC.of {v s s' t : Nat} {R : List Nat} {μ μ' : xMu} (h : rnr v) (m : SC v s t R μ) (g : gs (pC v s') μ μ') (hs : s < s') (h6 : s < 6) : SC v s t R μ' := by
  have h' : v = 135 ∨ v = 147 := h
  refine ⟨fun i b q => ?_, ?_, ?_⟩
  · rw [g _ _ (pCn (by omega))]; exact m.1 i b q
  · rw [g _ _ (pCn (by omega))]; exact m.2.1
  · rw [g _ _ (pCn (by omega))]; exact m.2.2
/-- the class's memory and the reference's at the same point of a run -/
def SS (v : Nat) (P : xP) (O : xO) (F n x : Nat) (μc μm : xMu) : Prop :=
  (PC P μc ∧ CC O F μc ∧ μc v 7 = nI n ∧ μc v 8 = nI x) ∧ (PM P μm ∧ CM O F μm ∧ μm 162 57 = nI n ∧ μm 162 59 = nI x) ∧ Owf P O ∧ Fwf P F ∧ n ≤ 60 ∧ x < 2 ∧ ∀ i, i < n → i < 40 → μc (v + 10) i = μm 198 i
theorem SS.m {v : Nat} {P : xP} {O : xO} {F n x : Nat} {μc μm μm' : xMu} (h : SS v P O F n x μc μm) (g : gs (fun a b => decide ((187 ≤ a ∧ a ≤ 197) ∨ (a = 162 ∧ (b = 48 ∨ (60 ≤ b ∧ b ≤ 64))))) μm μm') : SS v P O F n x μc μm' := by
  obtain ⟨c, ⟨m1, m2, m3, m4⟩, r1, r2, r3, r4, r5⟩ := h
  have g' : ∀ a b, ¬ ((187 ≤ a ∧ a ≤ 197) ∨ (a = 162 ∧ (b = 48 ∨ (60 ≤ b ∧ b ≤ 64)))) → μm' a b = μm a b := fun a b q => g a b (decide_eq_false q)
  refine ⟨c, ⟨?_, ?_, ?_, ?_⟩, r1, r2, r3, r4, fun i a b => ?_⟩
  · exact m1.of (fun j hj => g' 162 j (by omega)) (fun k a b => funext fun j => g' k j (by omega))
  · exact m2.of (g' _ _ (by omega)) (g' _ _ (by omega)) (funext fun j => g' _ j (by omega)) (funext fun j => g' _ j (by omega))
  · rw [g' _ _ (by omega)]; exact m3
  · rw [g' _ _ (by omega)]; exact m4
  · rw [g' _ _ (by omega)]; exact r5 i a b
theorem SS.c {v : Nat} {P : xP} {O : xO} {F n x : Nat} {μc μm μc' : xMu} (w : Pwf P) (hv : rnr v) (h : SS v P O F n x μc μm) (g : gs (fun a _ => decide ((131 ≤ a ∧ a ≤ 133) ∨ (v + 2 ≤ a ∧ a < v + 10))) μc μc') : SS v P O F n x μc' μm := by
  obtain ⟨⟨m1, m2, m3, m4⟩, c, r1, r2, r3, r4, r5⟩ := h
  have h' : v = 135 ∨ v = 147 := hv
  have g' : ∀ a b, ¬ ((131 ≤ a ∧ a ≤ 133) ∨ (v + 2 ≤ a ∧ a < v + 10)) → μc' a b = μc a b := fun a b q => g a b (decide_eq_false q)
  refine ⟨⟨?_, ?_, ?_, ?_⟩, c, r1, r2, r3, r4, fun i a b => ?_⟩
  · exact m1.of (fun j _ _ => g' 16 j (by omega)) (fun k a b => funext fun j => g' k j (by omega)) w
  · exact m2.of (g' _ _ (by omega)) (g' _ _ (by omega)) (funext fun j => g' _ j (by omega)) (funext fun j => g' _ j (by omega))
  · rw [g' _ _ (by omega)]; exact m3
  · rw [g' _ _ (by omega)]; exact m4
  · rw [g' _ _ (by omega)]; exact r5 i a b
/-- one act of the reference -/
def mAC (rc : Int32 → xMu → Option xMu) (h b i t : Nat) (op : Int32) (μ6 : xMu) : Option xMu :=
  (x_sw op (nI 0) [
(x_ald μ6 193 61 (nI h) fun x10 =>
(x_ald μ6 181 432 (nI (18 * b + 3 * i + 1)) fun x11 =>
(x_ast μ6 193 61 (nI h) ((x10 + x11) - (x10 + x11) / (1000003 : Int32) * (1000003 : Int32)) fun μ12 =>
(f12_doActs_j436 rc (1 : Int32) μ12)))),
(x_ald μ6 193 61 (nI h) fun x13 =>
(x_ald μ6 181 432 (nI (18 * b + 3 * i + 1)) fun x14 =>
(x_ast μ6 193 61 (nI h) ((x13 * x14) - (x13 * x14) / (1000003 : Int32) * (1000003 : Int32)) fun μ15 =>
(f12_doActs_j436 rc (1 : Int32) μ15)))),
(x_ald μ6 193 61 (nI h) fun x16 =>
(x_ald μ6 168 8 (nI t) fun x17 =>
(x_ast μ6 193 61 (nI h) ((x16 + x17) - (x16 + x17) / (1000003 : Int32) * (1000003 : Int32)) fun μ18 =>
(f12_doActs_j436 rc (1 : Int32) μ18)))),
((f12_goNext μ6).bind fun μ19 =>
(f12_doActs_j436 rc (0 : Int32) μ19)),
(x_ald μ6 190 61 (nI h) fun x20 =>
(if x20 = (6 : Int32) then
(x_put μ6 162 59 (1 : Int32) fun μ31 =>
((f12_over (1 : Int32) μ31).bind fun μ32 =>
(f12_doActs_j436 rc (0 : Int32) μ32)))
else
(x_ast μ6 196 61 (nI h) (2 : Int32) fun μ21 =>
(x_ald μ21 190 61 (nI h) fun x22 =>
(x_put μ21 162 63 (x22 + (1 : Int32)) fun μ23 =>
(x_put μ23 162 64 (0 : Int32) fun μ24 =>
(x_ald μ24 193 61 (nI h) fun x25 =>
(x_put μ24 162 62 x25 fun μ26 =>
(x_put μ26 162 60 (0 : Int32) fun μ27 =>
(x_ald μ27 181 432 (nI (18 * b + 3 * i + 1)) fun x28 =>
(x_ald μ27 181 432 (nI (18 * b + 3 * i + 2)) fun x29 =>
((f12_layRow (μ27 162 63) x28 x29 μ27).bind fun μ30 =>
(f12_doActs_j436 rc (0 : Int32) μ30))))))))))))),
(if (μ6 162 41) = (16 : Int32) then
((f12_over (1 : Int32) μ6).bind fun μ41 =>
(f12_doActs_j436 rc (0 : Int32) μ41))
else
(x_ald μ6 181 432 (nI (18 * b + 3 * i + 1)) fun x33 =>
(x_ast μ6 185 16 (μ6 162 41) x33 fun μ34 =>
(x_ald μ34 181 432 (nI (18 * b + 3 * i + 1)) fun x35 =>
(x_ald μ34 169 8 x35 fun x36 =>
(if x36 = 0 then
(f12_doActs_j405 rc (1 : Int32) (nI h) (μ34 162 41) (-1000000 : Int32) μ34)
else
(f12_doActs_j405 rc (1 : Int32) (nI h) (μ34 162 41) (nI t) μ34)))))))] 
((f12_over (1 : Int32) μ6).bind fun μ42 =>
(f12_doActs_j436 rc (0 : Int32) μ42)))
/-- the reference between acts: act i of body b -/
theorem u_acp {P : xP} {h s p g v i c y t b f : Nat} {R : List Nat} {μ : xMu} (w : Pwf P) (pm : PM P μ) (hs : s < 6) (hh : h < 61) (e : EN h s p g v i c y μ) (m : SM s t R μ) (hR : R.length ≤ 24) (hb : R[p]? = some b) (hbB : b < pB P) (h8 : μ 162 48 = nI (h + 1)) (hi : i < P 4 b 4) (k : xMu → Option xMu) :
    f12_doActs_l2 k (f + 1) 1 μ = mAC (f12_doActs_l2 k f) h b i t (nI (P (5 + i) b 0)) (x_wr μ 194 h (nI (i + 1))) := by
  have hB := w.1.2.2.2
  have q := w.2.2.2.2 b hbB
  have a := pm.2.2.2.2 b hbB
  have e0 : (μ 162 48) - (1 : Int32) = nI h := by rw [h8, show (1 : Int32) = nI 1 from rfl, pk_sub (by omega)]; rfl
  have ei : ((18 : Int32) * nI b) + ((3 : Int32) * nI i) = nI (18 * b + 3 * i) := by
    rw [show (18 : Int32) = nI 18 from rfl, show (3 : Int32) = nI 3 from rfl, pk_mul, pk_mul, nI_add]
  conv => lhs; unfold f12_doActs_l2
  rw [if_neg (by decide), u_top hs hh e m hR hb h8]
  simp only [Option.bind_some]
  rw [e0, a_ald hh (by decide), e.2.2.2.2.1, a_ald (by omega) (by decide), a.1, if_neg (nI_ne (by omega) (by omega) (by omega)), a_ald hh (by decide), e.2.2.2.2.1, a_ald hh (by decide), e.2.2.2.2.1, a_ast hh (by decide), a_ald hh (by decide), show (x_wr μ 194 h (nI i + 1)) 190 h = nI (s + 1) from e.1, a_ald (show s + 1 < 7 by omega) (by decide), show (x_wr μ 194 h (nI i + 1)) 189 (s + 1) = nI t from m.2, ei, a_ald (by omega) (by decide), show (x_wr μ 194 h (nI i + 1)) 181 (18 * b + 3 * i) = nI (P (5 + i) b 0) from (a.2.2.2.2.2 i hi).1, nI_1, nI_1, show nI (18 * b + 3 * i) + (2 : Int32) = nI (18 * b + 3 * i + 2) from nI_add _ 2]
  rfl
/-- the reference at the end of a body's acts -/
theorem u_ace {P : xP} {h s p g v c y t b f : Nat} {R : List Nat} {μ : xMu} (w : Pwf P) (pm : PM P μ) (hs : s < 6) (hh : h < 61) (e : EN h s p g v (P 4 b 4) c y μ) (m : SM s t R μ) (hR : R.length ≤ 24) (hb : R[p]? = some b) (hbB : b < pB P) (h8 : μ 162 48 = nI (h + 1)) (k : xMu → Option xMu) :
    f12_doActs_l2 k (f + 2) 1 μ = if P 4 b 3 = 0 then k (gN h s p v μ) else (f12_over (nI y) μ).bind k := by
  have hB := w.1.2.2.2
  have q := w.2.2.2.2 b hbB
  have a := pm.2.2.2.2 b hbB
  have e0 : (μ 162 48) - (1 : Int32) = nI h := by rw [h8, show (1 : Int32) = nI 1 from rfl, pk_sub (by omega)]; rfl
  conv => lhs; unfold f12_doActs_l2
  rw [if_neg (by decide), u_top hs hh e m hR hb h8]
  simp only [Option.bind_some]
  rw [e0, a_ald hh (by decide), e.2.2.2.2.1, a_ald (by omega) (by decide), a.1, if_pos rfl, a_ald (by omega) (by decide), a.2.2.1]
  have l0 : ∀ μ', f12_doActs_j436 (f12_doActs_l2 k (f + 1)) 0 μ' = k μ' := fun μ' => by
    unfold f12_doActs_j436 f12_doActs_l2
    rw [if_pos rfl]
  by_cases z : P 4 b 3 = 0
  · rw [z, if_pos (show nI 0 = 0 from rfl), if_pos rfl, u_gn hh e h8]
    exact l0 _
  · rw [if_neg (nI_ne0 (by omega) (by omega)), if_neg z, a_ald hh (by decide), e.2.2.2.2.2.2]
    simp only [l0]
