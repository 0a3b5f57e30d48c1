/-! PURE: the relation of class and reference -/
abbrev xP : Type := Nat → Nat → Nat → Nat
def pK (P : xP) : Nat := P 0 0 0
def pT (P : xP) : Nat := P 0 1 0
def pL (P : xP) : Nat := P 0 2 0
def pB (P : xP) : Nat := P 0 3 0
/-- a number or none, told as 0 or one more -/
def cN (no : Int32) (c : Nat) : Int32 := if c = 0 then no else nI (c - 1)
def Pwf (P : xP) : Prop :=
  (pK P ≤ 8 ∧ pT P ≤ 8 ∧ pL P ≤ 8 ∧ pB P ≤ 24) ∧
  (∀ k, k < pK P → P 1 k 0 ≤ k) ∧
  (∀ t, t < pT P → P 2 t 0 < pK P ∧ P 2 t 1 < 100) ∧
  (∀ l, l < pL P → P 3 l 0 < 4 ∧ P 3 l 1 < 10 ∧ P 3 l 2 < 2 ^ l ∧ P 3 l 3 < 2 ^ l ∧ (P 3 l 0 ≠ 2 → P 3 l 2 = 0) ∧ P 3 l 4 < 2 ∧ (P 3 l 4 = 1 → P 3 l 5 < 4 ∧ (P 3 l 6 = 60 ∨ P 3 l 6 = 61 ∨ P 3 l 6 = 62) ∧ P 3 l 7 < 10)) ∧
  (∀ b, b < pB P → P 4 b 0 ≤ pL P ∧ P 4 b 1 < pK P ∧ P 4 b 2 < 4 ∧ P 4 b 3 < 4 ∧ P 4 b 4 ≤ 6 ∧
    ∀ i, i < P 4 b 4 → P (5 + i) b 0 < 7 ∧ P (5 + i) b 1 < 10 ∧ P (5 + i) b 2 < 4 ∧ (P (5 + i) b 0 = 4 → P (5 + i) b 1 < pT P) ∧ (P (5 + i) b 0 = 5 → P (5 + i) b 1 < pL P ∧ P 3 (P (5 + i) b 1) 0 < 2) ∧ (P (5 + i) b 0 = 3 → P 4 b 3 = 2))
/-- the program in the class's cells -/
def PC (P : xP) (μ : xMu) : Prop :=
  (μ 16 5 = nI (pK P) ∧ μ 16 6 = nI (pT P) ∧ μ 16 7 = nI (pL P) ∧ μ 16 8 = nI (pB P)) ∧
  (∀ k, k < pK P → μ 17 k = cN (-1) (P 1 k 0)) ∧
  (∀ t, t < pT P → μ 18 t = nI (P 2 t 0) ∧ μ 19 t = nI (P 2 t 1)) ∧
  (∀ l, l < pL P → μ (22 + l) 0 = nI (P 3 l 0) ∧ μ (22 + l) 1 = nI (P 3 l 1) ∧ μ (22 + l) 2 = nI (P 3 l 2) ∧ μ (22 + l) 3 = nI (P 3 l 3) ∧ μ (22 + l) 4 = nI (P 3 l 4) ∧ (P 3 l 4 = 1 → μ (22 + l) 5 = nI (P 3 l 5) ∧ μ (22 + l) 6 = nI (P 3 l 6) ∧ μ (22 + l) 7 = nI (P 3 l 7))) ∧
  (∀ b, b < pB P → μ (30 + 4 * b) 3 = nI (P 4 b 4) ∧ μ (30 + 4 * b) 4 = cN (-1) (P 4 b 0) ∧ μ (30 + 4 * b) 5 = nI (P 4 b 3) ∧ μ (30 + 4 * b) 6 = nI (P 4 b 1) ∧ μ (30 + 4 * b) 7 = nI (P 4 b 2) ∧
    ∀ i, i < P 4 b 4 → μ (31 + 4 * b) i = nI (P (5 + i) b 0) ∧ μ (32 + 4 * b) i = nI (P (5 + i) b 1) ∧ μ (33 + 4 * b) i = nI (P (5 + i) b 2))
/-- the program in the reference's cells -/
def PM (P : xP) (μ : xMu) : Prop :=
  (μ 162 5 = nI (pK P) ∧ μ 162 7 = nI (pT P) ∧ μ 162 10 = nI (pL P) ∧ μ 162 18 = nI (pB P)) ∧
  (∀ k, k < pK P → μ 166 k = cN (-1000000) (P 1 k 0)) ∧
  (∀ t, t < pT P → μ 167 t = nI (P 2 t 0) ∧ μ 168 t = nI (P 2 t 1)) ∧
  (∀ l, l < pL P → μ 169 l = nI (P 3 l 0) ∧ μ 170 l = nI (P 3 l 1) ∧ μ 174 l = nI (P 3 l 2) ∧ μ 175 l = nI (P 3 l 3) ∧ (P 3 l 4 = 0 → μ 171 l = -1000000) ∧ (P 3 l 4 = 1 → μ 171 l = nI (P 3 l 5) ∧ μ 172 l = nI (P 3 l 6) ∧ μ 173 l = nI (P 3 l 7))) ∧
  (∀ b, b < pB P → μ 180 b = nI (P 4 b 4) ∧ μ 176 b = cN (-1000000) (P 4 b 0) ∧ μ 179 b = nI (P 4 b 3) ∧ μ 177 b = nI (P 4 b 1) ∧ μ 178 b = nI (P 4 b 2) ∧
    ∀ i, i < P 4 b 4 → μ 181 (18 * b + 3 * i) = nI (P (5 + i) b 0) ∧ μ 181 (18 * b + 3 * i + 1) = nI (P (5 + i) b 1) ∧ μ 181 (18 * b + 3 * i + 2) = nI (P (5 + i) b 2))
/-- circumstances: facts as told; the open wakings (layer, 0 or thing + 1), the oldest first; the found set -/
abbrev xO : Type := List (Nat × Nat)
def Owf (P : xP) (O : xO) : Prop := O.length ≤ 16 ∧ ∀ q ∈ O, q.1 < pL P ∧ ((P 3 q.1 0 = 0 ∧ q.2 = 0) ∨ (P 3 q.1 0 = 1 ∧ 0 < q.2 ∧ q.2 ≤ pT P))
def Fwf (P : xP) (F : Nat) : Prop := F < 256 ∧ ∀ l, F.testBit l = true → l < pL P ∧ P 3 l 0 = 2
def CC (O : xO) (F : Nat) (μ : xMu) : Prop := μ 127 4 = nI O.length ∧ μ 127 5 = nI F ∧ ∀ i q, O[i]? = some q → μ 129 i = nI q.1 ∧ μ 130 i = cN (-1000000) q.2
def CM (O : xO) (F : Nat) (μ : xMu) : Prop := μ 162 41 = nI O.length ∧ μ 162 44 = nI F ∧ ∀ i q, O[i]? = some q → μ 185 i = nI q.1 ∧ μ 186 i = cN (-1000000) q.2
/-- the sheets -/
def SH (μ : xMu) : Prop := ∀ s, s < 8 → (μ 2 s = 0 ∧ μ 163 s = -1) ∨ (μ 2 s = 1 ∧ ∃ la n, la < 3 ∧ n ≤ 40 ∧ μ 3 s = nI la ∧ μ 163 s = nI la ∧ μ 4 s = nI n ∧ μ 164 s = nI n ∧ ∀ i, i < n → μ (6 + s) i = μ 165 (40 * s + i))
def TP (μ : xMu) : Prop := ∃ n, n ≤ 600 ∧ μ 14 1 = nI n ∧ μ 162 26 = nI n ∧ ∀ i, i < n → ∃ b, b < 256 ∧ μ 15 i = nI b ∧ μ 182 i = nI b
def FT (μ : xMu) : Prop := ∀ f, f < 4 → ∃ v, v < 10 ∧ μ 128 f = nI v ∧ μ 183 f = nI v
def RN (μ : xMu) : Prop := ∃ n, n ≤ 60 ∧ μ 135 7 = nI n ∧ μ 162 65 = nI n ∧ ∀ i, i < n → i < 40 → μ 145 i = μ 199 i
def TR (μ : xMu) : Prop := ∃ n, n ≤ 16 ∧ μ 160 3 = nI n ∧ μ 162 71 = nI n ∧ ∀ i, i < n → μ 161 i = μ 202 i
def x_R (μ : xMu) : Prop := μ 0 10 = μ 162 1 ∧ μ 126 4 = μ 162 27 ∧ SH μ ∧ TP μ ∧ FT μ ∧ RN μ ∧ TR μ ∧ ∃ P O F, Pwf P ∧ PC P μ ∧ PM P μ ∧ Owf P O ∧ Fwf P F ∧ CC O F μ ∧ CM O F μ
/-! what each part looks at -/
theorem PC.of {P : xP} {μ μ' : xMu} (h : PC P μ) (h1 : ∀ j, 5 ≤ j → j ≤ 8 → μ' 16 j = μ 16 j) (h2 : ∀ k, 17 ≤ k → k ≤ 125 → μ' k = μ k) (hw : Pwf P) : PC P μ' := by
  obtain ⟨⟨a1, a2, a3, a4⟩, b, c, d, e⟩ := h
  obtain ⟨⟨w1, w2, w3, w4⟩, -⟩ := hw
  refine ⟨⟨by rw [h1 5 (by decide) (by decide)]; exact a1, by rw [h1 6 (by decide) (by decide)]; exact a2, by rw [h1 7 (by decide) (by decide)]; exact a3, by rw [h1 8 (by decide) (by decide)]; exact a4⟩, ?_, ?_, ?_, ?_⟩
  · intro k hk; rw [h2 17 (by decide) (by decide)]; exact b k hk
  · intro t ht; rw [h2 18 (by decide) (by decide), h2 19 (by decide) (by decide)]; exact c t ht
  · intro l hl; rw [h2 (22 + l) (by omega) (by omega)]; exact d l hl
  · intro q hq; rw [h2 (30 + 4 * q) (by omega) (by omega), h2 (31 + 4 * q) (by omega) (by omega), h2 (32 + 4 * q) (by omega) (by omega), h2 (33 + 4 * q) (by omega) (by omega)]; exact e q hq
theorem PM.of {P : xP} {μ μ' : xMu} (h : PM P μ) (h1 : ∀ j, j = 5 ∨ j = 7 ∨ j = 10 ∨ j = 18 → μ' 162 j = μ 162 j) (h2 : ∀ k, 166 ≤ k → k ≤ 181 → μ' k = μ k) : PM P μ' := by
  unfold PM at h ⊢
  rw [h1 5 (by decide), h1 7 (by decide), h1 10 (by decide), h1 18 (by decide), h2 166 (by decide) (by decide), h2 167 (by decide) (by decide), h2 168 (by decide) (by decide), h2 169 (by decide) (by decide), h2 170 (by decide) (by decide), h2 171 (by decide) (by decide), h2 172 (by decide) (by decide), h2 173 (by decide) (by decide), h2 174 (by decide) (by decide), h2 175 (by decide) (by decide), h2 176 (by decide) (by decide), h2 177 (by decide) (by decide), h2 178 (by decide) (by decide), h2 179 (by decide) (by decide), h2 180 (by decide) (by decide), h2 181 (by decide) (by decide)]
  exact h
theorem CC.of {O : xO} {F : Nat} {μ μ' : xMu} (h : CC O F μ) (h1 : μ' 127 4 = μ 127 4) (h2 : μ' 127 5 = μ 127 5) (h3 : μ' 129 = μ 129) (h4 : μ' 130 = μ 130) : CC O F μ' := by
  unfold CC at h ⊢
  rw [h1, h2, h3, h4]; exact h
theorem CM.of {O : xO} {F : Nat} {μ μ' : xMu} (h : CM O F μ) (h1 : μ' 162 41 = μ 162 41) (h2 : μ' 162 44 = μ 162 44) (h3 : μ' 185 = μ 185) (h4 : μ' 186 = μ 186) : CM O F μ' := by
  unfold CM at h ⊢
  rw [h1, h2, h3, h4]; exact h
theorem SH.of {μ μ' : xMu} (h : SH μ) (h1 : ∀ k, 2 ≤ k → k ≤ 13 → μ' k = μ k) (h2 : μ' 163 = μ 163) (h3 : μ' 164 = μ 164) (h4 : μ' 165 = μ 165) : SH μ' := by
  intro s hs
  rw [h1 2 (by decide) (by decide), h1 3 (by decide) (by decide), h1 4 (by decide) (by decide), h1 (6 + s) (by omega) (by omega), h2, h3, h4]
  exact h s hs
theorem TP.of {μ μ' : xMu} (h : TP μ) (h1 : μ' 14 1 = μ 14 1) (h2 : μ' 162 26 = μ 162 26) (h3 : μ' 15 = μ 15) (h4 : μ' 182 = μ 182) : TP μ' := by
  unfold TP at h ⊢
  rw [h1, h2, h3, h4]; exact h
theorem FT.of {μ μ' : xMu} (h : FT μ) (h1 : μ' 128 = μ 128) (h2 : μ' 183 = μ 183) : FT μ' := by
  unfold FT at h ⊢
  rw [h1, h2]; exact h
theorem RN.of {μ μ' : xMu} (h : RN μ) (h1 : μ' 135 7 = μ 135 7) (h2 : μ' 162 65 = μ 162 65) (h3 : μ' 145 = μ 145) (h4 : μ' 199 = μ 199) : RN μ' := by
  unfold RN at h ⊢
  rw [h1, h2, h3, h4]; exact h
theorem TR.of {μ μ' : xMu} (h : TR μ) (h1 : μ' 160 3 = μ 160 3) (h2 : μ' 162 71 = μ 162 71) (h3 : μ' 161 = μ 161) (h4 : μ' 202 = μ 202) : TR μ' := by
  unfold TR at h ⊢
  rw [h1, h2, h3, h4]; exact h
/-- the places that the relation looks at -/
def x_see (k j : Nat) : Bool :=
  (k == 0 && j == 10) || (decide (2 ≤ k) && decide (k ≤ 13)) || (k == 14 && j == 1) || k == 15 || (k == 16 && decide (5 ≤ j) && decide (j ≤ 8)) || (decide (17 ≤ k) && decide (k ≤ 125)) || (k == 126 && j == 4) || (k == 127 && (j == 4 || j == 5)) || k == 128 || k == 129 || k == 130 || (k == 135 && j == 7) || k == 145 || (k == 160 && j == 3) || k == 161 ||
  (k == 162 && (j == 1 || j == 5 || j == 7 || j == 10 || j == 18 || j == 26 || j == 27 || j == 41 || j == 44 || j == 65 || j == 71)) || (decide (163 ≤ k) && decide (k ≤ 183)) || k == 185 || k == 186 || k == 199 || k == 202
theorem x_R.of {μ μ' : xMu} (h : x_R μ) (hs : ∀ k j, x_see k j = true → μ' k j = μ k j) : x_R μ' := by
  have row : ∀ k, (∀ j, x_see k j = true) → μ' k = μ k := fun k hk => funext fun j => hs k j (hk j)
  obtain ⟨h1, h2, h3, h4, h5, h6, h7, P, O, F, w, pc, pm, ow, fw, cc, cm⟩ := h
  refine ⟨by rw [hs 0 10 rfl, hs 162 1 rfl]; exact h1, by rw [hs 126 4 rfl, hs 162 27 rfl]; exact h2, h3.of (fun k a b => row k fun j => by simp [x_see, a, b]) (row _ fun j => by simp [x_see]) (row _ fun j => by simp [x_see]) (row _ fun j => by simp [x_see]), h4.of (hs _ _ rfl) (hs _ _ rfl) (row _ fun j => by simp [x_see]) (row _ fun j => by simp [x_see]), h5.of (row _ fun j => by simp [x_see]) (row _ fun j => by simp [x_see]), h6.of (hs _ _ rfl) (hs _ _ rfl) (row _ fun j => by simp [x_see]) (row _ fun j => by simp [x_see]), h7.of (hs _ _ rfl) (hs _ _ rfl) (row _ fun j => by simp [x_see]) (row _ fun j => by simp [x_see]), P, O, F, w, pc.of (fun j a b => hs _ _ (by simp [x_see, a, b])) (fun k a b => row k fun j => by simp [x_see, a, b]) w, pm.of (fun j a => hs _ _ (by rcases a with rfl | rfl | rfl | rfl <;> rfl)) (fun k a b => row k fun j => by simp [x_see, show 163 ≤ k by omega, show k ≤ 183 by omega]), ow, fw, cc.of (hs _ _ rfl) (hs _ _ rfl) (row _ fun j => by simp [x_see]) (row _ fun j => by simp [x_see]), cm.of (hs _ _ rfl) (hs _ _ rfl) (row _ fun j => by simp [x_see]) (row _ fun j => by simp [x_see])⟩
/-- the first act of each call of the reference -/
theorem x_R.t0 {μ : xMu} (h : x_R μ) : x_R (x_wr μ 162 0 0) := h.of (fun k j hk => by
  rw [w_wr, if_neg]
  rintro ⟨rfl, rfl⟩
  cases hk)
def x_mu00 : xMu := fun k _ => if k = 163 then -1 else 0
theorem x_R0 : x_R x_mu00 := by
  refine ⟨rfl, rfl, ?_, ⟨0, by decide, rfl, rfl, fun i h => by omega⟩, ?_, ⟨0, by decide, rfl, rfl, fun i h => by omega⟩, ⟨0, by decide, rfl, rfl, fun i h => by omega⟩, fun _ _ _ => 0, [], 0, ?_, ?_, ?_, ?_, ?_, ?_, ?_⟩
  · intro s hs
    exact Or.inl ⟨rfl, rfl⟩
  · intro f hf
    exact ⟨0, by decide, rfl, rfl⟩
  · exact ⟨by decide, fun k h => by simp [pK] at h, fun k h => by simp [pT] at h, fun k h => by simp [pL] at h, fun k h => by simp [pB] at h⟩
  · exact ⟨⟨rfl, rfl, rfl, rfl⟩, fun k h => by simp [pK] at h, fun k h => by simp [pT] at h, fun k h => by simp [pL] at h, fun k h => by simp [pB] at h⟩
  · exact ⟨⟨rfl, rfl, rfl, rfl⟩, fun k h => by simp [pK] at h, fun k h => by simp [pT] at h, fun k h => by simp [pL] at h, fun k h => by simp [pB] at h⟩
  · exact ⟨by decide, fun q h => by cases h⟩
  · exact ⟨by decide, fun l h => by simp at h⟩
  · exact ⟨rfl, rfl, fun i q h => by simp at h⟩
  · exact ⟨rfl, rfl, fun i q h => by simp at h⟩
