/-! PURE: rows: the reference picks the one ahead -/
def Wd (P : xP) (O : xO) (F t d : Nat) (W : Nat → Nat) : Prop := ∀ l, l < pL P → W l = if d.testBit l then 0 else wt P O F t l
theorem cN_no {c : Nat} (h : c < 1000) : (cN (-1000000) c = (-1000000 : Int32)) = (c = 0) := by
  apply propext
  unfold cN
  split
  · next e => simp [e]
  · next e =>
    rw [i_eq, nI_toInt (by omega), n1M]
    omega
theorem l_m40 {P : xP} {O : xO} {F : Nat} {μ : xMu} (w : Pwf P) (pm : PM P μ) (ow : Owf P O) (fw : Fwf P F) (cm : CM O F μ) {t d : Nat} {W : Nat → Nat} (ht : t < 8) (hd : d < 256) (hW : Wd P O F t d W) (v1 v3 v5 : Int32) (k : Int32 → Int32 → Int32 → Int32 → Int32 → Int32 → xMu → Option xMu) : ∀ (f i : Nat), i ≤ pL P → pL P < i + f →
    f12_layRow_l40 k f v1 (nI t) v3 (nI d) v5 (cN (-1000000) (hv W i)) (nI i) μ = k v1 (nI t) v3 (nI d) v5 (cN (-1000000) (hv W (pL P))) μ := by
  intro f
  induction f with
  | zero => intro i _ h; omega
  | succ f ih =>
    intro i hi hf
    have hL := w.1.2.2.1
    have hle := hv_le W i
    unfold f12_layRow_l40 f12_layRow_j73 f12_layRow_j74 f12_layRow_j105 f12_layRow_j100 f12_layRow_j107
    rw [pm.1.2.2.1]
    by_cases c : pL P ≤ i
    · rw [if_pos (nI_le c (by omega)), show i = pL P by omega]
    · have hip : i < pL P := by omega
      have h8 : i < 8 := by omega
      have e1 : hv W (i + 1) = if hw W (hv W i) < W i then i + 1 else hv W i := rfl
      have e2 : cN (-1000000) (i + 1) = nI i := rfl
      rw [if_neg (nI_ge (by omega) (by omega)), nI_1]
      simp only [b_tb0 (show d < 2 ^ 31 by omega) h8, u_af w pm ow fw cm hip ht, Option.bind_some, e00, e10, if_true, if_false, cN_no (show hv W i < 1000 by omega)]
      rw [← ih (i + 1) (by omega) (by omega), e1]
      have wi := hW i hip
      cases b : d.testBit i with
      | true =>
        rw [b] at wi
        simp only [if_true] at wi
        rw [if_neg Bool.noConfusion, if_neg (by omega)]
      | false =>
        rw [b] at wi
        simp only [Bool.false_eq_true, if_false] at wi
        rw [if_pos rfl]
        by_cases x : 0 < wt P O F t i
        · rw [if_pos x, if_neg (by decide)]
          by_cases y : hv W i = 0
          · rw [if_pos y, if_pos (by rw [y]; unfold hw; rw [if_pos rfl]; omega), e2]
          · rw [if_neg y]
            have hp := hv_pos W i (by omega)
            have wh := hW (hv W i - 1) (by omega)
            have wh2 : W (hv W i - 1) = wt P O F t (hv W i - 1) := by
              rw [wh]
              split
              · next z => rw [z] at wh; simp at wh; omega
              · rfl
            have ec : cN (-1000000) (hv W i) = nI (hv W i - 1) := by unfold cN; rw [if_neg y]
            have eh : hw W (hv W i) = wt P O F t (hv W i - 1) := by unfold hw; rw [if_neg y, wh2]
            rw [ec, u_ah w pm ow cm hip (show hv W i - 1 < pL P by omega) ht x (by omega), eh, wi]
            simp only [Option.bind_some]
            by_cases z : wt P O F t (hv W i - 1) < wt P O F t i
            · rw [if_pos z, if_neg (by decide), if_pos z, e2]
            · rw [if_neg z, if_pos rfl, if_neg z, ec]
        · rw [if_neg x, if_pos rfl, if_neg (by omega)]
