/-! PURE: rows: f6_fill -/
theorem l_f26 {P : xP} {O : xO} {F : Nat} (w : Pwf P) (ow : Owf P O) (fw : Fwf P F) {t : Nat} (ht : t < 8) {c : Nat} (k : Nat → xMu → Option (Int32 × xMu)) : ∀ (f i n : Nat) (μ : xMu), i + n = pL P → n < f → PC P μ → CC O F μ → WT i (wt P O F t) μ →
    ∃ μ', f6_fill_l26 k f c (nI t) (nI i) μ = k c μ' ∧ WT (pL P) (wt P O F t) μ' ∧ gs (fun a _ => a == 132) μ μ' := by
  intro f
  induction f with
  | zero => intro i n μ _ h; omega
  | succ f ih =>
    intro i n μ hi hf pc cc hW
    have hL8 := w.1.2.2.1
    unfold f6_fill_l26
    rw [pc.1.2.2.1]
    cases n with
    | zero =>
      rw [if_pos (nI_le (by omega) (by omega))]
      obtain rfl : i = pL P := by omega
      exact ⟨μ, rfl, hW, gs.refl⟩
    | succ n =>
      rw [if_neg (nI_ge (by omega) (by omega)), t_wt w pc ow fw cc (by omega) ht]
      simp only [Option.bind_some]
      rw [a_ast (by omega) (by decide), nI_1]
      have g : gs (fun a _ => a == 132) μ (x_wr μ 132 i (cN (-1) (wt P O F t i))) := gs.refl.wr rfl
      have g' : gs (fun k j => g0 (x_gr k j)) μ (x_wr μ 132 i (cN (-1) (wt P O F t i))) := gs.refl.wr rfl
      obtain ⟨μ', a1, a2, a3⟩ := ih (i + 1) n _ (by omega) (by omega) (gPC w pc g' rfl) (gCC cc g' rfl) (fun l hl => by
        rw [w_wr]
        by_cases e : l = i
        · rw [if_pos ⟨rfl, e⟩, e]
          exact ⟨rfl, wt_lt w ow (by omega)⟩
        · rw [if_neg (fun q => e q.2)]
          exact hW l (by omega))
      exact ⟨μ', a1, a2, g.trans a3⟩
theorem ad_nil (P : xP) (lc : Nat) (R : List Nat) : ad P lc [] R = R := rfl
theorem rs_nil (P : xP) : ∀ n W R, rs P [] n W R = R := by
  intro n
  induction n with
  | zero => intro W R; rfl
  | succ n ih =>
    intro W R
    unfold rs
    split
    · exact ih W R
    · rw [ad_nil]; exact ih _ R
theorem t_fill {P : xP} {O : xO} {F : Nat} {μ : xMu} (w : Pwf P) (pc : PC P μ) (ow : Owf P O) (fw : Fwf P F) (cc : CC O F μ) {c t r : Nat} (hc : rowC c) (ht : t < pT P) (hr : r < 4) :
    ∃ μ', f6_fill c (nI t) (nI r) μ = some (nI (rowM P O F t r).length, μ') ∧ RW c (rowM P O F t r) μ' ∧ gs (pF c) μ μ' := by
  have hT := w.1.2.1
  have hK := w.1.1
  have hL8 := w.1.2.2.1
  have hk := (w.2.2.1 t ht).1
  obtain ⟨μa, a1, a2, a3⟩ := t_gat w pc hk hr
  have gA : gs (pF c) μ μa := a3.mono (fun k j h => by unfold pF; rw [h]; simp)
  have pcA := gPC (g := g0) w pc (gA.mono (pF0 hc)) rfl
  have ccA := gCC (g := g0) cc (gA.mono (pF0 hc)) rfl
  have nf := fit_nd w (r := r) (show P 2 t 0 + 1 ≤ pK P by omega)
  have lf := fit_len w (r := r) (show P 2 t 0 + 1 ≤ pK P by omega)
  unfold f6_fill
  rw [a_ald (by omega) (by decide), (pc.2.2.1 t ht).1, a1]
  simp only [Option.bind_some]
  rw [a2.1]
  by_cases z : (fit P (P 2 t 0 + 1) r).length = 0
  · have e0 : fit P (P 2 t 0 + 1) r = [] := List.eq_nil_of_length_eq_zero z
    have er : rowM P O F t r = [] := by
      unfold rowM
      rw [e0, ad_nil, rs_nil]
    rw [z, if_pos (show nI 0 = 0 from rfl), er]
    exact ⟨μa, rfl, fun i b h => by simp at h, gA⟩
  · rw [if_neg (nI_ne0 (by omega) (by omega))]
    obtain ⟨μb, b1, b2, b3⟩ := l_f26 w ow fw (t := t) (by omega) (c := c) (fun (y5 : Nat) (μ6 : xMu) => (f6_fill_l64 (fun (y9 : Nat) (y10 : Int32) (μ11 : xMu) => ((f6_addBodies y9 y10 (-1 : Int32) μ11).bind fun q12 => (some (q12.1, q12.2)))) 1000 y5 (0 : Int32) (0 : Int32) μ6)) 1000 0 (pL P) μa (by omega) (by omega) pcA ccA (fun l h => by omega)
    have gB : gs (pF c) μa μb := b3.mono (fun k j h => by unfold pF; rw [h]; simp)
    have pcB := gPC (g := g0) w pcA (gB.mono (pF0 hc)) rfl
    have gfB : GF (fit P (P 2 t 0 + 1) r) μb := ⟨by rw [b3 131 4 rfl]; exact a2.1, fun j b h => by rw [b3 133 j rfl]; exact a2.2 j b h⟩
    obtain ⟨μc, W', c1, c2, c3, c4⟩ := l_f64 w hc (fit_lt (P := P)) nf (fun (y9 : Nat) (y10 : Int32) (μ11 : xMu) => ((f6_addBodies y9 y10 (-1 : Int32) μ11).bind fun q12 => (some (q12.1, q12.2)))) 1000 0 (pL P) (wt P O F t) [] μb (by omega) (by omega) pcB gfB b2 (fun i b h => by simp at h) ⟨List.nodup_nil, fun b h => by simp at h, fun b h => by simp at h⟩
    have pcC := gPC (g := g0) w pcB (c4.mono (pH0 hc)) rfl
    have nc : ∀ x, x ≠ c → x ≠ 132 → ∀ j, μc x j = μb x j := fun x h1 h2 j => c4 x j (by unfold pH; rw [beq_false_of_ne h1, beq_false_of_ne h2]; rfl)
    have gfC : GF (fit P (P 2 t 0 + 1) r) μc := ⟨by rw [nc 131 (Ne.symm hc.2.2.2.2.1) (by decide)]; exact gfB.1, fun j b h => by rw [nc 133 (Ne.symm hc.2.2.2.2.2.1) (by decide)]; exact gfB.2 j b h⟩
    obtain ⟨μd, d1, d2, d3⟩ := t_adb w hc (lc := 0) (by omega) (fit_lt (P := P)) nf pcC gfC c2 c3 (Or.inl rfl)
    refine ⟨μd, ?_, d2, ((gA.trans gB).trans (c4.mono pHF)).trans (d3.mono (fun k j h => by unfold pF; rw [h]; rfl))⟩
    refine b1.trans (c1.trans ?_)
    rw [show f6_addBodies c _ (-1 : Int32) μc = _ from d1]
    rfl
