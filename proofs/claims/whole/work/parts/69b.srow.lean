/-! PURE: row -/
theorem t_rou {x : Int32} : (rb x 4 → f11_isRoutine x = some 1) ∧ (¬ rb x 4 → f11_isRoutine x = some 0) := by
  unfold f11_isRoutine rb
  have e0 : (x < 0) = (x.toInt < 0) := propext (i_lt x 0)
  have e4 : ((4 : Int32) ≤ x) = (4 ≤ x.toInt) := propext (i_le 4 x)
  simp only [e0, e4]
  refine ⟨fun h => ?_, fun h => ?_⟩
  · rw [if_neg (by omega), if_neg (by omega)]
  · by_cases c : x.toInt < 0
    · rw [if_pos c]
    · rw [if_neg c, if_pos (by omega)]
theorem rowC134 : rowC 134 := ⟨by decide, by decide, by decide, fun j => rfl, by decide, by decide, by decide⟩
theorem rowM_len {P : xP} {O : xO} {F t r : Nat} (w : Pwf P) (ht : t < pT P) : (rowM P O F t r).length ≤ 24 ∧ ∀ b ∈ rowM P O F t r, b < pB P := by
  have hk := (w.2.2.1 t ht).1
  have nf := fit_nd w (r := r) (show P 2 t 0 + 1 ≤ pK P by omega)
  have key : ∀ n W R, Qr P (fit P (P 2 t 0 + 1) r) W R → ∃ W', Qr P (fit P (P 2 t 0 + 1) r) W' (rs P (fit P (P 2 t 0 + 1) r) n W R) := by
    intro n
    induction n with
    | zero => intro W R q; exact ⟨W, q⟩
    | succ n ih =>
      intro W R q
      unfold rs
      split
      · exact ih W R q
      · next h0 => exact ih _ _ (q.ad nf (by omega) (hv_pos W _ (by omega)))
  obtain ⟨W', q⟩ := key (pL P) (wt P O F t) [] ⟨List.nodup_nil, fun b h => by simp at h, fun b h => by simp at h⟩
  have ap := q.app nf (lc := 0) (Or.inl rfl)
  obtain ⟨S, e, hS⟩ := ad_sub P 0 (fit P (P 2 t 0 + 1) r) (rs P (fit P (P 2 t 0 + 1) r) (pL P) (wt P O F t) [])
  have sb := List.Sublist.append (List.Sublist.refl (rs P (fit P (P 2 t 0 + 1) r) (pL P) (wt P O F t) [])) hS
  unfold rowM
  rw [e]
  refine ⟨Nat.le_trans sb.length_le (Qr.len w (fit_lt (P := P)) ap.1 ap.2), fun b hb => fit_lt (P := P) b (ap.2 b (sb.mem hb))⟩
theorem s_row : x_S_row x_R := by
  intro v1 v2 v3 μ h
  obtain ⟨P, O, F, w, pc, pm, ow, fw, cc, cm⟩ := h.2.2.2.2.2.2.2
  have no : f11_row v1 v2 v3 μ = some (-1000001, μ) → f12_row v1 v2 v3 μ = some (-1000001, x_wr μ 162 0 0) → ∃ (r : Int32) (μ1 μ2 : xMu), f11_row v1 v2 v3 μ = some (r, μ1) ∧ f12_row v1 v2 v3 μ1 = some (r, μ2) ∧ x_R μ2 := fun a b => ⟨_, _, _, a, b, h.t0⟩
  rcases rb_dec v1 (pT P) with hv | hv
  · have b1 := (t_isThing w pc).1 hv
    rcases rb_dec v2 4 with hr | hr
    · have b2 := t_rou.1 hr
      by_cases h3 : (-1 : Int32) ≤ v3
      · obtain ⟨t, ht, rfl⟩ := rb_of hv
        obtain ⟨r, hr4, rfl⟩ := rb_of hr
        obtain ⟨l24, lB⟩ := rowM_len (O := O) (F := F) (r := r) w ht
        obtain ⟨μ1, c1, c2, c3⟩ := t_fill w pc ow fw cc rowC134 ht hr4
        have g1 : gs (fun k j => g0 (x_gr k j)) μ μ1 := c3.mono (pF0 rowC134)
        have g1' : gs (fun k j => g0 (x_gr k j)) μ (x_wr μ1 162 0 0) := g1.wr rfl
        have pm1 := gPM (g := g0) pm g1' rfl
        have cm1 := gCM (g := g0) cm g1' rfl
        obtain ⟨μ2, d1, d2, d3, d4⟩ := u_row w pm1 ow fw cm1 (s := 0) (by decide) ht hr4
        have g2 : gs (fun k j => g0 (x_gr k j)) μ μ2 := g1'.trans (d4.mono pN0)
        have hR : x_R μ2 := h.grp g0 g2 (Or.inl rfl) (Or.inl rfl) (Or.inl rfl) (Or.inl rfl) (Or.inl rfl) (Or.inl rfl) (Or.inl rfl) (Or.inl ⟨rfl, rfl⟩)
        have go : ∀ x, (if v3 = (-1 : Int32) then some (nI (rowM P O F t r).length, μ1) else if nI (rowM P O F t r).length ≤ v3 then some ((-1000000 : Int32), μ1) else x_ald μ1 134 24 v3 fun x4 => some (x4, μ1)) = some (x, μ1) → (if v3 = (-1 : Int32) then some (nI (rowM P O F t r).length, μ2) else if nI (rowM P O F t r).length ≤ v3 then some ((-1000000 : Int32), μ2) else x_ald μ2 188 168 v3 fun x4 => some (x4, μ2)) = some (x, μ2) → ∃ (q : Int32) (μ1 μ2 : xMu), f11_row (nI t) (nI r) v3 μ = some (q, μ1) ∧ f12_row (nI t) (nI r) v3 μ1 = some (q, μ2) ∧ x_R μ2 := by
          intro x e1 e2
          refine ⟨x, μ1, μ2, ?_, ?_, hR⟩
          · unfold f11_row
            simp only [b1, b2, Option.bind_some, e10, if_false, if_pos h3, c1]
            exact e1
          · unfold f12_row
            have z1 := (u_isThing w pm1).1 hv
            have z2 : f12_in (nI r).toInt64 0 3 = some 1 := m_rng (n := 4) (by decide) hr
            have d1' : f12_layRow 0 (nI t) (nI r) (x_wr μ1 162 0 0) = some μ2 := d1
            simp only [a_put, z1, z2, Option.bind_some, e10, if_false, if_pos h3, d1']
            have a0 : ∀ (α : Type) (f : Int32 → Option α), x_ald μ2 187 7 0 f = f (nI (rowM P O F t r).length) := fun α f => by
              rw [show (0 : Int32) = nI 0 from rfl, a_ald (by decide) (by decide), d2.1]
            simp only [a0]
            exact e2
        by_cases n1 : v3 = -1
        · exact go (nI (rowM P O F t r).length) (if_pos n1) (if_pos n1)
        · rw [if_neg n1, if_neg n1] at go
          by_cases n2 : nI (rowM P O F t r).length ≤ v3
          · exact go (-1000000) (if_pos n2) (if_pos n2)
          · rw [if_neg n2, if_neg n2] at go
            have hp : rb v3 (rowM P O F t r).length := by
              rw [i_le, nI_toInt (by omega)] at n2
              rw [i_le, show (-1 : Int32).toInt = -1 by decide] at h3
              rw [i_eq, show (-1 : Int32).toInt = -1 by decide] at n1
              unfold rb
              omega
            obtain ⟨i, hi, rfl⟩ := rb_of hp
            have gi : (rowM P O F t r)[i]? = some (rowM P O F t r)[i] := List.getElem?_eq_getElem hi
            refine go (nI (rowM P O F t r)[i]) ?_ ?_
            · rw [a_ald (by omega) (by decide), c2 i _ gi]
            · rw [a_ald (by omega) (by decide)]
              have := d2.2 i _ gi
              rw [show 24 * 0 + i = i by omega] at this
              rw [this]
      · refine no ?_ ?_
        · unfold f11_row
          simp only [b1, b2, Option.bind_some, e10, if_false, if_neg h3]
        · unfold f12_row
          simp only [a_put, (u_isThing w pm.t0).1 hv, m_rng (n := 4) (hi := 3) (by decide) hr, Option.bind_some, e10, if_false, if_neg h3]
    · refine no ?_ ?_
      · unfold f11_row
        simp only [b1, t_rou.2 hr, Option.bind_some, e10, if_false, e00, if_true]
      · unfold f12_row
        simp only [a_put, (u_isThing w pm.t0).1 hv, m_rngN (n := 4) (hi := 3) (by decide) hr, Option.bind_some, e10, if_false, e00, if_true]
  · refine no ?_ ?_
    · unfold f11_row
      simp only [(t_isThing w pc).2 hv, Option.bind_some, e00, if_true]
    · unfold f12_row
      simp only [a_put, (u_isThing w pm.t0).2 hv, Option.bind_some, e00, if_true]
