/-! PURE: rows: the reference's row -/
def nz (W : Nat → Nat) : Nat → Nat
  | 0 => 0
  | n + 1 => nz W n + if W n = 0 then 0 else 1
theorem nz_le (W : Nat → Nat) : ∀ n, nz W n ≤ n := by
  intro n
  induction n with
  | zero => exact Nat.le_refl 0
  | succ n ih =>
    unfold nz
    split <;> omega
theorem nz_pos (W : Nat → Nat) : ∀ n l, l < n → 0 < W l → 0 < nz W n := by
  intro n
  induction n with
  | zero => intro l h; omega
  | succ n ih =>
    intro l hl h
    unfold nz
    by_cases e : l = n
    · subst e
      rw [if_neg (by omega)]
      omega
    · have := ih l (by omega) h
      omega
theorem nz_W0 (W : Nat → Nat) (l : Nat) (h : 0 < W l) : ∀ n, nz (W0 W l) n + (if l < n then 1 else 0) = nz W n := by
  intro n
  induction n with
  | zero => rw [if_neg (by omega)]; rfl
  | succ n ih =>
    show nz (W0 W l) n + (if W0 W l n = 0 then 0 else 1) + (if l < n + 1 then 1 else 0) = nz W n + (if W n = 0 then 0 else 1)
    by_cases e : n = l
    · have e1 : W0 W l n = 0 := if_pos e
      rw [e1, if_pos rfl, if_pos (show l < n + 1 by omega), e, if_neg (show ¬ W l = 0 by omega)]
      rw [e, if_neg (by omega)] at ih
      omega
    · have e1 : W0 W l n = W n := if_neg e
      rw [e1]
      by_cases c : l < n
      · rw [if_pos c] at ih
        rw [if_pos (show l < n + 1 by omega)]
        omega
      · rw [if_neg c] at ih
        rw [if_neg (show ¬ l < n + 1 by omega)]
        omega
theorem rs_end (P : xP) (L : List Nat) (R : List Nat) (h : ended P R = true) : ∀ n W, rs P L n W R = R := by
  intro n
  induction n with
  | zero => intro W; rfl
  | succ n ih =>
    intro W
    unfold rs
    split
    · exact ih W
    · rw [ad_end _ _ _ _ h]
      exact ih _
theorem l_m23 {P : xP} {O : xO} {F : Nat} (w : Pwf P) (ow : Owf P O) (fw : Fwf P F) {s t r : Nat} (hs : s < 7) (ht : t < pT P) (hr : r < 4) : ∀ (n f d : Nat) (W : Nat → Nat) (R : List Nat) (μ : xMu), nz W (pL P) ≤ n → n + 1 < f → d < 256 → Wd P O F t d W → PM P μ → CM O F μ → MW s R μ → ended P R = false → Qr P (fit P (P 2 t 0 + 1) r) W R →
    ∃ μ', f12_layRow_l23 (fun (y13 : Int32) (y14 : Int32) (y15 : Int32) (y16 : Int32) (μ17 : xMu) => (f12_layRow_j157 y13 y14 y15 y16 μ17)) f (nI s) (nI t) (nI r) (nI d) 0 1 μ = some μ' ∧ MW s (ad P 0 (fit P (P 2 t 0 + 1) r) (rs P (fit P (P 2 t 0 + 1) r) n W R)) μ' ∧ gs (pM s) μ μ' := by
  have hT := w.1.2.1
  have hL8 := w.1.2.2.1
  have hK := w.1.1
  have hk := (w.2.2.1 t ht).1
  have nf := fit_nd w (r := r) (show P 2 t 0 + 1 ≤ pK P by omega)
  intro n
  induction n with
  | zero =>
    intro f d W R μ hz hf hd hW pm cm mw he q
    obtain ⟨f, rfl⟩ : ∃ g, f = g + 2 := ⟨f - 2, by omega⟩
    have h0 : hv W (pL P) = 0 := by
      rcases Nat.eq_zero_or_pos (hv W (pL P)) with e | e
      · exact e
      · have a := hv_pos W (pL P) e
        have b := nz_pos W (pL P) (hv W (pL P) - 1) (by have := hv_le W (pL P); omega) a
        omega
    unfold f12_layRow_l23
    rw [if_neg (by decide), if_pos rfl, show f12_layRow_l40 _ 1000 (nI s) (nI t) (nI r) (nI d) 0 (-1000000) 0 μ = _ from l_m40 w pm ow fw cm (W := W) (by omega) hd hW (nI s) (nI r) 0 _ 1000 0 (by omega) (by omega), h0]
    have ap := q.app nf (lc := 0) (Or.inl rfl)
    obtain ⟨μ', a1, a2, a3⟩ := u_lyb w pm hs (lc := 0) (by omega) ht hr mw he (Qr.len w (fit_lt (P := P)) ap.1 ap.2)
    refine ⟨μ', ?_, a2, a3⟩
    rw [if_pos (show cN (-1000000) 0 = -1000000 from rfl)]
    unfold f12_layRow_j127 f12_layRow_j154 f12_layRow_l23 f12_layRow_j157
    rw [if_pos rfl, if_pos rfl, if_pos rfl, show f12_lay (nI s) (-1000000) (nI t) (nI r) μ = _ from a1]
    rfl
  | succ n ih =>
    intro f d W R μ hz hf hd hW pm cm mw he q
    obtain ⟨f, rfl⟩ : ∃ g, f = g + 2 := ⟨f - 2, by omega⟩
    unfold f12_layRow_l23
    rw [if_neg (by decide), if_pos rfl, show f12_layRow_l40 _ 1000 (nI s) (nI t) (nI r) (nI d) 0 (-1000000) 0 μ = _ from l_m40 w pm ow fw cm (W := W) (by omega) hd hW (nI s) (nI r) 0 _ 1000 0 (by omega) (by omega)]
    by_cases h0 : hv W (pL P) = 0
    · rw [h0]
      have ap := q.app nf (lc := 0) (Or.inl rfl)
      obtain ⟨μ', a1, a2, a3⟩ := u_lyb w pm hs (lc := 0) (by omega) ht hr mw he (Qr.len w (fit_lt (P := P)) ap.1 ap.2)
      refine ⟨μ', ?_, by rw [rs_no _ _ _ _ h0]; exact a2, a3⟩
      rw [if_pos (show cN (-1000000) 0 = -1000000 from rfl)]
      unfold f12_layRow_j127 f12_layRow_j154 f12_layRow_l23 f12_layRow_j157
      rw [if_pos rfl, if_pos rfl, if_pos rfl, show f12_lay (nI s) (-1000000) (nI t) (nI r) μ = _ from a1]
      rfl
    · have hp : 0 < hv W (pL P) := by omega
      have hle := hv_le W (pL P)
      have wp := hv_pos W (pL P) hp
      have ec : cN (-1000000) (hv W (pL P)) = nI (hv W (pL P) - 1) := by unfold cN; rw [if_neg h0]
      have ap := q.app nf (lc := hv W (pL P)) (Or.inr wp)
      obtain ⟨μa, a1, a2, a3⟩ := u_lyb w pm hs (lc := hv W (pL P)) (by omega) ht hr mw he (Qr.len w (fit_lt (P := P)) ap.1 ap.2)
      have pma := gPM (g := g0) pm (a3.mono pM0) rfl
      have cma := gCM (g := g0) cm (a3.mono pM0) rfl
      have zz := nz_W0 W _ wp (pL P)
      rw [if_pos (show hv W (pL P) - 1 < pL P by omega)] at zz
      rw [if_neg (by rw [cN_no (by omega)]; exact h0)]
      have er : rs P (fit P (P 2 t 0 + 1) r) (n + 1) W R = rs P (fit P (P 2 t 0 + 1) r) n (W0 W (hv W (pL P) - 1)) (ad P (hv W (pL P)) (fit P (P 2 t 0 + 1) r) R) := if_neg h0
      rw [er]
      unfold f12_layRow_j127 f12_layRow_j154
      rw [if_neg (by decide), a1, ec]
      simp only [Option.bind_some]
      rw [b_sh _ (by omega), b_or]
      cases ee : ended P (ad P (hv W (pL P)) (fit P (P 2 t 0 + 1) r) R) with
      | true =>
        refine ⟨μa, ?_, by rw [rs_end _ _ _ ee, ad_end _ _ _ _ ee]; exact a2, a3⟩
        unfold f12_layRow_l23 f12_layRow_j157
        simp only [if_true, e10, if_false]
      | false =>
        have hW' : Wd P O F t (d ||| 2 ^ (hv W (pL P) - 1)) (W0 W (hv W (pL P) - 1)) := by
          intro l hl
          unfold W0
          rw [Nat.testBit_or, p2_bit]
          by_cases c : l = hv W (pL P) - 1
          · rw [if_pos c, decide_eq_true c.symm, Bool.or_true]
            rfl
          · rw [if_neg c, decide_eq_false (fun x => c x.symm), Bool.or_false]
            exact hW l hl
        obtain ⟨μb, b1, b2, b3⟩ := ih (f + 1) _ _ _ μa (by omega) (by omega) (or_lt hd (p2_lt (show hv W (pL P) - 1 < 8 by omega))) hW' pma cma a2 ee (q.ad nf hp wp)
        exact ⟨μb, b1, b2, a3.trans b3⟩
/-- what laying slot s writes -/
def pN (s : Nat) : Nat → Nat → Bool := fun a b => pM s a b || (a == 189 && b == s)
theorem pN0 {s : Nat} : ∀ k j, pN s k j = true → g0 (x_gr k j) = true := by
  intro k j q
  unfold pN at q
  simp only [Bool.or_eq_true, Bool.and_eq_true, beq_iff_eq] at q
  rcases q with q | ⟨rfl, -⟩
  · exact pM0 k j q
  · rfl
theorem u_row {P : xP} {O : xO} {F : Nat} {μ : xMu} (w : Pwf P) (pm : PM P μ) (ow : Owf P O) (fw : Fwf P F) (cm : CM O F μ) {s t r : Nat} (hs : s < 7) (ht : t < pT P) (hr : r < 4) :
    ∃ μ', f12_layRow (nI s) (nI t) (nI r) μ = some μ' ∧ MW s (rowM P O F t r) μ' ∧ μ' 189 s = nI t ∧ gs (pN s) μ μ' := by
  unfold f12_layRow
  rw [a_ast hs (by decide), a_ast hs (by decide)]
  have g : gs (pN s) μ (x_wr (x_wr μ 187 s 0) 189 s (nI t)) := (gs.refl.wr (by unfold pN pM; simp)).wr (by unfold pN; simp)
  obtain ⟨μ', a1, a2, a3⟩ := l_m23 w ow fw hs ht hr (pL P) 1000 0 (wt P O F t) [] _ (nz_le _ _) (by have := w.1.2.2.1; omega) (by decide) (fun l hl => by simp) (gPM (g := g0) pm (g.mono pN0) rfl) (gCM (g := g0) cm (g.mono pN0) rfl) ⟨rfl.trans (by simp [x_wr]; rfl), fun i b h => by simp at h⟩ rfl ⟨List.nodup_nil, fun b h => by simp at h, fun b h => by simp at h⟩
  refine ⟨μ', a1, a2, ?_, g.trans (a3.mono (fun k j h => by unfold pN; rw [h]; rfl))⟩
  rw [a3 189 s (by unfold pM; simp)]
  simp [x_wr]
