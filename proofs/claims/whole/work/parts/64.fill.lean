/-! PURE: rows: the whole row, in the class -/
def rs (P : xP) (L : List Nat) : Nat → (Nat → Nat) → List Nat → List Nat
  | 0, _, R => R
  | n + 1, W, R => if hv W (pL P) = 0 then rs P L n W R else rs P L n (W0 W (hv W (pL P) - 1)) (ad P (hv W (pL P)) L R)
def rowM (P : xP) (O : xO) (F t r : Nat) : List Nat := ad P 0 (fit P (P 2 t 0 + 1) r) (rs P (fit P (P 2 t 0 + 1) r) (pL P) (wt P O F t) [])
theorem ad_sub (P : xP) (lc : Nat) : ∀ (L R : List Nat), ∃ S, ad P lc L R = R ++ S ∧ List.Sublist S (L.filter (fun b => P 4 b 0 == lc)) := by
  intro L
  induction L with
  | nil => intro R; exact ⟨[], by rw [List.append_nil]; rfl, List.Sublist.refl _⟩
  | cons b bs ih =>
    intro R
    unfold ad
    split
    · exact ⟨[], by rw [List.append_nil], List.nil_sublist _⟩
    · split
      · next x =>
        obtain ⟨S, h1, h2⟩ := ih (R ++ [b])
        refine ⟨b :: S, by rw [h1, List.append_assoc]; rfl, ?_⟩
        rw [List.filter_cons, if_pos (by simp [x])]
        exact h2.cons₂ b
      · next x =>
        obtain ⟨S, h1, h2⟩ := ih R
        refine ⟨S, h1, ?_⟩
        rw [List.filter_cons, if_neg (by simp [x])]
        exact h2
def Qr (P : xP) (L : List Nat) (W : Nat → Nat) (R : List Nat) : Prop := R.Nodup ∧ (∀ b ∈ R, b ∈ L) ∧ ∀ b ∈ R, 0 < P 4 b 0 ∧ W (P 4 b 0 - 1) = 0
theorem nodup_app {A B : List Nat} (ha : A.Nodup) (hb : B.Nodup) (h : ∀ x ∈ A, ∀ y ∈ B, x ≠ y) : (A ++ B).Nodup := List.pairwise_append.mpr ⟨ha, hb, h⟩
theorem Qr.app {P : xP} {L : List Nat} {W : Nat → Nat} {R : List Nat} (hL : L.Nodup) (h : Qr P L W R) {lc : Nat} (hl : lc = 0 ∨ 0 < W (lc - 1)) : (R ++ L.filter (fun b => P 4 b 0 == lc)).Nodup ∧ ∀ b ∈ R ++ L.filter (fun b => P 4 b 0 == lc), b ∈ L := by
  refine ⟨nodup_app h.1 (List.Pairwise.filter _ hL) ?_, ?_⟩
  · intro x hx y hy e
    subst e
    have h1 := (List.mem_filter.mp hy).2
    have h2 := h.2.2 x hx
    simp at h1
    rw [h1] at h2
    rcases hl with z | z <;> omega
  · intro b hb
    rcases List.mem_append.mp hb with q | q
    · exact h.2.1 b q
    · exact (List.mem_filter.mp q).1
theorem Qr.ad {P : xP} {L : List Nat} {W : Nat → Nat} {R : List Nat} (hL : L.Nodup) (h : Qr P L W R) {lc : Nat} (h0 : 0 < lc) (hl : 0 < W (lc - 1)) : Qr P L (W0 W (lc - 1)) (ad P lc L R) := by
  obtain ⟨S, e, hS⟩ := ad_sub P lc L R
  rw [e]
  have ap := h.app hL (Or.inr hl)
  refine ⟨List.Nodup.sublist (List.Sublist.append (List.Sublist.refl R) hS) ap.1, fun b hb => ap.2 b ((List.Sublist.append (List.Sublist.refl R) hS).mem hb), fun b hb => ?_⟩
  unfold W0
  rcases List.mem_append.mp hb with q | q
  · have := h.2.2 b q
    refine ⟨this.1, ?_⟩
    split
    · rfl
    · exact this.2
  · have h1 := (List.mem_filter.mp (hS.mem q)).2
    simp at h1
    rw [h1]
    exact ⟨h0, if_pos rfl⟩
theorem Qr.len {P : xP} (w : Pwf P) {L : List Nat} (hb : ∀ b ∈ L, b < pB P) {R : List Nat} (hn : R.Nodup) (h : ∀ b ∈ R, b ∈ L) : R.length ≤ 24 := Nat.le_trans (nd_len (pB P) R hn (fun b q => hb b (h b q))) w.1.2.2.2
theorem t_adb {P : xP} (w : Pwf P) {c lc : Nat} (hc : rowC c) (hlc : lc ≤ 8) {L : List Nat} (hL : ∀ b ∈ L, b < pB P) (hn : L.Nodup) {R : List Nat} {W : Nat → Nat} {μ : xMu} (pc : PC P μ) (gf : GF L μ) (rw' : RW c R μ) (q : Qr P L W R) (hl : lc = 0 ∨ 0 < W (lc - 1)) :
    ∃ μ', f6_addBodies c (nI R.length) (cN (-1) lc) μ = some (nI (ad P lc L R).length, μ') ∧ RW c (ad P lc L R) μ' ∧ gs (fun a _ => a == c) μ μ' := by
  have hlen : L.length ≤ 24 := Qr.len w hL hn (fun b h => h)
  have ap := q.app hn hl
  obtain ⟨μ', a1, a2, a3⟩ := l_adb w hc hlc hL hlen (fun (y8 : Int32) (μ9 : xMu) => (some (y8, μ9))) 1000 0 R μ (by omega) (by omega) pc gf rw' (fun b h => hL b (q.2.1 b h)) (by
    rw [List.drop_zero]
    exact Qr.len w hL ap.1 ap.2)
  rw [List.drop_zero] at a1 a2
  exact ⟨μ', a1, a2, a3⟩
/-- what filling a row at c writes -/
def pF (c : Nat) : Nat → Nat → Bool := fun a b => a == c || a == 132 || pG a b
theorem pF0 {c : Nat} (hc : rowC c) : ∀ k j, pF c k j = true → g0 (x_gr k j) = true := by
  intro k j q
  unfold pF at q
  simp only [Bool.or_eq_true, beq_iff_eq] at q
  rcases q with (rfl | rfl) | q
  · rw [hc.2.2.2.1]; rfl
  · rfl
  · exact pG0 k j q
theorem rs_no (P : xP) (L : List Nat) (W : Nat → Nat) (R : List Nat) (h : hv W (pL P) = 0) : ∀ n, rs P L n W R = R := by
  intro n
  induction n with
  | zero => rfl
  | succ n ih =>
    unfold rs
    rw [if_pos h]
    exact ih
def pH (c : Nat) : Nat → Nat → Bool := fun a _ => a == c || a == 132
theorem pHF {c : Nat} : ∀ k j, pH c k j = true → pF c k j = true := by
  intro k j q
  unfold pH at q
  unfold pF
  rw [q]
  rfl
theorem pH0 {c : Nat} (hc : rowC c) : ∀ k j, pH c k j = true → g0 (x_gr k j) = true := fun k j q => pF0 hc k j (pHF k j q)
theorem l_f64 {P : xP} (w : Pwf P) {c : Nat} (hc : rowC c) {L : List Nat} (hL : ∀ b ∈ L, b < pB P) (hn : L.Nodup) (k : Nat → Int32 → xMu → Option (Int32 × xMu)) : ∀ (f i n : Nat) (W : Nat → Nat) (R : List Nat) (μ : xMu), i + n = pL P → n < f → PC P μ → GF L μ → WT (pL P) W μ → RW c R μ → Qr P L W R →
    ∃ μ' W', f6_fill_l64 k f c (nI R.length) (nI i) μ = k c (nI (rs P L n W R).length) μ' ∧ RW c (rs P L n W R) μ' ∧ Qr P L W' (rs P L n W R) ∧ gs (pH c) μ μ' := by
  intro f
  induction f with
  | zero => intro i n W R μ _ h; omega
  | succ f ih =>
    intro i n W R μ hi hf pc gf hW rw' q
    have hL8 := w.1.2.2.1
    unfold f6_fill_l64 f6_fill_j98
    rw [pc.1.2.2.1]
    cases n with
    | zero =>
      rw [if_pos (nI_le (by omega) (by omega))]
      exact ⟨μ, W, rfl, rw', q, gs.refl⟩
    | succ n =>
      have hle := hv_le W (pL P)
      rw [if_neg (nI_ge (by omega) (by omega)), nI_1]
      unfold rs
      rcases Nat.eq_zero_or_pos (hv W (pL P)) with z | z
      · rw [(t_hvy w pc hW).1 z, if_pos z]
        simp only [Option.bind_some]
        rw [if_pos (by decide)]
        exact ih (i + 1) n W R μ (by omega) (by omega) pc gf hW rw' q
      · obtain ⟨e1, e2⟩ := (t_hvy w pc hW).2 z
        have hp := hv_pos W (pL P) z
        rw [e1, if_neg (by omega)]
        simp only [Option.bind_some]
        rw [if_neg (nI_pos (by omega))]
        have g1 : gs (pH c) μ (x_wr μ 132 (hv W (pL P) - 1) (-1)) := gs.refl.wr (by unfold pH; simp)
        have pc1 := gPC (g := g0) w pc (g1.mono (pH0 hc)) rfl
        have gf1 : GF L (x_wr μ 132 (hv W (pL P) - 1) (-1)) := ⟨gf.1, fun j b h => gf.2 j b h⟩
        have rw1 : RW c R (x_wr μ 132 (hv W (pL P) - 1) (-1)) := fun j b h => by rw [x_wr_ne hc.2.2.2.2.2.2]; exact rw' j b h
        have ec : nI (hv W (pL P) - 1) = cN (-1) (hv W (pL P)) := by unfold cN; rw [if_neg (by omega)]
        obtain ⟨μa, a1, a2, a3⟩ := t_adb w hc (lc := hv W (pL P)) (by omega) hL hn pc1 gf1 rw1 q (Or.inr hp)
        rw [ec, a1]
        simp only [Option.bind_some]
        have g2 : gs (pH c) (x_wr μ 132 (hv W (pL P) - 1) (-1)) μa := a3.mono (fun k j h => by unfold pH; rw [h]; rfl)
        have nc : ∀ x, x ≠ c → ∀ j, μa x j = (x_wr μ 132 (hv W (pL P) - 1) (-1)) x j := fun x hx j => a3 x j (beq_false_of_ne hx)
        obtain ⟨μb, W', b1, b2, b3, b4⟩ := ih (i + 1) n (W0 W (hv W (pL P) - 1)) (ad P (hv W (pL P)) L R) μa (by omega) (by omega) (gPC (g := g0) w pc1 (g2.mono (pH0 hc)) rfl) ⟨by rw [nc 131 (Ne.symm hc.2.2.2.2.1)]; exact gf1.1, fun j b h => by rw [nc 133 (Ne.symm hc.2.2.2.2.2.1)]; exact gf1.2 j b h⟩ (fun l hl => by rw [nc 132 (Ne.symm hc.2.2.2.2.2.2)]; exact e2 l hl) a2 (q.ad hn z hp)
        exact ⟨μb, W', b1, b2, b3, (g1.trans g2).trans b4⟩
