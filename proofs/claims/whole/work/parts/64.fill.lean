/-! PURE: rows: the whole row, in the class -/
def rs (P : xP) (L : List Nat) : Nat → (Nat → Nat) → List Nat → List Nat
  | 0, _, R => R
  | n + 1, W, R => if hv W (pL P) = 0 then rs P L n W R else rs P L n (W0 W (hv W (pL P) - 1)) (ad P (hv W (pL P)) L R)
def rowM (P : xP) (O : xO) (F t r : Nat) : List Nat := ad P 0 (fit P (P 2 t 0 + 1) r) (rs P (fit P (P 2 t 0 + 1) r) (pL P) (wt P O F t) [])
theorem ad_sub (P : xP) (lc : Nat) : ∀ (L R : List Nat), ∃ S, ad P lc L R = R ++ S ∧ List.Sublist S (L.filter (fun b => P 4 b 0 == lc)) := by
  intro L
  induction L with
  | nil => intro R; exact ⟨[], by rw [List.append_nil]; rfl, List.Sublist.refl _⟩
  | cons b bs ih =>
    intro R
    unfold ad
    split
    · exact ⟨[], by rw [List.append_nil], List.nil_sublist _⟩
    · split
      · next x =>
        obtain ⟨S, h1, h2⟩ := ih (R ++ [b])
        refine ⟨b :: S, by rw [h1, List.append_assoc]; rfl, ?_⟩
        rw [List.filter_cons, if_pos (by simp [x])]
        exact h2.cons₂ b
      · next x =>
        obtain ⟨S, h1, h2⟩ := ih R
        refine ⟨S, h1, ?_⟩
        rw [List.filter_cons, if_neg (by simp [x])]
        exact h2
def Qr (P : xP) (L : List Nat) (W : Nat → Nat) (R : List Nat) : Prop := R.Nodup ∧ (∀ b ∈ R, b ∈ L) ∧ ∀ b ∈ R, 0 < P 4 b 0 ∧ W (P 4 b 0 - 1) = 0
theorem nodup_app {A B : List Nat} (ha : A.Nodup) (hb : B.Nodup) (h : ∀ x ∈ A, ∀ y ∈ B, x ≠ y) : (A ++ B).Nodup := List.pairwise_append.mpr ⟨ha, hb, h⟩
theorem Qr.app {P : xP} {L : List Nat} {W : Nat → Nat} {R : List Nat} (hL : L.Nodup) (h : Qr P L W R) {lc : Nat} (hl : lc = 0 ∨ 0 < W (lc - 1)) : (R ++ L.filter (fun b => P 4 b 0 == lc)).Nodup ∧ ∀ b ∈ R ++ L.filter (fun b => P 4 b 0 == lc), b ∈ L := by
  refine ⟨nodup_app h.1 (List.Pairwise.filter _ hL) ?_, ?_⟩
  · intro x hx y hy e
    subst e
    have h1 := (List.mem_filter.mp hy).2
    have h2 := h.2.2 x hx
    simp at h1
    rw [h1] at h2
    rcases hl with z | z <;> omega
  · intro b hb
    rcases List.mem_append.mp hb with q | q
    · exact h.2.1 b q
    · exact (List.mem_filter.mp q).1
theorem Qr.ad {P : xP} {L : List Nat} {W : Nat → Nat} {R : List Nat} (hL : L.Nodup) (h : Qr P L W R) {lc : Nat} (h0 : 0 < lc) (hl : 0 < W (lc - 1)) : Qr P L (W0 W (lc - 1)) (ad P lc L R) := by
  obtain ⟨S, e, hS⟩ := ad_sub P lc L R
  rw [e]
  have ap := h.app hL (Or.inr hl)
  refine ⟨List.Nodup.sublist (List.Sublist.append (List.Sublist.refl R) hS) ap.1, fun b hb => ap.2 b ((List.Sublist.append (List.Sublist.refl R) hS).mem hb), fun b hb => ?_⟩
  unfold W0
  rcases List.mem_append.mp hb with q | q
  · have := h.2.2 b q
    refine ⟨this.1, ?_⟩
    split
    · rfl
    · exact this.2
  · have h1 := (List.mem_filter.mp (hS.mem q)).2
    simp at h1
    rw [h1]
    exact ⟨h0, if_pos rfl⟩
theorem Qr.len {P : xP} (w : Pwf P) {L : List Nat} (hb : ∀ b ∈ L, b < pB P) {R : List Nat} (hn : R.Nodup) (h : ∀ b ∈ R, b ∈ L) : R.length ≤ 24 := Nat.le_trans (nd_len (pB P) R hn (fun b q => hb b (h b q))) w.1.2.2.2
theorem t_adb {P : xP} (w : Pwf P) {c lc : Nat} (hc : rowC c) (hlc : lc ≤ 8) {L : List Nat} (hL : ∀ b ∈ L, b < pB P) (hn : L.Nodup) {R : List Nat} {W : Nat → Nat} {μ : xMu} (pc : PC P μ) (gf : GF L μ) (rw' : RW c R μ) (q : Qr P L W R) (hl : lc = 0 ∨ 0 < W (lc - 1)) :
    ∃ μ', f6_addBodies c (nI R.length) (cN (-1) lc) μ = some (nI (ad P lc L R).length, μ') ∧ RW c (ad P lc L R) μ' ∧ gs (fun a _ => a == c) μ μ' := by
  have hlen : L.length ≤ 24 := Qr.len w hL hn (fun b h => h)
  have ap := q.app hn hl
  obtain ⟨μ', a1, a2, a3⟩ := l_adb w hc hlc hL hlen (fun (y8 : Int32) (μ9 : xMu) => (some (y8, μ9))) 1000 0 R μ (by omega) (by omega) pc gf rw' (fun b h => hL b (q.2.1 b h)) (by
    rw [List.drop_zero]
    exact Qr.len w hL ap.1 ap.2)
  rw [List.drop_zero] at a1 a2
  exact ⟨μ', a1, a2, a3⟩
