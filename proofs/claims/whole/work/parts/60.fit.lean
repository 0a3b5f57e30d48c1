/-! PURE: rows: the bodies that fit -/
def kch (P : xP) : Nat → Nat → List Nat
  | 0, _ => []
  | _ + 1, 0 => []
  | n + 1, k + 1 => k :: kch P n (P 1 k 0)
def bds (P : xP) (k r : Nat) : List Nat := (List.range (pB P)).filter (fun b => P 4 b 1 == k && P 4 b 2 == r)
def fit (P : xP) (c r : Nat) : List Nat := (kch P 9 c).flatMap (fun k => bds P k r)
theorem nd_len : ∀ (n : Nat) (L : List Nat), L.Nodup → (∀ x ∈ L, x < n) → L.length ≤ n := by
  intro n
  induction n with
  | zero =>
    intro L _ h
    cases L with
    | nil => exact Nat.le_refl 0
    | cons a L => exact absurd (h a (List.mem_cons_self ..)) (by omega)
  | succ n ih =>
    intro L hn h
    have h1 := ih (L.erase n) (hn.erase n) (fun x hx => by
      have := (hn.mem_erase_iff).mp hx
      have := h x this.2
      omega)
    by_cases c : n ∈ L
    · rw [List.length_erase_of_mem c] at h1
      omega
    · rw [List.erase_of_not_mem c] at h1
      omega
theorem kch_lt {P : xP} (w : Pwf P) : ∀ n c, c ≤ pK P → ∀ k ∈ kch P n c, k < c := by
  intro n
  induction n with
  | zero => intro c _ k h; cases h
  | succ n ih =>
    intro c hc k h
    cases c with
    | zero => cases h
    | succ c =>
      unfold kch at h
      have h2 := w.2.1 c (by omega)
      rcases List.mem_cons.mp h with e | e
      · omega
      · have := ih (P 1 c 0) (by omega) k e
        omega
theorem kch_nd {P : xP} (w : Pwf P) : ∀ n c, c ≤ pK P → (kch P n c).Nodup := by
  intro n
  induction n with
  | zero => intro c _; exact List.nodup_nil
  | succ n ih =>
    intro c hc
    cases c with
    | zero => exact List.nodup_nil
    | succ c =>
      have h2 := w.2.1 c (by omega)
      unfold kch
      refine List.nodup_cons.mpr ⟨fun q => ?_, ih _ (by omega)⟩
      have := kch_lt w n (P 1 c 0) (by omega) c q
      omega
theorem kch_st {P : xP} (w : Pwf P) : ∀ n m c, c ≤ pK P → c ≤ n → c ≤ m → kch P n c = kch P m c := by
  intro n
  induction n with
  | zero =>
    intro m c _ h1 _
    obtain rfl : c = 0 := by omega
    cases m <;> rfl
  | succ n ih =>
    intro m c hc h1 h2
    cases c with
    | zero => cases m <;> rfl
    | succ c =>
      obtain ⟨m, rfl⟩ : ∃ g, m = g + 1 := ⟨m - 1, by omega⟩
      have h3 := w.2.1 c (by omega)
      unfold kch
      rw [ih m (P 1 c 0) (by omega) (by omega) (by omega)]
theorem fit_nd {P : xP} (w : Pwf P) {c r : Nat} (hc : c ≤ pK P) : (fit P c r).Nodup := by
  unfold fit
  refine List.pairwise_flatMap.mpr ⟨fun k _ => ?_, ?_⟩
  · exact List.Pairwise.filter _ List.nodup_range
  · refine List.Pairwise.imp ?_ (kch_nd w 9 c hc)
    intro a b hab x hx y hy e
    subst e
    have h1 := (List.mem_filter.mp hx).2
    have h2 := (List.mem_filter.mp hy).2
    simp at h1 h2
    omega
theorem fit_lt {P : xP} {c r : Nat} : ∀ b ∈ fit P c r, b < pB P := by
  intro b hb
  obtain ⟨k, -, h⟩ := List.mem_flatMap.mp hb
  exact List.mem_range.mp (List.mem_filter.mp h).1
theorem fit_len {P : xP} (w : Pwf P) {c r : Nat} (hc : c ≤ pK P) : (fit P c r).length ≤ 24 := Nat.le_trans (nd_len (pB P) _ (fit_nd w hc) fit_lt) w.1.2.2.2
