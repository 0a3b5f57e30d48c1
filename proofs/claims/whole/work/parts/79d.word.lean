/-! PURE: read: the reference's words -/
theorem lg0 (a b : Int64) : (lg_cmp a b = 0) = (a = b) := by
  apply propext
  constructor
  · intro h
    have h1 : ¬ a < b := fun z => by
      have := (lc_lt a b).mpr z
      rw [h] at this
      exact absurd this (by decide)
    have h2 : ¬ b < a := fun z => by
      have := (lc_gt a b).mpr z
      rw [h] at this
      exact absurd this (by decide)
    apply Int64.toInt_inj.mp
    rw [Int64.lt_iff_toInt_lt] at h1 h2
    omega
  · intro h
    subst h
    have h1 : ¬ lg_cmp a a < 0 := fun z => by
      have := (lc_lt a a).mp z
      rw [Int64.lt_iff_toInt_lt] at this
      omega
    have h2 : ¬ 0 < lg_cmp a a := fun z => by
      have := (lc_gt a a).mp z
      rw [Int64.lt_iff_toInt_lt] at this
      omega
    rw [i_lt] at h1 h2
    rw [i_eq]
    have e0 : (0 : Int32).toInt = 0 := by decide
    omega
theorem lNi {a b : Nat} (ha : a < 2 ^ 63) (hb : b < 2 ^ 63) (h : lN a = lN b) : a = b := by
  have := congrArg (fun x : Int64 => x.toBitVec.toNat) h
  have e : ∀ n, n < 2 ^ 63 → (lN n).toBitVec.toNat = n := fun n hn => by
    show (BitVec.ofNat 64 n).toNat = n
    rw [BitVec.toNat_ofNat]
    exact Nat.mod_eq_of_lt (by omega)
  simp only [e a ha, e b hb] at this
  exact this
def pkN (T : List Nat) : Nat := T.foldl (fun v b => v * 256 + b) 0
theorem pkN_app (T : List Nat) (b : Nat) : pkN (T ++ [b]) = pkN T * 256 + b := by
  unfold pkN
  rw [List.foldl_append]
  rfl
theorem pkN_lt : ∀ (m : Nat) (T : List Nat), T.length = m → (∀ b ∈ T, b < 256) → pkN T < 256 ^ m := by
  intro m
  induction m with
  | zero =>
    intro T hT _
    obtain rfl := List.eq_nil_of_length_eq_zero hT
    exact Nat.one_pos
  | succ m ih =>
    intro T hT h
    have hne : T ≠ [] := fun z => by rw [z] at hT; simp at hT
    obtain ⟨E, e, rfl⟩ : ∃ E e, T = E ++ [e] := ⟨T.dropLast, T.getLast hne, (List.dropLast_concat_getLast hne).symm⟩
    have hE : E.length = m := by rw [List.length_append] at hT; simp at hT; exact hT
    have := ih E hE (fun b hb => h b (List.mem_append_left _ hb))
    have := h e (by simp)
    rw [pkN_app, Nat.pow_succ]
    omega
theorem pkN_inj : ∀ (m : Nat) (T N : List Nat), T.length = m → (∀ b ∈ T, 0 < b ∧ b < 256) → (∀ b ∈ N, 0 < b ∧ b < 256) → pkN T = pkN N → T = N := by
  intro m
  induction m with
  | zero =>
    intro T N hT _ hN h
    obtain rfl := List.eq_nil_of_length_eq_zero hT
    rcases List.eq_nil_or_concat N with e | ⟨E, e, q⟩
    · exact e.symm
    · subst q
      rw [List.concat_eq_append, pkN_app] at h
      have := hN e (by simp)
      have h0 : pkN [] = 0 := rfl
      omega
  | succ m ih =>
    intro T N hT h1 h2 h
    have hne : T ≠ [] := fun z => by rw [z] at hT; simp at hT
    obtain ⟨E, e, rfl⟩ : ∃ E e, T = E ++ [e] := ⟨T.dropLast, T.getLast hne, (List.dropLast_concat_getLast hne).symm⟩
    have hE : E.length = m := by rw [List.length_append] at hT; simp at hT; exact hT
    have he := h1 e (by simp)
    rcases List.eq_nil_or_concat N with q | ⟨F, f, q⟩
    · subst q
      rw [pkN_app] at h
      have h0 : pkN [] = 0 := rfl
      omega
    · subst q
      rw [List.concat_eq_append] at h2 h ⊢
      have hf := h2 f (by simp)
      rw [pkN_app, pkN_app] at h
      have e1 : e = f := by omega
      have e2 : E = F := ih E F hE (fun b hb => h1 b (List.mem_append_left _ hb)) (fun b hb => h2 b (List.mem_append_left _ hb)) (by omega)
      rw [e1, e2]
theorem w_stp {a b : Nat} (ha : a < 2 ^ 48) (hb : b < 256) : (lN a <<< (Int32.toInt64 (8 : Int32) &&& 63)) ||| (Int32.toInt64 (nI b)) = lN (a * 256 + b) := by
  rw [nI_l (by omega)]
  apply Int64.toBitVec_inj.mp
  apply BitVec.eq_of_toNat_eq
  have e : ∀ n, n < 2 ^ 63 → (lN n).toBitVec.toNat = n := fun n hn => by
    show (BitVec.ofNat 64 n).toNat = n
    rw [BitVec.toNat_ofNat]
    exact Nat.mod_eq_of_lt (by omega)
  rw [Int64.toBitVec_or, BitVec.toNat_or, Int64.toBitVec_shiftLeft, show ((Int32.toInt64 (8 : Int32) &&& 63).toBitVec.smod 64) = 8#64 by decide, BitVec.shiftLeft_eq', BitVec.toNat_shiftLeft, e a (by omega), e b (by omega), e _ (by omega), show (8#64).toNat = 8 by decide, Nat.shiftLeft_eq, Nat.mod_eq_of_lt (by omega)]
  have q := Nat.shiftLeft_add_eq_or_of_lt (i := 8) (b := b) (by omega) a
  rw [Nat.shiftLeft_eq] at q
  rw [← q]
theorem tx_take (β : Nat → Nat) (a i : Nat) : tx β a (a + (i + 1)) = tx β a (a + i) ++ [β (a + i)] := by
  unfold tx
  rw [Nat.add_sub_cancel_left, Nat.add_sub_cancel_left, List.range_succ, List.map_append]
  rfl
theorem tx_mem {β : Nat → Nat} {a e b : Nat} (h : b ∈ tx β a e) : ∃ i, a ≤ i ∧ i < e ∧ b = β i := by
  unfold tx at h
  rw [List.mem_map] at h
  obtain ⟨i, h1, h2⟩ := h
  rw [List.mem_range] at h1
  exact ⟨a + i, by omega, by omega, h2.symm⟩
theorem tx_len {β : Nat → Nat} {a e : Nat} : (tx β a e).length = e - a := by simp [tx]
theorem l_w7 {β : Nat → Nat} {n a e : Nat} {μ : xMu} (tm : TM β n μ) (e0 : μ 162 30 = nI 2) (e1 : μ 162 31 = nI a) (e2 : μ 162 32 = nI e) (hae : a ≤ e) (hen : e ≤ n) (h8 : e - a < 8) (k : Int64 → Option Int64) : ∀ (m f i : Nat), e - (a + i) = m → a + i ≤ e → m < f → f12_word_l7 μ k f (lN (pkN (tx β a (a + i)))) (nI (a + i)) = k (lN (pkN (tx β a e))) := by
  intro m
  have hn := tm.1
  induction m with
  | zero =>
    intro f i hm hi hf
    obtain ⟨f, rfl⟩ : ∃ z, f = z + 1 := ⟨f - 1, by omega⟩
    unfold f12_word_l7
    rw [e2, if_pos (nI_le (by omega) (by omega)), show a + i = e by omega]
  | succ m ih =>
    intro f i hm hi hf
    obtain ⟨f, rfl⟩ : ∃ z, f = z + 1 := ⟨f - 1, by omega⟩
    have hb := tm.2.2 (a + i) (by omega)
    have lt := pkN_lt i (tx β a (a + i)) (by rw [tx_len]; omega) (fun b h => by
      obtain ⟨j, j1, j2, rfl⟩ := tx_mem h
      exact (tm.2.2 j (by omega)).1)
    have lt2 : pkN (tx β a (a + i)) < 2 ^ 48 := Nat.lt_of_lt_of_le lt (by
      have := Nat.pow_le_pow_right (n := 256) (by decide) (show i ≤ 6 by omega)
      exact Nat.le_trans this (by decide))
    unfold f12_word_l7
    rw [e2, if_neg (nI_ge (by omega) (by omega)), e0, if_pos (show nI 2 = 2 from rfl), e1, pk_sub hae, if_neg (show ¬ (8 : Int32) ≤ nI (e - a) from nI_ge (b := 8) h8 (by decide)), a_ald (by omega) (by decide), hb.2, w_stp lt2 hb.1, nI_1, ← pkN_app, ← tx_take, Nat.add_assoc]
    exact ih f (i + 1) (by omega) (by omega) (by omega)
def wN (k : Nat) (T : List Nat) : Nat := if k = 1 ∧ T.length < 8 then pkN T else 0
theorem u_wd {β : Nat → Nat} {n k a e : Nat} {μ : xMu} (tm : TM β n μ) (hk : k ≤ 4) (e0 : μ 162 30 = nI (mkk k)) (e1 : μ 162 31 = nI a) (e2 : μ 162 32 = nI e) (hae : a ≤ e) (hen : e ≤ n) : f12_word μ = some (lN (wN k (tx β a e))) := by
  have hn := tm.1
  unfold f12_word wN
  rw [e1, tx_len]
  by_cases c : k = 1
  · subst c
    by_cases h8 : e - a < 8
    · rw [if_pos ⟨rfl, h8⟩]
      have := l_w7 tm (show μ 162 30 = nI 2 from e0) e1 e2 hae hen h8 (fun (y2 : Int64) => (f12_word_j56 μ y2)) (e - a) 1000 0 (by omega) (by omega) (by omega)
      rw [Nat.add_zero] at this
      have t0 : tx β a a = [] := by unfold tx; rw [Nat.sub_self]; rfl
      rw [t0] at this
      exact this
    · rw [if_neg (fun z => h8 z.2)]
      unfold f12_word_l7
      rw [e2, if_neg (nI_ge (by omega) (by omega)), show μ 162 30 = nI 2 from e0, if_pos (show nI 2 = 2 from rfl), e1, pk_sub hae, if_pos (show (8 : Int32) ≤ nI (e - a) from nI_le (a := 8) (by omega) (by omega))]
      rfl
  · rw [if_neg (fun z => c z.1)]
    unfold f12_word_l7
    have m2 : ¬ nI (mkk k) = (2 : Int32) := by
      rcases (show k = 0 ∨ k = 2 ∨ k = 3 ∨ k = 4 by omega) with rfl | rfl | rfl | rfl <;> decide
    rw [e0, if_neg m2]
    split <;> rfl
theorem w_is {k : Nat} {T N : List Nat} (hT : k = 1 → ∀ b ∈ T, 97 ≤ b ∧ b ≤ 122) (hN : N.length < 8) (hN0 : N ≠ []) (hNb : ∀ b ∈ N, 0 < b ∧ b < 256) : (lg_cmp (lN (wN k T)) (lN (pkN N)) = 0) = (k = 1 ∧ T = N) := by
  rw [lg0]
  apply propext
  have p7 : ∀ M : List Nat, M.length < 8 → (∀ b ∈ M, b < 256) → pkN M < 2 ^ 63 := fun M h1 h2 => by
    have h3 := pkN_lt M.length M rfl h2
    have := Nat.pow_le_pow_right (n := 256) (by decide) (show M.length ≤ 7 by omega)
    exact Nat.lt_of_lt_of_le h3 (Nat.le_trans this (by decide))
  have hp : 0 < pkN N := by
    rcases List.eq_nil_or_concat N with q | ⟨F, f, q⟩
    · exact absurd q hN0
    · subst q
      rw [List.concat_eq_append, pkN_app]
      have := hNb f (by simp)
      omega
  have hNl := p7 N hN (fun b h => (hNb b h).2)
  unfold wN
  by_cases c : k = 1 ∧ T.length < 8
  · have hTb : ∀ b ∈ T, 0 < b ∧ b < 256 := fun b h => by have := hT c.1 b h; omega
    rw [if_pos c]
    constructor
    · intro h
      exact ⟨c.1, pkN_inj T.length T N rfl hTb hNb (lNi (p7 T c.2 (fun b h => (hTb b h).2)) hNl h)⟩
    · rintro ⟨-, rfl⟩
      rfl
  · rw [if_neg c]
    constructor
    · intro h
      have := lNi (by decide) hNl h
      omega
    · rintro ⟨h1, rfl⟩
      exact absurd ⟨h1, hN⟩ c
