/-! PURE: read: names -/
def tx (β : Nat → Nat) (a e : Nat) : List Nat := (List.range (e - a)).map fun i => β (a + i)
theorem tx_iff {β : Nat → Nat} {a e : Nat} {N : List Nat} : tx β a e = N ↔ e - a = N.length ∧ ∀ j, j < N.length → β (a + j) = N.getD j 0 := by
  constructor
  · intro h
    have hl : e - a = N.length := by rw [← h]; simp [tx]
    refine ⟨hl, fun j hj => ?_⟩
    rw [← h]
    simp [tx, List.getD, show j < e - a by omega]
  · rintro ⟨h1, h2⟩
    apply List.ext_getElem
    · simp [tx, h1]
    · intro i x y
      have := h2 i y
      simp [tx]
      rw [this]
      simp [List.getD, y]
theorem l_mt {β : Nat → Nat} {n a e c p : Nat} {N : List Nat} {μ : xMu} (tc : TC β n μ) (e3 : μ 14 3 = nI a) (e4 : μ 14 4 = nI e) (hae : a ≤ e) (hen : e ≤ n) (hN : e - a = N.length) (ch : ∀ i, i < N.length → x_schar c (nI (p + i)) = some (nI (N.getD i 0)) ∧ N.getD i 0 < 256) : ∀ (m f i : Nat), N.length - i = m → i ≤ N.length → m < f →
    (f10_matches_l2 μ (some 1) f c (nI p) (nI i) = some 1 ∧ ∀ j, i ≤ j → j < N.length → β (a + j) = N.getD j 0) ∨ (f10_matches_l2 μ (some 1) f c (nI p) (nI i) = some 0 ∧ ∃ j, j < N.length ∧ β (a + j) ≠ N.getD j 0) := by
  intro m
  have hn := tc.1
  induction m with
  | zero =>
    intro f i hm hi hf
    obtain ⟨f, rfl⟩ : ∃ z, f = z + 1 := ⟨f - 1, by omega⟩
    unfold f10_matches_l2
    rw [e3, e4, pk_sub hae, if_pos (nI_le (by omega) (by omega))]
    exact Or.inl ⟨rfl, fun j x y => by omega⟩
  | succ m ih =>
    intro f i hm hi hf
    obtain ⟨f, rfl⟩ : ∃ z, f = z + 1 := ⟨f - 1, by omega⟩
    have hb := tc.2.2 (a + i) (by omega)
    have hc := ch i (by omega)
    unfold f10_matches_l2
    rw [e3, e4, pk_sub hae, if_neg (nI_ge (by omega) (by omega)), nI_add, a_ald (by omega) (by decide), hb.2, nI_add, hc.1, Option.bind_some]
    by_cases x : β (a + i) = N.getD i 0
    · rw [if_pos (by rw [x]), nI_1]
      rcases ih f (i + 1) (by omega) (by omega) (by omega) with ⟨h1, h2⟩ | h
      · refine Or.inl ⟨h1, fun j y z => ?_⟩
        by_cases q : j = i
        · rw [q]; exact x
        · exact h2 j (by omega) z
      · exact Or.inr h
    · rw [if_neg (nI_ne (by omega) (by omega) x)]
      exact Or.inr ⟨rfl, i, by omega, x⟩
theorem t_mt {β : Nat → Nat} {n a e c p : Nat} {N : List Nat} {μ : xMu} (tc : TC β n μ) (e3 : μ 14 3 = nI a) (e4 : μ 14 4 = nI e) (hae : a ≤ e) (hen : e ≤ n) (hN : e - a = N.length) (ch : ∀ i, i < N.length → x_schar c (nI (p + i)) = some (nI (N.getD i 0)) ∧ N.getD i 0 < 256) : f10_matches μ c (nI p) = some (if tx β a e = N then 1 else 0) := by
  have hn := tc.1
  rcases l_mt tc e3 e4 hae hen hN ch N.length 1000 0 (by omega) (by omega) (by omega) with ⟨h1, h2⟩ | ⟨h1, j, h2, h3⟩
  · rw [if_pos (tx_iff.mpr ⟨hN, fun j hj => h2 j (by omega) hj⟩)]
    exact h1
  · rw [if_neg (fun z => h3 ((tx_iff.mp z).2 j h2))]
    exact h1
/-- the names in a string -/
def LY (c L : Nat) : Nat → List (List Nat) → Prop
  | p, [] => L ≤ p
  | p, N :: r => (p < L ∧ p + N.length ≤ L) ∧ (∀ i, i < N.length → x_schar c (nI (p + i)) = some (nI (N.getD i 0)) ∧ N.getD i 0 < 256 ∧ N.getD i 0 ≠ 32) ∧ (p + N.length = L ∨ x_schar c (nI (p + N.length)) = some 32) ∧ LY c L (p + N.length + 1) r
def ix (T : List Nat) : List (List Nat) → Nat
  | [] => 0
  | N :: r => if T = N then 1 else if ix T r = 0 then 0 else ix T r + 1
theorem l_na29 {c L p : Nat} {N : List Nat} {μ : xMu} {v3 : Int32} (hL : x_slen c = some (nI L)) (hL2 : L < 100) (h1 : p + N.length ≤ L) (h2 : ∀ i, i < N.length → x_schar c (nI (p + i)) = some (nI (N.getD i 0)) ∧ N.getD i 0 < 256 ∧ N.getD i 0 ≠ 32) (h3 : p + N.length = L ∨ x_schar c (nI (p + N.length)) = some 32) (k : Nat → Int32 → Int32 → Int32 → Option Int32) : ∀ (m f i : Nat), N.length - i = m → i ≤ N.length → m < f → f10_nameAmong_l29 μ k f c (nI p) v3 (nI (p + i)) = k c (nI p) v3 (nI (p + N.length)) := by
  intro m
  induction m with
  | zero =>
    intro f i hm hi hf
    obtain ⟨f, rfl⟩ : ∃ z, f = z + 1 := ⟨f - 1, by omega⟩
    obtain rfl : i = N.length := by omega
    unfold f10_nameAmong_l29
    rw [hL, Option.bind_some]
    by_cases x : L ≤ p + N.length
    · rw [if_pos (nI_le x (by omega))]
    · rw [if_neg (nI_ge (by omega) (by omega))]
      rcases h3 with h | h
      · omega
      · rw [h, Option.bind_some, if_pos rfl]
  | succ m ih =>
    intro f i hm hi hf
    obtain ⟨f, rfl⟩ : ∃ z, f = z + 1 := ⟨f - 1, by omega⟩
    have hc := h2 i (by omega)
    unfold f10_nameAmong_l29
    rw [hL, Option.bind_some, if_neg (nI_ge (by omega) (by omega)), hc.1, Option.bind_some, if_neg (show ¬ nI (N.getD i 0) = 32 from nI_ne (b := 32) (by omega) (by decide) hc.2.2), nI_1, Nat.add_assoc]
    exact ih f (i + 1) (by omega) (by omega) (by omega)
theorem l_na {β : Nat → Nat} {n a e c L : Nat} {μ : xMu} (tc : TC β n μ) (e2 : μ 14 2 = nI 1) (e3 : μ 14 3 = nI a) (e4 : μ 14 4 = nI e) (hae : a ≤ e) (hen : e ≤ n) (hL : x_slen c = some (nI L)) (hL2 : L < 100) : ∀ (Ns : List (List Nat)) (f p j : Nat), LY c L p Ns → j + Ns.length ≤ 7 → Ns.length < f → p < 200 →
    f10_nameAmong_l4 μ (some (-1)) f c (nI p) (nI j) = some (cN (-1) (if ix (tx β a e) Ns = 0 then 0 else j + ix (tx β a e) Ns)) := by
  intro Ns
  have hn := tc.1
  induction Ns with
  | nil =>
    intro f p j ly hj hf hp
    obtain ⟨f, rfl⟩ : ∃ z, f = z + 1 := ⟨f - 1, by simp at hf; omega⟩
    simp only [List.length_nil] at hj
    unfold f10_nameAmong_l4
    rw [if_neg (show ¬ (8 : Int32) ≤ nI j from nI_ge (b := 8) (by omega) (by decide)), e2, if_pos (show nI 1 = 1 from rfl), hL, Option.bind_some, if_pos (nI_le ly (by omega))]
    rfl
  | cons N r ih =>
    intro f p j ly hj hf hp
    obtain ⟨f, rfl⟩ : ∃ z, f = z + 1 := ⟨f - 1, by simp at hf; omega⟩
    simp only [List.length_cons] at hj hf
    obtain ⟨⟨y1, y2⟩, y3, y4, y5⟩ := ly
    unfold f10_nameAmong_l4
    have l29 := l_na29 (μ := μ) (v3 := nI j) hL hL2 y2 y3 y4 (fun (y4 : Nat) (y5 : Int32) (y6 : Int32) (y7 : Int32) => (f10_nameAmong_j55 μ (f10_nameAmong_l4 μ (some (-1)) f) y4 y5 y6 y7)) N.length 1000 0 (by omega) (by omega) (by omega)
    rw [if_neg (show ¬ (8 : Int32) ≤ nI j from nI_ge (b := 8) (by omega) (by decide)), e2, if_pos (show nI 1 = 1 from rfl), hL, Option.bind_some, if_neg (nI_ge (by omega) (by omega)), show f10_nameAmong_l29 μ _ 1000 c (nI p) (nI j) (nI p) = _ from l29]
    unfold f10_nameAmong_j55 f10_nameAmong_j82
    rw [pk_sub (by omega), e3, e4, pk_sub hae, nI_1, nI_1, Nat.add_sub_cancel_left]
    have ihh := ih f (p + N.length + 1) (j + 1) y5 (by omega) (by omega) (by omega)
    have i0 : ix (tx β a e) (N :: r) = if tx β a e = N then 1 else if ix (tx β a e) r = 0 then 0 else ix (tx β a e) r + 1 := rfl
    have nx : tx β a e ≠ N → f10_nameAmong_l4 μ (some (-1)) f c (nI (p + N.length + 1)) (nI (j + 1)) = some (cN (-1) (if ix (tx β a e) (N :: r) = 0 then 0 else j + ix (tx β a e) (N :: r))) := by
      intro ne
      rw [ihh, i0, if_neg ne]
      by_cases q : ix (tx β a e) r = 0
      · rw [if_pos q, if_pos q]
        rfl
      · rw [if_neg q, if_neg q, if_neg (by omega), show j + 1 + ix (tx β a e) r = j + (ix (tx β a e) r + 1) by omega]
    by_cases ll : N.length = e - a
    · rw [if_pos (by rw [ll]), t_mt tc e3 e4 hae hen ll.symm (fun i hi => ⟨(y3 i hi).1, (y3 i hi).2.1⟩), Option.bind_some]
      by_cases t : tx β a e = N
      · rw [if_pos t, if_neg (by decide), i0, if_pos t, if_neg (by decide)]
        rfl
      · rw [if_neg t, if_pos rfl]
        exact nx t
    · rw [if_neg (nI_ne (by omega) (by omega) ll)]
      exact nx (fun t => ll (tx_iff.mp t).1.symm)
def wix (k : Nat) (T : List Nat) (Ns : List (List Nat)) : Nat := if k = 1 then ix T Ns else 0
theorem t_na {β : Nat → Nat} {n k a e c L : Nat} {μ : xMu} {Ns : List (List Nat)} (tc : TC β n μ) (hk : k ≤ 4) (e2 : μ 14 2 = nI k) (e3 : μ 14 3 = nI a) (e4 : k ≠ 4 → μ 14 4 = nI e) (hae : a ≤ e) (hen : e ≤ n) (hL : x_slen c = some (nI L)) (hL2 : L < 100) (ly : LY c L 0 Ns) (h7 : Ns.length ≤ 7) : f10_nameAmong μ c = some (cN (-1) (wix k (tx β a e) Ns)) := by
  unfold f10_nameAmong wix
  by_cases c1 : k = 1
  · subst c1
    rw [if_pos rfl, show f10_nameAmong_l4 μ (some (-1)) 1000 c 0 0 = _ from l_na tc e2 e3 (e4 (by decide)) hae hen hL hL2 Ns 1000 0 0 ly (by omega) (by omega) (by decide)]
    congr 2
    split
    · next h => exact h.symm
    · omega
  · rw [if_neg c1]
    unfold f10_nameAmong_l4
    rw [if_neg (by decide), e2, if_neg (show ¬ nI k = 1 from nI_ne (b := 1) (by omega) (by decide) c1)]
    rfl
theorem t_an {β : Nat → Nat} {n k a e c : Nat} {N : List Nat} {μ : xMu} (tc : TC β n μ) (hk : k ≤ 4) (e2 : μ 14 2 = nI k) (e3 : μ 14 3 = nI a) (e4 : k ≠ 4 → μ 14 4 = nI e) (hae : a ≤ e) (hen : e ≤ n) (hL : x_slen c = some (nI N.length)) (hL2 : N.length < 100) (ch : ∀ i, i < N.length → x_schar c (nI (0 + i)) = some (nI (N.getD i 0)) ∧ N.getD i 0 < 256) : f10_atName μ c = some (if k = 1 ∧ tx β a e = N then 1 else 0) := by
  have hn := tc.1
  unfold f10_atName
  rw [e2, hL]
  by_cases c1 : k = 1
  · subst c1
    rw [if_pos (show nI 1 = 1 from rfl), Option.bind_some, e3, e4 (by decide), pk_sub hae]
    by_cases ll : e - a = N.length
    · rw [if_pos (by rw [ll]), show f10_matches μ c 0 = _ from t_mt tc e3 (e4 (by decide)) hae hen ll ch, Option.bind_some]
      by_cases t : tx β a e = N
      · rw [if_pos t, if_neg (by decide), if_pos ⟨rfl, t⟩]
      · rw [if_neg t, if_pos rfl, if_neg (fun z => t z.2)]
    · rw [if_neg (nI_ne (by omega) (by omega) ll), if_neg (fun z => ll (tx_iff.mp z.2).1)]
  · rw [if_neg (show ¬ nI k = 1 from nI_ne (b := 1) (by omega) (by decide) c1), if_neg (fun z => c1 z.1)]
def nTel : List (List Nat) := [[107, 105, 110, 100], [116, 104, 105, 110, 103], [108, 97, 121, 101, 114], [98, 111, 100, 121]]
def nSor : List (List Nat) := [[115, 112, 97, 110], [116, 104, 105, 110, 103], [97, 115, 107], [101, 118, 101, 114]]
def nWay : List (List Nat) := [[98, 101, 102, 111, 114, 101], [98, 101, 104, 105, 110, 100], [97, 114, 111, 117, 110, 100], [105, 110, 115, 116, 101, 97, 100]]
def nAct : List (List Nat) := [[97, 100, 100], [109, 117, 108], [111, 119, 110], [112, 114, 111, 99, 101, 101, 100], [99, 97, 108, 108], [119, 97, 107, 101], [102, 97, 105, 108]]
def nUnd : List Nat := [117, 110, 100, 101, 114]
def nNee : List Nat := [110, 101, 101, 100]
def nBar : List Nat := [98, 97, 114]
def nPla : List Nat := [112, 108, 97, 105, 110]
theorem ly910 : LY 910 21 0 nTel := ⟨by decide, by decide +kernel, by decide, ⟨by decide, by decide +kernel, by decide, ⟨by decide, by decide +kernel, by decide, ⟨by decide, by decide +kernel, by decide, (by decide : 21 ≤ 22)⟩⟩⟩⟩
theorem ly912 : LY 912 19 0 nSor := ⟨by decide, by decide +kernel, by decide, ⟨by decide, by decide +kernel, by decide, ⟨by decide, by decide +kernel, by decide, ⟨by decide, by decide +kernel, by decide, (by decide : 19 ≤ 20)⟩⟩⟩⟩
theorem ly916 : LY 916 28 0 nWay := ⟨by decide, by decide +kernel, by decide, ⟨by decide, by decide +kernel, by decide, ⟨by decide, by decide +kernel, by decide, ⟨by decide, by decide +kernel, by decide, (by decide : 28 ≤ 29)⟩⟩⟩⟩
theorem ly917 : LY 917 34 0 nAct := ⟨by decide, by decide +kernel, by decide, ⟨by decide, by decide +kernel, by decide, ⟨by decide, by decide +kernel, by decide, ⟨by decide, by decide +kernel, by decide, ⟨by decide, by decide +kernel, by decide, ⟨by decide, by decide +kernel, by decide, ⟨by decide, by decide +kernel, by decide, (by decide : 34 ≤ 35)⟩⟩⟩⟩⟩⟩⟩
