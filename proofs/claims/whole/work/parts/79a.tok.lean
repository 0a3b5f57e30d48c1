/-! PURE: read: the words of a text -/
def sk (β : Nat → Nat) (n : Nat) : Nat → Nat → Nat
  | 0, p => p
  | f + 1, p => if p < n ∧ (β p = 32 ∨ β p = 10) then sk β n f (p + 1) else p
def rn (β : Nat → Nat) (n lo hi : Nat) : Nat → Nat → Nat
  | 0, p => p
  | f + 1, p => if p < n ∧ lo ≤ β p ∧ β p ≤ hi then rn β n lo hi f (p + 1) else p
def vl (β : Nat → Nat) (a : Nat) : Nat → Nat
  | 0 => 0
  | m + 1 => vl β a m * 10 + (β (a + m) - 48)
theorem sk_le (β : Nat → Nat) (n : Nat) : ∀ f p, p ≤ n → p ≤ sk β n f p ∧ sk β n f p ≤ n := by
  intro f
  induction f with
  | zero => intro p h; exact ⟨Nat.le_refl p, h⟩
  | succ f ih =>
    intro p h
    unfold sk
    split
    · next c => have := ih (p + 1) (by omega); omega
    · omega
theorem rn_le (β : Nat → Nat) (n lo hi : Nat) : ∀ f p, p ≤ n → p ≤ rn β n lo hi f p ∧ rn β n lo hi f p ≤ n ∧ ∀ i, p ≤ i → i < rn β n lo hi f p → lo ≤ β i ∧ β i ≤ hi := by
  intro f
  induction f with
  | zero => intro p h; exact ⟨Nat.le_refl p, h, fun i a b => by unfold rn at b; omega⟩
  | succ f ih =>
    intro p h
    unfold rn
    split
    · next c =>
      obtain ⟨a1, a2, a3⟩ := ih (p + 1) (by omega)
      refine ⟨by omega, a2, fun i x y => ?_⟩
      by_cases e : i = p
      · subst e; exact c.2
      · exact a3 i (by omega) y
    · exact ⟨Nat.le_refl p, h, fun i a b => by omega⟩
theorem rn_pos (β : Nat → Nat) (n lo hi f p : Nat) (h : p < n) (h2 : lo ≤ β p ∧ β p ≤ hi) : p < rn β n lo hi (f + 1) p := by
  unfold rn
  rw [if_pos ⟨h, h2⟩]
  have := (rn_le β n lo hi f (p + 1) (by omega)).1
  omega
def tA (β : Nat → Nat) (n e : Nat) : Nat := sk β n (n - e) e
def tE (β : Nat → Nat) (n e : Nat) : Nat := if n ≤ tA β n e then tA β n e else if 97 ≤ β (tA β n e) ∧ β (tA β n e) ≤ 122 then rn β n 97 122 (n - tA β n e) (tA β n e) else if 48 ≤ β (tA β n e) ∧ β (tA β n e) ≤ 57 then rn β n 48 57 (n - tA β n e) (tA β n e) else tA β n e + 1
def sgn (b : Nat) : Bool := b == 59 || b == 60 || b == 62 || b == 61
def tK (β : Nat → Nat) (n e : Nat) : Nat := if n ≤ tA β n e then 4 else if 97 ≤ β (tA β n e) ∧ β (tA β n e) ≤ 122 then 1 else if 48 ≤ β (tA β n e) ∧ β (tA β n e) ≤ 57 then (if tE β n e - tA β n e ≤ 3 then 2 else 0) else if sgn (β (tA β n e)) then 3 else 0
def mkk (k : Nat) : Nat := if k = 0 then 0 else if k = 1 then 2 else if k = 2 then 3 else if k = 3 then 4 else 1
/-- the class's tape -/
def TC (β : Nat → Nat) (n : Nat) (μ : xMu) : Prop := n ≤ 600 ∧ μ 14 1 = nI n ∧ ∀ i, i < n → β i < 256 ∧ μ 15 i = nI (β i)
/-- the reference's tape -/
def TM (β : Nat → Nat) (n : Nat) (μ : xMu) : Prop := n ≤ 600 ∧ μ 162 28 = nI n ∧ ∀ i, i < n → β i < 256 ∧ μ 182 i = nI (β i)
theorem sm256 {b : Nat} (h : b < 256) : b < 2 ^ 31 := by omega
theorem TC.w {β : Nat → Nat} {n j : Nat} {v : Int32} {μ : xMu} (h : TC β n μ) (hj : j ≠ 1) : TC β n (x_wr μ 14 j v) := ⟨h.1, by rw [w_wr, if_neg (by omega)]; exact h.2.1, h.2.2⟩
theorem TM.w {β : Nat → Nat} {n j : Nat} {v : Int32} {μ : xMu} (h : TM β n μ) (hj : j ≠ 28) : TM β n (x_wr μ 162 j v) := ⟨h.1, by rw [w_wr, if_neg (by omega)]; exact h.2.1, h.2.2⟩
theorem l_n8 {β : Nat → Nat} {n : Nat} (k : xMu → Option xMu) : ∀ (m f p : Nat) (μ : xMu), n - p = m → p ≤ n → m < f → TC β n μ → μ 14 3 = nI p → f10_nextToken_l8 k f μ = k (x_wr μ 14 3 (nI (sk β n m p))) := by
  intro m
  induction m with
  | zero =>
    intro f p μ hm hp hf tc e
    obtain ⟨f, rfl⟩ : ∃ z, f = z + 1 := ⟨f - 1, by omega⟩
    have := tc.1
    unfold f10_nextToken_l8
    rw [tc.2.1, e, if_pos (nI_le (by omega) (by omega))]
    unfold sk
    rw [← e, wr_same]
  | succ m ih =>
    intro f p μ hm hp hf tc e
    obtain ⟨f, rfl⟩ : ∃ z, f = z + 1 := ⟨f - 1, by omega⟩
    have hn := tc.1
    have hb := tc.2.2 p (by omega)
    have q1 : (nI (β p) = (32 : Int32)) = (β p = 32) := propext (nI_eq (b := 32) (by omega) (by decide))
    have q2 : (nI (β p) = (10 : Int32)) = (β p = 10) := propext (nI_eq (b := 10) (by omega) (by decide))
    unfold f10_nextToken_l8 f10_nextToken_j47
    rw [tc.2.1, e, if_neg (nI_ge (by omega) (by omega)), a_ald (by omega) (by decide), hb.2, a_ald (by omega) (by decide), hb.2]
    simp only [q1, q2]
    have go : ∀ c : Prop, c → f10_nextToken_l8 k f (x_wr μ 14 3 (nI (p + 1))) = k (x_wr μ 14 3 (nI (sk β n m (p + 1)))) := fun _ _ => by
      rw [ih f (p + 1) _ (by omega) (by omega) (by omega) (tc.w (by decide)) rfl, wr_wr]
    unfold sk
    by_cases x1 : β p = 32
    · rw [if_pos x1, if_pos ⟨by omega, Or.inl x1⟩, a_put, nI_1]
      exact go _ x1
    · rw [if_neg x1]
      by_cases x2 : β p = 10
      · rw [if_pos x2, if_pos ⟨by omega, Or.inr x2⟩, a_put, nI_1]
        exact go _ x2
      · rw [if_neg x2, if_neg (by omega), ← e, wr_same]
theorem l_er {β : Nat → Nat} {n lo hi : Nat} {μ : xMu} (tc : TC β n μ) (h1 : lo < 256) (h2 : hi < 256) (k : Int32 → Option Int32) : ∀ (m f p : Nat), n - p = m → p ≤ n → m < f → f10_endOfRun_l5 μ k f (nI lo) (nI hi) (nI p) = k (nI (rn β n lo hi m p)) := by
  intro m
  have hn := tc.1
  induction m with
  | zero =>
    intro f p hm hp hf
    obtain ⟨f, rfl⟩ : ∃ z, f = z + 1 := ⟨f - 1, by omega⟩
    unfold f10_endOfRun_l5
    rw [tc.2.1, if_pos (nI_le (by omega) (by omega))]
    rfl
  | succ m ih =>
    intro f p hm hp hf
    obtain ⟨f, rfl⟩ : ∃ z, f = z + 1 := ⟨f - 1, by omega⟩
    have hb := tc.2.2 p (by omega)
    have q1 : (nI (β p) < nI lo) = (β p < lo) := propext (nI_ltI (by omega) (by omega))
    have q2 : (nI hi < nI (β p)) = (hi < β p) := propext (nI_ltI (by omega) (by omega))
    unfold f10_endOfRun_l5 rn
    rw [tc.2.1, if_neg (nI_ge (by omega) (by omega)), a_ald (by omega) (by decide), hb.2, a_ald (by omega) (by decide), hb.2]
    simp only [q1, q2]
    by_cases x1 : β p < lo
    · rw [if_pos x1, if_neg (by omega)]
    · rw [if_neg x1]
      by_cases x2 : hi < β p
      · rw [if_pos x2, if_neg (by omega)]
      · rw [if_neg x2, if_pos ⟨by omega, by omega, by omega⟩, nI_1]
        exact ih f (p + 1) (by omega) (by omega) (by omega)
theorem vl_lt (β : Nat → Nat) (a : Nat) : ∀ m, (∀ i, i < m → 48 ≤ β (a + i) ∧ β (a + i) ≤ 57) → vl β a m < 10 ^ m := by
  intro m
  induction m with
  | zero => intro _; exact Nat.one_pos
  | succ m ih =>
    intro h
    have := ih (fun i hi => h i (by omega))
    have := h m (by omega)
    rw [Nat.pow_succ]
    unfold vl
    omega
theorem l_vn {β : Nat → Nat} {n a e : Nat} (hae : a ≤ e) (hen : e ≤ n) (h3 : e - a ≤ 3) (hf : ∀ i, a ≤ i → i < e → 48 ≤ β i ∧ β i ≤ 57) (k : xMu → Option xMu) : ∀ (m f i : Nat) (μ : xMu), e - (a + i) = m → a + i ≤ e → m < f → TC β n μ → μ 14 4 = nI e → μ 14 5 = nI (vl β a i) → f10_valueNumber_l29 k f (nI (a + i)) μ = k (x_wr μ 14 5 (nI (vl β a (e - a)))) := by
  intro m
  induction m with
  | zero =>
    intro f i μ hm hi hf' tc e4 e5
    obtain ⟨f, rfl⟩ : ∃ z, f = z + 1 := ⟨f - 1, by omega⟩
    have := tc.1
    unfold f10_valueNumber_l29
    rw [e4, if_pos (nI_le (by omega) (by omega)), show e - a = i by omega, ← e5, wr_same]
  | succ m ih =>
    intro f i μ hm hi hf' tc e4 e5
    obtain ⟨f, rfl⟩ : ∃ z, f = z + 1 := ⟨f - 1, by omega⟩
    have hn := tc.1
    have hb := tc.2.2 (a + i) (by omega)
    have hd := hf (a + i) (by omega) (by omega)
    have hv := vl_lt β a i (fun j hj => hf (a + j) (by omega) (by omega))
    have hv3 : vl β a i < 1000 := Nat.lt_of_lt_of_le hv (Nat.pow_le_pow_right (n := 10) (by decide) (show i ≤ 3 by omega))
    unfold f10_valueNumber_l29
    rw [e4, if_neg (nI_ge (by omega) (by omega)), a_ald (by omega) (by decide), hb.2, e5, a_put, show (10 : Int32) = nI 10 from rfl, pk_mul, nI_add, show (48 : Int32) = nI 48 from rfl, pk_sub (by omega), nI_1, show vl β a i * 10 + β (a + i) - 48 = vl β a (i + 1) from by show _ = vl β a i * 10 + (β (a + i) - 48); omega, Nat.add_assoc, ih f (i + 1) _ (by omega) (by omega) (by omega) (tc.w (by decide)) (by rw [w_wr, if_neg (by decide)]; exact e4) rfl, wr_wr]
theorem t_srt {b : Nat} (h : b < 256) : f10_sortOf (nI b) = some (nI (if 97 ≤ b ∧ b ≤ 122 then 1 else if 48 ≤ b ∧ b ≤ 57 then 2 else if sgn b then 3 else 0)) := by
  have l (x : Nat) (hx : x < 256) : (nI b < nI x) = (b < x) := propext (nI_ltI (by omega) (by omega))
  have g (x : Nat) (hx : x < 256) : (nI x < nI b) = (x < b) := propext (nI_ltI (by omega) (by omega))
  have q (x : Nat) (hx : x < 256) : (nI b = nI x) = (b = x) := propext (nI_eq (by omega) (by omega))
  unfold f10_sortOf f10_sortOf_j14 f10_sortOf_j28 f10_sortOf_j52 f10_sortOf_j57 sgn
  simp only [show (97 : Int32) = nI 97 from rfl, show (122 : Int32) = nI 122 from rfl, show (48 : Int32) = nI 48 from rfl, show (57 : Int32) = nI 57 from rfl, show (59 : Int32) = nI 59 from rfl, show (60 : Int32) = nI 60 from rfl, show (62 : Int32) = nI 62 from rfl, show (61 : Int32) = nI 61 from rfl, l _ (show 97 < 256 by decide), l _ (show 48 < 256 by decide), g _ (show 122 < 256 by decide), g _ (show 57 < 256 by decide), q _ (show 59 < 256 by decide), q _ (show 60 < 256 by decide), q _ (show 62 < 256 by decide), q _ (show 61 < 256 by decide), e10, e00, if_true, if_false]
  by_cases a1 : 97 ≤ b ∧ b ≤ 122
  · rw [if_neg (by omega), if_neg (by omega), if_pos a1]
    rfl
  · have s2 : (if b < 48 then (if b = 59 then some (3 : Int32) else if b = 60 then some 3 else if b = 62 then some 3 else if b = 61 then some 3 else some 0) else if 57 < b then (if b = 59 then some 3 else if b = 60 then some 3 else if b = 62 then some 3 else if b = 61 then some 3 else some 0) else some 2) = some (nI (if 48 ≤ b ∧ b ≤ 57 then 2 else if (b == 59 || b == 60 || b == 62 || b == 61) = true then 3 else 0)) := by
      have s3 : (if b = 59 then some (3 : Int32) else if b = 60 then some 3 else if b = 62 then some 3 else if b = 61 then some 3 else some 0) = some (nI (if (b == 59 || b == 60 || b == 62 || b == 61) = true then 3 else 0)) := by
        by_cases y1 : b = 59
        · subst y1; rfl
        · by_cases y2 : b = 60
          · subst y2; rfl
          · by_cases y3 : b = 62
            · subst y3; rfl
            · by_cases y4 : b = 61
              · subst y4; rfl
              · rw [if_neg y1, if_neg y2, if_neg y3, if_neg y4, beq_false_of_ne y1, beq_false_of_ne y2, beq_false_of_ne y3, beq_false_of_ne y4]
                rfl
      by_cases a2 : 48 ≤ b ∧ b ≤ 57
      · rw [if_neg (by omega), if_neg (by omega), if_pos a2]
        rfl
      · rw [if_neg a2]
        by_cases a3 : b < 48
        · rw [if_pos a3, s3]
        · rw [if_neg a3, if_pos (by omega), s3]
    rw [if_neg a1]
    by_cases a4 : b < 97
    · rw [if_pos a4]
      exact s2
    · rw [if_neg a4, if_pos (by omega)]
      exact s2
