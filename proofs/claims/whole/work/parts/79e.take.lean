/-! PURE: read: taking words, numbers and signs -/
def KT (β : Nat → Nat) (n k a e : Nat) (μc μm : xMu) : Prop :=
  (TC β n μc ∧ TM β n μm) ∧ (k ≤ 4 ∧ a ≤ e ∧ e ≤ n) ∧ (μc 14 2 = nI k ∧ μc 14 3 = nI a ∧ (k ≠ 4 → μc 14 4 = nI e)) ∧ (μm 162 30 = nI (mkk k) ∧ μm 162 31 = nI a ∧ μm 162 32 = nI e ∧ μm 162 29 = nI e) ∧ (k ≠ 4 → a < e) ∧ (k = 1 → ∀ i, a ≤ i → i < e → 97 ≤ β i ∧ β i ≤ 122) ∧ (k = 2 → (∀ i, a ≤ i → i < e → 48 ≤ β i ∧ β i ≤ 57) ∧ e - a ≤ 3 ∧ μc 14 5 = nI (vl β a (e - a))) ∧ (μc 126 2 = 0 → μc 126 4 = μm 162 27)
theorem tk_f {β : Nat → Nat} {n e : Nat} (he : e ≤ n) : (tK β n e ≤ 4 ∧ tA β n e ≤ tE β n e ∧ tE β n e ≤ n) ∧ (tK β n e ≠ 4 → tA β n e < tE β n e) ∧ (tK β n e = 1 → ∀ i, tA β n e ≤ i → i < tE β n e → 97 ≤ β i ∧ β i ≤ 122) ∧ (tK β n e = 2 → (∀ i, tA β n e ≤ i → i < tE β n e → 48 ≤ β i ∧ β i ≤ 57) ∧ tE β n e - tA β n e ≤ 3) ∧ e ≤ tA β n e := by
  have hA : sk β n (n - e) e = tA β n e := rfl
  obtain ⟨ha1, ha2⟩ := sk_le β n (n - e) e he
  rw [hA] at ha1 ha2
  by_cases c : n ≤ tA β n e
  · have ek : tK β n e = 4 := if_pos c
    have ee : tE β n e = tA β n e := if_pos c
    rw [ek, ee]
    exact ⟨⟨by omega, by omega, by omega⟩, fun z => absurd rfl z, fun z => absurd z (by decide), fun z => absurd z (by decide), ha1⟩
  · by_cases c1 : 97 ≤ β (tA β n e) ∧ β (tA β n e) ≤ 122
    · have ek : tK β n e = 1 := by unfold tK; rw [if_neg c, if_pos c1]
      have ee : tE β n e = rn β n 97 122 (n - tA β n e) (tA β n e) := by unfold tE; rw [if_neg c, if_pos c1]
      obtain ⟨r1, r2, r3⟩ := rn_le β n 97 122 (n - tA β n e) (tA β n e) ha2
      have r4 := rn_pos β n 97 122 (n - tA β n e - 1) (tA β n e) (by omega) c1
      rw [show n - tA β n e - 1 + 1 = n - tA β n e by omega] at r4
      rw [ek, ee]
      exact ⟨⟨by omega, by omega, by omega⟩, fun _ => r4, fun _ => r3, fun z => absurd z (by decide), ha1⟩
    · by_cases c2 : 48 ≤ β (tA β n e) ∧ β (tA β n e) ≤ 57
      · have ee : tE β n e = rn β n 48 57 (n - tA β n e) (tA β n e) := by unfold tE; rw [if_neg c, if_neg c1, if_pos c2]
        have ek : tK β n e = if tE β n e - tA β n e ≤ 3 then 2 else 0 := by unfold tK; rw [if_neg c, if_neg c1, if_pos c2]
        obtain ⟨r1, r2, r3⟩ := rn_le β n 48 57 (n - tA β n e) (tA β n e) ha2
        have r4 := rn_pos β n 48 57 (n - tA β n e - 1) (tA β n e) (by omega) c2
        rw [show n - tA β n e - 1 + 1 = n - tA β n e by omega] at r4
        rw [← ee] at r1 r2 r3 r4
        rw [ek]
        by_cases c3 : tE β n e - tA β n e ≤ 3
        · rw [if_pos c3]
          exact ⟨⟨by omega, by omega, by omega⟩, fun _ => r4, fun z => absurd z (by decide), fun _ => ⟨r3, c3⟩, ha1⟩
        · rw [if_neg c3]
          exact ⟨⟨by omega, by omega, by omega⟩, fun _ => r4, fun z => absurd z (by decide), fun z => absurd z (by decide), ha1⟩
      · have ee : tE β n e = tA β n e + 1 := by unfold tE; rw [if_neg c, if_neg c1, if_neg c2]
        have ek : tK β n e = if sgn (β (tA β n e)) then 3 else 0 := by unfold tK; rw [if_neg c, if_neg c1, if_neg c2]
        rw [ek, ee]
        cases sgn (β (tA β n e))
        · exact ⟨⟨by simp, by omega, by omega⟩, fun _ => by omega, fun z => absurd z (by decide), fun z => absurd z (by decide), ha1⟩
        · exact ⟨⟨by simp, by omega, by omega⟩, fun _ => by omega, fun z => absurd z (by decide), fun z => absurd z (by decide), ha1⟩
/-- both go to the word behind e -/
theorem j_nx0 {β : Nat → Nat} {n e : Nat} {μc μm : xMu} (tc : TC β n μc) (tm : TM β n μm) (he : e ≤ n) (e4 : μc 14 4 = nI e) (e9 : μm 162 29 = nI e) (hz : μc 126 2 = 0 → μc 126 4 = μm 162 27) :
    ∃ k' a' e' μc' μm', f10_nextToken μc = some μc' ∧ f12_step μm = some μm' ∧ KT β n k' a' e' μc' μm' ∧ e ≤ a' ∧ gs p14 μc μc' ∧ gs p29 μm μm' := by
  obtain ⟨μc', c1, c2, c3, c4, c5, c6⟩ := t_nt tc he e4
  obtain ⟨μm', d1, d2, d3, d4, d5, d6⟩ := u_st tm he e9
  obtain ⟨f1, f2, f3, f4, f5⟩ := tk_f (β := β) he
  refine ⟨tK β n e, tA β n e, tE β n e, μc', μm', c1, d1, ⟨⟨⟨tc.1, ?_, fun i hi => ⟨(tc.2.2 i hi).1, ?_⟩⟩, ⟨tm.1, ?_, fun i hi => ⟨(tm.2.2 i hi).1, ?_⟩⟩⟩, f1, ⟨c2, c3, c4⟩, ⟨d2, d3, d4, d5⟩, f2, f3, fun z => ⟨(f4 z).1, (f4 z).2, c5 z⟩, ?_⟩, f5, c6, d6⟩
  · rw [c6 14 1 (decide_eq_false (by omega))]; exact tc.2.1
  · rw [c6 15 i (decide_eq_false (by omega))]; exact (tc.2.2 i hi).2
  · rw [d6 162 28 (decide_eq_false (by omega))]; exact tm.2.1
  · rw [d6 182 i (decide_eq_false (by omega))]; exact (tm.2.2 i hi).2
  · rw [c6 126 2 (decide_eq_false (by omega)), c6 126 4 (decide_eq_false (by omega)), d6 162 27 (decide_eq_false (by omega))]; exact hz
theorem j_nx {β : Nat → Nat} {n k a e : Nat} {μc μm : xMu} (h : KT β n k a e μc μm) (hk : k ≠ 4) :
    ∃ k' a' e' μc' μm', f10_nextToken μc = some μc' ∧ f12_step μm = some μm' ∧ KT β n k' a' e' μc' μm' ∧ a < a' ∧ gs p14 μc μc' ∧ gs p29 μm μm' := by
  obtain ⟨k', a', e', μc', μm', a1, a2, a3, a4, a5, a6⟩ := j_nx0 h.1.1 h.1.2 h.2.1.2.2 (h.2.2.1.2.2 hk) h.2.2.2.1.2.2.2 h.2.2.2.2.2.2.2
  exact ⟨k', a', e', μc', μm', a1, a2, a3, Nat.lt_of_lt_of_le (h.2.2.2.2.1 hk) a4, a5, a6⟩
/-- the token stands where other places change -/
theorem KT.of3 {β : Nat → Nat} {n k a e : Nat} {μc μm μc' μm' : xMu} (h : KT β n k a e μc μm) (hc : ∀ a b, a = 14 ∨ a = 15 → μc' a b = μc a b) (hm : ∀ a b, (a = 162 ∧ 28 ≤ b ∧ b ≤ 32) ∨ a = 182 → μm' a b = μm a b) (hz : μc' 126 2 = 0 → μc' 126 4 = μm' 162 27) : KT β n k a e μc' μm' := by
  obtain ⟨⟨tc, tm⟩, h1, h2, h3, h4, h5, h6, -⟩ := h
  refine ⟨⟨⟨tc.1, by rw [hc _ _ (by omega)]; exact tc.2.1, fun i hi => ⟨(tc.2.2 i hi).1, by rw [hc _ _ (by omega)]; exact (tc.2.2 i hi).2⟩⟩, ⟨tm.1, by rw [hm _ _ (by omega)]; exact tm.2.1, fun i hi => ⟨(tm.2.2 i hi).1, by rw [hm _ _ (by omega)]; exact (tm.2.2 i hi).2⟩⟩⟩, h1, ?_, ?_, h4, h5, ?_, hz⟩
  · rw [hc _ _ (by omega), hc _ _ (by omega), hc _ _ (by omega)]; exact h2
  · rw [hm _ _ (by omega), hm _ _ (by omega), hm _ _ (by omega), hm _ _ (by omega)]; exact h3
  · rw [hc _ _ (by omega)]; exact h6
theorem KT.of {β : Nat → Nat} {n k a e : Nat} {μc μm μc' μm' : xMu} (h : KT β n k a e μc μm) (hc : ∀ a b, a = 14 ∨ a = 15 ∨ a = 126 → μc' a b = μc a b) (hm : ∀ a b, (a = 162 ∧ 27 ≤ b ∧ b ≤ 32) ∨ a = 182 → μm' a b = μm a b) : KT β n k a e μc' μm' :=
  h.of3 (fun a b q => hc a b (by omega)) (fun a b q => hm a b (by omega)) (by rw [hc _ _ (by omega), hc _ _ (by omega), hm _ _ (by omega)]; exact h.2.2.2.2.2.2.2)
def NF (μc μm : xMu) : Prop := μc 126 2 = 0 ∧ μm 162 33 = 0
def FX (μc μm : xMu) : Prop := ∃ f pl, 1 ≤ f ∧ f ≤ 3 ∧ pl ≤ 600 ∧ μc 126 2 = 1 ∧ μc 126 4 = nI f ∧ μc 126 3 = nI pl ∧ μm 162 33 = nI f ∧ μm 162 34 = nI pl
/-- what reading changes beside the program -/
def p26 : Nat → Nat → Bool := fun a b => decide ((a = 14 ∧ (2 ≤ b ∧ b ≤ 5)) ∨ (a = 126 ∧ (2 ≤ b ∧ b ≤ 4)))
def p33 : Nat → Nat → Bool := fun a b => decide (a = 162 ∧ (29 ≤ b ∧ b ≤ 34))
theorem p26o {μ μ' : xMu} (g : gs p14 μ μ') : gs p26 μ μ' := g.mono (fun a b q => decide_eq_true (by have := of_decide_eq_true q; omega))
theorem p33o {μ μ' : xMu} (g : gs p29 μ μ') : gs p33 μ μ' := g.mono (fun a b q => decide_eq_true (by have := of_decide_eq_true q; omega))
theorem NF.nx {μc μm μc' μm' : xMu} (h : NF μc μm) (g1 : gs p14 μc μc') (g2 : gs p29 μm μm') : NF μc' μm' := ⟨by rw [g1 126 2 (decide_eq_false (by omega))]; exact h.1, by rw [g2 162 33 (decide_eq_false (by omega))]; exact h.2⟩
/-- both refuse -/
theorem j_bad {β : Nat → Nat} {n k a e f : Nat} {μc μm : xMu} (h : KT β n k a e μc μm) (nf : NF μc μm) (h1 : 1 ≤ f) (h3 : f ≤ 3) :
    ∃ μc' μm', f5_refuse (nI f) μc = some μc' ∧ f12_bad (nI f) μm = some μm' ∧ FX μc' μm' ∧ KT β n k a e μc' μm' ∧ gs p26 μc μc' ∧ gs p33 μm μm' := by
  refine ⟨x_wr (x_wr (x_wr μc 126 2 1) 126 4 (nI f)) 126 3 (nI a), x_wr (x_wr μm 162 33 (nI f)) 162 34 (nI a), ?_, ?_, ⟨f, a, h1, h3, by have := h.2.1; have := h.1.1.1; omega, rfl, rfl, rfl, rfl, rfl⟩, h.of3 (fun a b z => ?_) (fun a b z => ?_) (fun z => absurd z (by decide : ¬ (1 : Int32) = 0)), ((gs.refl.wr (decide_eq_true (by omega))).wr (decide_eq_true (by omega))).wr (decide_eq_true (by omega)), (gs.refl.wr (decide_eq_true (by omega))).wr (decide_eq_true (by omega))⟩
  · unfold f5_refuse f10_tokenStart
    rw [nf.1, if_pos rfl, a_put, a_put, Option.bind_some, a_put]
    rw [show (x_wr (x_wr μc 126 2 1) 126 4 (nI f)) 14 3 = nI a from h.2.2.1.2.1]
  · unfold f12_bad
    rw [nf.2, if_pos rfl, a_put, a_put]
    rw [show (x_wr μm 162 33 (nI f)) 162 31 = nI a from h.2.2.2.1.2.1]
  · rw [x_wr_rd (by omega), x_wr_rd (by omega), x_wr_rd (by omega)]
  · rw [w_wr, if_neg (by omega), w_wr, if_neg (by omega)]
/-! at a fault -/
theorem cf_ref {μ : xMu} {v : Int32} (h : μ 126 2 = 1) : f5_refuse v μ = some μ := by
  unfold f5_refuse
  rw [h, if_neg (by decide)]
theorem cf_num {μ : xMu} {v : Int32} (h : μ 126 2 = 1) : f5_takeNumber v μ = some (0, μ) := by
  unfold f5_takeNumber
  rw [h, if_neg (by decide)]
theorem cf_sgn {μ : xMu} {v : Int32} (h : μ 126 2 = 1) : f5_takeSign v μ = some μ := by
  unfold f5_takeSign
  rw [h, if_neg (by decide)]
theorem cf_wrd {μ : xMu} {c : Nat} (h : μ 126 2 = 1) : f5_takeWord c μ = some (0, μ) := by
  unfold f5_takeWord f5_takeWord_j19
  rw [h, if_neg (by decide), if_neg (by decide), cf_ref h, Option.bind_some]
theorem ne33 {f : Nat} (h1 : 1 ≤ f) (h3 : f ≤ 3) : ¬ nI f = 0 := nI_ne0 (by omega) (by omega)
theorem mf_bad {μ : xMu} {v : Int32} {f : Nat} (h : μ 162 33 = nI f) (h1 : 1 ≤ f) (h3 : f ≤ 3) : f12_bad v μ = some μ := by
  unfold f12_bad
  rw [h, if_neg (ne33 h1 h3)]
theorem mf_must {μ : xMu} {v : Int32} {f : Nat} (h : μ 162 33 = nI f) (h1 : 1 ≤ f) (h3 : f ≤ 3) : f12_must v μ = some μ := by
  unfold f12_must f12_must_j9
  rw [mf_bad h h1 h3, Option.bind_some, h, if_neg (ne33 h1 h3), ite_self]
theorem mf_num {μ : xMu} {v : Int32} {f : Nat} (h : μ 162 33 = nI f) (h1 : 1 ≤ f) (h3 : f ≤ 3) : f12_numberTo v μ = some (0, μ) := by
  unfold f12_numberTo
  rw [h, if_neg (nI_nle (by omega) (by omega))]
/-- the reference's must, at no fault -/
theorem j_must1 {μ : xMu} (h : μ 162 33 = 0) : f12_must 1 μ = f12_step μ := by
  unfold f12_must f12_must_j9
  rw [if_neg (by decide), h, if_pos rfl]
  cases f12_step μ <;> rfl
theorem j_must0 {μ : xMu} : f12_must 0 μ = (f12_bad 1 μ).bind fun μ2 => f12_must_j9 μ2 := by
  unfold f12_must
  rw [if_pos rfl]
theorem j_m9 {μ : xMu} {f : Nat} (h : μ 162 33 = nI f) (h1 : 1 ≤ f) (h3 : f ≤ 3) : f12_must_j9 μ = some μ := by
  unfold f12_must_j9
  rw [h, if_neg (ne33 h1 h3)]
theorem l_m16 {β : Nat → Nat} {n a e : Nat} {μ : xMu} {v1 : Int32} (tm : TM β n μ) (e0 : μ 162 30 = nI 3) (e2 : μ 162 32 = nI e) (hae : a ≤ e) (hen : e ≤ n) (h3 : e - a ≤ 3) (hf : ∀ i, a ≤ i → i < e → 48 ≤ β i ∧ β i ≤ 57) (k : Int32 → Int32 → xMu → Option (Int32 × xMu)) : ∀ (m f i : Nat), e - (a + i) = m → a + i ≤ e → m < f → f12_numberTo_l16 k f v1 (nI (vl β a i)) (nI (a + i)) μ = k v1 (nI (vl β a (e - a))) μ := by
  intro m
  have hn := tm.1
  induction m with
  | zero =>
    intro f i hm hi hf'
    obtain ⟨f, rfl⟩ : ∃ z, f = z + 1 := ⟨f - 1, by omega⟩
    unfold f12_numberTo_l16
    rw [e2, if_pos (nI_le (by omega) (by omega)), show e - a = i by omega]
  | succ m ih =>
    intro f i hm hi hf'
    obtain ⟨f, rfl⟩ : ∃ z, f = z + 1 := ⟨f - 1, by omega⟩
    have hb := tm.2.2 (a + i) (by omega)
    have hd := hf (a + i) (by omega) (by omega)
    unfold f12_numberTo_l16
    rw [e2, if_neg (nI_ge (by omega) (by omega)), e0, if_pos (show nI 3 = 3 from rfl), a_ald (by omega) (by decide), hb.2, show (10 : Int32) = nI 10 from rfl, pk_mul, nI_add, show (48 : Int32) = nI 48 from rfl, pk_sub (by omega), nI_1, show 10 * vl β a i + β (a + i) - 48 = vl β a (i + 1) from by show _ = vl β a i * 10 + (β (a + i) - 48); omega, Nat.add_assoc]
    exact ih f (i + 1) (by omega) (by omega) (by omega)
theorem mk3 {k : Nat} (hk : k ≤ 4) : (nI (mkk k) = (3 : Int32)) = (k = 2) := by
  rcases (show k = 0 ∨ k = 1 ∨ k = 2 ∨ k = 3 ∨ k = 4 by omega) with rfl | rfl | rfl | rfl | rfl <;> decide
theorem mk4 {k : Nat} (hk : k ≤ 4) : (nI (mkk k) = (4 : Int32)) = (k = 3) := by
  rcases (show k = 0 ∨ k = 1 ∨ k = 2 ∨ k = 3 ∨ k = 4 by omega) with rfl | rfl | rfl | rfl | rfl <;> decide
theorem mk1 {k : Nat} (hk : k ≤ 4) : (nI (mkk k) = (1 : Int32)) = (k = 4) := by
  rcases (show k = 0 ∨ k = 1 ∨ k = 2 ∨ k = 3 ∨ k = 4 by omega) with rfl | rfl | rfl | rfl | rfl <;> decide
/-- both take a number below m -/
theorem j_num {β : Nat → Nat} {n k a e m : Nat} {vm : Int32} {μc μm : xMu} (h : KT β n k a e μc μm) (nf : NF μc μm) (hm : m < 1000) (hvm : vm.toInt = (m : Int) - 1) :
    (∃ v k' a' e' μc' μm', v < m ∧ f5_takeNumber (nI m) μc = some (nI v, μc') ∧ f12_numberTo vm μm = some (nI v, μm') ∧ KT β n k' a' e' μc' μm' ∧ NF μc' μm' ∧ a < a' ∧ gs p26 μc μc' ∧ gs p33 μm μm') ∨
    (∃ v μc' μm', f5_takeNumber (nI m) μc = some (0, μc') ∧ f12_numberTo vm μm = some (v, μm') ∧ FX μc' μm' ∧ KT β n k a e μc' μm' ∧ gs p26 μc μc' ∧ gs p33 μm μm') := by
  have hk := h.2.1.1
  have tm := h.1.2
  have hn := tm.1
  have C : f5_takeNumber (nI m) μc = (if nI k = 2 then (if μc 14 5 < nI m then (f10_nextToken μc).bind fun μ3 => some (μc 14 5, μ3) else (f5_refuse 2 μc).bind fun μ4 => some (0, μ4)) else (f5_refuse 1 μc).bind fun μ5 => some (0, μ5)) := by
    unfold f5_takeNumber f10_atNumber f10_number
    rw [nf.1, if_pos rfl, h.2.2.1.1]
    by_cases c : nI k = 2
    · rw [if_pos c, if_pos c, Option.bind_some, if_neg (by decide), Option.bind_some]
    · rw [if_neg c, if_neg c, Option.bind_some, if_pos rfl]
  by_cases c : k = 2
  · subst c
    obtain ⟨f1, f2, f3⟩ := h.2.2.2.2.2.2.1 rfl
    have hae := h.2.1.2.1
    have hen := h.2.1.2.2
    have hv := vl_lt β a (e - a) (fun j hj => f1 (a + j) (by omega) (by omega))
    have hv3 : vl β a (e - a) < 1000 := Nat.lt_of_lt_of_le hv (Nat.pow_le_pow_right (n := 10) (by decide) f2)
    have D : f12_numberTo vm μm = f12_numberTo_j53 vm (nI (vl β a (e - a))) μm := by
      unfold f12_numberTo
      rw [nf.2, if_pos (by decide), h.2.2.2.1.2.1]
      have := l_m16 (v1 := vm) tm (show μm 162 30 = nI 3 from h.2.2.2.1.1) h.2.2.2.1.2.2.1 hae hen f2 f1 (fun (y2 : Int32) (y3 : Int32) (μ4 : xMu) => (f12_numberTo_j53 y2 y3 μ4)) (e - a) 1000 0 (by omega) (by omega) (by omega)
      rw [Nat.add_zero] at this
      exact this
    unfold f12_numberTo_j53 f12_numberTo_j71 f12_numberTo_j85 at D
    rw [h.2.2.2.1.1, if_pos (show nI (mkk 2) = 3 from rfl)] at D
    have le : (nI (vl β a (e - a)) ≤ vm) = (vl β a (e - a) < m) := by
      apply propext
      rw [i_le, nI_toInt (by omega), hvm]
      omega
    rw [if_pos (show nI 2 = 2 from rfl), f3] at C
    by_cases z : vl β a (e - a) < m
    · left
      obtain ⟨k', a', e', μc', μm', x1, x2, x3, x4, x5, x6⟩ := j_nx h (by decide)
      rw [if_pos (nI_lt z (by omega)), x1, Option.bind_some] at C
      rw [if_pos (le.mpr z), if_pos (show nI (mkk 2) = 3 from rfl), j_must1 nf.2, x2, Option.bind_some] at D
      exact ⟨_, k', a', e', μc', μm', z, C, D, x3, nf.nx x5 x6, x4, p26o x5, p33o x6⟩
    · right
      obtain ⟨μc', μm', x1, x2, x3, x4, x5, x6⟩ := j_bad (f := 2) h nf (by decide) (by decide)
      rw [if_neg (nI_nlt (by omega) (by omega)), show f5_refuse 2 μc = _ from x1, Option.bind_some] at C
      obtain ⟨f, pl, g1, g2, g3, g4, g5, g6, g7, g8⟩ := x3
      rw [if_neg (fun q => z (le.mp q)), show f12_bad 2 μm = _ from x2, Option.bind_some, show μm' 162 30 = _ from x4.2.2.2.1.1, if_pos (show nI (mkk 2) = 3 from rfl), mf_must g7 g1 g2, Option.bind_some] at D
      exact ⟨_, μc', μm', C, D, ⟨f, pl, g1, g2, g3, g4, g5, g6, g7, g8⟩, x4, x5, x6⟩
  · right
    obtain ⟨μc', μm', x1, x2, x3, x4, x5, x6⟩ := j_bad (f := 1) h nf (by decide) (by decide)
    obtain ⟨f, pl, g1, g2, g3, g4, g5, g6, g7, g8⟩ := x3
    rw [if_neg (show ¬ nI k = 2 from nI_ne (b := 2) (by omega) (by decide) c), show f5_refuse 1 μc = _ from x1, Option.bind_some] at C
    have n3 : ¬ nI (mkk k) = (3 : Int32) := by rw [mk3 hk]; exact c
    have D : f12_numberTo vm μm = some (0, μm') := by
      unfold f12_numberTo
      rw [nf.2, if_pos (by decide)]
      unfold f12_numberTo_l16
      have q : f12_numberTo_j53 vm 0 μm = some (0, μm') := by
        unfold f12_numberTo_j53 f12_numberTo_j71 f12_numberTo_j85
        rw [h.2.2.2.1.1, if_neg n3, if_neg n3, j_must0, show f12_bad 1 μm = _ from x2, Option.bind_some, j_m9 g7 g1 g2, Option.bind_some]
      rw [h.2.2.2.1.1, if_neg n3, q, ite_self]
    exact ⟨_, μc', μm', C, D, ⟨f, pl, g1, g2, g3, g4, g5, g6, g7, g8⟩, x4, x5, x6⟩
theorem t_as {β : Nat → Nat} {n k a e s : Nat} {μc μm : xMu} (h : KT β n k a e μc μm) (hs : s < 256) : f10_atSign μc (nI s) = some (if k = 3 ∧ β a = s then 1 else 0) ∧ f12_is μm (nI s) = some (if k = 3 ∧ β a = s then 1 else 0) := by
  have hk := h.2.1.1
  have hn := h.1.1.1
  unfold f10_atSign f12_is
  rw [h.2.2.1.1, h.2.2.2.1.1]
  by_cases c : k = 3
  · subst c
    have ha := h.2.2.2.2.1 (by decide)
    have hen := h.2.1.2.2
    have hb := h.1.1.2.2 a (by omega)
    have e1 : (if nI (β a) = nI s then (some (1 : Int32)) else some 0) = some (if 3 = 3 ∧ β a = s then 1 else 0) := by
      by_cases x : β a = s
      · rw [if_pos (show nI (β a) = nI s by rw [x]), if_pos (show 3 = 3 ∧ β a = s from ⟨rfl, x⟩)]
      · rw [if_neg (nI_ne (by omega) (by omega) x), if_neg (show ¬ (3 = 3 ∧ β a = s) from fun z => x z.2)]
    rw [if_pos (show nI 3 = 3 from rfl), if_pos (show nI (mkk 3) = 4 from rfl), h.2.2.1.2.1, a_ald (by omega) (by decide), hb.2, h.2.2.2.1.2.1, u_byte h.1.2 (by omega), if_neg (show ¬ n ≤ a by omega), Option.bind_some]
    exact ⟨e1, e1⟩
  · have n4 : ¬ nI (mkk k) = (4 : Int32) := by rw [mk4 hk]; exact c
    rw [if_neg (show ¬ nI k = 3 from nI_ne (b := 3) (by omega) (by decide) c), if_neg n4, if_neg (fun z => c z.1)]
    exact ⟨rfl, rfl⟩
/-- both take a sign -/
theorem j_sgn {β : Nat → Nat} {n k a e s : Nat} {μc μm : xMu} (h : KT β n k a e μc μm) (nf : NF μc μm) (hs : s < 256) :
    (∃ k' a' e' μc' μm', (k = 3 ∧ β a = s) ∧ f5_takeSign (nI s) μc = some μc' ∧ f12_must (if k = 3 ∧ β a = s then 1 else 0) μm = some μm' ∧ KT β n k' a' e' μc' μm' ∧ NF μc' μm' ∧ a < a' ∧ gs p26 μc μc' ∧ gs p33 μm μm') ∨
    (∃ μc' μm', ¬ (k = 3 ∧ β a = s) ∧ f5_takeSign (nI s) μc = some μc' ∧ f12_must (if k = 3 ∧ β a = s then 1 else 0) μm = some μm' ∧ FX μc' μm' ∧ KT β n k a e μc' μm' ∧ gs p26 μc μc' ∧ gs p33 μm μm') := by
  have C : f5_takeSign (nI s) μc = if k = 3 ∧ β a = s then f10_nextToken μc else f5_refuse 1 μc := by
    unfold f5_takeSign
    rw [nf.1, if_pos rfl, (t_as h hs).1, Option.bind_some]
    by_cases c : k = 3 ∧ β a = s
    · rw [if_pos c, if_pos c, if_neg (by decide)]
      cases f10_nextToken μc <;> rfl
    · rw [if_neg c, if_neg c, if_pos rfl]
      cases f5_refuse 1 μc <;> rfl
  by_cases c : k = 3 ∧ β a = s
  · left
    obtain ⟨k', a', e', μc', μm', x1, x2, x3, x4, x5, x6⟩ := j_nx h (by omega)
    rw [if_pos c] at C ⊢
    exact ⟨k', a', e', μc', μm', c, C.trans x1, by rw [j_must1 nf.2]; exact x2, x3, nf.nx x5 x6, x4, p26o x5, p33o x6⟩
  · right
    obtain ⟨μc', μm', x1, x2, x3, x4, x5, x6⟩ := j_bad (f := 1) h nf (by decide) (by decide)
    obtain ⟨f, pl, g1, g2, g3, g4, g5, g6, g7, g8⟩ := x3
    rw [if_neg c] at C ⊢
    exact ⟨μc', μm', c, C.trans x1, by rw [j_must0, show f12_bad 1 μm = _ from x2, Option.bind_some, j_m9 g7 g1 g2], ⟨f, pl, g1, g2, g3, g4, g5, g6, g7, g8⟩, x4, x5, x6⟩
