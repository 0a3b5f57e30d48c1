/-! PURE: read: the next word -/
def p14 : Nat → Nat → Bool := fun a b => decide (a = 14 ∧ (2 ≤ b ∧ b ≤ 5))
def p29 : Nat → Nat → Bool := fun a b => decide (a = 162 ∧ (29 ≤ b ∧ b ≤ 32))
theorem t_nt {β : Nat → Nat} {n e : Nat} {μ : xMu} (tc : TC β n μ) (he : e ≤ n) (e4 : μ 14 4 = nI e) :
    ∃ μ', f10_nextToken μ = some μ' ∧ μ' 14 2 = nI (tK β n e) ∧ μ' 14 3 = nI (tA β n e) ∧ (tK β n e ≠ 4 → μ' 14 4 = nI (tE β n e)) ∧ (tK β n e = 2 → μ' 14 5 = nI (vl β (tA β n e) (tE β n e - tA β n e))) ∧ gs p14 μ μ' := by
  have hn := tc.1
  unfold f10_nextToken
  rw [a_put, e4, l_n8 _ (n - e) 1000 e (x_wr μ 14 3 (nI e)) rfl he (by omega) (tc.w (by decide)) rfl, wr_wr]
  have hA : sk β n (n - e) e = tA β n e := rfl
  obtain ⟨ha1, ha2⟩ := sk_le β n (n - e) e he
  rw [hA] at ha1 ha2 ⊢
  have g1 : gs p14 μ (x_wr μ 14 3 (nI (tA β n e))) := gs.refl.wr (decide_eq_true (by omega))
  have tc1 : TC β n (x_wr μ 14 3 (nI (tA β n e))) := tc.w (by decide)
  unfold f10_nextToken_j60
  rw [show (x_wr μ 14 3 (nI (tA β n e))) 14 3 = nI (tA β n e) from rfl, tc1.2.1]
  by_cases c : n ≤ tA β n e
  · have ek : tK β n e = 4 := if_pos c
    rw [if_neg (nI_nlt c (by omega)), a_put, ek]
    exact ⟨_, rfl, rfl, rfl, fun z => absurd rfl z, fun z => absurd z (by decide), g1.wr (decide_eq_true (by omega))⟩
  · have hb := tc1.2.2 (tA β n e) (by omega)
    rw [if_pos (nI_lt (by omega) (by omega)), a_ald (by omega) (by decide), hb.2, t_srt hb.1, Option.bind_some, a_put]
    by_cases c1 : 97 ≤ β (tA β n e) ∧ β (tA β n e) ≤ 122
    · have ek : tK β n e = 1 := by unfold tK; rw [if_neg c, if_pos c1]
      have ee : tE β n e = rn β n 97 122 (n - tA β n e) (tA β n e) := by unfold tE; rw [if_neg c, if_pos c1]
      rw [if_pos c1, show (x_wr (x_wr μ 14 3 (nI (tA β n e))) 14 2 (nI 1)) 14 2 = nI 1 from rfl, if_pos (show nI 1 = 1 from rfl)]
      unfold f10_endOfRun
      have er := l_er (lo := 97) (hi := 122) (tc1.w (v := nI 1) (show 2 ≠ 1 by decide)) (by decide) (by decide) (fun y => some y) (n - tA β n e) 1000 (tA β n e) rfl ha2 (by omega)
      rw [show (x_wr (x_wr μ 14 3 (nI (tA β n e))) 14 2 (nI 1)) 14 3 = nI (tA β n e) from rfl, show f10_endOfRun_l5 (x_wr (x_wr μ 14 3 (nI (tA β n e))) 14 2 (nI 1)) (fun (y3 : Int32) => (some y3)) 1000 97 122 (nI (tA β n e)) = _ from er, Option.bind_some, a_put, ek, ee]
      exact ⟨_, rfl, rfl, rfl, fun _ => rfl, fun z => absurd z (by decide), (g1.wr (decide_eq_true (by omega))).wr (decide_eq_true (by omega))⟩
    · rw [if_neg c1]
      by_cases c2 : 48 ≤ β (tA β n e) ∧ β (tA β n e) ≤ 57
      · have ee : tE β n e = rn β n 48 57 (n - tA β n e) (tA β n e) := by unfold tE; rw [if_neg c, if_neg c1, if_pos c2]
        have ek : tK β n e = if tE β n e - tA β n e ≤ 3 then 2 else 0 := by unfold tK; rw [if_neg c, if_neg c1, if_pos c2]
        rw [if_pos c2, show (x_wr (x_wr μ 14 3 (nI (tA β n e))) 14 2 (nI 2)) 14 2 = nI 2 from rfl, if_neg (show ¬ nI 2 = 1 by decide), if_pos (show nI 2 = 2 from rfl)]
        unfold f10_endOfRun
        have er := l_er (lo := 48) (hi := 57) (tc1.w (v := nI 2) (show 2 ≠ 1 by decide)) (by decide) (by decide) (fun y => some y) (n - tA β n e) 1000 (tA β n e) rfl ha2 (by omega)
        obtain ⟨r1, r2, r3⟩ := rn_le β n 48 57 (n - tA β n e) (tA β n e) ha2
        rw [← ee] at er r1 r2 r3
        rw [show (x_wr (x_wr μ 14 3 (nI (tA β n e))) 14 2 (nI 2)) 14 3 = nI (tA β n e) from rfl, show f10_endOfRun_l5 (x_wr (x_wr μ 14 3 (nI (tA β n e))) 14 2 (nI 2)) (fun (y3 : Int32) => (some y3)) 1000 48 57 (nI (tA β n e)) = _ from er, Option.bind_some, a_put]
        unfold f10_valueNumber
        rw [show (x_wr (x_wr (x_wr μ 14 3 (nI (tA β n e))) 14 2 (nI 2)) 14 4 (nI (tE β n e))) 14 4 = nI (tE β n e) from rfl, show (x_wr (x_wr (x_wr μ 14 3 (nI (tA β n e))) 14 2 (nI 2)) 14 4 (nI (tE β n e))) 14 3 = nI (tA β n e) from rfl, pk_sub r1]
        by_cases c3 : tE β n e - tA β n e ≤ 3
        · rw [if_pos (show nI (tE β n e - tA β n e) ≤ 3 from nI_le (b := 3) c3 (by decide)), a_put]
          have vn := l_vn r1 r2 c3 (fun i x y => r3 i x y) (fun (μ4 : xMu) => (some μ4)) (tE β n e - tA β n e) 1000 0 (x_wr (x_wr (x_wr (x_wr μ 14 3 (nI (tA β n e))) 14 2 (nI 2)) 14 4 (nI (tE β n e))) 14 5 0) (by omega) (by omega) (by omega) (((tc1.w (by decide)).w (by decide)).w (by decide)) rfl rfl
          rw [Nat.add_zero, wr_wr] at vn
          rw [show (x_wr (x_wr (x_wr (x_wr μ 14 3 (nI (tA β n e))) 14 2 (nI 2)) 14 4 (nI (tE β n e))) 14 5 0) 14 3 = nI (tA β n e) from rfl, vn, Option.bind_some, ek, if_pos c3]
          exact ⟨_, rfl, rfl, rfl, fun _ => rfl, fun _ => rfl, ((g1.wr (decide_eq_true (by omega))).wr (decide_eq_true (by omega))).wr (decide_eq_true (by omega))⟩
        · rw [if_neg (show ¬ nI (tE β n e - tA β n e) ≤ 3 from nI_ge (a := 3) (by omega) (by omega)), a_put, Option.bind_some, ek, if_neg c3]
          exact ⟨_, rfl, rfl, rfl, fun _ => rfl, fun z => absurd z (by decide), ((g1.wr (decide_eq_true (by omega))).wr (decide_eq_true (by omega))).wr (decide_eq_true (by omega))⟩
      · have ee : tE β n e = tA β n e + 1 := by unfold tE; rw [if_neg c, if_neg c1, if_neg c2]
        have ek : tK β n e = if sgn (β (tA β n e)) then 3 else 0 := by unfold tK; rw [if_neg c, if_neg c1, if_neg c2]
        rw [if_neg c2, ek, ee]
        cases sgn (β (tA β n e)) with
        | true =>
          rw [if_pos rfl, show (x_wr (x_wr μ 14 3 (nI (tA β n e))) 14 2 (nI 3)) 14 2 = nI 3 from rfl, if_neg (show ¬ nI 3 = 1 by decide), if_neg (show ¬ nI 3 = 2 by decide), a_put, show (x_wr (x_wr μ 14 3 (nI (tA β n e))) 14 2 (nI 3)) 14 3 = nI (tA β n e) from rfl, nI_1]
          exact ⟨_, rfl, rfl, rfl, fun _ => rfl, fun z => absurd z (by decide), (g1.wr (decide_eq_true (by omega))).wr (decide_eq_true (by omega))⟩
        | false =>
          rw [if_neg Bool.false_ne_true, show (x_wr (x_wr μ 14 3 (nI (tA β n e))) 14 2 (nI 0)) 14 2 = nI 0 from rfl, if_neg (show ¬ nI 0 = 1 by decide), if_neg (show ¬ nI 0 = 2 by decide), a_put, show (x_wr (x_wr μ 14 3 (nI (tA β n e))) 14 2 (nI 0)) 14 3 = nI (tA β n e) from rfl, nI_1]
          exact ⟨_, rfl, rfl, rfl, fun _ => rfl, fun z => absurd z (by decide), (g1.wr (decide_eq_true (by omega))).wr (decide_eq_true (by omega))⟩
theorem u_byte {β : Nat → Nat} {n p : Nat} {μ : xMu} (tm : TM β n μ) (hp : p ≤ n) : f12_byteAt μ (nI p) = some (if n ≤ p then -1000000 else nI (β p)) := by
  have := tm.1
  unfold f12_byteAt
  rw [tm.2.1]
  by_cases c : n ≤ p
  · rw [if_pos (nI_le c (by omega)), if_pos c]
  · rw [if_neg (nI_ge (by omega) (by omega)), if_neg c, a_ald (by omega) (by decide), (tm.2.2 p (by omega)).2]
theorem nbig {b : Nat} (h : b < 256) : ¬ nI b = (-1000000 : Int32) := by rw [i_eq, nI_toInt (by omega), n1M]; omega
theorem l_s0 {β : Nat → Nat} {n : Nat} (k : xMu → Option xMu) : ∀ (m f p : Nat) (μ : xMu), n - p = m → p ≤ n → m < f → TM β n μ → μ 162 29 = nI p → f12_step_l0 k f μ = k (x_wr μ 162 29 (nI (sk β n m p))) := by
  intro m
  induction m with
  | zero =>
    intro f p μ hm hp hf tm e
    obtain ⟨f, rfl⟩ : ∃ z, f = z + 1 := ⟨f - 1, by omega⟩
    unfold f12_step_l0
    rw [e, u_byte tm hp, if_pos (by omega), Option.bind_some, Option.bind_some, if_neg (by decide), if_neg (by decide)]
    unfold sk
    rw [← e, wr_same]
  | succ m ih =>
    intro f p μ hm hp hf tm e
    obtain ⟨f, rfl⟩ : ∃ z, f = z + 1 := ⟨f - 1, by omega⟩
    have hb := tm.2.2 p (by omega)
    have q1 : (nI (β p) = (32 : Int32)) = (β p = 32) := propext (nI_eq (b := 32) (by omega) (by decide))
    have q2 : (nI (β p) = (10 : Int32)) = (β p = 10) := propext (nI_eq (b := 10) (by omega) (by decide))
    unfold f12_step_l0 f12_step_j26
    rw [e, u_byte tm hp, if_neg (by omega), Option.bind_some, Option.bind_some]
    simp only [q1, q2]
    have go : f12_step_l0 k f (x_wr μ 162 29 (nI (p + 1))) = k (x_wr μ 162 29 (nI (sk β n m (p + 1)))) := by
      rw [ih f (p + 1) _ (by omega) (by omega) (by omega) (tm.w (by decide)) rfl, wr_wr]
    unfold sk
    by_cases x1 : β p = 32
    · rw [if_pos x1, if_pos ⟨by omega, Or.inl x1⟩, a_put, nI_1]
      exact go
    · rw [if_neg x1]
      by_cases x2 : β p = 10
      · rw [if_pos x2, if_pos ⟨by omega, Or.inr x2⟩, a_put, nI_1]
        exact go
      · rw [if_neg x2, if_neg (by omega), ← e, wr_same]
theorem u_fig {b : Nat} (h : b < 256) : f12_isFigure (nI b) = some (if 48 ≤ b ∧ b ≤ 57 then 1 else 0) := by
  have l : (nI b < (48 : Int32)) = (b < 48) := propext (nI_ltI (b := 48) (by omega) (by decide))
  have g : ((57 : Int32) < nI b) = (57 < b) := propext (nI_ltI (a := 57) (by decide) (by omega))
  unfold f12_isFigure
  simp only [l, g]
  by_cases a : b < 48
  · rw [if_pos a, if_neg (by omega)]
  · rw [if_neg a]
    by_cases c : 57 < b
    · rw [if_pos c, if_neg (by omega)]
    · rw [if_neg c, if_pos ⟨by omega, by omega⟩]
theorem u_let {b : Nat} (h : b < 256) : f12_isLetter (nI b) = some (if 97 ≤ b ∧ b ≤ 122 then 1 else 0) := by
  have l : (nI b < (97 : Int32)) = (b < 97) := propext (nI_ltI (b := 97) (by omega) (by decide))
  have g : ((122 : Int32) < nI b) = (122 < b) := propext (nI_ltI (a := 122) (by decide) (by omega))
  unfold f12_isLetter
  simp only [l, g]
  by_cases a : b < 97
  · rw [if_pos a, if_neg (by omega)]
  · rw [if_neg a]
    by_cases c : 122 < b
    · rw [if_pos c, if_neg (by omega)]
    · rw [if_neg c, if_pos ⟨by omega, by omega⟩]
theorem u_sgn {b : Nat} (h : b < 256) : f12_isSign (nI b) = some (if sgn b then 1 else 0) := by
  have q (x : Nat) (hx : x < 256) : (nI b = nI x) = (b = x) := propext (nI_eq (by omega) (by omega))
  unfold f12_isSign f12_isSign_j24 sgn
  simp only [show (59 : Int32) = nI 59 from rfl, show (60 : Int32) = nI 60 from rfl, show (62 : Int32) = nI 62 from rfl, show (61 : Int32) = nI 61 from rfl, q _ (show 59 < 256 by decide), q _ (show 60 < 256 by decide), q _ (show 62 < 256 by decide), q _ (show 61 < 256 by decide)]
  by_cases y1 : b = 59
  · subst y1; rfl
  · by_cases y2 : b = 60
    · subst y2; rfl
    · by_cases y3 : b = 62
      · subst y3; rfl
      · by_cases y4 : b = 61
        · subst y4; rfl
        · rw [if_neg y1, if_neg y2, if_neg y3, if_neg y4, beq_false_of_ne y1, beq_false_of_ne y2, beq_false_of_ne y3, beq_false_of_ne y4]
          rfl
theorem big_let : f12_isLetter (-1000000) = some 0 := by decide
theorem big_fig : f12_isFigure (-1000000) = some 0 := by decide
theorem l_s77 {β : Nat → Nat} {n : Nat} (k : xMu → Option xMu) : ∀ (m f p : Nat) (μ : xMu), n - p = m → p ≤ n → m < f → TM β n μ → μ 162 29 = nI p → f12_step_l77 k f μ = k (x_wr μ 162 29 (nI (rn β n 97 122 m p))) := by
  intro m
  induction m with
  | zero =>
    intro f p μ hm hp hf tm e
    obtain ⟨f, rfl⟩ : ∃ z, f = z + 1 := ⟨f - 1, by omega⟩
    unfold f12_step_l77
    rw [e, u_byte tm hp, if_pos (by omega), Option.bind_some, big_let, Option.bind_some, if_pos rfl]
    unfold rn
    rw [← e, wr_same]
  | succ m ih =>
    intro f p μ hm hp hf tm e
    obtain ⟨f, rfl⟩ : ∃ z, f = z + 1 := ⟨f - 1, by omega⟩
    have hb := tm.2.2 p (by omega)
    unfold f12_step_l77 rn
    rw [e, u_byte tm hp, if_neg (by omega), Option.bind_some, u_let hb.1, Option.bind_some]
    by_cases c : 97 ≤ β p ∧ β p ≤ 122
    · rw [if_pos c, if_neg (by decide), if_pos ⟨by omega, c⟩, a_put, nI_1, ih f (p + 1) _ (by omega) (by omega) (by omega) (tm.w (by decide)) rfl, wr_wr]
    · rw [if_neg c, if_pos rfl, if_neg (fun z => c z.2), ← e, wr_same]
theorem l_s119 {β : Nat → Nat} {n : Nat} (k : xMu → Option xMu) : ∀ (m f p : Nat) (μ : xMu), n - p = m → p ≤ n → m < f → TM β n μ → μ 162 29 = nI p → f12_step_l119 k f μ = k (x_wr μ 162 29 (nI (rn β n 48 57 m p))) := by
  intro m
  induction m with
  | zero =>
    intro f p μ hm hp hf tm e
    obtain ⟨f, rfl⟩ : ∃ z, f = z + 1 := ⟨f - 1, by omega⟩
    unfold f12_step_l119
    rw [e, u_byte tm hp, if_pos (by omega), Option.bind_some, big_fig, Option.bind_some, if_pos rfl]
    unfold rn
    rw [← e, wr_same]
  | succ m ih =>
    intro f p μ hm hp hf tm e
    obtain ⟨f, rfl⟩ : ∃ z, f = z + 1 := ⟨f - 1, by omega⟩
    have hb := tm.2.2 p (by omega)
    unfold f12_step_l119 rn
    rw [e, u_byte tm hp, if_neg (by omega), Option.bind_some, u_fig hb.1, Option.bind_some]
    by_cases c : 48 ≤ β p ∧ β p ≤ 57
    · rw [if_pos c, if_neg (by decide), if_pos ⟨by omega, c⟩, a_put, nI_1, ih f (p + 1) _ (by omega) (by omega) (by omega) (tm.w (by decide)) rfl, wr_wr]
    · rw [if_neg c, if_pos rfl, if_neg (fun z => c z.2), ← e, wr_same]
theorem u_st {β : Nat → Nat} {n e : Nat} {μ : xMu} (tm : TM β n μ) (he : e ≤ n) (e9 : μ 162 29 = nI e) :
    ∃ μ', f12_step μ = some μ' ∧ μ' 162 30 = nI (mkk (tK β n e)) ∧ μ' 162 31 = nI (tA β n e) ∧ μ' 162 32 = nI (tE β n e) ∧ μ' 162 29 = nI (tE β n e) ∧ gs p29 μ μ' := by
  have hn := tm.1
  unfold f12_step
  rw [l_s0 _ (n - e) 1000 e μ rfl he (by omega) tm e9]
  have hA : sk β n (n - e) e = tA β n e := rfl
  obtain ⟨ha1, ha2⟩ := sk_le β n (n - e) e he
  rw [hA] at ha1 ha2 ⊢
  rw [a_put, show (x_wr μ 162 29 (nI (tA β n e))) 162 29 = nI (tA β n e) from rfl]
  have tm1 : TM β n (x_wr (x_wr μ 162 29 (nI (tA β n e))) 162 31 (nI (tA β n e))) := (tm.w (by decide)).w (by decide)
  have g1 : gs p29 μ (x_wr (x_wr μ 162 29 (nI (tA β n e))) 162 31 (nI (tA β n e))) := (gs.refl.wr (decide_eq_true (by omega))).wr (decide_eq_true (by omega))
  rw [show (x_wr (x_wr μ 162 29 (nI (tA β n e))) 162 31 (nI (tA β n e))) 162 29 = nI (tA β n e) from rfl, u_byte tm1 ha2, Option.bind_some]
  unfold f12_step_j197 f12_step_j194 f12_step_j165 f12_step_j197
  by_cases c : n ≤ tA β n e
  · have ek : tK β n e = 4 := if_pos c
    have ee : tE β n e = tA β n e := if_pos c
    rw [if_pos c, if_pos rfl, a_put, a_put, ek, ee]
    exact ⟨_, rfl, rfl, rfl, rfl, rfl, (g1.wr (decide_eq_true (by omega))).wr (decide_eq_true (by omega))⟩
  · have hb := tm1.2.2 (tA β n e) (by omega)
    rw [if_neg c, if_neg (nbig hb.1), u_let hb.1, Option.bind_some]
    by_cases c1 : 97 ≤ β (tA β n e) ∧ β (tA β n e) ≤ 122
    · have ek : tK β n e = 1 := by unfold tK; rw [if_neg c, if_pos c1]
      have ee : tE β n e = rn β n 97 122 (n - tA β n e) (tA β n e) := by unfold tE; rw [if_neg c, if_pos c1]
      rw [if_pos c1, if_neg (by decide), l_s77 _ (n - tA β n e) 1000 (tA β n e) _ rfl ha2 (by omega) tm1 rfl, a_put, a_put, ek, ← ee]
      exact ⟨_, rfl, rfl, rfl, rfl, rfl, ((g1.wr (decide_eq_true (by omega))).wr (decide_eq_true (by omega))).wr (decide_eq_true (by omega))⟩
    · rw [if_neg c1, if_pos rfl, u_fig hb.1, Option.bind_some]
      by_cases c2 : 48 ≤ β (tA β n e) ∧ β (tA β n e) ≤ 57
      · have ee : tE β n e = rn β n 48 57 (n - tA β n e) (tA β n e) := by unfold tE; rw [if_neg c, if_neg c1, if_pos c2]
        have ek : tK β n e = if tE β n e - tA β n e ≤ 3 then 2 else 0 := by unfold tK; rw [if_neg c, if_neg c1, if_pos c2]
        obtain ⟨r1, r2, r3⟩ := rn_le β n 48 57 (n - tA β n e) (tA β n e) ha2
        rw [if_pos c2, if_neg (by decide), l_s119 _ (n - tA β n e) 1000 (tA β n e) _ rfl ha2 (by omega) tm1 rfl, ← ee]
        rw [← ee] at r1 r2 r3
        rw [show (x_wr (x_wr (x_wr μ 162 29 (nI (tA β n e))) 162 31 (nI (tA β n e))) 162 29 (nI (tE β n e))) 162 29 = nI (tE β n e) from rfl, show (x_wr (x_wr (x_wr μ 162 29 (nI (tA β n e))) 162 31 (nI (tA β n e))) 162 29 (nI (tE β n e))) 162 31 = nI (tA β n e) from rfl, pk_sub r1]
        by_cases c3 : tE β n e - tA β n e ≤ 3
        · rw [if_pos (show nI (tE β n e - tA β n e) ≤ 3 from nI_le (b := 3) c3 (by decide)), a_put, a_put, ek, if_pos c3]
          exact ⟨_, rfl, rfl, rfl, rfl, rfl, ((g1.wr (decide_eq_true (by omega))).wr (decide_eq_true (by omega))).wr (decide_eq_true (by omega))⟩
        · rw [if_neg (show ¬ nI (tE β n e - tA β n e) ≤ 3 from nI_ge (a := 3) (by omega) (by omega)), a_put, a_put, ek, if_neg c3]
          exact ⟨_, rfl, rfl, rfl, rfl, rfl, ((g1.wr (decide_eq_true (by omega))).wr (decide_eq_true (by omega))).wr (decide_eq_true (by omega))⟩
      · have ee : tE β n e = tA β n e + 1 := by unfold tE; rw [if_neg c, if_neg c1, if_neg c2]
        have ek : tK β n e = if sgn (β (tA β n e)) then 3 else 0 := by unfold tK; rw [if_neg c, if_neg c1, if_neg c2]
        rw [if_neg c2, if_pos rfl, a_put, nI_1, u_sgn hb.1, Option.bind_some, ek, ee]
        cases sgn (β (tA β n e)) with
        | true =>
          rw [if_pos rfl, if_neg (by decide), a_put, a_put]
          exact ⟨_, rfl, rfl, rfl, rfl, rfl, ((g1.wr (decide_eq_true (by omega))).wr (decide_eq_true (by omega))).wr (decide_eq_true (by omega))⟩
        | false =>
          rw [if_neg Bool.false_ne_true, if_pos rfl, a_put, a_put]
          exact ⟨_, rfl, rfl, rfl, rfl, rfl, ((g1.wr (decide_eq_true (by omega))).wr (decide_eq_true (by omega))).wr (decide_eq_true (by omega))⟩
