/-! PURE: the small calls -/
def rb (x : Int32) (n : Nat) : Prop := 0 ≤ x.toInt ∧ x.toInt < n
theorem rb_dec (x : Int32) (n : Nat) : rb x n ∨ ¬ rb x n := Classical.em _
theorem rb_of {x : Int32} {n : Nat} (h : rb x n) : ∃ j, j < n ∧ x = nI j := i_of (by rw [i_le]; simpa using h.1) h.2
theorem rb_nI {j n : Nat} (h : j < n) (hn : n < 2 ^ 31) : rb (nI j) n := by
  unfold rb
  rw [nI_toInt (by omega)]
  omega
theorem e10 : ((1 : Int32) = 0) = False := eq_false (by decide)
theorem e00 : ((0 : Int32) = 0) = True := eq_true rfl
theorem i0 : (0 : Int32).toInt = 0 := by decide
theorem l0 : (0 : Int64).toInt = 0 := by decide
theorem c_rng {x : Int32} {n : Nat} {α : Type} {a b : α} (hn : n < 2 ^ 31) (h : rb x n) : (if x < 0 then a else if nI n ≤ x then a else b) = b := by
  have h1 := h.1; have h2 := h.2
  rw [if_neg (by rw [i_lt, i0]; omega), if_neg (by rw [i_le, nI_toInt (by omega)]; omega)]
theorem c_rngN {x : Int32} {n : Nat} {α : Type} {a b : α} (hn : n < 2 ^ 31) (h : ¬ rb x n) : (if x < 0 then a else if nI n ≤ x then a else b) = a := by
  unfold rb at h
  by_cases c : x < 0
  · rw [if_pos c]
  · rw [if_neg c, if_pos]
    rw [i_lt, i0] at c
    rw [i_le, nI_toInt (by omega)]
    omega
theorem m_rng {x : Int32} {n : Nat} {hi : Int64} (hh : hi.toInt = (n : Int) - 1) (h : rb x n) : f12_in x.toInt64 0 hi = some 1 := by
  have h1 := h.1; have h2 := h.2
  rw [m_inI, if_pos]
  rw [l0, hh]
  omega
theorem m_rngN {x : Int32} {n : Nat} {hi : Int64} (hh : hi.toInt = (n : Int) - 1) (h : ¬ rb x n) : f12_in x.toInt64 0 hi = some 0 := by
  unfold rb at h
  rw [m_inI, if_neg]
  rw [l0, hh]
  omega
theorem hi_sub {n : Nat} (h : n < 2 ^ 30) : (Int32.toInt64 (nI n - 1)).toInt = (n : Int) - 1 := by
  rw [l_of, show (1 : Int32) = nI 1 from rfl, pk_sub_toInt h (by decide)]
  rfl
theorem zok_bind {x : Int32} (h : x = 0 ∨ x = 1) : x_tst (x_zok x) (some x) = some x := a_tst (by rcases h with rfl | rfl <;> decide)
theorem t_isLayer {P : xP} {μ : xMu} {x : Int32} (w : Pwf P) (pc : PC P μ) : (rb x (pL P) → f4_isLayer μ x = some 1) ∧ (¬ rb x (pL P) → f4_isLayer μ x = some 0) := by
  have := w.1.2.2.1
  unfold f4_isLayer
  rw [pc.1.2.2.1]
  exact ⟨fun h => c_rng (by omega) h, fun h => c_rngN (by omega) h⟩
theorem t_isThing {P : xP} {μ : xMu} {x : Int32} (w : Pwf P) (pc : PC P μ) : (rb x (pT P) → f4_isThing μ x = some 1) ∧ (¬ rb x (pT P) → f4_isThing μ x = some 0) := by
  have := w.1.2.1
  unfold f4_isThing
  rw [pc.1.2.1]
  exact ⟨fun h => c_rng (by omega) h, fun h => c_rngN (by omega) h⟩
theorem u_isLayer {P : xP} {μ : xMu} {x : Int32} (w : Pwf P) (pm : PM P μ) : (rb x (pL P) → f12_isLayer μ x = some 1) ∧ (¬ rb x (pL P) → f12_isLayer μ x = some 0) := by
  have := w.1.2.2.1
  unfold f12_isLayer
  rw [pm.1.2.2.1]
  refine ⟨fun h => ?_, fun h => ?_⟩
  · rw [m_rng (hi_sub (by omega)) h]; rfl
  · rw [m_rngN (hi_sub (by omega)) h]; rfl
theorem u_isThing {P : xP} {μ : xMu} {x : Int32} (w : Pwf P) (pm : PM P μ) : (rb x (pT P) → f12_isThing μ x = some 1) ∧ (¬ rb x (pT P) → f12_isThing μ x = some 0) := by
  have := w.1.2.1
  unfold f12_isThing
  rw [pm.1.2.1]
  refine ⟨fun h => ?_, fun h => ?_⟩
  · rw [m_rng (hi_sub (by omega)) h]; rfl
  · rw [m_rngN (hi_sub (by omega)) h]; rfl
theorem ro_of {f : xMu → Option Int32} {g : xMu → Option (Int32 × xMu)} {μ : xMu} (h : ∃ (r : Int32) (μ2 : xMu), f μ = some r ∧ g μ = some (r, μ2) ∧ x_R μ2) : ∃ (r : Int32) (μ1 μ2 : xMu), (f μ = some r ∧ μ1 = μ) ∧ g μ1 = some (r, μ2) ∧ x_R μ2 := by
  obtain ⟨r, μ2, h1, h2, h3⟩ := h
  exact ⟨r, μ, μ2, ⟨h1, rfl⟩, h2, h3⟩
theorem s_status : x_S_status x_R := by
  intro μ h
  refine ⟨μ 0 10, μ, x_wr μ 162 0 0, ⟨rfl, rfl⟩, ?_, h.t0⟩
  show some ((x_wr μ 162 0 0) 162 1, x_wr μ 162 0 0) = _
  rw [h.1]
  rfl
theorem s_fault : x_S_fault x_R := by
  intro μ h
  refine ⟨μ 126 4, μ, x_wr μ 162 0 0, ⟨rfl, rfl⟩, ?_, h.t0⟩
  show some ((x_wr μ 162 0 0) 162 27, x_wr μ 162 0 0) = _
  rw [h.2.1]
  rfl
theorem s_trace : x_S_trace x_R := by
  intro i μ h
  obtain ⟨n, hn, t1, t2, t3⟩ := h.2.2.2.2.2.2.1
  have e1 : (x_wr μ 162 0 0) 162 71 = nI n := t2
  refine ro_of (f := fun μ => f11_trace μ i) (g := fun μ => f12_trace i μ) ?_
  unfold f11_trace f0_tracedAt f12_trace
  simp only [a_put, e1, t1]
  rcases rb_dec i n with hi | hi
  · obtain ⟨j, hj, rfl⟩ := rb_of hi
    refine ⟨μ 161 j, x_wr μ 162 0 0, ?_, ?_, h.t0⟩
    · rw [c_rng (by omega) hi, a_ald (by omega) (by decide)]; rfl
    · rw [m_rng (hi_sub (by omega)) hi]
      simp only [Option.bind_some, e10, if_false]
      rw [a_ald (by omega) (by decide), t3 j hj]
      rfl
  · refine ⟨-1000000, x_wr μ 162 0 0, ?_, ?_, h.t0⟩
    · rw [c_rngN (by omega) hi]; rfl
    · rw [m_rngN (hi_sub (by omega)) hi]
      simp only [Option.bind_some, e00, if_true]
/-! kinds of layers -/
def kOf (P : xP) (l : Nat) : Nat := if P 3 l 0 = 0 then 1 else if P 3 l 0 = 1 then 2 else if P 3 l 0 = 2 then (if P 3 l 2 = 0 then 3 else 4) else 5
theorem p8 {P : xP} {l : Nat} (w : Pwf P) (hl : l < pL P) : l < 8 := by have := w.1.2.2.1; omega
theorem nI_ne {a b : Nat} (ha : a < 2 ^ 31) (hb : b < 2 ^ 31) (h : a ≠ b) : ¬ nI a = nI b := fun e => h ((nI_eq ha hb).mp e)
theorem t_kindOf {P : xP} {μ : xMu} {l : Nat} (w : Pwf P) (pc : PC P μ) (hl : l < pL P) : f0_kindOf μ (22 + l) = some (nI (kOf P l)) := by
  have h8 := p8 w hl
  obtain ⟨a1, a2, a3, a4, a5, a6⟩ := pc.2.2.2.1 l hl
  obtain ⟨b1, b2, b3, b4, b5, b6, b7⟩ := w.2.2.2.1 l hl
  have : 2 ^ l ≤ 2 ^ 7 := Nat.pow_le_pow_right (by decide) (by omega)
  unfold f0_kindOf kOf
  rw [a_chk (r_layer l h8).2, a1, a3]
  simp only [x_sw, nI_1]
  rcases (show P 3 l 0 = 0 ∨ P 3 l 0 = 1 ∨ P 3 l 0 = 2 ∨ P 3 l 0 = 3 by omega) with e | e | e | e <;> rw [e]
  · rfl
  · rfl
  · rw [if_neg (by decide), if_neg (by decide), if_pos rfl]
    by_cases z : P 3 l 2 = 0
    · rw [z]; rfl
    · rw [if_neg (nI_ne0 (by omega) (by omega))]
      simp [z]; rfl
  · rfl
theorem u_kindOf {P : xP} {μ : xMu} {l : Nat} (w : Pwf P) (pm : PM P μ) (hl : l < pL P) : f12_kindOf μ (nI l) = some (nI (kOf P l)) := by
  have h8 := p8 w hl
  obtain ⟨a1, a2, a3, a4, a5, a6⟩ := pm.2.2.2.1 l hl
  obtain ⟨b1, b2, b3, b4, b5, b6, b7⟩ := w.2.2.2.1 l hl
  have : 2 ^ l ≤ 2 ^ 7 := Nat.pow_le_pow_right (by decide) (by omega)
  unfold f12_kindOf kOf
  simp only [a_ald h8 (show 8 < 2 ^ 31 by decide), a1, a3]
  rcases (show P 3 l 0 = 0 ∨ P 3 l 0 = 1 ∨ P 3 l 0 = 2 ∨ P 3 l 0 = 3 by omega) with e | e | e | e <;> rw [e]
  · rfl
  · rfl
  · rw [if_neg (by decide), if_neg (by decide), if_neg (by decide)]
    by_cases z : P 3 l 2 = 0
    · rw [z]; rfl
    · rw [if_neg (nI_ne0 (by omega) (by omega))]
      simp [z]; rfl
  · rfl
theorem PM.t0 {P : xP} {μ : xMu} (h : PM P μ) : PM P (x_wr μ 162 0 0) := h.of (fun j hj => by
  rw [w_wr, if_neg]
  rintro ⟨-, rfl⟩
  rcases hj with h | h | h | h <;> cases h) (fun k h1 h2 => x_wr_ne (by omega))
theorem s_kind : x_S_kind x_R := by
  intro v μ h
  obtain ⟨P, O, F, w, pc, pm, ow, fw, cc, cm⟩ := h.2.2.2.2.2.2.2
  have pm' := pm.t0
  refine ro_of (f := fun μ => f11_kind μ v) (g := fun μ => f12_kind v μ) ?_
  unfold f11_kind f12_kind
  simp only [a_put]
  rcases rb_dec v (pL P) with hv | hv
  · rw [(t_isLayer w pc).1 hv, (u_isLayer w pm').1 hv]
    obtain ⟨l, hl, rfl⟩ := rb_of hv
    have h8 := p8 w hl
    refine ⟨nI (kOf P l), x_wr μ 162 0 0, ?_, ?_, h.t0⟩
    · simp only [Option.bind_some, e10, if_false]
      rw [a_rld h8 (by decide) (r_layer l h8).1, t_kindOf w pc hl]
      rfl
    · simp only [Option.bind_some, e10, if_false]
      rw [u_kindOf w pm' hl]
      rfl
  · rw [(t_isLayer w pc).2 hv, (u_isLayer w pm').2 hv]
    exact ⟨-1000001, x_wr μ 162 0 0, rfl, rfl, h.t0⟩
theorem s_ran : x_S_ran x_R := by
  intro v μ h
  obtain ⟨n, hn, t1, t2, t3⟩ := h.2.2.2.2.2.1
  have e1 : (x_wr μ 162 0 0) 162 65 = nI n := t2
  have k1 : x_isb 135 7 = true := by decide
  have k2 : x_rf 135 6 = some 145 := by decide
  have k3 : x_isb 145 13 = true := by decide
  have k4 : x_sz 145 = 40 := by decide
  refine ro_of (f := fun μ => f11_ran μ v) (g := fun μ => f12_ran v μ) ?_
  unfold f11_ran f12_ran f7_begunCount f7_begunAt
  simp only [a_put, e1, t1, a_chk k1, a_rfd k2, a_chk k3, k4]
  by_cases c : v = -1
  · subst c
    exact ⟨nI n, x_wr μ 162 0 0, rfl, rfl, h.t0⟩
  · rw [if_neg c, if_neg c]
    rcases rb_dec v n with hv | hv
    · obtain ⟨j, hj, rfl⟩ := rb_of hv
      rw [c_rng (by omega) hv]
      by_cases c2 : j < 40
      · refine ⟨μ 145 j, x_wr μ 162 0 0, ?_, ?_, h.t0⟩
        · rw [if_neg (show ¬ (40 : Int32) ≤ nI j from nI_ge c2 (by decide)), a_ald c2 (by decide)]; rfl
        · rw [m_rng (n := 40) (by decide) (rb_nI c2 (by decide))]
          simp only [Option.bind_some, e10, if_false]
          rw [if_neg (nI_ge hj (by omega)), a_ald c2 (by decide), t3 j hj c2]
          rfl
      · refine ⟨-1000000, x_wr μ 162 0 0, ?_, ?_, h.t0⟩
        · rw [if_pos (show (40 : Int32) ≤ nI j from (nI_le (a := 40) (b := j) (by omega) (by omega)))]; rfl
        · rw [m_rngN (n := 40) (by decide) (by unfold rb; rw [nI_toInt (by omega)]; omega)]
          rfl
    · refine ⟨-1000000, x_wr μ 162 0 0, ?_, ?_, h.t0⟩
      · rw [c_rngN (by omega) hv]; rfl
      · rcases rb_dec v 40 with h4 | h4
        · rw [m_rng (n := 40) (by decide) h4]
          simp only [Option.bind_some, e10, if_false]
          rw [if_pos]
          unfold rb at hv h4
          rw [i_le, nI_toInt (by omega)]
          omega
        · rw [m_rngN (n := 40) (by decide) h4]; rfl
