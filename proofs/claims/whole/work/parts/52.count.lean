/-! PURE: count, wake, sleep -/
def lcn (p : Nat → Bool) : Nat → Nat → Nat
  | _, 0 => 0
  | i, n + 1 => (if p i then 1 else 0) + lcn p (i + 1) n
theorem lcn_le (p : Nat → Bool) : ∀ n i, lcn p i n ≤ n := by
  intro n
  induction n with
  | zero => intro i; exact Nat.le_refl 0
  | succ n ih =>
    intro i
    have := ih (i + 1)
    unfold lcn
    split <;> omega
theorem lcn_hi (p : Nat → Bool) : ∀ n m i, (∀ t, i + n ≤ t → p t = false) → lcn p i (n + m) = lcn p i n := by
  intro n
  induction n with
  | zero =>
    intro m
    induction m with
    | zero => intro i _; rfl
    | succ m ih =>
      intro i h
      show (if p i then 1 else 0) + lcn p (i + 1) (0 + m) = 0
      rw [ih (i + 1) (fun t ht => h t (by omega)), h i (by omega)]
      rfl
  | succ n ih =>
    intro m i h
    rw [show n + 1 + m = (n + m) + 1 by omega]
    unfold lcn
    rw [ih m (i + 1) (fun t ht => h t (by omega))]
theorem lcn_ext {p q : Nat → Bool} (h : ∀ t, p t = q t) : p = q := funext h
def ldd (μ : xMu) (s : Nat) : Bool := μ 2 s == 1
theorem l_lac {μ : xMu} (h : SH μ) (k : Int32 → Option Int32) : ∀ (f i n c : Nat), i + n = 8 → n < f → f8_laidCount_l4 μ k f (nI c) (nI i) = k (nI (c + lcn (ldd μ) i n)) := by
  intro f
  induction f with
  | zero => intro i n c _ h; omega
  | succ f ih =>
    intro i n c hi hf
    unfold f8_laidCount_l4 f8_laidCount_j22
    cases n with
    | zero => rw [if_pos (show (8 : Int32) ≤ nI i from nI_le (a := 8) (by omega) (by omega))]; rfl
    | succ n =>
      have h8 : i < 8 := by omega
      rw [if_neg (show ¬ (8 : Int32) ≤ nI i from nI_ge (b := 8) (by omega) (by decide)), a_ald h8 (by decide), nI_1, nI_1]
      unfold lcn ldd
      rcases h i h8 with ⟨e, -⟩ | ⟨e, -⟩
      · rw [e, if_pos rfl, ih (i + 1) n c (by omega) (by omega), if_neg (by decide), Nat.zero_add]
        rfl
      · rw [e, if_neg (by decide), ih (i + 1) n (c + 1) (by omega) (by omega), if_pos (by decide), ← Nat.add_assoc]
        rfl
theorem l_lam {μ ν : xMu} (h : SH μ) (e3 : ν 163 = μ 163) (k : Int32 → xMu → Option (Int32 × xMu)) : ∀ (f i n c : Nat), i + n = 8 → n < f → f12_count_l58 k f (nI c) (nI i) ν = k (nI (c + lcn (ldd μ) i n)) ν := by
  intro f
  induction f with
  | zero => intro i n c _ h; omega
  | succ f ih =>
    intro i n c hi hf
    unfold f12_count_l58 f12_count_j79
    cases n with
    | zero => rw [if_pos (show (8 : Int32) ≤ nI i from nI_le (a := 8) (by omega) (by omega))]; rfl
    | succ n =>
      have h8 : i < 8 := by omega
      rw [if_neg (show ¬ (8 : Int32) ≤ nI i from nI_ge (b := 8) (by omega) (by decide)), a_ald h8 (by decide), nI_1, nI_1, show (0 : Int32) = nI 0 from rfl, nI_add, Nat.add_zero, e3]
      unfold lcn
      rcases h i h8 with ⟨e, e2⟩ | ⟨e, la, m, hla, -, -, e2, -⟩
      · have z : ldd μ i = false := by unfold ldd; rw [e]; decide
        rw [e2, if_pos (by decide), ih (i + 1) n c (by omega) (by omega), z, if_neg Bool.false_ne_true, Nat.zero_add]
      · have z : ldd μ i = true := by unfold ldd; rw [e]; decide
        rw [e2, if_neg (show ¬ nI la < nI 0 from nI_pos (by omega)), ih (i + 1) n (c + 1) (by omega) (by omega), z, if_pos rfl, ← Nat.add_assoc]
theorem l_cam {P : xP} {O : xO} {F : Nat} {μ : xMu} (w : Pwf P) (pm : PM P μ) (ow : Owf P O) (fw : Fwf P F) (cm : CM O F μ) (k : Int32 → xMu → Option (Int32 × xMu)) : ∀ (f i n c : Nat), i + n = pL P → n < f → f12_count_l116 k f (nI c) (nI i) μ = k (nI (c + lcn (aw P O F) i n)) μ := by
  intro f
  induction f with
  | zero => intro i n c _ h; omega
  | succ f ih =>
    intro i n c hi hf
    have hL := w.1.2.2.1
    unfold f12_count_l116 f12_count_j138
    rw [pm.1.2.2.1]
    cases n with
    | zero => rw [if_pos (nI_le (by omega) (by omega))]; rfl
    | succ n =>
      rw [if_neg (nI_ge (by omega) (by omega)), u_aw w pm ow fw cm (by omega), nI_1, nI_1]
      simp only [Option.bind_some]
      unfold lcn
      cases aw P O F i
      · rw [if_neg Bool.false_ne_true, if_pos rfl, show nI c + 0 = nI c from by rw [show (0 : Int32) = nI 0 from rfl, nI_add, Nat.add_zero], ih (i + 1) n c (by omega) (by omega), if_neg Bool.false_ne_true, Nat.zero_add]
      · rw [if_pos rfl, if_neg (by decide), ih (i + 1) n (c + 1) (by omega) (by omega), if_pos rfl, ← Nat.add_assoc]
theorem bitc : ∀ M, M < 256 → fJ_bitCount (nI M) = some (nI (lcn (fun t => M.testBit t) 0 8)) := by decide +kernel
theorem aw_hi {P : xP} {O : xO} {F : Nat} (ow : Owf P O) (fw : Fwf P F) {t : Nat} (h : pL P ≤ t) : aw P O F t = false := by
  unfold aw awU
  have e1 : O.any (fun q => q.1 == t) = false := by
    rw [Bool.eq_false_iff]
    intro e
    rw [List.any_eq_true] at e
    obtain ⟨q, hq, e⟩ := e
    have e2 : q.1 = t := by simpa using e
    have := (ow.2 q hq).1
    omega
  have e2 : F.testBit t = false := by
    rw [Bool.eq_false_iff]
    intro e
    have := (fw.2 t e).1
    omega
  rw [e1, e2, decide_eq_false (by omega)]
  rfl
theorem s_count : x_S_count x_R := by
  intro v1 μ h
  obtain ⟨P, O, F, w, pc, pm, ow, fw, cc, cm⟩ := h.2.2.2.2.2.2.2
  obtain ⟨n, hn, t1, t2, t3⟩ := h.2.2.2.1
  have hL := w.1.2.2.1
  refine ro_of (f := fun μ => f11_count μ v1) (g := fun μ => f12_count v1 μ) ?_
  rcases rb_dec v1 8 with hk | hk
  · obtain ⟨q, hq, rfl⟩ := rb_of hk
    unfold f11_count f12_count
    have ac := fun L (hl : q < List.length L) => sw_at (α := Int32) (d := some (-1000001)) L 0 q hl (by omega)
    have am := fun L (hl : q < List.length L) => sw_at (α := Int32 × xMu) (d := some (-1000001, x_wr μ 162 0 0)) L 0 q hl (by omega)
    rw [Nat.zero_add] at ac am
    rw [a_put, ac _ (by simpa using hq), am _ (by simpa using hq)]
    rcases (show q = 0 ∨ q = 1 ∨ q = 2 ∨ q = 3 ∨ q = 4 ∨ q = 5 ∨ q = 6 ∨ q = 7 by omega) with rfl | rfl | rfl | rfl | rfl | rfl | rfl | rfl
    · refine ⟨nI (lcn (ldd μ) 0 8), x_wr μ 162 0 0, ?_, ?_, h.t0⟩
      · show (f8_laidCount μ).bind _ = _
        unfold f8_laidCount
        rw [show f8_laidCount_l4 μ (fun (y2 : Int32) => (some y2)) 1000 (0 : Int32) (0 : Int32) = _ from l_lac h.2.2.1 _ 1000 0 8 0 rfl (by omega), Nat.zero_add]
        rfl
      · refine (l_lam (ν := x_wr μ 162 0 0) h.2.2.1 rfl (fun (y3 : Int32) (μ4 : xMu) => (some (y3, μ4))) 1000 0 8 0 rfl (by omega)).trans ?_
        rw [Nat.zero_add]
    · exact ⟨nI (pK P), _, congrArg some pc.1.1, congrArg (fun z => some (z, _)) pm.t0.1.1, h.t0⟩
    · exact ⟨nI (pT P), _, congrArg some pc.1.2.1, congrArg (fun z => some (z, _)) pm.t0.1.2.1, h.t0⟩
    · exact ⟨nI (pL P), _, congrArg some pc.1.2.2.1, congrArg (fun z => some (z, _)) pm.t0.1.2.2.1, h.t0⟩
    · exact ⟨nI (pB P), _, congrArg some pc.1.2.2.2, congrArg (fun z => some (z, _)) pm.t0.1.2.2.2, h.t0⟩
    · exact ⟨nI O.length, _, congrArg some cc.1, congrArg (fun z => some (z, _)) cm.t0.1, h.t0⟩
    · obtain ⟨M, a1, a2, a3⟩ := t_aw w pc ow fw cc
      refine ⟨nI (lcn (aw P O F) 0 (pL P)), x_wr μ 162 0 0, ?_, ?_, h.t0⟩
      · show (f2_awakeSet μ).bind _ = _
        rw [a1]
        simp only [Option.bind_some]
        rw [bitc M a2, lcn_ext a3, show 8 = pL P + (8 - pL P) by omega, lcn_hi _ _ _ _ (fun t ht => aw_hi ow fw (by omega))]
        rfl
      · refine (l_cam w pm.t0 ow fw cm.t0 _ 1000 0 (pL P) 0 (by omega) (by omega)).trans ?_
        rw [Nat.zero_add]
    · exact ⟨nI n, _, congrArg some t1, congrArg (fun z => some (z, _)) t2, h.t0⟩
  · refine ⟨-1000001, x_wr μ 162 0 0, ?_, ?_, h.t0⟩
    · unfold f11_count
      refine sw_no _ 0 (by simp only [List.length_cons, List.length_nil]; omega) ?_
      unfold rb at hk
      simp only [List.length_cons, List.length_nil]
      omega
    · unfold f12_count
      rw [a_put]
      refine sw_no _ 0 (by simp only [List.length_cons, List.length_nil]; omega) ?_
      unfold rb at hk
      simp only [List.length_cons, List.length_nil]
      omega
