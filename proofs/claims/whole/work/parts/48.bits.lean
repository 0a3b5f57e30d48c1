/-! PURE: sets as masks -/
def an (a b : Nat) : Nat := a &&& (255 ^^^ b)
theorem b_or (a b : Nat) : nI a ||| nI b = nI (a ||| b) := by
  apply Int32.toBitVec_inj.mp
  rw [Int32.toBitVec_or]
  exact BitVec.ofNat_or.symm
theorem b_and (a b : Nat) : nI a &&& nI b = nI (a &&& b) := by
  apply Int32.toBitVec_inj.mp
  rw [Int32.toBitVec_and]
  exact BitVec.ofNat_and.symm
theorem tb8 {a i : Nat} (h : a < 256) (hi : 8 ≤ i) : a.testBit i = false := Nat.testBit_lt_two_pow (Nat.lt_of_lt_of_le (show a < 2 ^ 8 from h) (Nat.pow_le_pow_right (by decide) hi))
theorem an_bit {a b i : Nat} (h : a < 256) : (an a b).testBit i = (a.testBit i && !b.testBit i) := by
  unfold an
  rw [Nat.testBit_and, Nat.testBit_xor, show Nat.testBit 255 i = decide (i < 8) from Nat.testBit_two_pow_sub_one 8 i]
  by_cases c : i < 8
  · simp [c]
  · rw [tb8 h (by omega)]
    simp
theorem an_lt {a b : Nat} (h : a < 256) : an a b < 256 := Nat.lt_of_le_of_lt Nat.and_le_left h
theorem or_lt {a b : Nat} (h : a < 256) (h2 : b < 256) : a ||| b < 256 := Nat.or_lt_two_pow (n := 8) h h2
theorem b_an {a b : Nat} (h : a < 256) : nI a &&& (nI b ^^^ (-1)) = nI (an a b) := by
  apply Int32.toBitVec_inj.mp
  rw [Int32.toBitVec_and, Int32.toBitVec_xor]
  apply BitVec.eq_of_getLsbD_eq
  intro i hi
  have e1 : ∀ n : Nat, (nI n).toBitVec.getLsbD i = n.testBit i := fun n => by
    show (BitVec.ofNat 32 n).getLsbD i = _
    rw [BitVec.getLsbD_ofNat]
    simp [hi]
  have e2 : ((-1 : Int32).toBitVec).getLsbD i = true := by
    show (BitVec.allOnes 32).getLsbD i = true
    rw [BitVec.getLsbD_allOnes]
    simp [hi]
  rw [BitVec.getLsbD_and, BitVec.getLsbD_xor, e1, e1, e1, e2, an_bit h]
  simp
theorem b_sh : ∀ l, l < 8 → (1 : Int32) <<< (nI l &&& 31) = nI (2 ^ l) := by decide +kernel
theorem b_sm : ∀ l, l < 8 → ((nI l &&& 31).toBitVec.smod 32).toNat = l := by decide +kernel
theorem b_tb {m l : Nat} (h : m < 2 ^ 31) (hl : l < 8) : (nI m >>> (nI l &&& 31)) &&& 1 = nI (if m.testBit l then 1 else 0) := by
  rw [pk_shrN h _ l (b_sm l hl), pk_andN (Nat.lt_of_le_of_lt (Nat.div_le_self _ _) (by omega)) (m := 1) 1 (by decide), Nat.testBit_eq_decide_div_mod_eq]
  congr 1
  have := Nat.mod_two_eq_zero_or_one (m / 2 ^ l)
  rcases this with e | e <;> simp [e]
theorem b_tb1 {m l : Nat} (h : m < 2 ^ 31) (hl : l < 8) : ((nI m >>> (nI l &&& 31)) &&& 1 = (1 : Int32)) = (m.testBit l = true) := by
  rw [b_tb h hl]
  cases m.testBit l
  · simp
    decide
  · simp
    rfl
theorem b_tb0 {m l : Nat} (h : m < 2 ^ 31) (hl : l < 8) : ((nI m >>> (nI l &&& 31)) &&& 1 = (0 : Int32)) = (m.testBit l = false) := by
  rw [b_tb h hl]
  cases m.testBit l
  · simp
    rfl
  · simp
    decide
theorem p2_bit (l i : Nat) : (2 ^ l).testBit i = decide (l = i) := Nat.testBit_two_pow
theorem p2_lt {l : Nat} (h : l < 8) : 2 ^ l < 256 := Nat.pow_lt_pow_right (n := 8) (by decide) h
/-- is every bit of n in A or c? -/
def nd (n A c : Nat) : Bool := an n (A ||| c) == 0
theorem nd_iff {n A c : Nat} (h : n < 256) : nd n A c = true ↔ ∀ t, n.testBit t = true → A.testBit t = true ∨ c.testBit t = true := by
  unfold nd
  rw [beq_iff_eq]
  constructor
  · intro e t ht
    have := congrArg (fun m => m.testBit t) e
    simp only [an_bit h, Nat.testBit_or, Nat.zero_testBit, ht] at this
    cases ha : A.testBit t
    · cases hc : c.testBit t
      · simp [ha, hc] at this
      · exact Or.inr rfl
    · exact Or.inl rfl
  · intro q
    apply Nat.eq_of_testBit_eq
    intro t
    rw [an_bit h, Nat.testBit_or, Nat.zero_testBit]
    cases ht : n.testBit t
    · rfl
    · rcases q t ht with e | e <;> simp [e]
theorem b_nd {n A c : Nat} (h : n < 256) : (nI n &&& ((nI A ||| nI c) ^^^ (-1)) = (0 : Int32)) = (nd n A c = true) := by
  rw [b_or, b_an h]
  unfold nd
  rw [beq_iff_eq]
  apply propext
  have := an_lt (b := A ||| c) h
  exact nI_eq (b := 0) (by omega) (by decide)
/-! awake layers -/
def awU (P : xP) (O : xO) (l : Nat) : Bool := O.any (fun q => q.1 == l) || (decide (l < pL P) && P 3 l 0 == 3)
def opn (O : xO) (l : Nat) : Nat := O.countP (fun q => q.1 == l)
theorem g_some {O : xO} {i : Nat} (h : i < O.length) : O[i]? = some O[i] := List.getElem?_eq_getElem h
theorem l_auw {P : xP} {O : xO} {F : Nat} {μ : xMu} (w : Pwf P) (ow : Owf P O) (cc : CC O F μ) (k : Int32 → Option Int32) : ∀ (f i A : Nat), i ≤ O.length → O.length < i + f → A < 256 →
    ∃ A', f2_awakeUnasked_l4 μ k f (nI A) (nI i) = k (nI A') ∧ A' < 256 ∧ ∀ l, A'.testBit l = (A.testBit l || (O.drop i).any (fun q => q.1 == l)) := by
  intro f
  induction f with
  | zero => intro i A _ h; omega
  | succ f ih =>
    intro i A hi h hA
    have h16 := ow.1
    unfold f2_awakeUnasked_l4
    rw [cc.1]
    by_cases c : O.length ≤ i
    · rw [if_pos (nI_le c (by omega))]
      refine ⟨A, rfl, hA, fun l => ?_⟩
      rw [List.drop_eq_nil_of_le c]
      simp
    · have hi2 : i < O.length := by omega
      have hl := (ow.2 O[i] (List.getElem_mem hi2)).1
      have h8 := p8 w hl
      rw [if_neg (nI_ge (by omega) (by omega)), a_ald (by omega) (by decide), (cc.2.2 i _ (g_some hi2)).1, b_sh _ h8, b_or, nI_1]
      obtain ⟨A', a1, a2, a3⟩ := ih (i + 1) (A ||| 2 ^ O[i].1) (by omega) (by omega) (or_lt hA (p2_lt h8))
      refine ⟨A', a1, a2, fun l => ?_⟩
      rw [a3 l, Nat.testBit_or, p2_bit, List.drop_eq_getElem_cons hi2, List.any_cons, Bool.or_assoc]
      congr 1
theorem l_aul {P : xP} {μ : xMu} (w : Pwf P) (pc : PC P μ) (k : Int32 → Option Int32) : ∀ (f i A : Nat), i ≤ pL P → pL P < i + f → A < 256 →
    ∃ A', f2_awakeUnasked_l31 μ k f (nI A) (nI i) = k (nI A') ∧ A' < 256 ∧ ∀ l, A'.testBit l = (A.testBit l || (decide (i ≤ l) && decide (l < pL P) && P 3 l 0 == 3)) := by
  intro f
  induction f with
  | zero => intro i A _ h; omega
  | succ f ih =>
    intro i A hi h hA
    have hL := w.1.2.2.1
    unfold f2_awakeUnasked_l31 f2_awakeUnasked_j64
    rw [pc.1.2.2.1]
    by_cases c : pL P ≤ i
    · rw [if_pos (nI_le c (by omega))]
      refine ⟨A, rfl, hA, fun l => ?_⟩
      by_cases c1 : i ≤ l
      · rw [show decide (l < pL P) = false from decide_eq_false (by omega)]; simp
      · simp [c1]
    · have h8 : i < 8 := by omega
      rw [if_neg (nI_ge (by omega) (by omega)), a_rld h8 (by decide) (r_layer i h8).1, a_chk (r_layer i h8).2, (pc.2.2.2.1 i (by omega)).1]
      have hs := (w.2.2.2.1 i (by omega)).1
      by_cases e : P 3 i 0 = 3
      · rw [e, if_pos (show nI 3 = 3 from rfl), b_sh _ h8, b_or, nI_1]
        obtain ⟨A', a1, a2, a3⟩ := ih (i + 1) (A ||| 2 ^ i) (by omega) (by omega) (or_lt hA (p2_lt h8))
        refine ⟨A', a1, a2, fun l => ?_⟩
        rw [a3 l, Nat.testBit_or, p2_bit, Bool.or_assoc]
        congr 1
        by_cases c1 : i = l
        · subst c1
          simp [e]
          omega
        · by_cases c2 : i + 1 ≤ l
          · simp [c1, c2, show i ≤ l by omega]
          · simp [c1, c2, show ¬ i ≤ l by omega]
      · rw [if_neg (show ¬ nI (P 3 i 0) = 3 from nI_ne (b := 3) (by omega) (by decide) e), nI_1]
        obtain ⟨A', a1, a2, a3⟩ := ih (i + 1) A (by omega) (by omega) hA
        refine ⟨A', a1, a2, fun l => ?_⟩
        rw [a3 l]
        congr 1
        by_cases c1 : i = l
        · subst c1
          have e' : (P 3 i 0 == 3) = false := beq_false_of_ne e
          simp [e']
        · by_cases c2 : i + 1 ≤ l
          · simp [c2, show i ≤ l by omega]
          · simp [c2, show ¬ i ≤ l by omega]
theorem t_au {P : xP} {O : xO} {F : Nat} {μ : xMu} (w : Pwf P) (pc : PC P μ) (ow : Owf P O) (cc : CC O F μ) : ∃ A, f2_awakeUnasked μ = some (nI A) ∧ A < 256 ∧ ∀ l, A.testBit l = awU P O l := by
  unfold f2_awakeUnasked
  have h16 := ow.1
  have hL := w.1.2.2.1
  obtain ⟨A1, a1, a2, a3⟩ := l_auw w ow cc (fun (y2 : Int32) => (f2_awakeUnasked_l31 μ (fun (y5 : Int32) => (some y5)) 1000 y2 (0 : Int32))) 1000 0 0 (by omega) (by omega) (by decide)
  obtain ⟨A2, b1, b2, b3⟩ := l_aul w pc (fun (y5 : Int32) => (some y5)) 1000 0 A1 (by omega) (by omega) a2
  refine ⟨A2, a1.trans b1, b2, fun l => ?_⟩
  rw [b3 l, a3 l]
  unfold awU
  simp
theorem l_opc {P : xP} {O : xO} {F : Nat} {μ : xMu} (w : Pwf P) (ow : Owf P O) (cc : CC O F μ) (k : Int32 → Option Int32) {l : Nat} (hl : l < pL P) : ∀ (f i c : Nat), i ≤ O.length → O.length < i + f → 
    f2_openOf_l4 μ k f (nI l) (nI c) (nI i) = k (nI (c + (O.drop i).countP (fun q => q.1 == l))) := by
  intro f
  induction f with
  | zero => intro i c _ h; omega
  | succ f ih =>
    intro i c hi h
    have h16 := ow.1
    have h8 := p8 w hl
    unfold f2_openOf_l4 f2_openOf_j25
    rw [cc.1]
    by_cases ci : O.length ≤ i
    · rw [if_pos (nI_le ci (by omega)), List.drop_eq_nil_of_le ci]
      rfl
    · have hi2 : i < O.length := by omega
      have hq := p8 w (ow.2 O[i] (List.getElem_mem hi2)).1
      rw [if_neg (nI_ge (by omega) (by omega)), a_ald (by omega) (by decide), (cc.2.2 i _ (g_some hi2)).1, List.drop_eq_getElem_cons hi2, List.countP_cons]
      by_cases e : O[i].1 = l
      · rw [e, if_pos rfl, nI_1, nI_1, ih (i + 1) (c + 1) (by omega) (by omega), if_pos (by simp)]
        congr 2
        omega
      · rw [if_neg (nI_ne (by omega) (by omega) e), nI_1, ih (i + 1) c (by omega) (by omega), if_neg (by simpa using e)]
        rfl
theorem l_opm {P : xP} {O : xO} {F : Nat} {μ : xMu} (w : Pwf P) (ow : Owf P O) (cm : CM O F μ) (k : Int32 → Option Int32) {l : Nat} (hl : l < pL P) : ∀ (f i c : Nat), i ≤ O.length → O.length < i + f → 
    f12_openOf_l4 μ k f (nI l) (nI c) (nI i) = k (nI (c + (O.drop i).countP (fun q => q.1 == l))) := by
  intro f
  induction f with
  | zero => intro i c _ h; omega
  | succ f ih =>
    intro i c hi h
    have h16 := ow.1
    have h8 := p8 w hl
    unfold f12_openOf_l4 f12_openOf_j28
    rw [cm.1]
    by_cases ci : O.length ≤ i
    · rw [if_pos (nI_le ci (by omega)), List.drop_eq_nil_of_le ci]
      rfl
    · have hi2 : i < O.length := by omega
      have hq := p8 w (ow.2 O[i] (List.getElem_mem hi2)).1
      rw [if_neg (nI_ge (by omega) (by omega)), a_ald (by omega) (by decide), (cm.2.2 i _ (g_some hi2)).1, List.drop_eq_getElem_cons hi2, List.countP_cons]
      by_cases e : O[i].1 = l
      · rw [e, if_pos rfl, nI_1, nI_1, ih (i + 1) (c + 1) (by omega) (by omega), if_pos (by simp)]
        congr 2
        omega
      · rw [if_neg (nI_ne (by omega) (by omega) e), nI_1, show nI c + 0 = nI c from by rw [show (0 : Int32) = nI 0 from rfl, nI_add, Nat.add_zero], ih (i + 1) c (by omega) (by omega), if_neg (by simpa using e)]
        rfl
theorem t_opn {P : xP} {O : xO} {F : Nat} {μ : xMu} (w : Pwf P) (ow : Owf P O) (cc : CC O F μ) {l : Nat} (hl : l < pL P) : f2_openOf μ (nI l) = some (nI (opn O l)) := by
  have h16 := ow.1
  unfold f2_openOf
  refine (l_opc w ow cc _ hl 1000 0 0 (by omega) (by omega)).trans ?_
  rw [Nat.zero_add]
  rfl
theorem u_opn {P : xP} {O : xO} {F : Nat} {μ : xMu} (w : Pwf P) (ow : Owf P O) (cm : CM O F μ) {l : Nat} (hl : l < pL P) : f12_openOf μ (nI l) = some (nI (opn O l)) := by
  have h16 := ow.1
  unfold f12_openOf
  refine (l_opm w ow cm _ hl 1000 0 0 (by omega) (by omega)).trans ?_
  rw [Nat.zero_add]
  rfl
def aw (P : xP) (O : xO) (F l : Nat) : Bool := awU P O l || F.testBit l
theorem opn_any (O : xO) (l : Nat) : (0 < opn O l) = (O.any (fun q => q.1 == l) = true) := by
  unfold opn
  rw [List.countP_pos_iff, List.any_eq_true]
theorem u_aw {P : xP} {O : xO} {F : Nat} {μ : xMu} (w : Pwf P) (pm : PM P μ) (ow : Owf P O) (fw : Fwf P F) (cm : CM O F μ) {l : Nat} (hl : l < pL P) : f12_isAwake μ (nI l) = some (if aw P O F l then 1 else 0) := by
  have h8 := p8 w hl
  have hs := (w.2.2.2.1 l hl).1
  have hF := fw.1
  have no : 2 ≤ P 3 l 0 → O.any (fun q => q.1 == l) = false := by
    intro h2
    rw [Bool.eq_false_iff]
    intro e
    rw [List.any_eq_true] at e
    obtain ⟨q, hq, e⟩ := e
    have e2 : q.1 = l := by simpa using e
    have := (ow.2 q hq).2
    rw [e2] at this
    omega
  have nF : P 3 l 0 ≠ 2 → F.testBit l = false := by
    intro h2
    rw [Bool.eq_false_iff]
    intro e
    exact h2 (fw.2 l e).2
  unfold f12_isAwake f12_isAwake_j32 f12_isAwake_j50
  simp only [a_ald h8 (show 8 < 2 ^ 31 by decide), (pm.2.2.2.1 l hl).1, cm.2.1, b_tb1 (show F < 2 ^ 31 by omega) h8, u_opn w ow cm hl, Option.bind_some]
  have hw := ow.1
  have hop : opn O l ≤ 16 := Nat.le_trans List.countP_le_length hw
  unfold aw awU
  rcases (show P 3 l 0 = 0 ∨ P 3 l 0 = 1 ∨ P 3 l 0 = 2 ∨ P 3 l 0 = 3 by omega) with e | e | e | e
  · rw [e, if_neg (by decide), if_neg (by decide), if_neg (by decide), nF (by omega)]
    by_cases z : 0 < opn O l
    · rw [if_neg (nI_nle z (by omega)), (opn_any O l).mp z]; rfl
    · have : O.any (fun q => q.1 == l) = false := by rw [Bool.eq_false_iff]; intro q; exact z ((opn_any O l).mpr q)
      rw [this, show opn O l = 0 by omega, if_pos (by decide)]
      simp
  · rw [e, if_neg (by decide), if_neg (by decide), if_neg (by decide), nF (by omega)]
    by_cases z : 0 < opn O l
    · rw [if_neg (nI_nle z (by omega)), (opn_any O l).mp z]; rfl
    · have : O.any (fun q => q.1 == l) = false := by rw [Bool.eq_false_iff]; intro q; exact z ((opn_any O l).mpr q)
      rw [this, show opn O l = 0 by omega, if_pos (by decide)]
      simp
  · rw [no (by omega), e, if_neg (by decide), if_pos (by decide)]
    cases F.testBit l
    · rw [if_neg (by decide), if_pos (show (2 : Int32) ≤ nI 2 by decide)]
      simp
    · rw [if_pos rfl]
      simp
  · rw [no (by omega), e, if_pos (by decide), nF (by omega)]
    simp [hl]
