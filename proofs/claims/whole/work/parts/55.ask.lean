/-! PURE: ask -/
def lvs (k c j : Nat) : xMu → Nat → List Int32 → xMu
  | μ, _, [] => μ
  | μ, i, t :: ts => lvs k c j (x_wr (x_wr μ k i t) c j (nI (i + 1))) (i + 1) ts
theorem lvs_gs (k c j : Nat) {p : Nat → Nat → Bool} (hk : ∀ i, p k i = true) (hc : p c j = true) : ∀ (ts : List Int32) (i : Nat) (μ : xMu), gs p μ (lvs k c j μ i ts) := by
  intro ts
  induction ts with
  | nil => intro i μ; exact gs.refl
  | cons t ts ih => intro i μ; exact ((gs.refl.wr (hk i)).wr hc).trans (ih (i + 1) _)
theorem lvs_cnt (k c j : Nat) (hkc : k ≠ c) : ∀ (ts : List Int32) (i : Nat) (μ : xMu), μ c j = nI i → (lvs k c j μ i ts) c j = nI (i + ts.length) := by
  intro ts
  induction ts with
  | nil => intro i μ h; exact h
  | cons t ts ih =>
    intro i μ h
    show (lvs k c j _ (i + 1) ts) c j = _
    rw [ih (i + 1) _ (by simp [x_wr]), List.length_cons, show i + 1 + ts.length = i + (ts.length + 1) by omega]
theorem lvs_old (k c j : Nat) (hkc : k ≠ c) : ∀ (ts : List Int32) (i n : Nat) (μ : xMu), n < i → (lvs k c j μ i ts) k n = μ k n := by
  intro ts
  induction ts with
  | nil => intro i n μ _; rfl
  | cons t ts ih =>
    intro i n μ h
    show (lvs k c j _ (i + 1) ts) k n = _
    rw [ih (i + 1) n _ (by omega), x_wr_ne hkc, w_wr, if_neg (by omega)]
theorem lvs_at (k c j : Nat) (hkc : k ≠ c) : ∀ (ts : List Int32) (i n : Nat) (μ : xMu) (h : n < ts.length), (lvs k c j μ i ts) k (i + n) = ts[n] := by
  intro ts
  induction ts with
  | nil => intro i n μ h; cases h
  | cons t ts ih =>
    intro i n μ h
    show (lvs k c j _ (i + 1) ts) k (i + n) = _
    cases n with
    | zero => rw [lvs_old k c j hkc _ _ _ _ (by omega), x_wr_ne hkc, w_wr, if_pos ⟨rfl, rfl⟩]; rfl
    | succ n =>
      rw [show i + (n + 1) = i + 1 + n by omega, ih (i + 1) n _ (by simpa using h)]
      rfl
def gT : Nat → Bool := fun n => n == 0 || n == 7
def iC (P : xP) (O : xO) (F : Nat) (μ : xMu) (i : Nat) : Prop := PC P μ ∧ CC O F μ ∧ μ 160 3 = nI i
def iM (P : xP) (O : xO) (F : Nat) (μ : xMu) (i : Nat) : Prop := PM P μ ∧ CM O F μ ∧ μ 162 71 = nI i
theorem iC.lv {P : xP} {O : xO} {F : Nat} {μ : xMu} {i : Nat} (w : Pwf P) (h : iC P O F μ i) (ts : List Int32) : iC P O F (lvs 161 160 3 μ i ts) (i + ts.length) := by
  have g : gs (fun k j => gT (x_gr k j)) μ (lvs 161 160 3 μ i ts) := lvs_gs _ _ _ (fun _ => rfl) rfl _ _ _
  exact ⟨gPC w h.1 g rfl, gCC h.2.1 g rfl, lvs_cnt _ _ _ (by decide) _ _ _ h.2.2⟩
theorem iM.lv {P : xP} {O : xO} {F : Nat} {μ : xMu} {i : Nat} (h : iM P O F μ i) (ts : List Int32) : iM P O F (lvs 202 162 71 μ i ts) (i + ts.length) := by
  have g : gs (fun k j => gT (x_gr k j)) μ (lvs 202 162 71 μ i ts) := lvs_gs _ _ _ (fun _ => rfl) rfl _ _ _
  exact ⟨gPM h.1 g rfl, gCM h.2.1 g rfl, lvs_cnt _ _ _ (by decide) _ _ _ h.2.2⟩
theorem t_lv {μ : xMu} {i : Nat} (h : μ 160 3 = nI i) (hi : i < 16) (t : Int32) : f0_leave t μ = some (lvs 161 160 3 μ i [t]) := by
  unfold f0_leave
  rw [h, if_neg (show ¬ (16 : Int32) ≤ nI i from nI_ge (b := 16) hi (by decide)), a_ast hi (by decide), a_put, show (x_wr μ 161 i t) 160 3 = nI i from h, nI_1]
  rfl
theorem u_lv {μ : xMu} {i : Nat} (h : μ 162 71 = nI i) (hi : i < 16) (t : Int32) : f12_leaves t μ = some (lvs 202 162 71 μ i [t]) := by
  unfold f12_leaves
  rw [h, if_neg (show ¬ (16 : Int32) ≤ nI i from nI_ge (b := 16) hi (by decide)), a_ast hi (by decide), a_put, show (x_wr μ 202 i t) 162 71 = nI i from h, nI_1]
  rfl
/-- how many bodies stand for layer l -/
def bod (P : xP) (l : Nat) : Nat := lcn (fun b => P 4 b 0 == l + 1) 0 (pB P)
theorem cN_eq {no : Int32} {c l : Nat} (h : no.toInt < 0) (hc : c ≤ 8) (hl : l < 8) : (cN no c = nI l) = ((c == l + 1) = true) := by
  rw [beq_iff_eq]
  apply propext
  unfold cN
  rw [i_eq, nI_toInt (n := l) (by omega)]
  split
  · next e => subst e; constructor <;> intro q <;> omega
  · next e => rw [nI_toInt (by omega)]; constructor <;> intro q <;> omega
theorem l_boc {P : xP} {μ : xMu} (w : Pwf P) (pc : PC P μ) {l : Nat} (hl : l < 8) (k : Int32 → Option Int32) : ∀ (f i n c : Nat), i + n = pB P → n < f → f4_bodiesOf_l4 μ k f (nI l) (nI c) (nI i) = k (nI (c + lcn (fun b => P 4 b 0 == l + 1) i n)) := by
  intro f
  induction f with
  | zero => intro i n c _ h; omega
  | succ f ih =>
    intro i n c hi hf
    have hB := w.1.2.2.2
    have hL := w.1.2.2.1
    unfold f4_bodiesOf_l4 f4_bodiesOf_j28
    rw [pc.1.2.2.2]
    cases n with
    | zero => rw [if_pos (nI_le (by omega) (by omega))]; rfl
    | succ n =>
      have hb : i < 24 := by omega
      have q := (w.2.2.2.2 i (by omega)).1
      rw [if_neg (nI_ge (by omega) (by omega)), a_rld hb (by decide) (r_body i hb).1, a_chk (r_body i hb).2.1, (pc.2.2.2.2 i (by omega)).2.1, nI_1, nI_1]
      simp only [cN_eq (show (-1 : Int32).toInt < 0 by decide) (show P 4 i 0 ≤ 8 by omega) hl]
      unfold lcn
      cases P 4 i 0 == l + 1
      · rw [if_neg Bool.false_ne_true, ih (i + 1) n c (by omega) (by omega), if_neg Bool.false_ne_true, Nat.zero_add]
      · rw [if_pos rfl, ih (i + 1) n (c + 1) (by omega) (by omega), if_pos rfl, ← Nat.add_assoc]
theorem l_bom {P : xP} {μ : xMu} (w : Pwf P) (pm : PM P μ) {l : Nat} (hl : l < 8) (v2 : Int32) (k : Int32 → Int32 → Int32 → xMu → Option (Int32 × xMu)) : ∀ (f i n c : Nat), i + n = pB P → n < f → f12_markOf_l36 k f (nI l) v2 (nI c) (nI i) μ = k (nI l) v2 (nI (c + lcn (fun b => P 4 b 0 == l + 1) i n)) μ := by
  intro f
  induction f with
  | zero => intro i n c _ h; omega
  | succ f ih =>
    intro i n c hi hf
    have hB := w.1.2.2.2
    have hL := w.1.2.2.1
    unfold f12_markOf_l36 f12_markOf_j62
    rw [pm.1.2.2.2]
    cases n with
    | zero => rw [if_pos (nI_le (by omega) (by omega))]; rfl
    | succ n =>
      have hb : i < 24 := by omega
      have q := (w.2.2.2.2 i (by omega)).1
      rw [if_neg (nI_ge (by omega) (by omega)), a_ald hb (by decide), (pm.2.2.2.2 i (by omega)).2.1, nI_1, nI_1]
      simp only [cN_eq (show (-1000000 : Int32).toInt < 0 by decide) (show P 4 i 0 ≤ 8 by omega) hl]
      unfold lcn
      cases P 4 i 0 == l + 1
      · rw [if_neg Bool.false_ne_true, show nI c + 0 = nI c from by rw [show (0 : Int32) = nI 0 from rfl, nI_add, Nat.add_zero], ih (i + 1) n c (by omega) (by omega), if_neg Bool.false_ne_true, Nat.zero_add]
      · rw [if_pos rfl, ih (i + 1) n (c + 1) (by omega) (by omega), if_pos rfl, ← Nat.add_assoc]
theorem t_bod {P : xP} {μ : xMu} (w : Pwf P) (pc : PC P μ) {l : Nat} (hl : l < 8) : f4_bodiesOf μ (nI l) = some (nI (bod P l)) := by
  have hB := w.1.2.2.2
  unfold f4_bodiesOf
  refine (l_boc w pc hl _ 1000 0 (pB P) 0 (by omega) (by omega)).trans ?_
  rw [Nat.zero_add]
  rfl
theorem bitm : ∀ M, M < 256 → f12_bits (nI M) = some (nI (lcn (fun t => M.testBit t) 0 8)) := by decide +kernel
section ASK
variable {P : xP} {O : xO} {F : Nat} {l : Nat}
theorem c_ls {μ : xMu} {i : Nat} (w : Pwf P) (hl : l < pL P) (h : iC P O F μ i) (hi : i < 16) : f0_lentSize (nI l) μ = some (nI (P 3 l 1), lvs 161 160 3 μ i [10]) := by
  have h8 := p8 w hl
  unfold f0_lentSize
  rw [t_lv h.2.2 hi]
  simp only [Option.bind_some, a_rld h8 (show 8 < 2 ^ 31 by decide) (r_layer l h8).1, a_chk (r_layer l h8).2, ((h.lv w [10]).1.2.2.2.1 l hl).2.1]
theorem c_lm {μ : xMu} {i : Nat} (w : Pwf P) (hl : l < pL P) (h : iC P O F μ i) (hi : i < 16) : f0_lentMark (nI l) μ = some (nI (bod P l), lvs 161 160 3 μ i [20]) := by
  unfold f0_lentMark
  rw [t_lv h.2.2 hi]
  simp only [Option.bind_some, t_bod w (h.lv w [20]).1 (p8 w hl)]
theorem c_sp {μ : xMu} {i : Nat} (w : Pwf P) (ow : Owf P O) (hl : l < pL P) (h : iC P O F μ i) (hi : i < 15) : f0_sizeOfSpanned (nI l) μ = some (nI (P 3 l 1 + opn O l), lvs 161 160 3 μ i [11, 10]) := by
  unfold f0_sizeOfSpanned
  rw [t_lv h.2.2 (by omega)]
  simp only [Option.bind_some, c_ls w hl (h.lv w [11]) (show i + 1 < 16 by omega)]
  rw [t_opn w ow ((h.lv w [11]).lv w [10]).2.1 hl]
  simp only [Option.bind_some, nI_add]
  rfl
theorem c_ow {μ : xMu} {i : Nat} (w : Pwf P) (ow : Owf P O) (hl : l < pL P) (h : iC P O F μ i) (hi : i < 14) : f0_sizeOfOwned (nI l) μ = some (2 * nI (P 3 l 1 + opn O l), lvs 161 160 3 μ i [12, 11, 10]) := by
  unfold f0_sizeOfOwned
  rw [t_lv h.2.2 (by omega)]
  simp only [Option.bind_some, c_sp w ow hl (h.lv w [12]) (show i + 1 < 15 by omega)]
  rfl
theorem c_ma {μ : xMu} {i : Nat} (w : Pwf P) (fw : Fwf P F) (hl : l < pL P) (h : iC P O F μ i) (hi : i < 15) : f0_markOfAsked (nI l) μ = some (nI (bod P l + if F.testBit l then 100 else 0), lvs 161 160 3 μ i [21, 20]) := by
  have hF := fw.1
  unfold f0_markOfAsked f0_markOfAsked_j28 f2_isFound
  rw [t_lv h.2.2 (by omega)]
  simp only [Option.bind_some, c_lm w hl (h.lv w [21]) (show i + 1 < 16 by omega)]
  simp only [((h.lv w [21]).lv w [20]).2.1.2.1]
  simp only [b_tb1 (show F < 2 ^ 31 by omega) (p8 w hl)]
  cases F.testBit l
  · rw [if_neg Bool.false_ne_true]
    simp only [Option.bind_some, e00, if_true]
    rw [show (0 : Int32) = nI 0 from rfl, nI_add, if_neg Bool.false_ne_true]
    rfl
  · rw [if_pos rfl]
    simp only [Option.bind_some, e10, if_false]
    rw [show (100 : Int32) = nI 100 from rfl, nI_add, if_pos trivial]
    rfl
theorem c_kind {μ : xMu} {i : Nat} (w : Pwf P) (hl : l < pL P) (h : iC P O F μ i) {α : Type} {f : Nat → Option α} : x_rld 20 8 (nI l) f = f (22 + l) := a_rld (p8 w hl) (by decide) (r_layer l (p8 w hl)).1
theorem c_mk {μ : xMu} {i : Nat} (rf : Int32 → xMu → Option (Int32 × xMu)) (w : Pwf P) (fw : Fwf P F) (hl : l < pL P) (h : iC P O F μ i) (hi : i < 14) :
    (kOf P l = 1 ∨ kOf P l = 2 → f0_markOf rf (nI l) μ = some (nI (bod P l), lvs 161 160 3 μ i [20])) ∧
    (kOf P l = 3 ∨ kOf P l = 4 → f0_markOf rf (nI l) μ = some (nI (bod P l + if F.testBit l then 100 else 0), lvs 161 160 3 μ i [21, 20])) ∧
    (kOf P l = 5 → f0_markOf rf (nI l) μ = ((rf (nI l) (lvs 161 160 3 μ i [22, 20])).bind fun q3 => (some ((nI (bod P l) + q3.1), q3.2)))) := by
  unfold f0_markOf
  rw [c_kind w hl h, t_kindOf w h.1 hl]
  simp only [Option.bind_some]
  refine ⟨?_, ?_, ?_⟩
  · rintro (e | e)
    · rw [e]
      show ((f0_lentMark (nI l) μ).bind _) = _
      rw [c_lm w hl h (by omega)]
      rfl
    · rw [e]
      show ((f0_lentMark (nI l) μ).bind _) = _
      rw [c_lm w hl h (by omega)]
      rfl
  · rintro (e | e)
    · rw [e]
      show ((f0_markOfAsked (nI l) μ).bind _) = _
      rw [c_ma w fw hl h (by omega)]
      rfl
    · rw [e]
      show ((f0_markOfAsked (nI l) μ).bind _) = _
      rw [c_ma w fw hl h (by omega)]
      rfl
  · intro e
    rw [e]
    show ((f0_markOfEver rf (nI l) μ).bind _) = _
    unfold f0_markOfEver
    rw [t_lv h.2.2 (by omega)]
    simp only [Option.bind_some, c_lm w hl (h.lv w [22]) (show i + 1 < 16 by omega)]
    show ((rf (nI l) (lvs 161 160 3 μ i [22, 20])).bind _).bind _ = _
    cases rf (nI l) (lvs 161 160 3 μ i [22, 20]) <;> rfl
theorem c_as {μ : xMu} {i : Nat} (rf : Int32 → xMu → Option (Int32 × xMu)) (w : Pwf P) (fw : Fwf P F) (hl : l < pL P) (h : iC P O F μ i) (hi : i < 12) (e : kOf P l = 3 ∨ kOf P l = 4) :
    f0_sizeOfAsked rf (nI l) μ = some (nI (P 3 l 1 + (bod P l + if F.testBit l then 100 else 0)), lvs 161 160 3 μ i [13, 10, 21, 20]) := by
  unfold f0_sizeOfAsked
  rw [t_lv h.2.2 (by omega)]
  simp only [Option.bind_some, c_ls w hl (h.lv w [13]) (show i + 1 < 16 by omega)]
  rw [(c_mk rf w fw hl ((h.lv w [13]).lv w [10]) (show i + 1 + 1 < 14 by omega)).2.1 e]
  simp only [Option.bind_some, nI_add]
  rfl
theorem c_nd {μ : xMu} {i : Nat} (rf : Int32 → xMu → Option (Int32 × xMu)) (w : Pwf P) (fw : Fwf P F) (hl : l < pL P) (h : iC P O F μ i) (hi : i < 11) (e : kOf P l = 3 ∨ kOf P l = 4) :
    f0_sizeOfNeeding rf (nI l) μ = some (nI (P 3 l 1 + (bod P l + if F.testBit l then 100 else 0) + lcn (fun t => (P 3 l 2).testBit t) 0 8), lvs 161 160 3 μ i [14, 13, 10, 21, 20]) := by
  unfold f0_sizeOfNeeding
  rw [t_lv h.2.2 (by omega)]
  simp only [Option.bind_some, c_as rf w fw hl (h.lv w [14]) (show i + 1 < 12 by omega) e, c_kind w hl h, a_chk (r_layer l (p8 w hl)).2]
  rw [(((h.lv w [14]).lv w [13, 10, 21, 20]).1.2.2.2.1 l hl).2.2.1, bitc _ (nlt w hl).1]
  simp only [Option.bind_some, nI_add]
  rfl
/-- the class's answers by kind -/
def aSz (P : xP) (O : xO) (F l : Nat) : Int32 := if kOf P l = 1 then nI (P 3 l 1 + opn O l) else if kOf P l = 2 then 2 * nI (P 3 l 1 + opn O l) else if kOf P l = 5 then nI (P 3 l 1) else nI (P 3 l 1 + (bod P l + if F.testBit l then 100 else 0) + (if kOf P l = 4 then lcn (fun t => (P 3 l 2).testBit t) 0 8 else 0))
def aTs (P : xP) (l : Nat) : List Int32 := if kOf P l = 1 then [11, 10] else if kOf P l = 2 then [12, 11, 10] else if kOf P l = 5 then [10] else if kOf P l = 4 then [14, 13, 10, 21, 20] else [13, 10, 21, 20]
def aMk (P : xP) (F l : Nat) : Int32 := if kOf P l = 5 then nI (bod P l) + nI (P 3 l 1) else if kOf P l = 3 ∨ kOf P l = 4 then nI (bod P l + if F.testBit l then 100 else 0) else nI (bod P l)
def aTm (P : xP) (l : Nat) : List Int32 := if kOf P l = 5 then [22, 20, 10] else if kOf P l = 3 ∨ kOf P l = 4 then [21, 20] else [20]
theorem k15 (P : xP) (l : Nat) : kOf P l = 1 ∨ kOf P l = 2 ∨ kOf P l = 3 ∨ kOf P l = 4 ∨ kOf P l = 5 := by
  have := kOf_lt P l
  have := kOf_pos P l
  omega
theorem c_sz {μ : xMu} {i n : Nat} (w : Pwf P) (ow : Owf P O) (fw : Fwf P F) (hl : l < pL P) (h : iC P O F μ i) (hi : i < 11) : f0_sizeOf (n + 1) (nI l) μ = some (aSz P O F l, lvs 161 160 3 μ i (aTs P l)) := by
  show f0_sizeOf_b (f0_sizeOf n) (nI l) μ = _
  unfold f0_sizeOf_b aSz aTs
  rw [c_kind w hl h, t_kindOf w h.1 hl]
  simp only [Option.bind_some]
  rcases k15 P l with e | e | e | e | e
  · rw [e]
    show ((f0_sizeOfSpanned (nI l) μ).bind _) = _
    rw [c_sp w ow hl h (by omega)]
    rfl
  · rw [e]
    show ((f0_sizeOfOwned (nI l) μ).bind _) = _
    rw [c_ow w ow hl h (by omega)]
    rfl
  · have e' := e
    rw [e]
    show ((f0_sizeOfAsked (f0_sizeOf n) (nI l) μ).bind _) = _
    rw [c_as _ w fw hl h (by omega) (Or.inl e')]
    rfl
  · have e' := e
    rw [e]
    show ((f0_sizeOfNeeding (f0_sizeOf n) (nI l) μ).bind _) = _
    rw [c_nd _ w fw hl h (by omega) (Or.inr e')]
    rfl
  · rw [e]
    show ((f0_lentSize (nI l) μ).bind _) = _
    rw [c_ls w hl h (by omega)]
    rfl
theorem c_mr {μ : xMu} {i n : Nat} (w : Pwf P) (ow : Owf P O) (fw : Fwf P F) (hl : l < pL P) (h : iC P O F μ i) (hi : i < 9) : f0_markOf (f0_sizeOf (n + 1)) (nI l) μ = some (aMk P F l, lvs 161 160 3 μ i (aTm P l)) := by
  have c := c_mk (f0_sizeOf (n + 1)) w fw hl h (by omega)
  have s := c_sz (n := n) w ow fw hl (h.lv w [22, 20]) (show i + 2 < 11 by omega)
  unfold aMk aTm
  unfold aSz aTs at s
  rcases k15 P l with e | e | e | e | e
  · rw [c.1 (Or.inl e), e]; rfl
  · rw [c.1 (Or.inr e), e]; rfl
  · rw [c.2.1 (Or.inl e), e]; rfl
  · rw [c.2.1 (Or.inr e), e]; rfl
  · rw [e] at s
    rw [c.2.2 e, e]
    show ((f0_sizeOf (n + 1) (nI l) (lvs 161 160 3 μ i [22, 20])).bind _) = _
    rw [s]
    rfl
end ASK
