/-! PURE: same -/
def ansR (P : xP) (O : xO) (F t r v : Nat) (a : Int32) : Prop :=
  (∀ μ, PC P μ → CC O F μ → ∃ F' μ', f7_callOutermost 147 (nI t) (nI r) (nI v) μ = some (a, μ') ∧ CC O F' μ' ∧ gs (pC 147 0) μ μ') ∧
  (∀ μ, PM P μ → CM O F μ → ∃ F' μ', f12_outermost (nI t) (nI r) (nI v) μ = some (a, μ') ∧ CM O F' μ' ∧ gs (pD 0 0) μ μ')
theorem CC.w5 {O : xO} {F G : Nat} {μ : xMu} (cc : CC O F μ) : CC O G (x_wr μ 127 5 (nI G)) := ⟨cc.1, rfl, cc.2.2⟩
theorem PC.w5 {P : xP} {μ : xMu} {v : Int32} (w : Pwf P) (pc : PC P μ) : PC P (x_wr μ 127 5 v) := gPC (g := g9) w pc (gs.refl.wr rfl) rfl
theorem ans_ex {P : xP} {O : xO} {F F1 F2 t r v : Nat} {μc μm : xMu} (w : Pwf P) (pc : PC P μc) (cc : CC O F1 μc) (pm : PM P μm) (cm : CM O F2 μm) (ow : Owf P O) (fw : Fwf P F) (ht : t < pT P) (hr : r < 4) (hv : v < 1000003) : ∃ a, ansR P O F t r v a := by
  have hrn : rnr 147 := Or.inr rfl
  have pc1 := PC.w5 (v := nI F) w pc
  have cc1 := CC.w5 (G := F) cc
  have pm1 := PM.w44 (v := nI F) pm
  have cm1 := CM.w44 (G := F) cm
  obtain ⟨a, F', n, ν, ω, a1, a2, -⟩ := q_call w hrn pc1 cc1 pm1 cm1 ow fw ht hr hv
  refine ⟨a, fun μ p c => ?_, fun μ p c => ?_⟩
  · obtain ⟨b, G, m, ν2, ω2, b1, b2, b3, -, -, -, -, -, -, b10, -⟩ := q_call w hrn p c pm1 cm1 ow fw ht hr hv
    obtain rfl : b = a := (Prod.mk.inj (Option.some.inj (b2.symm.trans a2))).1
    exact ⟨G, ν2, b1, b3, b10⟩
  · obtain ⟨b, G, m, ν2, ω2, b1, b2, -, b4, -, -, -, -, -, -, b11⟩ := q_call w hrn pc1 cc1 p c ow fw ht hr hv
    obtain rfl : b = a := (Prod.mk.inj (Option.some.inj (b1.symm.trans a1))).1
    exact ⟨G, ω2, b2, b4, b11⟩
theorem ans_u {P : xP} {O : xO} {F F1 t r v : Nat} {a b : Int32} {μ : xMu} (pm : PM P μ) (cm : CM O F1 μ) (h1 : ansR P O F t r v a) (h2 : ansR P O F t r v b) : a = b := by
  obtain ⟨G1, ν1, c1, -⟩ := h1.2 _ (PM.w44 (v := nI F) pm) (CM.w44 (G := F) cm)
  obtain ⟨G2, ν2, c2, -⟩ := h2.2 _ (PM.w44 (v := nI F) pm) (CM.w44 (G := F) cm)
  exact (Prod.mk.inj (Option.some.inj (c1.symm.trans c2))).1
/-- without the layer the answer is the same -/
def okS (P : xP) (O : xO) (A l t r v m : Nat) : Prop := ∃ a, ansR P O m t r v a ∧ ansR P O (st P A (an m (2 ^ l)) (pL P)) t r v a
theorem and2 {m l : Nat} : (m &&& 2 ^ l = 0) = (m.testBit l = false) := by
  apply propext
  constructor
  · intro e
    have := congrArg (fun x => x.testBit l) e
    simp only [Nat.testBit_and, p2_bit, Nat.zero_testBit, decide_true, Bool.and_true] at this
    exact this
  · intro e
    apply Nat.eq_of_testBit_eq
    intro i
    rw [Nat.testBit_and, p2_bit, Nat.zero_testBit]
    by_cases c : l = i
    · subst c; rw [e]; rfl
    · rw [decide_eq_false c, Bool.and_false]
theorem an_wf {P : xP} {A m l : Nat} (fw : Fwf P m) : Fwf P (st P A (an m (2 ^ l)) (pL P)) := by
  have h1 := an_lt (b := 2 ^ l) fw.1
  refine fw_sub fw (st_lt h1 _) (fun t q => ?_)
  have := st_sub h1 _ t q
  rw [an_bit fw.1] at this
  simp only [Bool.and_eq_true] at this
  exact this.1
theorem l_cn {P : xP} {O : xO} {A l t r v F0 : Nat} {p : Nat → Bool} {ν : xMu} (w : Pwf P) (ow : Owf P O) (hA : ∀ l, A.testBit l = awU P O l) (hl : l < 8) (ht : t < pT P) (hr : r < 4) (hv : v < 1000003) (hp : ∀ m, p m = true → Fwf P m) (pmν : PM P ν) (cmν : CM O F0 ν) (k : Int32 → Int32 → xMu → Option (Int32 × xMu)) (v5 : Int32) : ∀ (f i b F' : Nat) (μ : xMu), b < 2 → i ≤ 256 → 256 < i + f → PC P μ → CC O F' μ → MK 159 p μ →
    ∃ b' F'' μ', f9_changesNothing_l20 k f (nI t) (nI r) (nI v) v5 (nI (2 ^ l)) (nI b) (nI i) μ = k v5 (nI b') μ' ∧ b' < 2 ∧ (b' = 1 ↔ b = 1 ∧ ∀ m, i ≤ m → m < 256 → p m = true → m.testBit l = true → okS P O A l t r v m) ∧ CC O F'' μ' ∧ gs (pC 147 0) μ μ' := by
  have hrn : rnr 147 := Or.inr rfl
  intro f
  induction f with
  | zero => intro i b F' μ _ _ h; omega
  | succ f ih =>
    intro i b F' μ hb hi hf pc cc mk
    unfold f9_changesNothing_l20 f9_changesNothing_j121 f9_changesNothing_j119 f9_changesNothing_j121
    by_cases c : 256 ≤ i
    · rw [if_pos (show (256 : Int32) ≤ nI i from nI_le (a := 256) c (by omega))]
      exact ⟨b, F', μ, rfl, hb, ⟨fun z => ⟨z, fun m x y => by omega⟩, fun z => z.1⟩, cc, gs.refl⟩
    · rw [if_neg (show ¬ (256 : Int32) ≤ nI i from nI_ge (b := 256) (by omega) (by decide))]
      by_cases b0 : b = 0
      · subst b0
        rw [if_pos (show nI 0 = 0 from rfl)]
        exact ⟨0, F', μ, rfl, by decide, ⟨fun z => absurd z (by decide), fun z => absurd z.1 (by decide)⟩, cc, gs.refl⟩
      · obtain rfl : b = 1 := by omega
        rw [if_neg (show ¬ nI 1 = 0 by decide), a_ald (by omega) (by decide), mk i (by omega), nI_1]
        simp only [if10]
        have skip : (p i = true → i.testBit l = true → okS P O A l t r v i) → ∃ b' F'' μ', f9_changesNothing_l20 k f (nI t) (nI r) (nI v) v5 (nI (2 ^ l)) (nI 1) (nI (i + 1)) μ = k v5 (nI b') μ' ∧ b' < 2 ∧ (b' = 1 ↔ True ∧ ∀ m, i ≤ m → m < 256 → p m = true → m.testBit l = true → okS P O A l t r v m) ∧ CC O F'' μ' ∧ gs (pC 147 0) μ μ' := by
          intro hno
          obtain ⟨b', F'', μ', a1, a2, a3, a4, a5⟩ := ih (i + 1) 1 F' μ (by decide) (by omega) (by omega) pc cc mk
          refine ⟨b', F'', μ', a1, a2, ?_, a4, a5⟩
          rw [a3]
          constructor
          · rintro ⟨-, z⟩
            refine ⟨trivial, fun m x y => ?_⟩
            by_cases e : m = i
            · subst e; exact hno
            · exact z m (by omega) y
          · rintro ⟨-, z⟩
            exact ⟨rfl, fun m x y => z m (by omega) y⟩
        cases e : p i with
        | false =>
          rw [if_pos rfl]
          exact skip (fun z => by rw [e] at z; cases z)
        | true =>
          rw [if_neg (by decide), b_and]
          by_cases tb : i.testBit l = true
          · have ne : ¬ i &&& 2 ^ l = 0 := by rw [and2, tb]; decide
            have hlt : i &&& 2 ^ l < 256 := Nat.lt_of_le_of_lt Nat.and_le_left (by omega)
            rw [if_neg (nI_ne0 (by omega) (by omega))]
            have fwi := hp i e
            obtain ⟨a1, ha1⟩ := ans_ex w pc cc pmν cmν ow fwi ht hr hv
            have fw2 := an_wf (A := A) (l := l) fwi
            obtain ⟨a2, ha2⟩ := ans_ex w pc cc pmν cmν ow fw2 ht hr hv
            obtain ⟨F1, μ1, x1, x2, x3⟩ := ha1.1 _ (PC.w5 (v := nI i) w pc) (CC.w5 (G := i) cc)
            have g1 : gs (pC 147 0) μ μ1 := (gs.refl.wr (pCy (by omega))).trans x3
            have pc1 := pCP hrn w pc g1
            obtain ⟨A', y1, y2, y3⟩ := t_au w pc1 ow x2
            obtain rfl : A' = A := Nat.eq_of_testBit_eq (fun l => by rw [y3 l, hA l])
            have set := t_stl w pc1 ow x2 y1 (an_lt (b := 2 ^ l) fwi.1)
            obtain ⟨F2, μ2, z1, z2, z3⟩ := ha2.1 _ (PC.w5 (v := nI (st P A' (an i (2 ^ l)) (pL P))) w pc1) (CC.w5 (G := st P A' (an i (2 ^ l)) (pL P)) x2)
            have g2 : gs (pC 147 0) μ μ2 := (g1.trans (gs.refl.wr (pCy (by omega)))).trans z3
            have mk2 : MK 159 p μ2 := fun m hm => by rw [g2 159 m (pCn (by omega))]; exact mk m hm
            unfold f2_setFound
            simp only [a_put, Option.bind_some]
            rw [x1, Option.bind_some, b_an (by omega), set, Option.bind_some, z1, Option.bind_some]
            have key : okS P O A' l t r v i ↔ a1 = a2 := by
              constructor
              · rintro ⟨a, q1, q2⟩
                rw [ans_u pmν cmν ha1 q1, ans_u pmν cmν ha2 q2]
              · intro q
                subst q
                exact ⟨a1, ha1, ha2⟩
            by_cases ea : a1 = a2
            · obtain ⟨b', F'', μ', c1, c2, c3, c4, c5⟩ := ih (i + 1) 1 F2 μ2 (by decide) (by omega) (by omega) (pCP hrn w pc g2) z2 mk2
              refine ⟨b', F'', μ', ?_, c2, ?_, c4, g2.trans c5⟩
              · rw [if_pos ea]
                exact c1
              · rw [c3]
                constructor
                · rintro ⟨-, z⟩
                  refine ⟨trivial, fun m x y => ?_⟩
                  by_cases em : m = i
                  · subst em; exact fun _ _ => key.mpr ea
                  · exact z m (by omega) y
                · rintro ⟨-, z⟩
                  exact ⟨rfl, fun m x y => z m (by omega) y⟩
            · obtain ⟨b', F'', μ', c1, c2, c3, c4, c5⟩ := ih (i + 1) 0 F2 μ2 (by decide) (by omega) (by omega) (pCP hrn w pc g2) z2 mk2
              refine ⟨b', F'', μ', ?_, c2, ?_, c4, g2.trans c5⟩
              · rw [if_neg ea]
                exact c1
              · rw [c3]
                constructor
                · rintro ⟨z, -⟩
                  exact absurd z (by decide)
                · rintro ⟨-, z⟩
                  exact absurd (key.mp (z i (Nat.le_refl i) (by omega) e tb)) ea
          · have tf : i.testBit l = false := Bool.eq_false_iff.mpr tb
            rw [show i &&& 2 ^ l = 0 from and2.mpr tf, if_pos (show nI 0 = 0 from rfl)]
            exact skip (fun _ z => absurd z tb)
/-- what asking for the same writes in the reference -/
def pS : Nat → Nat → Bool := fun a b => pD 0 0 a b || a == 184
theorem pSD {μ μ' : xMu} (g : gs (pD 0 0) μ μ') : gs pS μ μ' := g.mono (fun a b z => by unfold pS; rw [z]; rfl)
theorem pSW {μ μ' : xMu} (g : gs pW μ μ') : gs pS μ μ' := g.mono (fun a b z => by
  unfold pS
  rcases (of_decide_eq_true z : a = 184 ∨ (a = 162 ∧ b = 44)) with rfl | ⟨rfl, rfl⟩
  · simp
  · rw [pDy (by omega)]; rfl)
theorem pSn {a b : Nat} (h : pD 0 0 a b = false) (h2 : a ≠ 184) : pS a b = false := by
  unfold pS
  rw [h, beq_false_of_ne h2]
  rfl
theorem pSP {P : xP} {μ μ' : xMu} (pm : PM P μ) (g : gs pS μ μ') : PM P μ' :=
  pm.of (fun j hj => g 162 j (pSn (pDn (by omega)) (by omega))) (fun k a b => g.row fun j => pSn (pDn (by omega)) (by omega))
theorem l_sm {P : xP} {O : xO} {A l t r v g N F0 : Nat} {ν : xMu} (w : Pwf P) (ow : Owf P O) (hA : ∀ l, A.testBit l = awU P O l) (hl : l < 8) (ht : t < pT P) (hr : r < 4) (hv : v < 1000003) (hg : 1 ≤ g ∧ g ≤ 3) (hN : N ≤ 256) (eN : f12_worlds (nI g) = some (nI N)) (pcν : PC P ν) (ccν : CC O F0 ν) (k : Int32 → xMu → Option (Int32 × xMu)) : ∀ (f i b F' : Nat) (μ : xMu), b < 2 → i ≤ N → N < i + f → PM P μ → CM O F' μ →
    ∃ b' F'' μ', f12_same_l78 k f (nI l) (nI t) (nI r) (nI v) (nI g) (nI b) (nI i) μ = k (nI b') μ' ∧ b' < 2 ∧ (b' = 1 ↔ b = 1 ∧ ∀ q, i ≤ q → q < N → (fpt P A (wv g q)).testBit l = true → okS P O A l t r v (fpt P A (wv g q))) ∧ CM O F'' μ' ∧ gs pS μ μ' := by
  intro f
  induction f with
  | zero => intro i b F' μ _ _ h; omega
  | succ f ih =>
    intro i b F' μ hb hi hf pm cm
    unfold f12_same_l78 f12_same_j163 f12_same_j165
    rw [eN, Option.bind_some]
    by_cases c : N ≤ i
    · rw [if_pos (nI_le c (by omega))]
      exact ⟨b, F', μ, rfl, hb, ⟨fun z => ⟨z, fun m x y => by omega⟩, fun z => z.1⟩, cm, gs.refl⟩
    · rw [if_neg (nI_ge (by omega) (by omega))]
      by_cases b0 : b = 0
      · subst b0
        rw [if_pos (show nI 0 = 0 from rfl)]
        exact ⟨0, F', μ, rfl, by decide, ⟨fun z => absurd z (by decide), fun z => absurd z.1 (by decide)⟩, cm, gs.refl⟩
      · obtain rfl : b = 1 := by omega
        obtain ⟨μa, a1, a2, a3⟩ := u_mow w pm ow cm hA hg (show i < 2 ^ 31 by omega)
        have fwi := fpt_wf (A := A) (v := wv g i) w
        have ga := pSW a3
        have pma := pSP pm ga
        rw [if_neg (show ¬ nI 1 = 0 by decide), a1, Option.bind_some, a2.2.1, nI_1]
        have tbe := b_tb1 (m := fpt P A (wv g i)) (l := l) (by have := fwi.1; omega) hl
        by_cases tb : (fpt P A (wv g i)).testBit l = true
        · obtain ⟨x1, hx1⟩ := ans_ex w pcν ccν pma a2 ow fwi ht hr hv
          have fw2 := an_wf (A := A) (l := l) fwi
          obtain ⟨x2, hx2⟩ := ans_ex w pcν ccν pma a2 ow fw2 ht hr hv
          obtain ⟨F1, μ1, y1, y2, y3⟩ := hx1.2 _ pma a2
          have g1 := ga.trans (pSD y3)
          have pm1 := PM.w44 (v := nI (an (fpt P A (wv g i)) (2 ^ l))) (pSP pm g1)
          have cm1 := CM.w44 (G := an (fpt P A (wv g i)) (2 ^ l)) y2
          have fwA : Fwf P (an (fpt P A (wv g i)) (2 ^ l)) := fw_sub fwi (an_lt fwi.1) (fun t q => by
            rw [an_bit fwi.1] at q
            simp only [Bool.and_eq_true] at q
            exact q.1)
          have los := u_los w pm1 ow fwA cm1 hA
          obtain ⟨F2, μ2, z1, z2, z3⟩ := hx2.2 _ (PM.w44 (v := nI (st P A (an (fpt P A (wv g i)) (2 ^ l)) (pL P))) pm1) (CM.w44 (G := st P A (an (fpt P A (wv g i)) (2 ^ l)) (pL P)) cm1)
          have g2 : gs pS μ μ2 := ((g1.trans (gs.refl.wr (by unfold pS; rw [pDy (by omega)]; rfl))).trans (gs.refl.wr (by unfold pS; rw [pDy (by omega)]; rfl))).trans (pSD z3)
          rw [if_pos (tbe.mpr tb), y1, Option.bind_some, a_put, b_sh l hl, b_an fwi.1, los, Option.bind_some, z1, Option.bind_some]
          have key : okS P O A l t r v (fpt P A (wv g i)) ↔ x2 = x1 := by
            constructor
            · rintro ⟨a, q1, q2⟩
              rw [ans_u pma a2 hx1 q1, ans_u pma a2 hx2 q2]
            · intro q
              subst q
              exact ⟨x2, hx1, hx2⟩
          by_cases ea : x2 = x1
          · obtain ⟨b', F'', μ', c1, c2, c3, c4, c5⟩ := ih (i + 1) 1 F2 μ2 (by decide) (by omega) (by omega) (pSP pm g2) z2
            refine ⟨b', F'', μ', ?_, c2, ?_, c4, g2.trans c5⟩
            · rw [if_pos ea]
              exact c1
            · rw [c3]
              constructor
              · rintro ⟨-, z⟩
                refine ⟨rfl, fun m x y => ?_⟩
                by_cases em : m = i
                · subst em; exact fun _ => key.mpr ea
                · exact z m (by omega) y
              · rintro ⟨-, z⟩
                exact ⟨rfl, fun m x y => z m (by omega) y⟩
          · obtain ⟨b', F'', μ', c1, c2, c3, c4, c5⟩ := ih (i + 1) 0 F2 μ2 (by decide) (by omega) (by omega) (pSP pm g2) z2
            refine ⟨b', F'', μ', ?_, c2, ?_, c4, g2.trans c5⟩
            · rw [if_neg ea]
              exact c1
            · rw [c3]
              constructor
              · rintro ⟨z, -⟩
                exact absurd z (by decide)
              · rintro ⟨-, z⟩
                exact absurd (key.mp (z i (Nat.le_refl i) (by omega) tb)) ea
        · rw [if_neg (fun z => tb (tbe.mp z))]
          obtain ⟨b', F'', μ', c1, c2, c3, c4, c5⟩ := ih (i + 1) 1 _ μa (by decide) (by omega) (by omega) pma a2
          refine ⟨b', F'', μ', c1, c2, ?_, c4, ga.trans c5⟩
          rw [c3]
          constructor
          · rintro ⟨-, z⟩
            refine ⟨rfl, fun m x y => ?_⟩
            by_cases em : m = i
            · subst em; exact fun h => absurd h tb
            · exact z m (by omega) y
          · rintro ⟨-, z⟩
            exact ⟨rfl, fun m x y => z m (by omega) y⟩
