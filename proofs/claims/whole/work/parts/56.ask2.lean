/-! PURE: ask, the reference's side -/
section ASKM
variable {P : xP} {O : xO} {F : Nat} {l : Nat}
theorem aw2 (ow : Owf P O) (e : P 3 l 0 = 2) : aw P O F l = F.testBit l := by
  unfold aw awU
  have e1 : O.any (fun q => q.1 == l) = false := by
    rw [Bool.eq_false_iff]
    intro z
    rw [List.any_eq_true] at z
    obtain ⟨q, hq, z⟩ := z
    have e2 : q.1 = l := by simpa using z
    have := (ow.2 q hq).2
    rw [e2] at this
    omega
  rw [e1, e]
  simp
theorem k34 {l : Nat} (e : kOf P l = 3 ∨ kOf P l = 4) : P 3 l 0 = 2 := by
  unfold kOf at e
  by_cases a : P 3 l 0 = 0
  · simp [a] at e
  · by_cases b : P 3 l 0 = 1
    · simp [b] at e
    · by_cases c : P 3 l 0 = 2
      · exact c
      · simp [a, b, c] at e
theorem k3n {l : Nat} (e : kOf P l = 3) : P 3 l 2 = 0 := by
  have h := k34 (Or.inl e)
  unfold kOf at e
  rw [h] at e
  by_cases c : P 3 l 2 = 0
  · exact c
  · simp [c] at e
theorem m_sz {μ : xMu} {i : Nat} (w : Pwf P) (ow : Owf P O) (fw : Fwf P F) (hl : l < pL P) (h : iM P O F μ i) (hi : i < 11) (e : kOf P l = 1 ∨ kOf P l = 2 ∨ kOf P l = 5) : f12_sizeOf (nI l) (nI (kOf P l)) μ = some (aSz P O F l, lvs 202 162 71 μ i (aTs P l)) := by
  have h8 := p8 w hl
  unfold aSz aTs
  rcases e with e | e | e
  · rw [e]
    show (f12_leaves 11 μ).bind (fun μ6 => f12_sizeOf_j25 (nI l) (nI 1) μ6) = _
    rw [u_lv h.2.2 (by omega)]
    show (f12_leaves 10 (lvs 202 162 71 μ i [11])).bind _ = _
    rw [u_lv (h.lv [11]).2.2 (show i + 1 < 16 by omega)]
    simp only [Option.bind_some]
    rw [a_ald h8 (by decide), (((h.lv [11]).lv [10]).1.2.2.2.1 l hl).2.1]
    show ((f12_openOf _ (nI l)).bind _) = _
    rw [u_opn w ow ((h.lv [11]).lv [10]).2.1 hl]
    show some (nI (P 3 l 1) + nI (opn O l), _) = _
    rw [nI_add]
    rfl
  · rw [e]
    show (f12_leaves 12 μ).bind (fun μ7 => f12_sizeOf_j11 (nI l) (nI 2) μ7) = _
    rw [u_lv h.2.2 (by omega)]
    show (f12_leaves 11 (lvs 202 162 71 μ i [12])).bind (fun μ6 => f12_sizeOf_j25 (nI l) (nI 2) μ6) = _
    rw [u_lv (h.lv [12]).2.2 (show i + 1 < 16 by omega)]
    show (f12_leaves 10 _).bind _ = _
    rw [u_lv ((h.lv [12]).lv [11]).2.2 (show i + 1 + 1 < 16 by omega)]
    simp only [Option.bind_some]
    rw [a_ald h8 (by decide), ((((h.lv [12]).lv [11]).lv [10]).1.2.2.2.1 l hl).2.1]
    show ((f12_openOf _ (nI l)).bind _) = _
    rw [u_opn w ow (((h.lv [12]).lv [11]).lv [10]).2.1 hl]
    show some (2 * (nI (P 3 l 1) + nI (opn O l)), _) = _
    rw [nI_add]
    rfl
  · rw [e]
    show (f12_leaves 10 μ).bind _ = _
    rw [u_lv h.2.2 (by omega)]
    simp only [Option.bind_some]
    rw [a_ald h8 (by decide), ((h.lv [10]).1.2.2.2.1 l hl).2.1]
    show some (nI (P 3 l 1) + nI 0, _) = _
    rw [nI_add, Nat.add_zero]
    rfl
theorem m_mk {μ : xMu} {i : Nat} (w : Pwf P) (ow : Owf P O) (fw : Fwf P F) (hl : l < pL P) (h : iM P O F μ i) (hi : i < 9) : f12_markOf (nI l) (nI (kOf P l)) μ = some (aMk P F l, lvs 202 162 71 μ i (aTm P l)) := by
  have h8 := p8 w hl
  have hB := w.1.2.2.2
  have key : ∀ (ν : xMu) (j : Nat), iM P O F ν j → j < 10 → f12_markOf_j25 (nI l) (nI (kOf P l)) ν = ((f12_isOf (nI (kOf P l)) (3 : Int32)).bind fun x8 => (if x8 = 0 then (if nI (kOf P l) = (5 : Int32) then ((f12_sizeOf (nI l) (nI (kOf P l)) (lvs 202 162 71 ν j [20])).bind fun q9 => (some ((nI (bod P l) + q9.1), q9.2))) else (some (nI (bod P l), lvs 202 162 71 ν j [20]))) else ((f12_isAwake (lvs 202 162 71 ν j [20]) (nI l)).bind fun x10 => (if x10 = 0 then (some (nI (bod P l), lvs 202 162 71 ν j [20])) else (some ((nI (bod P l) + (100 : Int32)), lvs 202 162 71 ν j [20])))))) := by
    intro ν j hν hj
    unfold f12_markOf_j25
    rw [u_lv hν.2.2 (by omega)]
    simp only [Option.bind_some]
    refine (l_bom w (hν.lv [20]).1 h8 (nI (kOf P l)) _ 1000 0 (pB P) 0 (by omega) (by omega)).trans ?_
    rw [Nat.zero_add]
    rfl
  unfold aMk aTm
  rcases k15 P l with e | e | e | e | e
  · have k := key μ i h (by omega)
    rw [e] at k ⊢
    exact k
  · have k := key μ i h (by omega)
    rw [e] at k ⊢
    exact k
  · have k := key (lvs 202 162 71 μ i [21]) (i + 1) (h.lv [21]) (by omega)
    have a := u_aw w ((h.lv [21]).lv [20]).1 ow fw ((h.lv [21]).lv [20]).2.1 hl
    rw [aw2 ow (k34 (Or.inl e))] at a
    rw [e] at k ⊢
    show (f12_leaves 21 μ).bind (fun μ12 => f12_markOf_j25 (nI l) (nI 3) μ12) = _
    rw [u_lv h.2.2 (by omega)]
    refine k.trans ?_
    show ((f12_isAwake (lvs 202 162 71 (lvs 202 162 71 μ i [21]) (i + 1) [20]) (nI l)).bind _) = _
    rw [show f12_isAwake (lvs 202 162 71 (lvs 202 162 71 μ i [21]) (i + 1) [20]) (nI l) = _ from a]
    cases F.testBit l
    · rfl
    · show some (nI (bod P l) + nI 100, _) = _
      rw [nI_add]
      rfl
  · have k := key (lvs 202 162 71 μ i [21]) (i + 1) (h.lv [21]) (by omega)
    have a := u_aw w ((h.lv [21]).lv [20]).1 ow fw ((h.lv [21]).lv [20]).2.1 hl
    rw [aw2 ow (k34 (Or.inr e))] at a
    rw [e] at k ⊢
    show (f12_leaves 21 μ).bind (fun μ12 => f12_markOf_j25 (nI l) (nI 4) μ12) = _
    rw [u_lv h.2.2 (by omega)]
    refine k.trans ?_
    show ((f12_isAwake (lvs 202 162 71 (lvs 202 162 71 μ i [21]) (i + 1) [20]) (nI l)).bind _) = _
    rw [show f12_isAwake (lvs 202 162 71 (lvs 202 162 71 μ i [21]) (i + 1) [20]) (nI l) = _ from a]
    cases F.testBit l
    · rfl
    · show some (nI (bod P l) + nI 100, _) = _
      rw [nI_add]
      rfl
  · have k := key (lvs 202 162 71 μ i [22]) (i + 1) (h.lv [22]) (by omega)
    have s := m_sz w ow fw hl ((h.lv [22]).lv [20]) (show i + 1 + 1 < 11 by omega) (Or.inr (Or.inr e))
    unfold aSz aTs at s
    rw [e] at k s ⊢
    show (f12_leaves 22 μ).bind (fun μ11 => f12_markOf_j25 (nI l) (nI 5) μ11) = _
    rw [u_lv h.2.2 (by omega)]
    refine k.trans ?_
    show ((f12_sizeOf (nI l) (nI 5) (lvs 202 162 71 (lvs 202 162 71 μ i [22]) (i + 1) [20])).bind _) = _
    rw [show f12_sizeOf (nI l) (nI 5) (lvs 202 162 71 (lvs 202 162 71 μ i [22]) (i + 1) [20]) = _ from s]
    rfl
end ASKM
