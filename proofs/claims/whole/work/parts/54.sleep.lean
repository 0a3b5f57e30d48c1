/-! PURE: sleep -/
def lst (O : xO) (l : Nat) : Nat → Option Nat
  | 0 => none
  | j + 1 => if (O[j]?.map (fun q => q.1)) = some l then some j else lst O l j
theorem lst_lt {O : xO} {l : Nat} : ∀ j i, lst O l j = some i → i < j := by
  intro j
  induction j with
  | zero => intro i h; cases h
  | succ j ih =>
    intro i h
    unfold lst at h
    split at h
    · cases h; omega
    · have := ih i h; omega
theorem l_fnc {P : xP} {O : xO} {F : Nat} {μ : xMu} (w : Pwf P) (ow : Owf P O) (cc : CC O F μ) {l : Nat} (hl : l < pL P) (k : Int32 → xMu → Option (Int32 × xMu)) : ∀ (j f : Nat), j ≤ O.length → j < f → f2_closeLatest_l7 k f (nI l) (nI j - 1) μ = match lst O l j with
    | some i => k (nI i) μ
    | none => k (-1) μ := by
  intro j
  induction j with
  | zero =>
    intro f _ hf
    obtain ⟨f, rfl⟩ : ∃ g, f = g + 1 := ⟨f - 1, by omega⟩
    unfold f2_closeLatest_l7
    rw [if_pos (by decide)]
    rfl
  | succ j ih =>
    intro f hj hf
    obtain ⟨f, rfl⟩ : ∃ g, f = g + 1 := ⟨f - 1, by omega⟩
    have h16 := ow.1
    have hi : j < O.length := by omega
    have hq := p8 w (ow.2 O[j] (List.getElem_mem hi)).1
    have h8 := p8 w hl
    unfold f2_closeLatest_l7 lst
    rw [nI_pred, if_neg (nI_pos (by omega)), a_ald (by omega) (by decide), (cc.2.2 j _ (g_some hi)).1, g_some hi, m1]
    by_cases e : O[j].1 = l
    · rw [if_pos (by rw [e]), if_pos (by simp [e])]
    · rw [if_neg (nI_ne (by omega) (by omega) e), if_neg (by simpa using e)]
      exact ih f (by omega) (by omega)
theorem l_fnm {P : xP} {O : xO} {F : Nat} {μ : xMu} (w : Pwf P) (ow : Owf P O) (cm : CM O F μ) {l : Nat} (hl : l < pL P) (k : xMu → Option (Int32 × xMu)) : ∀ (j f : Nat), j ≤ O.length → j < f → f12_sleep_l23 k f (nI l) (nI j - 1) μ = match lst O l j with
    | some i => ((f12_close (nI i) μ).bind fun μ4 => (some ((μ4 162 41), μ4)))
    | none => k μ := by
  intro j
  induction j with
  | zero =>
    intro f _ hf
    obtain ⟨f, rfl⟩ : ∃ g, f = g + 1 := ⟨f - 1, by omega⟩
    unfold f12_sleep_l23
    rw [if_pos (by decide)]
    rfl
  | succ j ih =>
    intro f hj hf
    obtain ⟨f, rfl⟩ : ∃ g, f = g + 1 := ⟨f - 1, by omega⟩
    have h16 := ow.1
    have hi : j < O.length := by omega
    have hq := p8 w (ow.2 O[j] (List.getElem_mem hi)).1
    have h8 := p8 w hl
    unfold f12_sleep_l23 lst
    rw [nI_pred, if_neg (nI_pos (by omega)), a_ald (by omega) (by decide), (cm.2.2 j _ (g_some hi)).1, g_some hi, m1]
    by_cases e : O[j].1 = l
    · rw [if_pos (by rw [e]), if_pos (by simp [e])]
    · rw [if_neg (nI_ne (by omega) (by omega) e), if_neg (by simpa using e)]
      exact ih f (by omega) (by omega)
def pO : Nat → Nat → Bool := fun a _ => a == 129 || a == 130
def qO : Nat → Nat → Bool := fun a _ => a == 185 || a == 186
theorem l_shc (k : xMu → Option (Int32 × xMu)) {n : Nat} (hn : n ≤ 16) (h0 : 0 < n) : ∀ (f i : Nat) (μ : xMu), i < n → n < i + f → μ 127 4 = nI n →
    ∃ μ', f2_closeLatest_l35 k f (nI i) μ = k μ' ∧ gs pO μ μ' ∧ (∀ j, j < i → μ' 129 j = μ 129 j ∧ μ' 130 j = μ 130 j) ∧ ∀ j, i ≤ j → j + 1 < n → μ' 129 j = μ 129 (j + 1) ∧ μ' 130 j = μ 130 (j + 1) := by
  intro f
  induction f with
  | zero => intro i μ _ h; omega
  | succ f ih =>
    intro i μ hi hf e
    unfold f2_closeLatest_l35
    rw [e, show (1 : Int32) = nI 1 from rfl, pk_sub (by omega), nI_add]
    by_cases c : n - 1 ≤ i
    · rw [if_pos (nI_le c (by omega))]
      exact ⟨μ, rfl, gs.refl, fun j _ => ⟨rfl, rfl⟩, fun j a b => by omega⟩
    · rw [if_neg (nI_ge (by omega) (by omega)), a_ald (by omega) (by decide), a_ast (by omega) (by decide), a_ald (by omega) (by decide), a_ast (by omega) (by decide)]
      obtain ⟨μ', a1, a2, a3, a4⟩ := ih (i + 1) (x_wr (x_wr μ 129 i (μ 129 (i + 1))) 130 i ((x_wr μ 129 i (μ 129 (i + 1))) 130 (i + 1))) (by omega) (by omega) e
      refine ⟨μ', a1, ((gs.refl.wr rfl).wr rfl).trans a2, fun j hj => ?_, fun j x y => ?_⟩
      · rw [(a3 j (by omega)).1, (a3 j (by omega)).2]
        have : ¬ j = i := by omega
        simp [x_wr, this]
      · by_cases z : j = i
        · subst z
          rw [(a3 j (by omega)).1, (a3 j (by omega)).2]
          simp [x_wr]
        · rw [(a4 j (by omega) y).1, (a4 j (by omega) y).2]
          have : ¬ j + 1 = i := by omega
          simp [x_wr, this]
theorem l_shm (k : xMu → Option xMu) {n : Nat} (hn : n < 16) : ∀ (f i : Nat) (μ : xMu), i ≤ n → n < i + f → μ 162 41 = nI n →
    ∃ μ', f12_close_l12 k f (nI i) μ = k μ' ∧ gs qO μ μ' ∧ (∀ j, j < i → μ' 185 j = μ 185 j ∧ μ' 186 j = μ 186 j) ∧ ∀ j, i ≤ j → j < n → μ' 185 j = μ 185 (j + 1) ∧ μ' 186 j = μ 186 (j + 1) := by
  intro f
  induction f with
  | zero => intro i μ _ h; omega
  | succ f ih =>
    intro i μ hi hf e
    unfold f12_close_l12
    rw [e, nI_1]
    by_cases c : n ≤ i
    · rw [if_pos (nI_le c (by omega))]
      exact ⟨μ, rfl, gs.refl, fun j _ => ⟨rfl, rfl⟩, fun j a b => by omega⟩
    · rw [if_neg (nI_ge (by omega) (by omega)), a_ald (by omega) (by decide), a_ast (by omega) (by decide), a_ald (by omega) (by decide), a_ast (by omega) (by decide)]
      obtain ⟨μ', a1, a2, a3, a4⟩ := ih (i + 1) (x_wr (x_wr μ 185 i (μ 185 (i + 1))) 186 i ((x_wr μ 185 i (μ 185 (i + 1))) 186 (i + 1))) (by omega) (by omega) e
      refine ⟨μ', a1, ((gs.refl.wr rfl).wr rfl).trans a2, fun j hj => ?_, fun j x y => ?_⟩
      · rw [(a3 j (by omega)).1, (a3 j (by omega)).2]
        have : ¬ j = i := by omega
        simp [x_wr, this]
      · by_cases z : j = i
        · subst z
          rw [(a3 j (by omega)).1, (a3 j (by omega)).2]
          simp [x_wr]
        · rw [(a4 j (by omega) y).1, (a4 j (by omega) y).2]
          have : ¬ j + 1 = i := by omega
          simp [x_wr, this]
theorem Owf.erase {P : xP} {O : xO} (ow : Owf P O) (i : Nat) : Owf P (O.eraseIdx i) := by
  refine ⟨Nat.le_trans (List.length_eraseIdx_le O i) ow.1, fun q hq => ow.2 q (List.mem_of_mem_eraseIdx hq)⟩
/-- the class's closing of waking i -/
theorem t_cls {P : xP} {O : xO} {F : Nat} {μ : xMu} (w : Pwf P) (pc : PC P μ) (ow : Owf P O) (fw : Fwf P F) (cc : CC O F μ) {i : Nat} (hi : i < O.length) : ∃ A μ', f2_closeLatest_j27 (nI i) μ = some (1, μ') ∧ (∀ l, A.testBit l = awU P (O.eraseIdx i) l) ∧ CC (O.eraseIdx i) (st P A F (pL P)) μ' ∧ gs (fun a b => a == 129 || a == 130 || a == 127) μ μ' := by
  have h16 := ow.1
  obtain ⟨μa, a1, a2, a3, a4⟩ := l_shc (fun (μ8 : xMu) => (x_put μ8 127 4 ((μ8 127 4) - (1 : Int32)) fun μ9 => ((f2_settled μ9 (μ9 127 5)).bind fun x10 => (x_put μ9 127 5 x10 fun μ11 => (some ((1 : Int32), μ11)))))) h16 (by omega) 1000 i μ hi (by omega) cc.1
  have len : (O.eraseIdx i).length = O.length - 1 := List.length_eraseIdx_of_lt hi
  have c4 : μa 127 4 = nI O.length := by rw [a2 127 4 rfl]; exact cc.1
  have cc1 : CC (O.eraseIdx i) F (x_wr μa 127 4 (nI (O.length - 1))) := by
    refine ⟨by rw [len]; rfl, ?_, ?_⟩
    · show μa 127 5 = _
      rw [a2 127 5 rfl]; exact cc.2.1
    · intro j q hq
      show μa 129 j = _ ∧ μa 130 j = _
      rw [List.getElem?_eraseIdx] at hq
      split at hq
      · next c =>
        rw [(a3 j c).1, (a3 j c).2]
        exact cc.2.2 j q hq
      · next c =>
        have hj : j + 1 < O.length := (List.getElem?_eq_some_iff.mp hq).1
        rw [(a4 j (by omega) hj).1, (a4 j (by omega) hj).2]
        exact cc.2.2 (j + 1) q hq
  have pc1 : PC P (x_wr μa 127 4 (nI (O.length - 1))) := by
    refine pc.of (fun j _ _ => ?_) (fun k a b => ?_) w
    · rw [x_wr_ne (by decide)]; exact a2 16 j rfl
    · rw [x_wr_ne (by omega)]
      refine a2.row fun j => ?_
      unfold pO
      rw [beq_false_of_ne (show k ≠ 129 by omega), beq_false_of_ne (show k ≠ 130 by omega)]
      rfl
  have ow1 := ow.erase i
  obtain ⟨A, b1, b2, b3⟩ := t_au w pc1 ow1 cc1
  refine ⟨A, x_wr (x_wr μa 127 4 (nI (O.length - 1))) 127 5 (nI (st P A F (pL P))), ?_, b3, ?_, ?_⟩
  · unfold f2_closeLatest_j27
    rw [if_pos (nI_pos' (by omega))]
    refine a1.trans ?_
    rw [a_put, c4, show (1 : Int32) = nI 1 from rfl, pk_sub (by omega), cc1.2.1, t_stl w pc1 ow1 cc1 b1 fw.1]
    rfl
  · exact ⟨cc1.1, rfl, cc1.2.2⟩
  · refine (a2.mono ?_).trans ((gs.refl.wr rfl).wr rfl)
    intro k j q
    unfold pO at q
    rw [q]
    rfl
/-- the reference's -/
theorem u_cls {P : xP} {O : xO} {F A : Nat} {μ : xMu} (w : Pwf P) (pm : PM P μ) (ow : Owf P O) (fw : Fwf P F) (cm : CM O F μ) {i : Nat} (hi : i < O.length) (hA : ∀ l, A.testBit l = awU P (O.eraseIdx i) l) : ∃ μ', f12_close (nI i) μ = some μ' ∧ CM (O.eraseIdx i) (st P A F (pL P)) μ' ∧ gs (fun a b => a == 185 || a == 186 || (a == 162 && (b == 41 || b == 44))) μ μ' := by
  have h16 := ow.1
  have len : (O.eraseIdx i).length = O.length - 1 := List.length_eraseIdx_of_lt hi
  obtain ⟨μa, a1, a2, a3, a4⟩ := l_shm (fun (μ6 : xMu) => ((f12_lose μ6).bind fun μ7 => (some μ7))) (n := O.length - 1) (by omega) 1000 i (x_wr μ 162 41 (nI (O.length - 1))) (by omega) (by omega) rfl
  have cm1 : CM (O.eraseIdx i) F μa := by
    refine ⟨?_, ?_, ?_⟩
    · rw [a2 162 41 rfl, len]; rfl
    · rw [a2 162 44 rfl]; exact cm.2.1
    · intro j q hq
      rw [List.getElem?_eraseIdx] at hq
      split at hq
      · next c =>
        rw [(a3 j c).1, (a3 j c).2]
        exact cm.2.2 j q hq
      · next c =>
        have hj : j + 1 < O.length := (List.getElem?_eq_some_iff.mp hq).1
        rw [(a4 j (by omega) (by omega)).1, (a4 j (by omega) (by omega)).2]
        exact cm.2.2 (j + 1) q hq
  have pm1 : PM P μa := by
    refine pm.of (fun j hj => ?_) (fun k a b => ?_)
    · rw [a2 162 j rfl, w_wr, if_neg (by omega)]
    · rw [a2.row (k := k), x_wr_ne (by omega)]
      intro j
      unfold qO
      rw [beq_false_of_ne (show k ≠ 185 by omega), beq_false_of_ne (show k ≠ 186 by omega)]
      rfl
  refine ⟨x_wr μa 162 44 (nI (st P A F (pL P))), ?_, ?_, ?_⟩
  · unfold f12_close
    rw [a_put, cm.1, show (1 : Int32) = nI 1 from rfl, pk_sub (by omega)]
    refine a1.trans ?_
    rw [u_los w pm1 (ow.erase i) fw cm1 hA]
    rfl
  · exact ⟨cm1.1, rfl, cm1.2.2⟩
  · refine (((gs.refl.wr rfl : gs _ μ (x_wr μ 162 41 (nI (O.length - 1)))).trans (a2.mono ?_))).wr rfl
    intro k j q
    unfold qO at q
    rw [q]
    rfl
theorem s_sleep : x_S_sleep x_R := by
  intro v1 μ h
  obtain ⟨P, O, F, w, pc, pm, ow, fw, cc, cm⟩ := h.2.2.2.2.2.2.2
  have h16 := ow.1
  rcases rb_dec v1 (pL P) with hv | hv
  · have b1 := (t_isLayer w pc).1 hv
    obtain ⟨l, hl, rfl⟩ := rb_of hv
    have s1 := l_fnc w ow cc hl (fun (y2 : Int32) (μ3 : xMu) => (f2_closeLatest_j27 y2 μ3)) O.length 1000 (by omega) (by omega)
    have s2 : ∀ μ', PM P μ' → CM O F μ' → f12_sleep (nI l) μ' = match lst O l O.length with
        | some i => ((f12_close (nI i) (x_wr μ' 162 0 0)).bind fun μ4 => (some ((μ4 162 41), μ4)))
        | none => some (-1000002, x_wr μ' 162 0 0) := by
      intro μ' p' c'
      unfold f12_sleep
      simp only [a_put, (u_isLayer w p'.t0).1 hv, Option.bind_some, e10, if_false]
      rw [c'.t0.1]
      exact l_fnm w ow c'.t0 hl (fun (μ5 : xMu) => (some ((-1000002 : Int32), μ5))) O.length 1000 (by omega) (by omega)
    cases e : lst O l O.length with
    | none =>
      rw [e] at s1 s2
      refine ⟨-1000002, μ, x_wr μ 162 0 0, ?_, s2 μ pm cm, h.t0⟩
      unfold f11_sleep f2_closeLatest
      simp only [b1, Option.bind_some, e10, if_false]
      rw [cc.1, s1]
      unfold f2_closeLatest_j27
      rw [if_neg (by decide)]
      rfl
    | some i =>
      rw [e] at s1 s2
      have hi := lst_lt _ _ e
      obtain ⟨A, μa, a1, a2, a3, a4⟩ := t_cls w pc ow fw cc hi
      have len : (O.eraseIdx i).length = O.length - 1 := List.length_eraseIdx_of_lt hi
      have pm1 : PM P μa := by
        refine pm.of (fun j hj => a4 162 j rfl) (fun k x y => a4.row fun j => ?_)
        rw [beq_false_of_ne (show k ≠ 129 by omega), beq_false_of_ne (show k ≠ 130 by omega), beq_false_of_ne (show k ≠ 127 by omega)]
        rfl
      have cm1 : CM O F μa := cm.of (a4 162 41 rfl) (a4 162 44 rfl) (a4.row fun _ => rfl) (a4.row fun _ => rfl)
      obtain ⟨μb, c1, c2, c3⟩ := u_cls w pm1.t0 ow fw cm1.t0 hi a2
      refine ⟨nI (O.length - 1), μa, μb, ?_, ?_, ?_⟩
      · unfold f11_sleep f2_closeLatest f2_openCount
        simp only [b1, Option.bind_some, e10, if_false]
        rw [cc.1, s1]
        show ((f2_closeLatest_j27 (nI i) μ).bind _) = _
        rw [a1]
        simp only [Option.bind_some, e10, if_false]
        rw [a3.1, len]
      · rw [s2 μa pm1 cm1]
        show ((f12_close (nI i) (x_wr μa 162 0 0)).bind _) = _
        rw [c1]
        simp only [Option.bind_some]
        rw [c2.1, len]
      · refine h.cir w pc pm (O := O.eraseIdx i) (F := st P A F (pL P)) ?_ (ow.erase i) (fw_sub fw (st_lt fw.1 _) (st_sub fw.1 _)) (a3.of ?_ ?_ ?_ ?_) c2
        · refine (a4.mono ?_).trans ((gs.refl.wr rfl).trans (c3.mono ?_))
          · intro k j q
            simp only [Bool.or_eq_true, beq_iff_eq] at q
            rcases q with (rfl | rfl) | rfl
            · rfl
            · rfl
            · show g9 (if j = 4 ∨ j = 5 then 9 else 0) = true
              split <;> rfl
          · intro k j q
            simp only [Bool.or_eq_true, Bool.and_eq_true, beq_iff_eq] at q
            rcases q with (rfl | rfl) | ⟨rfl, rfl | rfl⟩ <;> rfl
        · rw [c3 127 4 rfl]; rfl
        · rw [c3 127 5 rfl]; rfl
        · rw [c3.row (k := 129) fun _ => rfl]; rfl
        · rw [c3.row (k := 130) fun _ => rfl]; rfl
  · refine e_no (f := f11_sleep v1) (g := f12_sleep v1) h ?_ ?_
    · unfold f11_sleep
      simp only [(t_isLayer w pc).2 hv, Option.bind_some, e00, if_true]
    · unfold f12_sleep
      simp only [a_put, (u_isLayer w pm.t0).2 hv, Option.bind_some, e00, if_true]
