/-! PURE: ask, the end -/
theorem m_as {P : xP} {O : xO} {F l : Nat} {μ : xMu} {i : Nat} (w : Pwf P) (ow : Owf P O) (fw : Fwf P F) (hl : l < pL P) (h : iM P O F μ i) (hi : i < 6) (e : kOf P l = 3 ∨ kOf P l = 4) : f12_askedSize (nI l) (nI (kOf P l)) μ = some (aSz P O F l, lvs 202 162 71 μ i (aTs P l)) := by
  have h8 := p8 w hl
  have key : ∀ (ν : xMu) (j : Nat), iM P O F ν j → j < 7 → f12_askedSize_j11 (nI l) (nI (kOf P l)) ν = some (nI (P 3 l 1 + (bod P l + if F.testBit l then 100 else 0) + lcn (fun t => (P 3 l 2).testBit t) 0 8), lvs 202 162 71 ν j [13, 10, 21, 20]) := by
    intro ν j hν hj
    have m := m_mk w ow fw hl ((hν.lv [13]).lv [10]) (show j + 1 + 1 < 9 by omega)
    have a1 : aMk P F l = nI (bod P l + if F.testBit l then 100 else 0) := by
      unfold aMk
      rw [if_neg (by omega), if_pos e]
    have a2 : aTm P l = [21, 20] := by
      unfold aTm
      rw [if_neg (by omega), if_pos e]
    rw [a1, a2] at m
    unfold f12_askedSize_j11
    rw [u_lv hν.2.2 (by omega)]
    simp only [Option.bind_some]
    rw [show f12_leaves 10 (lvs 202 162 71 ν j [13]) = _ from u_lv (hν.lv [13]).2.2 (show j + 1 < 16 by omega) 10]
    simp only [Option.bind_some]
    rw [a_ald h8 (by decide), (((hν.lv [13]).lv [10]).1.2.2.2.1 l hl).2.1]
    rw [m]
    simp only [Option.bind_some]
    rw [a_ald h8 (by decide), ((((hν.lv [13]).lv [10]).lv [21, 20]).1.2.2.2.1 l hl).2.2.1, bitm _ (nlt w hl).1]
    simp only [Option.bind_some, nI_add]
    rfl
  unfold aSz aTs
  rcases e with e | e
  · have k := key μ i h (by omega)
    rw [k3n e] at k
    rw [e] at k ⊢
    exact k
  · have k := key (lvs 202 162 71 μ i [14]) (i + 1) (h.lv [14]) (by omega)
    rw [e] at k ⊢
    show (f12_leaves 14 μ).bind (fun μ7 => f12_askedSize_j11 (nI l) (nI 4) μ7) = _
    rw [u_lv h.2.2 (by omega)]
    exact k
theorem x_R.trs {μ : xMu} (h : x_R μ) (ts : List Int32) (hl : ts.length ≤ 16) : x_R (lvs 202 162 71 (x_wr (x_wr (lvs 161 160 3 (x_wr μ 160 3 0) 0 ts) 162 0 0) 162 71 0) 0 ts) := by
  have g1 : gs (fun k j => gT (x_gr k j)) μ (lvs 161 160 3 (x_wr μ 160 3 0) 0 ts) := (gs.refl.wr rfl).trans (lvs_gs _ _ _ (fun _ => rfl) rfl _ _ _)
  refine h.grp gT ((g1.wr rfl).wr rfl |>.trans (lvs_gs _ _ _ (fun _ => rfl) rfl _ _ _)) (Or.inl rfl) (Or.inl rfl) (Or.inl rfl) (Or.inl rfl) (Or.inl rfl) (Or.inl rfl) (Or.inr ?_) (Or.inl ⟨rfl, rfl⟩)
  have q : gs (fun a b => a == 202 || (a == 162 && b == 71)) (x_wr (x_wr (lvs 161 160 3 (x_wr μ 160 3 0) 0 ts) 162 0 0) 162 71 0) (lvs 202 162 71 (x_wr (x_wr (lvs 161 160 3 (x_wr μ 160 3 0) 0 ts) 162 0 0) 162 71 0) 0 ts) := lvs_gs _ _ _ (fun _ => rfl) rfl _ _ _
  refine ⟨ts.length, hl, ?_, ?_, fun i hi => ?_⟩
  · rw [q 160 3 rfl]
    show (lvs 161 160 3 (x_wr μ 160 3 0) 0 ts) 160 3 = _
    rw [lvs_cnt _ _ _ (by decide) _ _ _ (show (x_wr μ 160 3 0) 160 3 = nI 0 from rfl), Nat.zero_add]
  · rw [lvs_cnt _ _ _ (by decide) _ _ _ rfl, Nat.zero_add]
  · rw [q 161 i rfl]
    show (lvs 161 160 3 (x_wr μ 160 3 0) 0 ts) 161 i = _
    have a := lvs_at 161 160 3 (by decide) ts 0 i (x_wr μ 160 3 0) hi
    have b := lvs_at 202 162 71 (by decide) ts 0 i (x_wr (x_wr (lvs 161 160 3 (x_wr μ 160 3 0) 0 ts) 162 0 0) 162 71 0) hi
    rw [Nat.zero_add] at a b
    rw [a, b]
theorem s_ask : x_S_ask x_R := by
  intro v1 v2 μ h
  obtain ⟨P, O, F, w, pc, pm, ow, fw, cc, cm⟩ := h.2.2.2.2.2.2.2
  have no : f11_ask v1 v2 μ = some (-1000001, μ) → f12_ask v1 v2 μ = some (-1000001, x_wr μ 162 0 0) → ∃ (r : Int32) (μ1 μ2 : xMu), f11_ask v1 v2 μ = some (r, μ1) ∧ f12_ask v1 v2 μ1 = some (r, μ2) ∧ x_R μ2 := fun a b => ⟨_, _, _, a, b, h.t0⟩
  rcases rb_dec v1 (pL P) with hv | hv
  · have b1 := (t_isLayer w pc).1 hv
    obtain ⟨l, hl, rfl⟩ := rb_of hv
    have c0 : iC P O F (x_wr μ 160 3 0) 0 := by
      have g : gs (fun k j => gT (x_gr k j)) μ (x_wr μ 160 3 0) := gs.refl.wr rfl
      exact ⟨gPC w pc g rfl, gCC cc g rfl, rfl⟩
    have lt1 : (aTs P l).length ≤ 16 := by
      unfold aTs
      rcases k15 P l with e | e | e | e | e <;> rw [e] <;> decide
    have lt2 : (aTm P l).length ≤ 16 := by
      unfold aTm
      rcases k15 P l with e | e | e | e | e <;> rw [e] <;> decide
    have m0 : ∀ ts, iM P O F (x_wr (x_wr (lvs 161 160 3 (x_wr μ 160 3 0) 0 ts) 162 0 0) 162 71 0) 0 ∧ PM P (x_wr (lvs 161 160 3 (x_wr μ 160 3 0) 0 ts) 162 0 0) := by
      intro ts
      have g1 : gs (fun k j => gT (x_gr k j)) μ (lvs 161 160 3 (x_wr μ 160 3 0) 0 ts) := (gs.refl.wr rfl).trans (lvs_gs _ _ _ (fun _ => rfl) rfl _ _ _)
      exact ⟨⟨gPM pm ((g1.wr rfl).wr rfl) rfl, gCM cm ((g1.wr rfl).wr rfl) rfl, rfl⟩, gPM pm (g1.wr rfl) rfl⟩
    rcases rb_dec v2 2 with hk | hk
    · obtain ⟨q, hq, rfl⟩ := rb_of hk
      have k1 : f12_in (nI q).toInt64 0 1 = some 1 := m_rng (n := 2) (by decide) hk
      have k0 : ∀ ts, f12_ask (nI l) (nI q) (lvs 161 160 3 (x_wr μ 160 3 0) 0 ts) = (if nI q = (1 : Int32) then ((f12_markOf (nI l) (nI (kOf P l)) (x_wr (x_wr (lvs 161 160 3 (x_wr μ 160 3 0) 0 ts) 162 0 0) 162 71 0)).bind fun q9 => (some (q9.1, q9.2))) else ((f12_isOf (nI (kOf P l)) (3 : Int32)).bind fun x6 => (if x6 = 0 then ((f12_sizeOf (nI l) (nI (kOf P l)) (x_wr (x_wr (lvs 161 160 3 (x_wr μ 160 3 0) 0 ts) 162 0 0) 162 71 0)).bind fun q7 => (some (q7.1, q7.2))) else ((f12_askedSize (nI l) (nI (kOf P l)) (x_wr (x_wr (lvs 161 160 3 (x_wr μ 160 3 0) 0 ts) 162 0 0) 162 71 0)).bind fun q8 => (some (q8.1, q8.2)))))) := by
        intro ts
        unfold f12_ask
        simp only [a_put, (u_isLayer w (m0 ts).2).1 hv, k1, Option.bind_some, e10, if_false, u_kindOf w (m0 ts).1.1 hl]
      rcases (show q = 0 ∨ q = 1 by omega) with rfl | rfl
      · refine ⟨aSz P O F l, lvs 161 160 3 (x_wr μ 160 3 0) 0 (aTs P l), _, ?_, ?_, h.trs (aTs P l) lt1⟩
        · unfold f11_ask f0_clearTrace
          simp only [b1, Option.bind_some, e10, if_false, a_put]
          rw [show f0_isAsk (nI 0) = some 1 from rfl]
          show (f0_sizeOf 4 (nI l) (x_wr μ 160 3 0)).bind _ = _
          rw [c_sz (n := 3) w ow fw hl c0 (by omega)]
          rfl
        · rw [k0, if_neg (by decide)]
          rcases k15 P l with e | e | e | e | e
          · have s := m_sz w ow fw hl (m0 (aTs P l)).1 (by omega) (Or.inl e)
            rw [s]
            rw [e]
            rfl
          · have s := m_sz w ow fw hl (m0 (aTs P l)).1 (by omega) (Or.inr (Or.inl e))
            rw [s]
            rw [e]
            rfl
          · have s := m_as w ow fw hl (m0 (aTs P l)).1 (by omega) (Or.inl e)
            rw [s]
            rw [e]
            rfl
          · have s := m_as w ow fw hl (m0 (aTs P l)).1 (by omega) (Or.inr e)
            rw [s]
            rw [e]
            rfl
          · have s := m_sz w ow fw hl (m0 (aTs P l)).1 (by omega) (Or.inr (Or.inr e))
            rw [s]
            rw [e]
            rfl
      · refine ⟨aMk P F l, lvs 161 160 3 (x_wr μ 160 3 0) 0 (aTm P l), _, ?_, ?_, h.trs (aTm P l) lt2⟩
        · unfold f11_ask f0_clearTrace
          simp only [b1, Option.bind_some, e10, if_false, a_put]
          rw [show f0_isAsk (nI 1) = some 1 from rfl]
          show (f0_markOf (f0_sizeOf 4) (nI l) (x_wr μ 160 3 0)).bind _ = _
          rw [c_mr (n := 3) w ow fw hl c0 (by omega)]
          rfl
        · rw [k0, if_pos (by decide), m_mk w ow fw hl (m0 (aTm P l)).1 (by omega)]
          rfl
    · refine no ?_ ?_
      · unfold f11_ask
        have : f0_isAsk v2 = some 0 := by
          unfold f0_isAsk
          unfold rb at hk
          rw [if_neg, if_neg]
          · intro e; subst e; exact hk (by decide)
          · intro e; subst e; exact hk (by decide)
        simp only [b1, this, Option.bind_some, e10, if_false, e00, if_true]
      · unfold f12_ask
        simp only [a_put, (u_isLayer w pm.t0).1 hv, m_rngN (n := 2) (hi := 1) (by decide) hk, Option.bind_some, e10, if_false, e00, if_true]
  · refine no ?_ ?_
    · unfold f11_ask
      simp only [(t_isLayer w pc).2 hv, Option.bind_some, e00, if_true]
    · unfold f12_ask
      simp only [a_put, (u_isLayer w pm.t0).2 hv, Option.bind_some, e00, if_true]
