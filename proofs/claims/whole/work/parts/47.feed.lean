/-! PURE: feed -/
theorem bv8 (V : BitVec 64) (c : Nat) (h : c + 8 ≤ 64) : ((V.sshiftRight c) &&& 255#64).setWidth 32 = (V >>> c).setWidth 32 &&& 255#32 := by
  have h8 : ∀ i, Nat.testBit 255 i = decide (i < 8) := fun i => Nat.testBit_two_pow_sub_one 8 i
  apply BitVec.eq_of_getLsbD_eq
  intro i hi
  simp only [BitVec.getLsbD_and, BitVec.getLsbD_setWidth, BitVec.getLsbD_ushiftRight, BitVec.getLsbD_sshiftRight, BitVec.getLsbD_ofNat, h8]
  by_cases c8 : i < 8
  · have e1 : ¬ 64 ≤ i := by omega
    have e2 : c + i < 64 := by omega
    have e3 : i < 64 := by omega
    simp [c8, e1, e2, e3, hi]
  · simp [c8]
def byC (v : Int64) (t : Int32) : Int32 := (Int64.toInt32 ((Int64.toUInt64 v >>> ((Int32.toInt64 ((8 : Int32) * t)).toUInt64 &&& Int64.toUInt64 63)).toInt64)) &&& (255 : Int32)
def byM (v : Int64) (t : Int32) : Int32 := Int64.toInt32 ((v >>> (Int32.toInt64 ((8 : Int32) * t) &&& 63)) &&& (255 : Int64))
theorem by_eq (v : Int64) (t : Nat) (ht : t < 8) : byM v (nI t) = byC v (nI t) := by
  have key : ∀ c : Nat, c + 8 ≤ 64 → ∀ (a : UInt64) (b : Int64), (a.toBitVec % 64).toNat = c → (b.toBitVec.smod 64).toNat = c → Int64.toInt32 ((v >>> b) &&& (255 : Int64)) = (Int64.toInt32 (Int64.toUInt64 v >>> a).toInt64) &&& (255 : Int32) := by
    intro c hc a b ha hb
    apply Int32.toBitVec_inj.mp
    have e1 : (v >>> b).toBitVec = v.toBitVec.sshiftRight c := by
      show v.toBitVec.sshiftRight (b.toBitVec.smod 64).toNat = _
      rw [hb]
    have e2 : (v.toUInt64 >>> a).toBitVec = v.toBitVec >>> c := by
      rw [← ha]
      exact UInt64.toBitVec_shiftRight _ _
    have e3 : ∀ x : Int64, x.toInt32.toBitVec = x.toBitVec.setWidth 32 := by
      intro x
      rw [Int64.toBitVec_toInt32]
      exact BitVec.signExtend_eq_setWidth_of_le _ (by decide)
    rw [Int32.toBitVec_and, e3, e3, Int64.toBitVec_and, e1]
    show _ = ((v.toUInt64 >>> a).toBitVec).setWidth 32 &&& _
    rw [e2]
    exact bv8 v.toBitVec c hc
  unfold byM byC
  rcases (show t = 0 ∨ t = 1 ∨ t = 2 ∨ t = 3 ∨ t = 4 ∨ t = 5 ∨ t = 6 ∨ t = 7 by omega) with rfl | rfl | rfl | rfl | rfl | rfl | rfl | rfl
  · exact key 0 (by decide) _ _ (by decide) (by decide)
  · exact key 8 (by decide) _ _ (by decide) (by decide)
  · exact key 16 (by decide) _ _ (by decide) (by decide)
  · exact key 24 (by decide) _ _ (by decide) (by decide)
  · exact key 32 (by decide) _ _ (by decide) (by decide)
  · exact key 40 (by decide) _ _ (by decide) (by decide)
  · exact key 48 (by decide) _ _ (by decide) (by decide)
  · exact key 56 (by decide) _ _ (by decide) (by decide)
theorem by_nI (v : Int64) (t : Int32) : ∃ b, b < 256 ∧ byC v t = nI b := pk_andE _ (m := 255) 8 (by decide)
theorem m1 (x : Int32) : x + (-1) = x - 1 := (Int32.sub_eq_add_neg x 1).symm
theorem l_app (k : xMu → Option (Int32 × xMu)) (v : Int64) : ∀ (j f n : Nat) (μ : xMu), j < f → n + j ≤ 600 → μ 14 1 = nI n →
    ∃ μ', f10_append_l5 k f v (nI j - 1) μ = k μ' ∧ μ' 14 1 = nI (n + j) ∧ gs (fun a b => (a == 14 && b == 1) || a == 15) μ μ' ∧ (∀ i, i < n → μ' 15 i = μ 15 i) ∧ ∀ i, i < j → μ' 15 (n + i) = byC v (nI (j - 1 - i)) := by
  intro j
  induction j with
  | zero =>
    intro f n μ hf hn hc
    obtain ⟨f, rfl⟩ : ∃ g, f = g + 1 := ⟨f - 1, by omega⟩
    refine ⟨μ, ?_, hc, gs.refl, fun i _ => rfl, fun i hi => by omega⟩
    unfold f10_append_l5
    rw [if_pos (by decide)]
  | succ j ih =>
    intro f n μ hf hn hc
    obtain ⟨f, rfl⟩ : ∃ g, f = g + 1 := ⟨f - 1, by omega⟩
    obtain ⟨μ', a1, a2, a3, a4, a5⟩ := ih f (n + 1) (x_wr (x_wr μ 15 n (byC v (nI j))) 14 1 (nI (n + 1))) (by omega) (by omega) (by simp [x_wr])
    refine ⟨μ', ?_, ?_, ?_, ?_, ?_⟩
    · refine Eq.trans ?_ a1
      conv => lhs; unfold f10_append_l5
      rw [nI_pred, if_neg (nI_pos (by omega)), hc, a_ast (by omega) (by decide), a_put, m1]
      show f10_append_l5 k f v (nI j - 1) (x_wr (x_wr μ 15 n (byC v (nI j))) 14 1 (μ 14 1 + 1)) = _
      rw [hc, nI_1]
    · rw [a2, show n + 1 + j = n + (j + 1) by omega]
    · exact ((gs.refl.wr rfl).wr rfl).trans a3
    · intro i hi
      rw [a4 i (by omega), x_wr_ne (by decide), w_wr, if_neg (by omega)]
    · intro i hi
      by_cases c : i = 0
      · subst c
        rw [show n + 0 = n from rfl, a4 n (by omega), x_wr_ne (by decide), w_wr, if_pos ⟨rfl, rfl⟩]
        rfl
      · have := a5 (i - 1) (by omega)
        rw [show n + 1 + (i - 1) = n + i by omega] at this
        rw [this, show j - 1 - (i - 1) = j + 1 - 1 - i by omega]
theorem l_fed (k : xMu → Option (Int32 × xMu)) (v : Int64) : ∀ (j f n : Nat) (μ : xMu), j < f → n + j ≤ 600 → μ 162 26 = nI n →
    ∃ μ', f12_feed_l40 k f v (nI j - 1) μ = k μ' ∧ μ' 162 26 = nI (n + j) ∧ gs (fun a b => (a == 162 && b == 26) || a == 182) μ μ' ∧ (∀ i, i < n → μ' 182 i = μ 182 i) ∧ ∀ i, i < j → μ' 182 (n + i) = byM v (nI (j - 1 - i)) := by
  intro j
  induction j with
  | zero =>
    intro f n μ hf hn hc
    obtain ⟨f, rfl⟩ : ∃ g, f = g + 1 := ⟨f - 1, by omega⟩
    refine ⟨μ, ?_, hc, gs.refl, fun i _ => rfl, fun i hi => by omega⟩
    unfold f12_feed_l40
    rw [if_pos (by decide)]
  | succ j ih =>
    intro f n μ hf hn hc
    obtain ⟨f, rfl⟩ : ∃ g, f = g + 1 := ⟨f - 1, by omega⟩
    obtain ⟨μ', a1, a2, a3, a4, a5⟩ := ih f (n + 1) (x_wr (x_wr μ 182 n (byM v (nI j))) 162 26 (nI (n + 1))) (by omega) (by omega) (by simp [x_wr])
    refine ⟨μ', ?_, ?_, ?_, ?_, ?_⟩
    · refine Eq.trans ?_ a1
      conv => lhs; unfold f12_feed_l40
      rw [nI_pred, if_neg (nI_pos (by omega)), hc, a_ast (by omega) (by decide), a_put, m1]
      show f12_feed_l40 k f v (nI j - 1) (x_wr (x_wr μ 182 n (byM v (nI j))) 162 26 (μ 162 26 + 1)) = _
      rw [hc, nI_1]
    · rw [a2, show n + 1 + j = n + (j + 1) by omega]
    · exact ((gs.refl.wr rfl).wr rfl).trans a3
    · intro i hi
      rw [a4 i (by omega), x_wr_ne (by decide), w_wr, if_neg (by omega)]
    · intro i hi
      by_cases c : i = 0
      · subst c
        rw [show n + 0 = n from rfl, a4 n (by omega), x_wr_ne (by decide), w_wr, if_pos ⟨rfl, rfl⟩]
        rfl
      · have := a5 (i - 1) (by omega)
        rw [show n + 1 + (i - 1) = n + i by omega] at this
        rw [this, show j - 1 - (i - 1) = j + 1 - 1 - i by omega]
def g4 : Nat → Bool := fun n => n == 0 || n == 4
theorem x_R.tps {μ μ' : xMu} (h : x_R μ) (hs : gs (fun k j => g4 (x_gr k j)) μ μ') (o : TP μ') : x_R μ' := h.grp g4 hs (Or.inl rfl) (Or.inl rfl) (Or.inl rfl) (Or.inr o) (Or.inl rfl) (Or.inl rfl) (Or.inl rfl) (Or.inl ⟨rfl, rfl⟩)
theorem s_feed : x_S_feed x_R := by
  intro v1 v3 μ h
  obtain ⟨n, hn, t1, t2, t3⟩ := h.2.2.2.1
  have i8 : (8 : Int32).toInt = 8 := by decide
  by_cases cw : 1 ≤ v3.toInt ∧ v3.toInt ≤ 8
  · obtain ⟨c, hc, rfl⟩ : ∃ c, c < 9 ∧ v3 = nI c := i_of (by rw [i_le, i0]; omega) (by omega)
    rw [nI_toInt (by omega)] at cw
    have c1 : ¬ nI c < 1 := nI_nlt (b := 1) (by omega) (by omega)
    have c2 : nI c ≤ 8 := nI_le (b := 8) (by omega) (by omega)
    have c3 : f12_in (nI c).toInt64 1 8 = some 1 := by
      rw [m_inI, if_pos]
      rw [nI_toInt (by omega), show (1 : Int64).toInt = 1 by decide, show (8 : Int64).toInt = 8 by decide]
      omega
    by_cases cr : n + c ≤ 600
    · obtain ⟨μa, a1, a2, a3, a4, a5⟩ := l_app (fun (μ3 : xMu) => (some ((μ3 14 1), μ3))) v1 c 1000 n μ (by omega) cr t1
      have z26 : (x_wr μa 162 0 0) 162 26 = nI n := by
        show μa 162 26 = _
        rw [a3 162 26 rfl, t2]
      obtain ⟨μb, b1, b2, b3, b4, b5⟩ := l_fed (fun (μ5 : xMu) => (some ((μ5 162 26), μ5))) v1 c 1000 n (x_wr μa 162 0 0) (by omega) cr z26
      refine ⟨nI (n + c), μa, μb, ?_, ?_, ?_⟩
      · unfold f11_feed f10_hasRoom f10_append
        rw [if_neg c1, if_pos c2, t1, show (600 : Int32) = nI 600 from rfl, pk_sub (by omega), if_neg (nI_nlt (by omega) (by omega)), a1, a2]
        rfl
      · unfold f12_feed
        simp only [a_put, c3, Option.bind_some, e10, if_false, z26]
        rw [nI_add, if_pos (show nI (n + c) ≤ 600 from nI_le (b := 600) cr (by decide)), b1, b2]
      · refine h.tps ?_ ?_
        · refine (a3.mono ?_).trans (((gs.refl.wr rfl)).trans (b3.mono ?_))
          · intro k j q
            simp only [Bool.or_eq_true, Bool.and_eq_true, beq_iff_eq] at q
            rcases q with ⟨rfl, rfl⟩ | rfl <;> rfl
          · intro k j q
            simp only [Bool.or_eq_true, Bool.and_eq_true, beq_iff_eq] at q
            rcases q with ⟨rfl, rfl⟩ | rfl <;> rfl
        · refine ⟨n + c, cr, by rw [b3 14 1 rfl]; exact a2, b2, fun i hi => ?_⟩
          by_cases ci : i < n
          · obtain ⟨b, hb, e1, e2⟩ := t3 i ci
            refine ⟨b, hb, ?_, ?_⟩
            · rw [b3 15 i rfl]
              show μa 15 i = _
              rw [a4 i ci, e1]
            · rw [b4 i ci]
              show μa 182 i = _
              rw [a3 182 i rfl, e2]
          · obtain ⟨b, hb, e⟩ := by_nI v1 (nI (c - 1 - (i - n)))
            have x1 := a5 (i - n) (by omega)
            have x2 := b5 (i - n) (by omega)
            rw [show n + (i - n) = i by omega] at x1 x2
            refine ⟨b, hb, ?_, ?_⟩
            · rw [b3 15 i rfl]
              show μa 15 i = _
              rw [x1, e]
            · rw [x2, by_eq _ _ (by omega), e]
    · refine ⟨-1000003, μ, x_wr μ 162 0 0, ?_, ?_, h.t0⟩
      · unfold f11_feed f10_hasRoom
        rw [if_neg c1, if_pos c2, t1, show (600 : Int32) = nI 600 from rfl, pk_sub (by omega), if_pos (nI_lt (by omega) (by omega))]
        rfl
      · unfold f12_feed
        simp only [a_put, c3, Option.bind_some, e10, if_false]
        rw [show (x_wr μ 162 0 0) 162 26 = nI n from t2, nI_add, if_neg (show ¬ nI (n + c) ≤ 600 from nI_ge (b := n + c) (a := 600) (by omega) (by omega))]
  · refine e_no (f := f11_feed v1 v3) (g := f12_feed v1 v3) h ?_ ?_
    · unfold f11_feed
      by_cases c1 : v3 < 1
      · rw [if_pos c1]
      · rw [if_neg c1, if_neg]
        rw [i_lt, i1] at c1
        rw [i_le, i8]
        omega
    · unfold f12_feed
      have c3 : f12_in v3.toInt64 1 8 = some 0 := by
        rw [m_inI, if_neg]
        rw [show (1 : Int64).toInt = 1 by decide, show (8 : Int64).toInt = 8 by decide]
        exact cw
      simp only [a_put, c3, Option.bind_some, e00, if_true]
