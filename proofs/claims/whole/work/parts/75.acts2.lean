/-! PURE: runs: the acts of a body, one after the other -/
theorem mdd {x : Nat} (h : x < 2 ^ 31) : nI x - nI x / (1000003 : Int32) * (1000003 : Int32) = nI (x % 1000003) := pk_rem (d := 1000003) h (by decide) (by decide)
theorem EN.ar {h s p g v i c y : Nat} {μ : xMu} (e : EN h s p g v i c y μ) (v' : Nat) : EN h s p g v' (i + 1) c y (x_wr (x_wr μ 194 h (nI (i + 1))) 193 h (nI v')) := by
  refine ⟨e.1, e.2.1, e.2.2.1, ?_, ?_, e.2.2.2.2.2.1, e.2.2.2.2.2.2⟩
  · rw [w_wr, if_pos ⟨rfl, rfl⟩]
  · rw [x_wr_ne (by decide), w_wr, if_pos ⟨rfl, rfl⟩]
theorem EN.i1 {h s p g v i c y : Nat} {μ : xMu} (e : EN h s p g v i c y μ) (i' : Nat) : EN h s p g v i' c y (x_wr μ 194 h (nI i')) := by
  refine ⟨e.1, e.2.1, e.2.2.1, e.2.2.2.1, ?_, e.2.2.2.2.2.1, e.2.2.2.2.2.2⟩
  rw [w_wr, if_pos ⟨rfl, rfl⟩]
theorem EN.v1 {h s p g v i c y : Nat} {μ : xMu} (e : EN h s p g v i c y μ) (v' : Nat) : EN h s p g v' i c y (x_wr μ 193 h (nI v')) := by
  refine ⟨e.1, e.2.1, e.2.2.1, ?_, e.2.2.2.2.1, e.2.2.2.2.2.1, e.2.2.2.2.2.2⟩
  rw [w_wr, if_pos ⟨rfl, rfl⟩]
theorem EN.w6 {h s p g v i c y : Nat} {μ : xMu} {x : Int32} (e : EN h s p g v i c y μ) : EN h s p g v i c y (x_wr μ 196 h x) := ⟨e.1, e.2.1, e.2.2.1, e.2.2.2.1, e.2.2.2.2.1, e.2.2.2.2.2.1, e.2.2.2.2.2.2⟩
theorem x_wr_rd {μ : xMu} {k j a b : Nat} {v : Int32} (h : a ≠ k) : x_wr μ k j v a b = μ a b := by rw [x_wr_ne h]
theorem acts {k v0 : Nat} {P : xP} {O : xO} {h s p g0 y t b : Nat} {R : List Nat} (RS : RSim k) (w : Pwf P) (hv : rnr v0) (hs : s < 6) (ht : t < pT P) (hR : R.length ≤ 24) (hRb : ∀ b ∈ R, b < pB P) (hb : R[p]? = some b) : ∀ (j i g fc v F n : Nat) (E : xO) (μc μm : xMu), i + j = P 4 b 4 → j + 2 ≤ g → j + 1 < fc → 61 ≤ k + n → v < 1000003 → h < n → SS v0 P (O ++ E) F n 0 μc μm → SC v0 s t R μc → SM s t R μm → EN h s p g0 v i E.length y μm → μm 162 48 = nI (h + 1) → AR k v0 P O h s p g0 y b fc g i j n v μc μm := by
  have h' : v0 = 135 ∨ v0 = 147 := hv
  have hbp := List.getElem?_eq_some_iff.mp hb
  have hbB : b < pB P := hRb b (by rw [← hbp.2]; exact List.getElem_mem hbp.1)
  have hB := w.1.2.2.2
  have hT8 := w.1.2.1
  have hL8 := w.1.2.2.1
  have hb24 : b < 24 := by omega
  have q := w.2.2.2.2 b hbB
  intro j
  induction j with
  | zero =>
    intro i g fc v F n E μc μm hi hg hf hk hv3 hn S sc sm en h8
    obtain ⟨fc, rfl⟩ : ∃ z, fc = z + 1 := ⟨fc - 1, by omega⟩
    obtain ⟨g, rfl⟩ : ∃ z, g = z + 2 := ⟨g - 2, by omega⟩
    obtain rfl : i = P 4 b 4 := by omega
    exact ⟨0, v, F, n, 0, 0, g, P 4 b 4, v, E, μc, μm, t_ace w S.1.1 hbB _, fun _ K f => rfl, fun z => absurd z (by decide), by omega, by omega, by decide, hv3, fun z => absurd z (by decide), S, en, fun _ => ⟨rfl, rfl⟩, h8, gs.refl, gs.refl⟩
  | succ j ih =>
    intro i g fc v F n E μc μm hi hg hf hk hv3 hn S sc sm en h8
    have S' := S
    obtain ⟨⟨pc, cc, c7, c8⟩, ⟨pm, cm, m7, m9⟩, ow, fw, hn60, -, bg⟩ := S
    obtain ⟨fc, rfl⟩ : ∃ z, fc = z + 2 := ⟨fc - 2, by omega⟩
    obtain ⟨g, rfl⟩ : ∃ z, g = z + 2 := ⟨g - 2, by omega⟩
    have hi' : i < P 4 b 4 := by omega
    obtain ⟨o7, o10, o4, oc, ow5, o3⟩ := q.2.2.2.2.2 i hi'
    have hh : h < 61 := by omega
    have C := t_acp (s := s) (p := p) (fc := fc + 1) w hv pc hbB hi' hv3 (f7_runFrom k)
    have D := u_acp (f := g + 1) w pm hs hh en sm hR hb hbB h8 hi' (fun (μ47 : xMu) => (some μ47))
    have mp := (pm.2.2.2.2 b hbB).2.2.2.2.2 i hi'
    have g6 : gs (pD h (s + 1)) μm (x_wr μm 194 h (nI (i + 1))) := gs.refl.wr (pDy (by omega))
    have x6 : gs (fun a b => decide ((187 ≤ a ∧ a ≤ 197) ∨ (a = 162 ∧ (b = 48 ∨ (60 ≤ b ∧ b ≤ 64))))) μm (x_wr μm 194 h (nI (i + 1))) := gs.refl.wr (decide_eq_true (by omega))
    have S6 := S'.m x6
    have e6 := en.i1 (i + 1)
    have sm6 := sm.of hR g6 (by omega)
    have e1 : (x_wr μm 194 h (nI (i + 1))) 181 (18 * b + 3 * i + 1) = nI (P (5 + i) b 1) := mp.2.1
    have e2 : (x_wr μm 194 h (nI (i + 1))) 181 (18 * b + 3 * i + 2) = nI (P (5 + i) b 2) := mp.2.2
    have e3 : (x_wr μm 194 h (nI (i + 1))) 193 h = nI v := e6.2.2.2.1
    -- a step that counts
    have ar : ∀ v', v' < 1000003 → cAC (f7_runFrom k) v0 b i s p v (P (5 + i) b 1) (nI (P (5 + i) b 0)) μc = some (nI v', μc) → mAC (f12_doActs_l2 (fun (μ47 : xMu) => (some μ47)) (g + 1)) h b i t (nI (P (5 + i) b 0)) (x_wr μm 194 h (nI (i + 1))) = f12_doActs_l2 (fun (μ47 : xMu) => (some μ47)) (g + 1) 1 (x_wr (x_wr μm 194 h (nI (i + 1))) 193 h (nI v')) → AR k v0 P O h s p g0 y b (fc + 2) (g + 2) i (j + 1) n v μc μm := by
      intro v' hv' c d
      rw [c] at C
      rw [d] at D
      have x7 : gs (fun a b => decide ((187 ≤ a ∧ a ≤ 197) ∨ (a = 162 ∧ (b = 48 ∨ (60 ≤ b ∧ b ≤ 64))))) μm (x_wr (x_wr μm 194 h (nI (i + 1))) 193 h (nI v')) := x6.wr (decide_eq_true (by omega))
      have g7 : gs (pD h (s + 1)) μm (x_wr (x_wr μm 194 h (nI (i + 1))) 193 h (nI v')) := g6.wr (pDy (by omega))
      exact AR.step C D gs.refl g7 (ih (i + 1) (g + 1) (fc + 1) v' F n E μc _ (by omega) (by omega) (by omega) hk hv' hn (S'.m x7) sc (sm.of hR g7 (by omega)) (en.ar v') h8)
    -- a run inside
    have nest : ∀ (s' t' p' zz : Nat) (R' : List Nat) (μc0 μm0 : xMu), s ≤ s' → s' < 6 → t' < pT P → R'.length ≤ 24 → (∀ b ∈ R', b < pB P) → p' ≤ R'.length → (zz = 1 ∨ zz = 2) → (zz = 1 → P 4 b 3 = 2) → cAC (f7_runFrom k) v0 b i s p v (P (5 + i) b 1) (nI (P (5 + i) b 0)) μc = f7_runFrom k v0 (nI s') (nI p') (nI v) μc0 → (∀ K f, DA K f (g + 2) μm = f12_outermost_l47 K f μm0) → SS v0 P (O ++ E) F n 0 μc0 μm0 → SC v0 s' t' R' μc0 → SM s' t' R' μm0 → gs (pC v0 (s + 1)) μc μc0 → gs (pD h (s + 1)) μm μm0 → EN h s p g0 v (i + 1) E.length y μm0 → μm0 196 h = nI zz → μm0 162 48 = nI (h + 1) → μm0 162 60 = 0 → μm0 162 62 = nI v → μm0 162 63 = nI (s' + 1) → μm0 162 64 = nI p' → AR k v0 P O h s p g0 y b (fc + 2) (g + 2) i (j + 1) n v μc μm := by
      intro s' t' p' zz R' μc0 μm0 hss hs' ht' hR' hRb' hp' hzz hz2 c d S0 sc0 sm0 gc0 gm0 en0 h96 r48 r60 r62 r63 r64
      obtain ⟨rc, a, F', n', x', T, μc1, μm1, a1, a2, a3, a4, a5, a6, a7, a8, a9, a10, a11, a12, a13, a14⟩ := RS P v0 s' t' p' v F n (h + 1) R' (O ++ E) μc0 μm0 w hv hk hs' S0 sc0 sm0 ht' hR' hRb' (by omega) hp' hv3 r48 r60 r62 r63 r64
      rw [c, a1] at C
      have gc1 : gs (pC v0 (s + 1)) μc μc1 := gc0.trans (pC_up a13 (by omega))
      have gm1 : gs (pD h (s + 1)) μm μm1 := gm0.trans (pD_up a14 (by omega) (by omega))
      have en1 : EN h s p g0 v (i + 1) E.length y μm1 := en0.of (fun a _ _ => a14 _ _ (pDn (by omega)))
      have h961 : μm1 196 h = nI zz := by rw [a14 _ _ (pDn (by omega))]; exact h96
      have sm1 := sm.of hR gm1 (by omega)
      have x8 : ∀ (u : Int32), gs (fun a b => decide ((187 ≤ a ∧ a ≤ 197) ∨ (a = 162 ∧ (b = 48 ∨ (60 ≤ b ∧ b ≤ 64))))) μm1 (x_wr μm1 196 h u) := fun u => gs.refl.wr (decide_eq_true (by omega))
      rcases (show rc = 0 ∨ rc = 1 by omega) with rfl | rfl
      · obtain rfl : x' = 0 := by
          have := a8.2.2.2.2.2.1
          rcases (show x' = 0 ∨ x' = 1 by omega) with e | e
          · exact e
          · have := a7 e; omega
        have gm2 : gs (pD h (s + 1)) μm (x_wr (x_wr μm1 196 h 0) 193 h (nI a)) := (gm1.wr (pDy (by omega))).wr (pDy (by omega))
        refine AR.nest (T1 := T + 1) (v' := a) (μc1 := μc1) (μm1 := x_wr (x_wr μm1 196 h 0) 193 h (nI a)) C (fun K f => ?_) (by omega) a4 gc1 gm2 (ih (i + 1) 1000 (fc + 1) a F' n' E μc1 _ (by omega) (by omega) (by omega) (by omega) a6 (by omega) (a8.m ((x8 0).wr (decide_eq_true (by omega)))) (sc.of hv gc1 (by omega) hs) (sm.of hR gm2 (by omega)) (en1.w6.v1 a) a9)
        rw [d, show f + (T + 1) = (f + 1) + T by omega, a2, u_cbO w a8.2.1.1 hs hh en1 sm1 hR hb hbB a9 a10 h961 hzz a11 (a12 rfl), if_neg]
        rintro ⟨e1, e2⟩
        have := hz2 e2
        omega
      · refine AR.no (T1 := T + 1) (μm1 := x_wr μm1 196 h 0) hb24 C (fun K f => ?_) (by omega) a4 (a8.m (x8 0)) en1.w6 a9 gc1 (gm1.wr (pDy (by omega)))
        rw [d, show f + (T + 1) = (f + 1) + T by omega, a2, u_cbN w a8.2.1.1 hs hh en1 sm1 hR hb hbB a9 a10 h961 hzz a11 a8.2.1.2.2.2 a8.2.2.2.2.2.1, if_neg]
        rintro ⟨e1, e2, -⟩
        have := hz2 e2
        omega
    have l20 : ∀ (μ' : xMu) (K : xMu → Option (Int32 × xMu)) (f : Nat), ((f12_doActs_j436 (f12_doActs_l2 (fun (μ47 : xMu) => (some μ47)) (g + 1)) 0 μ').bind fun μ11 => f12_outermost_l47 K f μ11) = f12_outermost_l47 K f μ' := fun μ' K f => by
      unfold f12_doActs_j436 f12_doActs_l2
      rw [if_pos rfl]
      rfl
    rcases (show P (5 + i) b 0 = 0 ∨ P (5 + i) b 0 = 1 ∨ P (5 + i) b 0 = 2 ∨ P (5 + i) b 0 = 3 ∨ P (5 + i) b 0 = 4 ∨ P (5 + i) b 0 = 5 ∨ P (5 + i) b 0 = 6 by omega) with z | z | z | z | z | z | z
    · refine ar ((v + P (5 + i) b 1) % 1000003) (Nat.mod_lt _ (by decide)) ?_ ?_
      · unfold cAC
        rw [z, sw0, nI_add, mdd (by omega)]
      · unfold mAC
        rw [z, sw0, a_ald hh (by decide), e3, a_ald (by omega) (by decide), e1, nI_add, mdd (by omega), a_ast hh (by decide)]
        rfl
    · have hm : v * P (5 + i) b 1 < 2 ^ 31 := by
        have := Nat.mul_le_mul (show v ≤ 1000003 by omega) (show P (5 + i) b 1 ≤ 10 by omega)
        omega
      refine ar ((v * P (5 + i) b 1) % 1000003) (Nat.mod_lt _ (by decide)) ?_ ?_
      · unfold cAC
        rw [z, sw1, pk_mul, mdd hm]
      · unfold mAC
        rw [z, sw1, a_ald hh (by decide), e3, a_ald (by omega) (by decide), e1, pk_mul, mdd hm, a_ast hh (by decide)]
        rfl
    · have tv := (w.2.2.1 t ht).2
      refine ar ((v + P 2 t 1) % 1000003) (Nat.mod_lt _ (by decide)) ?_ ?_
      · unfold cAC
        rw [z, sw2, a_chk (rn1 hv).1, a_rfd (rn1 hv).2.2.2.1, a_chk (rn1 hv).2.2.2.2.2.2.2.1, (rn1 hv).2.2.2.2.2.2.2.2.2.2.2.1, a_ald hs (by decide), sc.2.2, a_ald (by omega) (by decide), (pc.2.2.1 t ht).2, nI_add, mdd (by omega)]
      · unfold mAC
        rw [z, sw2, a_ald hh (by decide), e3, a_ald (by omega) (by decide), show (x_wr μm 194 h (nI (i + 1))) 168 t = nI (P 2 t 1) from (pm.2.2.1 t ht).2, nI_add, mdd (by omega), a_ast hh (by decide)]
        rfl
    · refine nest s t (p + 1) 1 R μc (gN h s p v (x_wr μm 194 h (nI (i + 1)))) (Nat.le_refl s) hs ht hR hRb hbp.1 (Or.inl rfl) (fun _ => o3 z) ?_ (fun K f => ?_) (S6.m ?_) sc (sm6.of hR (gN_g (s' := s + 1)) (by omega)) gs.refl (g6.trans gN_g) ?_ ?_ h8 rfl rfl rfl rfl
      · unfold cAC
        rw [z, sw3, a_chk (rn1 hv).1, nI_1]
        cases f7_runFrom k v0 (nI s) (nI (p + 1)) (nI v) μc <;> rfl
      · unfold mAC at D
        rw [z, sw3, u_gn hh e6 h8] at D
        unfold DA
        rw [D]
        exact l20 _ K f
      · unfold gN
        refine gs.wr (gs.wr (gs.wr (gs.wr (gs.wr gs.refl ?_) ?_) ?_) ?_) ?_ <;> exact decide_eq_true (by omega)
      · exact e6.w6 (x := 1)
      · show (x_wr _ 196 h 1) 196 h = nI 1
        rw [w_wr, if_pos ⟨rfl, rfl⟩]
        rfl
    · by_cases s5 : s = 5
      · have c : cAC (f7_runFrom k) v0 b i s p v (P (5 + i) b 1) (nI (P (5 + i) b 0)) μc = some (-1000004, x_wr μc v0 8 1) := by
          obtain ⟨-, r1, r2, r3, r4, r5, r6, r7, r8, r9, r10⟩ := r_body b (by omega)
          unfold cAC
          rw [z, sw4, a_rfd r4, a_chk r7, r10, a_ald (by omega) (by decide), a_chk (rn1 hv).1, nI_1]
          unfold f7_callAt
          rw [if_neg (show ¬ nI (s + 1) < 6 from nI_nlt (b := 6) (by omega) (by omega)), a_chk (rn1 hv).1, a_put]
          rfl
        rw [c] at C
        have D2 := D
        unfold mAC at D2
        rw [z, sw4, a_ald hh (by decide), e6.1, s5, if_pos (show nI (5 + 1) = 6 from rfl), a_put] at D2
        have gm : gs (pD h (s + 1)) μm (x_wr (x_wr μm 194 h (nI (i + 1))) 162 59 1) := g6.wr (pDy (by omega))
        have gc : gs (pC v0 (s + 1)) μc (x_wr μc v0 8 1) := gs.refl.wr (pCy (by omega))
        refine AR.no (x := 1) (μc1 := x_wr μc v0 8 1) hb24 C (DA_no D2) (by omega) (Nat.le_refl n) ⟨⟨pCP hv w pc gc, cc.of (x_wr_rd (by omega)) (x_wr_rd (by omega)) (x_wr_ne (by omega)) (x_wr_ne (by omega)), ?_, ?_⟩, ⟨pDP pm gm, cm.of rfl rfl rfl rfl, m7, rfl⟩, ow, fw, hn60, by decide, fun a1 a2 a3 => ?_⟩ ⟨e6.1, e6.2.1, e6.2.2.1, e6.2.2.2.1, e6.2.2.2.2.1, e6.2.2.2.2.2.1, e6.2.2.2.2.2.2⟩ h8 gc gm
        · rw [w_wr, if_neg (by omega)]; exact c7
        · rw [w_wr, if_pos ⟨rfl, rfl⟩]; rfl
        · exact (x_wr_rd (by omega)).trans (bg a1 a2 a3)
      · have hs1 : s + 1 < 6 := by omega
        obtain ⟨μc0, b1, b2, b3⟩ := t_call (v := v) w hv pc ow fw cc hs1 (oc z) o4 (f7_runFrom k)
        obtain ⟨l24, lB⟩ := rowM_len (O := O ++ E) (F := F) (r := P (5 + i) b 2) w (oc z)
        let μ27 := x_wr (x_wr (x_wr (x_wr (x_wr (x_wr μm 194 h (nI (i + 1))) 196 h 2) 162 63 (nI (s + 1 + 1))) 162 64 0) 162 62 (nI v)) 162 60 0
        have x27 : gs (fun a b => decide ((187 ≤ a ∧ a ≤ 197) ∨ (a = 162 ∧ (b = 48 ∨ (60 ≤ b ∧ b ≤ 64))))) μm μ27 := by
          refine gs.wr (gs.wr (gs.wr (gs.wr (gs.wr x6 ?_) ?_) ?_) ?_) ?_ <;> exact decide_eq_true (by omega)
        have g27 : gs (pD h (s + 1)) μm μ27 := by
          refine gs.wr (gs.wr (gs.wr (gs.wr (gs.wr g6 ?_) ?_) ?_) ?_) ?_ <;> exact pDy (by omega)
        have S27 := S'.m x27
        obtain ⟨μ30, d1, d2, d3, d4⟩ := u_row (s := s + 1 + 1) w S27.2.1.1 ow fw S27.2.1.2.1 (by omega) (oc z) o4
        have d4' : ∀ a b, ¬ ((a = 187 ∧ b = s + 1 + 1) ∨ (a = 188 ∧ 24 * (s + 1 + 1) ≤ b) ∨ (a = 189 ∧ b = s + 1 + 1)) → μ30 a b = μ27 a b := fun a b q => d4 a b (by
          unfold pN pM
          rw [Bool.eq_false_iff]
          intro e
          simp only [Bool.or_eq_true, Bool.and_eq_true, beq_iff_eq, decide_eq_true_eq] at e
          omega)
        have x30 : gs (fun a b => decide ((187 ≤ a ∧ a ≤ 197) ∨ (a = 162 ∧ (b = 48 ∨ (60 ≤ b ∧ b ≤ 64))))) μm μ30 := x27.trans (fun a b q => d4' a b (fun e => (of_decide_eq_false q) (by omega)))
        have g30 : gs (pD h (s + 1)) μm μ30 := g27.trans (fun a b q => d4' a b (fun e => absurd q (by rw [pDy (by omega)]; decide)))
        refine nest (s + 1) (P (5 + i) b 1) 0 2 (rowM P (O ++ E) F (P (5 + i) b 1) (P (5 + i) b 2)) μc0 μ30 (by omega) hs1 (oc z) l24 lB (by omega) (Or.inr rfl) (fun e => absurd e (by decide)) ?_ (fun K f => ?_) ((S'.m x30).c w hv (b3.mono (fun a b q => decide_eq_true (by have := of_decide_eq_true q; omega)))) b2 ⟨d2, d3⟩ (b3.mono (fun a b q => pCy (by have := of_decide_eq_true q; omega))) g30 ?_ ?_ ?_ ?_ ?_ ?_ ?_
        · obtain ⟨-, r1, r2, r3, r4, r5, r6, r7, r8, r9, r10⟩ := r_body b (by omega)
          unfold cAC
          rw [z, sw4, a_rfd r4, a_chk r7, r10, a_ald (by omega) (by decide), ((pc.2.2.2.2 b hbB).2.2.2.2.2 i hi').2.2, a_chk (rn1 hv).1, nI_1, b1]
          show (f7_runFrom k v0 (nI (s + 1)) (nI 0) (nI v) μc0).bind _ = f7_runFrom k v0 (nI (s + 1)) (nI 0) (nI v) μc0
          cases f7_runFrom k v0 (nI (s + 1)) (nI 0) (nI v) μc0 <;> rfl
        · have z27 : f12_layRow (μ27 162 63) (nI (P (5 + i) b 1)) (nI (P (5 + i) b 2)) μ27 = some μ30 := d1
          have D2 := D
          unfold mAC at D2
          rw [z, sw4, a_ald hh (by decide), e6.1, if_neg (show ¬ nI (s + 1) = 6 from nI_ne (b := 6) (by omega) (by decide) (by omega)), a_ast hh (by decide), a_ald hh (by decide), show (x_wr (x_wr μm 194 h (nI (i + 1))) 196 h 2) 190 h = nI (s + 1) from e6.1, nI_1, a_put, a_put, a_ald hh (by decide), show (x_wr (x_wr (x_wr (x_wr μm 194 h (nI (i + 1))) 196 h 2) 162 63 (nI (s + 1 + 1))) 162 64 0) 193 h = nI v from e3, a_put, a_put, a_ald (by omega) (by decide), show (x_wr (x_wr (x_wr (x_wr (x_wr (x_wr μm 194 h (nI (i + 1))) 196 h 2) 162 63 (nI (s + 1 + 1))) 162 64 0) 162 62 (nI v)) 162 60 0) 181 (18 * b + 3 * i + 1) = nI (P (5 + i) b 1) from e1, a_ald (by omega) (by decide), show (x_wr (x_wr (x_wr (x_wr (x_wr (x_wr μm 194 h (nI (i + 1))) 196 h 2) 162 63 (nI (s + 1 + 1))) 162 64 0) 162 62 (nI v)) 162 60 0) 181 (18 * b + 3 * i + 2) = nI (P (5 + i) b 2) from e2, show f12_layRow _ (nI (P (5 + i) b 1)) (nI (P (5 + i) b 2)) (x_wr (x_wr (x_wr (x_wr (x_wr (x_wr μm 194 h (nI (i + 1))) 196 h 2) 162 63 (nI (s + 1 + 1))) 162 64 0) 162 62 (nI v)) 162 60 0) = some μ30 from z27] at D2
          unfold DA
          rw [D2]
          exact l20 _ K f
        · refine EN.of (μ := μ27) ?_ (fun a _ _ => d4' _ _ (by omega))
          exact e6.w6 (x := 2)
        · rw [d4' _ _ (by omega)]
          show (x_wr _ 196 h 2) 196 h = nI 2
          rw [w_wr, if_pos ⟨rfl, rfl⟩]
          rfl
        · rw [d4' _ _ (by omega)]; exact h8
        · rw [d4' _ _ (by omega)]; rfl
        · rw [d4' _ _ (by omega)]; rfl
        · rw [d4' _ _ (by omega)]; rfl
        · rw [d4' _ _ (by omega)]; rfl
    · obtain ⟨ol, os⟩ := ow5 z
      have h16 := ow.1
      have cl3 := pc.2.2.2.1 _ ol
      have ml3 := pm.2.2.2.1 _ ol
      obtain ⟨b', hb', eb⟩ : ∃ b', ((P 3 (P (5 + i) b 1) 0 = 0 ∧ b' = 0) ∨ (P 3 (P (5 + i) b 1) 0 = 1 ∧ b' = t + 1)) ∧ f7_wokenThing μc v0 (nI (P (5 + i) b 1)) (nI s) = some (cN (-1000000) b') := by
        unfold f7_wokenThing
        rw [a_chk (rn1 hv).1, a_rld (show P (5 + i) b 1 < 8 by omega) (by decide) (r_layer _ (by omega)).1, a_chk (r_layer _ (by omega)).2, cl3.1]
        rcases (show P 3 (P (5 + i) b 1) 0 = 0 ∨ P 3 (P (5 + i) b 1) 0 = 1 by omega) with e | e
        · refine ⟨0, Or.inl ⟨e, rfl⟩, ?_⟩
          rw [e, if_neg (show ¬ nI 0 = 1 by decide)]
          rfl
        · refine ⟨t + 1, Or.inr ⟨e, rfl⟩, ?_⟩
          rw [e, if_pos (show nI 1 = 1 from rfl), a_rfd (rn1 hv).2.2.2.1, a_chk (rn1 hv).2.2.2.2.2.2.2.1, (rn1 hv).2.2.2.2.2.2.2.2.2.2.2.1, a_ald hs (by decide), sc.2.2]
          rfl
      by_cases c16 : (O ++ E).length < 16
      · have c : cAC (f7_runFrom k) v0 b i s p v (P (5 + i) b 1) (nI (P (5 + i) b 0)) μc = some (nI v, xpush μc (O ++ E).length (nI (P (5 + i) b 1)) (cN (-1000000) b')) := by
          unfold cAC
          rw [z, sw5, a_chk (rn1 hv).1, eb]
          simp only [Option.bind_some]
          rw [t_open cc h16, if_pos c16]
          simp only [Option.bind_some, e10, if_false]
        rw [c] at C
        let μp := x_wr (mpush (x_wr μm 194 h (nI (i + 1))) (O ++ E).length (nI (P (5 + i) b 1)) (cN (-1000000) b')) 195 h (nI (E.length + 1))
        have d : f12_doActs_l2 (fun (μ47 : xMu) => (some μ47)) (g + 1 + 1) 1 μm = f12_doActs_l2 (fun (μ47 : xMu) => (some μ47)) (g + 1) 1 μp := by
          rw [D]
          unfold mAC
          rw [z, sw5, show (x_wr μm 194 h (nI (i + 1))) 162 41 = nI (O ++ E).length from cm.1, if_neg (show ¬ nI (O ++ E).length = 16 from nI_ne (b := 16) (by omega) (by decide) (by omega)), a_ald (by omega) (by decide), e1, a_ast c16 (by decide), a_ald (by omega) (by decide), show (x_wr (x_wr μm 194 h (nI (i + 1))) 185 (O ++ E).length (nI (P (5 + i) b 1))) 181 (18 * b + 3 * i + 1) = nI (P (5 + i) b 1) from e1, a_ald (by omega) (by decide), show (x_wr (x_wr μm 194 h (nI (i + 1))) 185 (O ++ E).length (nI (P (5 + i) b 1))) 169 (P (5 + i) b 1) = nI (P 3 (P (5 + i) b 1) 0) from ml3.1, show (x_wr (x_wr μm 194 h (nI (i + 1))) 185 (O ++ E).length (nI (P (5 + i) b 1))) 162 41 = nI (O ++ E).length from cm.1]
          have j5 : f12_doActs_j405 (f12_doActs_l2 (fun (μ47 : xMu) => (some μ47)) (g + 1)) 1 (nI h) (nI (O ++ E).length) (cN (-1000000) b') (x_wr (x_wr μm 194 h (nI (i + 1))) 185 (O ++ E).length (nI (P (5 + i) b 1))) = f12_doActs_l2 (fun (μ47 : xMu) => (some μ47)) (g + 1) 1 μp := by
            unfold f12_doActs_j405 f12_doActs_j436
            rw [a_ast c16 (by decide), a_put, show (x_wr (x_wr (x_wr μm 194 h (nI (i + 1))) 185 (O ++ E).length (nI (P (5 + i) b 1))) 186 (O ++ E).length (cN (-1000000) b')) 162 41 = nI (O ++ E).length from cm.1, nI_1, a_ald hh (by decide), show (x_wr (x_wr (x_wr (x_wr μm 194 h (nI (i + 1))) 185 (O ++ E).length (nI (P (5 + i) b 1))) 186 (O ++ E).length (cN (-1000000) b')) 162 41 (nI ((O ++ E).length + 1))) 195 h = nI E.length from e6.2.2.2.2.2.1, nI_1, a_ast hh (by decide)]
            rfl
          rcases hb' with ⟨e, rfl⟩ | ⟨e, rfl⟩
          · rw [e, if_pos (show nI 0 = 0 from rfl)]
            exact j5
          · rw [e, if_neg (show ¬ nI 1 = 0 by decide)]
            exact j5
        have gp : gs (pD h (s + 1)) μm μp := by
          refine gs.wr (gs.wr (gs.wr (gs.wr g6 ?_) ?_) ?_) ?_ <;> exact pDy (by omega)
        have gc : gs (pC v0 (s + 1)) μc (xpush μc (O ++ E).length (nI (P (5 + i) b 1)) (cN (-1000000) b')) := by
          refine gs.wr (gs.wr (gs.wr gs.refl ?_) ?_) ?_ <;> exact pCy (by omega)
        have cc1 := cc.push (P (5 + i) b 1) b'
        have cm1 := (show CM (O ++ E) F (x_wr μm 194 h (nI (i + 1))) from S6.2.1.2.1).push (P (5 + i) b 1) b'
        rw [List.append_assoc] at cc1 cm1
        have S1 : SS v0 P (O ++ (E ++ [(P (5 + i) b 1, b')])) F n 0 (xpush μc (O ++ E).length (nI (P (5 + i) b 1)) (cN (-1000000) b')) μp := by
          refine ⟨⟨pCP hv w pc gc, cc1, ?_, ?_⟩, ⟨pDP pm gp, cm1.of rfl rfl rfl rfl, m7, m9⟩, ⟨?_, fun q hq => ?_⟩, fw, hn60, by decide, fun a1 a2 a3 => ?_⟩
          · unfold xpush
            rw [x_wr_rd (by omega), x_wr_rd (by omega), x_wr_rd (by omega)]; exact c7
          · unfold xpush
            rw [x_wr_rd (by omega), x_wr_rd (by omega), x_wr_rd (by omega)]; exact c8
          · rw [← List.append_assoc, List.length_append]
            simp only [List.length_cons, List.length_nil]
            omega
          · rw [← List.append_assoc, List.mem_append] at hq
            rcases hq with hq | hq
            · exact ow.2 q hq
            · simp at hq
              subst hq
              refine ⟨ol, ?_⟩
              rcases hb' with ⟨e, rfl⟩ | ⟨e, rfl⟩
              · exact Or.inl ⟨e, rfl⟩
              · exact Or.inr ⟨e, by omega, by omega⟩
          · refine Eq.trans ?_ (bg a1 a2 a3)
            unfold xpush
            rw [x_wr_rd (by omega), x_wr_rd (by omega), x_wr_rd (by omega)]
        have ep : EN h s p g0 v (i + 1) (E ++ [(P (5 + i) b 1, b')]).length y μp := by
          refine ⟨e6.1, e6.2.1, e6.2.2.1, e6.2.2.2.1, e6.2.2.2.2.1, ?_, e6.2.2.2.2.2.2⟩
          rw [List.length_append]
          exact (w_wr _ _ _ _ _ _).trans (if_pos ⟨rfl, rfl⟩)
        exact AR.step C d gc gp (ih (i + 1) (g + 1) (fc + 1) v F n (E ++ [(P (5 + i) b 1, b')]) _ μp (by omega) (by omega) (by omega) hk hv3 hn S1 (sc.of hv gc (by omega) hs) (sm.of hR gp (by omega)) ep h8)
      · have c : cAC (f7_runFrom k) v0 b i s p v (P (5 + i) b 1) (nI (P (5 + i) b 0)) μc = some (-1000004, μc) := by
          unfold cAC
          rw [z, sw5, a_chk (rn1 hv).1, eb]
          simp only [Option.bind_some]
          rw [t_open cc h16, if_neg c16]
          simp only [Option.bind_some, e00, if_true]
        rw [c] at C
        have D2 := D
        unfold mAC at D2
        rw [z, sw5, show (x_wr μm 194 h (nI (i + 1))) 162 41 = nI (O ++ E).length from cm.1, show (O ++ E).length = 16 by omega, if_pos (show nI 16 = 16 from rfl)] at D2
        exact AR.no hb24 C (DA_no D2) (by omega) (Nat.le_refl n) S6 e6 h8 gs.refl g6
    · have c : cAC (f7_runFrom k) v0 b i s p v (P (5 + i) b 1) (nI (P (5 + i) b 0)) μc = some (-1000004, μc) := by
        unfold cAC
        rw [z, sw6]
      rw [c] at C
      have D2 := D
      unfold mAC at D2
      rw [z, sw6] at D2
      exact AR.no hb24 C (DA_no D2) (by omega) (Nat.le_refl n) S6 e6 h8 gs.refl g6
