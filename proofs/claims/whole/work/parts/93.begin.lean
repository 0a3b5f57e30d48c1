theorem c_fin_at {σ : xS} (h : c_fin σ = true) : σ.1 = 203 ∧ ∀ k, k < 203 → ∀ j, j < x_sz k → σ.2.2.1 k j = x_mu0 k j ∧ (x_rf k j = none ∨ σ.2.2.2 k j = true) := by
  simp only [c_fin, Bool.and_eq_true, beq_iff_eq] at h
  refine ⟨h.1, fun k hk j hj => ?_⟩
  have h1 := List.all_eq_true.mp h.2 k (List.mem_range.mpr hk)
  have h2 := List.all_eq_true.mp h1 j (List.mem_range.mpr hj)
  simpa using h2
/-- the constructors' world is the memory's -/
theorem c_to_x {D : va_G} {cy : Nat → ClassId} {ad : Nat → Nat} {σ : xS} {H : Heap} (h : c_fin σ = true) (hP : va_P D vwCl (c_W cy ad σ) H) : va_P D vwCl (x_W cy ad x_mu0) H := by
  obtain ⟨h1, h2⟩ := c_fin_at h
  intro k q hq
  obtain ⟨hk, rfl⟩ := x_W_some hq
  have hk' : k < 203 := hk
  have h3 := hP k _ (c_W_at (cy := cy) (ad := ad) (σ := σ) (by omega))
  have hr : ∀ j, j < x_sz k → c_rf σ k j = x_rf k j := by
    intro j hj
    unfold c_rf
    rcases (h2 k hk' j hj).2 with e | e
    · rw [e]; split <;> rfl
    · rw [if_pos e]
  by_cases c1 : x_kd k < 13
  · rw [c_cell_o rfl c1] at h3
    rw [x_cell_o rfl c1]
    have e : (List.range (x_sz k)).map (fun j => x_cv ad (c_fv σ k j)) = (List.range (x_sz k)).map (fun j => x_cv ad (x_fv x_mu0 k j)) := by
      apply List.map_congr_left
      intro j hj
      have hj' := List.mem_range.mp hj
      unfold c_fv x_fv
      rw [hr j hj', (h2 k hk' j hj').1]
    rw [e] at h3
    exact h3
  · by_cases c2 : x_kd k < 15
    · have e1 : c_cell cy ad σ k = .inl (cy (x_kd k), x_sz k, .inl (σ.2.2.1 k)) := by simp [c_cell, c1, c2]
      have e2 : x_cell cy ad x_mu0 k = .inl (cy (x_kd k), x_sz k, .inl (x_mu0 k)) := by simp [x_cell, c1, c2]
      rw [e1] at h3
      rw [e2]
      have e3 : vp_cell (cy (x_kd k)) (x_sz k, .inl (σ.2.2.1 k)) = vp_cell (cy (x_kd k)) (x_sz k, .inl (x_mu0 k)) := by
        rw [vp_cell_i, vp_cell_i]
        unfold arrV
        congr 1
        apply congrArg
        funext j
        show Value.int (σ.2.2.1 k j.val) = Value.int (x_mu0 k j.val)
        rw [(h2 k hk' j.val j.isLt).1]
      show H[ad k]? = some (vp_cell (cy (x_kd k)) (x_sz k, .inl (x_mu0 k)))
      rw [← e3]
      exact h3
    · have e1 : c_cell cy ad σ k = .inl (cy (x_kd k), x_sz k, .inr (.inr (.inr (.inr (fun j => (c_rf σ k j).map ad))))) := by simp [c_cell, c1, c2]
      have e2 : x_cell cy ad x_mu0 k = .inl (cy (x_kd k), x_sz k, .inr (.inr (.inr (.inr (fun j => (x_rf k j).map ad))))) := by simp [x_cell, c1, c2]
      rw [e1] at h3
      rw [e2]
      have e3 : vp_cell (cy (x_kd k)) (x_sz k, .inr (.inr (.inr (.inr (fun j => (c_rf σ k j).map ad))))) = vp_cell (cy (x_kd k)) (x_sz k, .inr (.inr (.inr (.inr (fun j => (x_rf k j).map ad))))) := by
        rw [vp_cell_q, vp_cell_q]
        unfold arrV
        congr 1
        apply congrArg
        funext j
        show va_rf ((c_rf σ k j.val).map ad) = va_rf ((x_rf k j.val).map ad)
        rw [hr j.val j.isLt]
      show H[ad k]? = some (vp_cell (cy (x_kd k)) (x_sz k, .inr (.inr (.inr (.inr (fun j => (x_rf k j).map ad))))))
      rw [← e3]
      exact h3
set_option maxHeartbeats 4000000 in
set_option maxRecDepth 100000 in
/-- THE LAW, from its entry, over a relation that all calls keep -/
theorem lw_start {p : Program} {e : Env} {s : State} {m : MethodId} {below : List Frame} {meth : Method} {c : Code} (l : Launch) {b L : Nat} {xs : Nat → Int32} (hL : L ≤ 3072) (C0 : lw_At p s m meth c b L xs) {Rr : xMu → Prop} (hAll : x_All Rr) (h0 : Rr x_mu0) : W p l e room_1 s m #[Value.ref b] below meth c s.heap [] 0 0 (lw_Z below #[Value.ref b] s) (entryFrame m ([Value.ref b] : List Value).toArray 4) := by
  obtain ⟨hx, hb, hr, hml, hown, hts, hX, hbl, hlocks, hgv⟩ := id C0
  obtain ⟨D, cy, hK, hO⟩ := lw_K hts
  obtain ⟨t900, t950, adK, adV, hext⟩ := lw_ext hts hgv
  obtain ⟨ad, hade⟩ : ∃ ad : Nat → Nat, ad = fun k => if k < 203 then s.heap.size + k else if k < 910 then t900 else if k < 930 then adK (k - 910) else if k < 950 then adV (k - 930) else if k < 998 then t950 else b := ⟨_, rfl⟩
  have had : c_ad ad s.heap.size := by
    intro k hk
    have : k < 203 := hk
    rw [hade]
    simp [this]
  have h998 : ad 998 = b := by rw [hade]; simp
  have hA : ∀ a, a < s.heap.size → ¬ x_A ad a := by
    rintro a ha ⟨k, hk, rfl⟩
    rw [had k hk] at ha
    omega
  have hE : x_Ext ad s := by
    refine hext ad (by rw [hade]; simp) (by rw [hade]; simp) (fun i hi => ⟨?_, ?_⟩) hA
    · rw [hade]
      show (if 910 + i < 203 then _ else if 910 + i < 910 then _ else if 910 + i < 930 then adK (910 + i - 910) else _) = _
      rw [if_neg (by omega), if_neg (by omega), if_pos (by omega), Nat.add_sub_cancel_left]
    · rw [hade]
      show (if 930 + i < 203 then _ else if 930 + i < 910 then _ else if 930 + i < 930 then _ else if 930 + i < 950 then adV (930 + i - 930) else _) = _
      rw [if_neg (by omega), if_neg (by omega), if_neg (by omega), if_pos (by omega), Nat.add_sub_cancel_left]
  have hinj : x_inj ad := by
    intro i j hi hj he
    rw [had i hi, had j hj] at he
    omega
  have hxs : ∀ w ∈ x_ws, w.before #[Value.ref b] s = true := fun w h => hts w (x_ws_tbl w h)
  have CE : c_E D cy ad s.heap.size 0 mL p s m #[Value.ref b] c := ⟨hx, hb, hml, hown, hxs, hK, had, rfl, hO⟩
  have XE : x_E D cy ad mL p s m #[Value.ref b] c := ⟨hx, hb, hml, hown, hxs, hK, hinj, hE⟩
  have hXa : va_X (ad 998) L xs s s.heap := by rw [h998]; exact hX
  have hba : ad 998 < s.heap.size := by rw [h998]; exact hbl
  have hAa : ¬ x_A ad (ad 998) := hA _ hba
  -- the end
  have hend : ∀ (k : Nat) (μ : xMu), Wy p l e room_1 s m #[Value.ref b] below meth c 203 5251 (lw_Z below #[Value.ref b] s) D cy ad mL 942 [some (.ref 998), some (.ref 0), some (.ref 162), some (.int (nI k))] [] μ := by
    intro k μ
    refine wy_blk (pc' := 943) (L' := [some (.ref 998), some (.ref 0), some (.ref 162), some (.int (nI k))]) (st' := [.int 1]) XE [.iconst 1] (by decide +kernel) rfl rfl ?_
    intro ls H locs hl hP hS
    refine W.widen (k := 600000) (n := 7302250) (by omega) (by omega) ?_
    refine va_forget (fun q hq => ?_) ?_
    · obtain ⟨k, hk, e1⟩ := hS.2.2 q hq
      rw [← e1, had k hk]
      omega
    · exact lw_ret hx hb hr hlocks (by decide +kernel)
  have hloop := lw_loop (cells := 203) (slots := 5251) XE ⟨by decide, by decide⟩ hXa hba hAa hL hAll hend (L + 1) 0 x_mu0 (by omega) (by omega) h0
  -- the constructors
  obtain ⟨σ2, r1, r2⟩ := c_chk_at c_run
  simp only [Bool.and_eq_true, beq_iff_eq] at r2
  obtain ⟨⟨⟨r3, r4⟩, r5⟩, r6⟩ := r2
  obtain ⟨σ4, r7, r8⟩ := c_chk_at r6
  have r9 := (c_fin_at r8).1
  have main : Cy p l e room_1 s m #[Value.ref b] below meth c 0 0 (lw_Z below #[Value.ref b] s) D cy ad s.heap.size 0 mL 0 [some (.ref 998), none, none, none] [] c_s0 := by
    refine cy_new (ci := 11) (N := 11) (ty0 := tyX11) (idx := 7) (σ' := (1, 11, c_s0.2.2)) CE rfl (by decide) cin_11 tyX11_ok (x_in 110 (by decide +kernel) rfl) (x_in 111 (by decide +kernel) rfl) ok11_init.2.2.2.1 (by decide) (by decide) (fun j hj => ?_) rfl rfl (by decide) (by decide) (by decide +kernel) ?_
    · have hd : ∀ j, j < 11 → defaultValue (tyX11 j) = (if x_fr 11 j then .null else .int 0) := by decide +kernel
      rw [hd j hj]
      unfold c_fv c_rf
      show (if x_fr 11 j then Value.null else Value.int 0) = (if x_fr (x_kd 0) j then va_rf (if false = true then x_rf 0 j else none) else .int 0) ∧ (if x_fr (x_kd 0) j then va_rf (if false = true then x_rf 0 j else none) else .int 0) = x_cv ad (if x_fr (x_kd 0) j then va_rf (if false = true then x_rf 0 j else none) else .int 0)
      rw [show x_kd 0 = 11 by decide]
      cases x_fr 11 j <;> exact ⟨rfl, rfl⟩
    refine cy_blk (pc' := 4) (L' := [some (.ref 998), none, none, none]) (st' := [.ref 0, .ref 0]) CE [.dup] (by decide +kernel) rfl rfl ?_
    refine cy_callI (M' := m11_init) (d := 3) (idx := 9) (k := 0) (n := 0) (dn := 161) (ds := 2534) (As := []) (rest := [.ref 0]) (σ' := σ2) (σ2 := (162, 2545, σ2.2.2)) (lim := (162, 2545)) CE rfl ⟨by decide, by decide⟩ ⟨by decide, by decide⟩ ⟨Or.inl (hxs (Cond.methodLink RL 9 yX11_init) (x_in 112 (by decide +kernel) rfl)), x_in 113 (by decide +kernel) rfl, rfl, by decide +kernel, ok11_init, rfl⟩ rfl (by decide) rfl (by decide +kernel) (l_f11_init (l, D, cy, ad) s.heap.size 3 (by decide) (162, 2545) 0 (1, 11, c_s0.2.2) σ2 r1) r3 r3.symm rfl ?_
    refine cy_blk (pc' := 8) (L' := [some (.ref 998), some (.ref 0), none, none]) (st' := []) CE [.astore_n 1] (by decide +kernel) rfl rfl ?_
    refine cy_new (ci := 12) (N := 72) (ty0 := tyX12) (idx := 10) (σ' := (163, 2617, σ2.2.2)) CE rfl (by decide) cin_12 tyX12_ok (x_in 1159 (by decide +kernel) rfl) (x_in 1160 (by decide +kernel) rfl) ok12_init.2.2.2.1 (show 162 < x_N by decide) (show x_kd 162 = 12 by decide) (fun j hj => ?_) rfl rfl (by decide) (by decide) (by decide +kernel) ?_
    · have hd : ∀ j, j < 72 → defaultValue (tyX12 j) = (if x_fr 12 j then .null else .int 0) := by decide +kernel
      rw [hd j hj]
      have z1 : σ2.2.2.1 162 j = 0 := by have := List.all_eq_true.mp r4 j (List.mem_range.mpr hj); simpa using this
      have z2 : σ2.2.2.2 162 j = false := by have := List.all_eq_true.mp r5 j (List.mem_range.mpr hj); simpa using this
      unfold c_fv c_rf
      show (if x_fr 12 j then Value.null else Value.int 0) = (if x_fr (x_kd 162) j then va_rf (if σ2.2.2.2 162 j = true then x_rf 162 j else none) else .int (σ2.2.2.1 162 j)) ∧ (if x_fr (x_kd 162) j then va_rf (if σ2.2.2.2 162 j = true then x_rf 162 j else none) else .int (σ2.2.2.1 162 j)) = x_cv ad (if x_fr (x_kd 162) j then va_rf (if σ2.2.2.2 162 j = true then x_rf 162 j else none) else .int (σ2.2.2.1 162 j))
      rw [show x_kd 162 = 12 by decide, z1, z2]
      cases x_fr 12 j <;> exact ⟨rfl, rfl⟩
    refine cy_blk (pc' := 12) (L' := [some (.ref 998), some (.ref 0), none, none]) (st' := [.ref 162, .ref 162]) CE [.dup] (by decide +kernel) rfl rfl ?_
    refine cy_callI (M' := m12_init) (d := 1) (idx := 12) (k := 162) (n := 0) (dn := 40) (ds := 2634) (As := []) (rest := [.ref 162]) (σ' := σ4) (σ2 := (203, 5251, σ4.2.2)) (lim := (203, 5251)) CE rfl ⟨by decide, by decide⟩ ⟨by decide, by decide⟩ ⟨Or.inl (hxs (Cond.methodLink RL 12 yX12_init) (x_in 1161 (by decide +kernel) rfl)), x_in 1162 (by decide +kernel) rfl, rfl, by decide +kernel, ok12_init, rfl⟩ rfl (by decide) rfl (by decide +kernel) (l_f12_init (l, D, cy, ad) s.heap.size 1 (by decide) (203, 5251) 162 (163, 2617, σ2.2.2) σ4 r7) r9 r9.symm rfl ?_
    refine cy_blk (pc' := 18) (L' := [some (.ref 998), some (.ref 0), some (.ref 162), some (.int 0)]) (st' := []) CE [.astore_n 2, .iconst 0, .istore_n 3] (by decide +kernel) rfl rfl ?_
    intro _ _ ls H locs hl hP hS
    have hP2 : va_P D vwCl (c_W cy ad σ4) H := by
      have e : c_W cy ad (203, 5251, σ4.2.2) = c_W cy ad σ4 := by
        unfold c_W
        rw [r9]
        rfl
      rw [← e]
      exact hP
    refine va_forget (fun q hq => hS.2.2 q hq) ?_
    exact hloop ls H [] hl (c_to_x r8 hP2) ⟨hS.1, fun q h1 _ => hS.2.1 q h1 (Nat.not_le.mpr h1), fun _ h => by cases h⟩
  have hl := lv_entry ([Value.ref b]) (n := 4) (Nat.le_of_ble_eq_true rfl)
  rw [lg_entry_eq]
  refine main rfl (by decide) _ s.heap [] ⟨hl.1, rfl, hl.2.1, fun i v hi => ?_⟩ (fun k q h => by simp [c_W, c_s0] at h) va_S.rf
  match i, hi with
  | 0, hi =>
    cases hi
    show _ = some (Slot.val (.ref (ad 998)))
    rw [h998]
    rfl
  | 1, hi => cases hi
  | 2, hi => cases hi
  | 3, hi => cases hi
  | n + 4, hi => simp at hi
