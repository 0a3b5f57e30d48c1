/-! from the law's entry to its loop -/
def lw_F : List Cond := flatC (Jvm.Cond.and given_1 narrow_1)
def lw_tm (i : Nat) : Term := Term.string "WakingLayers$Reader" (x_txI.getD i 0)
abbrev lw_ab : Term := Term.static "WakingLayers$Asker" "ABOVE" "[I"
theorem lw_f1 : Cond.eq (Term.static "java/lang/String" "COMPACT_STRINGS" "Z") (Term.int 1) ∈ lw_F := by decide +kernel
theorem lw_f2 : Cond.isRef (Term.static "jdk/internal/util/Preconditions" "SIOOBE_FORMATTER" "Ljava/util/function/BiFunction;") ∈ lw_F := by decide +kernel
theorem lw_f3 : Cond.arrayOf lw_ab .int ∈ lw_F ∧ Cond.eq (Term.length lw_ab) (Term.int (Int32.ofNat 6)) ∈ lw_F := by decide +kernel
theorem lw_f4 : ∀ j, j < 6 → Cond.eq (Term.elem lw_ab (Term.int (Int32.ofNat j))) (Term.int (x_aboL.getD j 0)) ∈ lw_F := by decide +kernel
theorem lw_f5 : ∀ i, i < 8 → Cond.exactly (lw_tm i) "java/lang/String" ∈ lw_F ∧ Cond.eq (.field (lw_tm i) "java/lang/String" "coder" "B") (.int 0) ∈ lw_F ∧ Cond.arrayOf (.field (lw_tm i) "java/lang/String" "value" "[B") .byte ∈ lw_F ∧ Cond.eq (.length (.field (lw_tm i) "java/lang/String" "value" "[B")) (.int (Int32.ofNat (x_len.getD i 0))) ∈ lw_F := by decide +kernel
theorem lw_f6 : ∀ i, i < 8 → ∀ j, j < x_len.getD i 0 → Cond.eq (.elem (.field (lw_tm i) "java/lang/String" "value" "[B") (.int (Int32.ofNat j))) (.int ((x_byt.getD i []).getD j 0)) ∈ lw_F := by decide +kernel
theorem lw_f7 : ∀ i, i < 8 → ∀ j, j < 8 → i ≠ j → Cond.not (Cond.eq (lw_tm i) (lw_tm j)) ∈ lw_F ∨ Cond.not (Cond.eq (lw_tm j) (lw_tm i)) ∈ lw_F := by decide +kernel
theorem lw_f8 : ∀ i, i < 8 → Cond.stringRef "WakingLayers$Reader" (x_txI.getD i 0) (x_txt.getD i "") ∈ lw_tbl := by decide +kernel
theorem lw_f9 : ∀ i, i < 8 → x_len.getD i 0 < 2 ^ 31 := by decide
theorem lw_w1 : Cond.laysStatic "WakingLayers$Asker" "ABOVE" "[I" ∈ lw_tbl ∧ Cond.laysStatic "java/lang/String" "COMPACT_STRINGS" "Z" ∈ lw_tbl ∧ Cond.laysStatic "jdk/internal/util/Preconditions" "SIOOBE_FORMATTER" "Ljava/util/function/BiFunction;" ∈ lw_tbl :=
  ⟨List.mem_of_getElem? (i := 1061) (by decide +kernel), List.mem_of_getElem? (i := 632) (by decide +kernel), List.mem_of_getElem? (i := 648) (by decide +kernel)⟩
theorem lw_w2 : Cond.initialized "WakingLayers$Asker" ∈ x_ws ∧ Cond.initialized "java/lang/String" ∈ x_ws ∧ Cond.initialized "jdk/internal/util/Preconditions" ∈ x_ws := ⟨by
  have h := ok0_isKind
  exact h.2.2.2.1, xw_105, xw_107⟩
/-- what lies outside the memory, at the law's entry -/
theorem lw_ext {args : Array Value} {s : State} (hts : ∀ w ∈ lw_tbl, w.before args s = true) (hgv : (Jvm.Cond.and given_1 narrow_1).before args s = true) : ∃ (t900 t950 : Nat) (adK adV : Nat → Nat), ∀ ad : Nat → Nat, ad 900 = t900 → ad 950 = t950 → (∀ i, i < 8 → ad (910 + i) = adK i ∧ ad (930 + i) = adV i) → (∀ a, a < s.heap.size → ¬ x_A ad a) → x_Ext ad s := by
  have hF : ∀ w ∈ lw_F, w.before args s = true := flat_of_before _ hgv
  have hxs : ∀ w ∈ x_ws, w.before args s = true := fun w h => hts w (x_ws_tbl w h)
  have hno : ∀ a : Nat, a < s.heap.size → ¬ (fun _ : Nat => False) a := fun _ _ h => h
  obtain ⟨t, ht, hT⟩ := va_Tof (tm := lw_ab) (ty := .int) (N := 6) (f := fun j => .int (x_aboL.getD j 0)) (A := fun _ => False) (by decide) (hF _ lw_f3.1) (va_eqt (hF _ lw_f3.2)) (fun j hj => va_eqt (hF _ (lw_f4 j hj))) hno
  obtain ⟨adK, adV, hS, hK⟩ := vk_Sof (N := 8) (tm := lw_tm) (len := x_len) (byt := x_byt) (A := fun _ => False) lw_f9 (fun i hi => hF _ (lw_f5 i hi).1) (fun i hi => hF _ (lw_f5 i hi).2.1) (fun i hi => hF _ (lw_f5 i hi).2.2.1) (fun i hi => hF _ (lw_f5 i hi).2.2.2) (fun i hi j hj => hF _ (lw_f6 i hi j hj)) (fun i j hi hj hij => by
    rcases lw_f7 i hi j hj hij with h | h
    · exact Or.inl (hF _ h)
    · exact Or.inr (hF _ h)) hno
  have hq := va_Zqof (A := fun _ => False) (hts _ lw_w1.2.2) (hxs _ lw_w2.2.2) (hF _ lw_f2) hno
  obtain ⟨t950, h950⟩ : ∃ t950 : Nat, ∀ ad : Nat → Nat, ad 950 = t950 → (∀ a, a < s.heap.size → ¬ x_A ad a) → ∃ v : Value, (v = .null ∨ v = .ref 950) ∧ va_Z "jdk/internal/util/Preconditions" "SIOOBE_FORMATTER" "Ljava/util/function/BiFunction;" (x_cv ad v) (x_A ad) s s.heap := by
    rcases hq with h | ⟨t5, h⟩
    · refine ⟨0, fun ad _ hA => ⟨.null, Or.inl rfl, ?_⟩⟩
      obtain ⟨cf, kf, fi, f, a, cell, h1, h2, h3, h4, h5, h6, h7, -⟩ := h
      exact ⟨cf, kf, fi, f, a, cell, h1, h2, h3, h4, h5, h6, h7, hA a (Array.getElem?_eq_some_iff.mp h5).1⟩
    · refine ⟨t5, fun ad e hA => ⟨.ref 950, Or.inr rfl, ?_⟩⟩
      obtain ⟨cf, kf, fi, f, a, cell, h1, h2, h3, h4, h5, h6, h7, -⟩ := h
      refine ⟨cf, kf, fi, f, a, cell, h1, h2, h3, h4, h5, h6, ?_, hA a (Array.getElem?_eq_some_iff.mp h5).1⟩
      rw [h7]
      show some (Value.ref t5) = some (Value.ref (ad 950))
      rw [e]
  refine ⟨t, t950, adK, adV, fun ad e9 e95 hi hA => ⟨?_, ?_, ?_, ?_, ?_, h950 ad e95 hA⟩⟩
  · rw [e9]; exact va_Zref (hts _ lw_w1.1) (hxs _ lw_w2.1) ht hA
  · rw [e9]
    obtain ⟨cell, h1, h2, h3, h4, h5, h6, -⟩ := hT
    exact ⟨cell, h1, h2, h3, h4, h5, h6, hA t (Array.getElem?_eq_some_iff.mp h1).1⟩
  · exact va_Zof (hts _ lw_w1.2.1) (hxs _ lw_w2.2.1) (va_eqi (hF _ lw_f1)) hA
  · refine ⟨fun i h8 => ?_, fun i j h8 h9 e => ?_⟩
    · obtain ⟨⟨c1, g1, g2, g3, -⟩, ⟨a1, a2, a3, a4, a5, b1, b2, b3, b4, b5, -⟩, ⟨a1', a2', a3', a4', a5', b1', b2', b3', b4', b5', -⟩, ⟨c2, k1, k2, k3, k4, k5, k6, -⟩⟩ := hS.1 i h8
      show va_O _ (ad (910 + i)) _ _ _ ∧ va_OF _ _ _ _ (ad (910 + i)) _ _ _ ∧ va_OF _ _ _ (.ref (ad (930 + i))) (ad (910 + i)) _ _ _ ∧ va_T _ (ad (930 + i)) _ _ _ _ _
      rw [(hi i h8).1, (hi i h8).2]
      exact ⟨⟨c1, g1, g2, g3, hA _ (Array.getElem?_eq_some_iff.mp g1).1⟩, ⟨a1, a2, a3, a4, a5, b1, b2, b3, b4, b5, hA _ (Array.getElem?_eq_some_iff.mp b3).1⟩, ⟨a1', a2', a3', a4', a5', b1', b2', b3', b4', b5', hA _ (Array.getElem?_eq_some_iff.mp b3').1⟩, ⟨c2, k1, k2, k3, k4, k5, k6, hA _ (Array.getElem?_eq_some_iff.mp k1).1⟩⟩
    · have e1 : ad (910 + i) = ad (910 + j) := e
      rw [(hi i h8).1, (hi j h9).1] at e1
      exact hS.2 i j h8 h9 e1
  · intro i h8
    rw [(hi i h8).1]
    exact vk_R.of (A := args) (hts _ (lw_f8 i h8)) (hK i h8)
/-- the classes, at the law's entry -/
theorem lw_K {args : Array Value} {s : State} (hts : ∀ w ∈ lw_tbl, w.before args s = true) : ∃ (D : va_G) (cy : Nat → ClassId), va_K D vwCl (x_tys cy) s ∧ c_O s := by
  have hxs : ∀ w ∈ x_ws, w.before args s = true := fun w h => hts w (x_ws_tbl w h)
  have hin : ∀ (C : String) (n i : Nat), lw_tbl[i]? = some (.instantiable C n) → (Cond.instantiable C n).before args s = true := fun C n i h => hts _ (List.mem_of_getElem? h)
  obtain ⟨c0, iS0, hKn0⟩ := u_known (C := RX0) (T := TX0) (N := 4) (n := 4) hxs cin_0 (hin RX0 4 451 (by decide +kernel))
  obtain ⟨c1, iS1, hKn1⟩ := u_known (C := RX1) (T := TX1) (N := 8) (n := 8) hxs cin_1 (hin RX1 8 221 (by decide +kernel))
  obtain ⟨c2, iS2, hKn2⟩ := u_known (C := RX2) (T := TX2) (N := 6) (n := 6) hxs cin_2 (hin RX2 6 347 (by decide +kernel))
  obtain ⟨c3, iS3, hKn3⟩ := u_known (C := RX3) (T := TX3) (N := 8) (n := 8) hxs cin_3 (hin RX3 8 176 (by decide +kernel))
  obtain ⟨c4, iS4, hKn4⟩ := u_known (C := RX4) (T := TX4) (N := 13) (n := 13) hxs cin_4 (hin RX4 13 167 (by decide +kernel))
  obtain ⟨c5, iS5, hKn5⟩ := u_known (C := RX5) (T := TX5) (N := 5) (n := 5) hxs cin_5 (hin RX5 5 325 (by decide +kernel))
  obtain ⟨c6, iS6, hKn6⟩ := u_known (C := RX6) (T := TX6) (N := 5) (n := 5) hxs cin_6 (hin RX6 5 372 (by decide +kernel))
  obtain ⟨c7, iS7, hKn7⟩ := u_known (C := RX7) (T := TX7) (N := 9) (n := 9) hxs cin_7 (hin RX7 9 394 (by decide +kernel))
  obtain ⟨c8, iS8, hKn8⟩ := u_known (C := RX8) (T := TX8) (N := 4) (n := 4) hxs cin_8 (hin RX8 4 119 (by decide +kernel))
  obtain ⟨c9, iS9, hKn9⟩ := u_known (C := RX9) (T := TX9) (N := 5) (n := 5) hxs cin_9 (hin RX9 5 429 (by decide +kernel))
  obtain ⟨c10, iS10, hKn10⟩ := u_known (C := RX10) (T := TX10) (N := 6) (n := 6) hxs cin_10 (hin RX10 6 142 (by decide +kernel))
  obtain ⟨c11, iS11, hKn11⟩ := u_known (C := RX11) (T := TX11) (N := 11) (n := 11) hxs cin_11 (hin RX11 11 111 (by decide +kernel))
  obtain ⟨c12, iS12, hKn12⟩ := u_known (C := RX12) (T := TX12) (N := 72) (n := 72) hxs cin_12 (hin RX12 72 1160 (by decide +kernel))
  obtain ⟨dC, dI, hKc⟩ : ∃ (dC : Nat → ClassId) (dI : Nat → Nat → Nat), ∀ (k : Nat) (q : vw_C), vwCl[k]? = some q → u_Kn s q.1 q.2.1 q.2.2 (dC k) (dI k) := by
    refine ⟨fun k => [c0, c1, c2, c3, c4, c5, c6, c7, c8, c9, c10, c11, c12].getD k 0, fun k => [iS0, iS1, iS2, iS3, iS4, iS5, iS6, iS7, iS8, iS9, iS10, iS11, iS12].getD k (fun _ => 0), ?_⟩
    intro k q hq
    match k, hq with
    | 0, hq => cases hq; exact hKn0
    | 1, hq => cases hq; exact hKn1
    | 2, hq => cases hq; exact hKn2
    | 3, hq => cases hq; exact hKn3
    | 4, hq => cases hq; exact hKn4
    | 5, hq => cases hq; exact hKn5
    | 6, hq => cases hq; exact hKn6
    | 7, hq => cases hq; exact hKn7
    | 8, hq => cases hq; exact hKn8
    | 9, hq => cases hq; exact hKn9
    | 10, hq => cases hq; exact hKn10
    | 11, hq => cases hq; exact hKn11
    | 12, hq => cases hq; exact hKn12
    | k + 13, hq => simp [vwCl] at hq
  have hO : c_O s := ⟨va_AO.of (A := args) (hts (Cond.arrayOver (.object "WakingLayers$Body")) (List.mem_of_getElem? (i := 175) (by decide +kernel))), va_AO.of (A := args) (hts (Cond.arrayOver (.object "WakingLayers$Layer")) (List.mem_of_getElem? (i := 173) (by decide +kernel))), hts (Cond.arrayOver (.array .int)) (List.mem_of_getElem? (i := 125) (by decide +kernel)), va_Nw.of (A := args) rfl (hts _ (List.mem_of_getElem? (i := 120) (by decide +kernel))), va_Nw.of (A := args) rfl (hts _ (List.mem_of_getElem? (i := 143) (by decide +kernel))), va_Nw.of (A := args) rfl (hts _ (List.mem_of_getElem? (i := 177) (by decide +kernel))), va_Nw.of (A := args) rfl (hts _ (List.mem_of_getElem? (i := 222) (by decide +kernel)))⟩
  obtain ⟨c13, k13, p13, f13, h13, g13⟩ := Cond.arrayClass_spec (hxs (Cond.arrayClass .int) xc_140)
  obtain ⟨c14, k14, p14, f14, h14, g14⟩ := Cond.arrayClass_spec (hxs (Cond.arrayClass .boolean) xc_139)
  obtain ⟨p15, c15, k15, a15, -, h15, g15, f15⟩ := Cond.arrayOver_spec hO.1
  obtain ⟨p16, c16, k16, a16, -, h16, g16, f16⟩ := Cond.arrayOver_spec hO.2.1
  obtain ⟨p17, c17, k17, a17, -, h17, g17, f17⟩ := arrayOverA_spec hO.2.2.1
  refine ⟨(dC, dI), fun k => if k = 13 then c13 else if k = 14 then c14 else if k = 15 then c15 else if k = 16 then c16 else c17, ⟨hKc, ?_⟩, hO⟩
  intro k q hq
  match k, hq with
  | 0, hq => cases hq; exact ⟨fun n z => ⟨fun k h => (by cases h), k13, h13, p13, g13⟩, f13⟩
  | 1, hq => cases hq; exact ⟨fun n z => ⟨fun k h => (by cases h), k14, h14, p14, g14⟩, f14⟩
  | 2, hq => cases hq; exact ⟨fun n z => ⟨fun k h => (by cases h), k15, h15, p15, g15⟩, k15, p15, h15, g15, a15, f15⟩
  | 3, hq => cases hq; exact ⟨fun n z => ⟨fun k h => (by cases h), k16, h16, p16, g16⟩, k16, p16, h16, g16, a16, f16⟩
  | 4, hq => cases hq; exact ⟨fun n z => ⟨fun k h => (by cases h), k17, h17, p17, g17⟩, f17⟩
  | k + 5, hq => simp [x_tys] at hq
