/-! System.arraycopy; the JDK's methods on String constants -/
def x_cp (μ : xMu) (a i b j n : Nat) : xMu := fun c k => if c = b ∧ j ≤ k ∧ k < j + n then μ a (i + (k - j)) else μ c k
def x_cpy {α : Type} (μ : xMu) (a : Nat) (i : Int32) (b : Nat) (j n : Int32) (f : xMu → Option α) : Option α :=
  bif !(decide (i < 0)) && !(decide (j < 0)) && !(decide (n < 0)) && decide (i.toNatClampNeg + n.toNatClampNeg ≤ x_sz a) && decide (j.toNatClampNeg + n.toNatClampNeg ≤ x_sz b) then f (x_cp μ a i.toNatClampNeg b j.toNatClampNeg n.toNatClampNeg) else none
def x_slen (q : Nat) : Option Int32 := bif decide (910 ≤ q) && decide (q < 918) then some (nI (x_len.getD (q - 910) 0)) else none
def x_schar (q : Nat) (i : Int32) : Option Int32 := bif decide (910 ≤ q) && decide (q < 918) && x_inb i (x_len.getD (q - 910) 0) then some ((x_byt.getD (q - 910) []).getD i.toNatClampNeg 0) else none
theorem x_cp_row (μ : xMu) (a i b j n : Nat) : x_cp μ a i b j n b = va_cpy (μ a) (μ b) i j n := by
  funext k
  simp [x_cp, va_cpy]
theorem x_cp_ne {μ : xMu} {a i b j n c : Nat} (h : c ≠ b) : x_cp μ a i b j n c = μ c := by
  funext k
  simp [x_cp, h]
section HAND
variable {G : xG} {M : xM} {d pc : Nat} {L : List (Option Value)} {st : List Value} {μ : xMu} {α : Type} {w : α → Option Value × xMu} {o o2 : Option α}
theorem wx_copy {a b idx : Nat} {i j n : Int32} {f : xMu → Option α} (ha : x_is a 13) (hb1 : x_is b 13) (hd1 : 1 ≤ d) (hw : Cond.methodLink M.1.cls idx arraycopyName ∈ x_ws) (hrest : (st.map fun v => v.category).sum ≤ 8) (hd : decode M.2.1 pc = .ok (.invokestatic idx, 3)) (kk : ∀ μ1, Wx G M d (pc + 3) L st μ1 w (f μ1)) :
    Wx G M d pc L (.int n :: .int j :: .ref b :: .int i :: .ref a :: st) μ w (x_cpy μ a i b j n f) := by
  intro q ho p e s m args below meth c E hr hq ls H locs hl hP hS
  obtain ⟨h1, h2⟩ := x_bt ho
  simp only [Bool.and_eq_true, decide_eq_true_eq, Bool.not_eq_true', decide_eq_false_iff_not] at h1
  obtain ⟨⟨⟨⟨c1, c2⟩, c3⟩, c4⟩, c5⟩ := h1
  obtain ⟨hx, hb, hml, hown, hts, hK, hinj, hE⟩ := id E
  have he0 := x_W_at (cy := G.2.2.1) (ad := G.2.2.2) (μ := μ) ha.1
  have he1 := x_W_at (cy := G.2.2.1) (ad := G.2.2.2) (μ := μ) hb1.1
  rw [x_cell_i ha.2] at he0
  rw [x_cell_i hb1.2] at he1
  have hsum : ((st.map (x_cv G.2.2.2)).map fun v => v.category).sum ≤ 8 := by rw [x_rest]; exact hrest
  refine va_copyi hx hb (by rw [hml, hl.1]) hown (hts _ hw) (hts _ xw_557) (hts _ xw_556) (hts _ xw_104) hK hP (x_D hinj) hS a b 0 0 he0 he1 rfl rfl rfl c1 c2 c3 c4 c5 (fun _ _ => rfl) hd1 ?_ hd (fun H1 locs1 hP1 _ hS1 => ?_)
  · have : nativeFrameWords "java/lang/System" "arraycopy" 5 = 7 := by decide
    rw [this]
    show _ ≤ 40 * d
    omega
  · rw [x_W_set (μ' := x_cp μ a i.toNatClampNeg b j.toNatClampNeg n.toNatClampNeg) (by rw [x_cell_i hb1.2, x_cp_row]) (fun q h => by simp only [x_cell, x_fv, x_cp_ne h])] at hP1
    exact kk _ q h2 p e s m args below meth c E hr hq ls H1 locs1 hl hP1 hS1
/-- an answer of a small type -/
theorem wx_nret {a0 : α} {v : Int32} {ty : FieldType} (hw : w a0 = (some (.int v), μ)) (hM : M.2.2.2 = some ty) (hz : narrow ty (.int v) = .int v) (hd : decode M.2.1 pc = .ok (.ireturn, 1)) : Wx G M d pc L [.int v] μ w (some a0) := by
  intro a ho p e s m args below meth c E hr hk ls H locs hl hP hS
  cases ho
  rw [hw]
  exact W.zret E.1 E.2.1 (hr.trans hM) hz (fun t ht hW => ⟨rfl, by rw [ht]; exact hP, hS.F ht⟩) hS.2.2 hd hk
/-- a call on a String constant -/
theorem wx_callT {β : Type} {w1 : β → Option Value × xMu} {o1 : Option β} {f : β → Option α} {M' : xM} {d1 idx i n : Nat} {As rest : List Value} (hd1 : d1 < d) (hi : i < 8) (hc : M'.1.cls = "java/lang/String") (C : x_CV M.1.cls idx M' n) (hn : As.length = n) (hrest : (rest.map fun v => v.category).sum ≤ 8)
    (hM : Mx G M' d1 (.ref (910 + i) :: As) μ w1 o1) (hst : st = As.reverse ++ .ref (910 + i) :: rest) (hd : decode M.2.1 pc = .ok (.invokevirtual idx, 3)) (kk : ∀ b, Wx G M d (pc + 3) L ((w1 b).1.toList ++ rest) (w1 b).2 w (f b)) : Wx G M d pc L st μ w (o1.bind f) := by
  intro a ho p e s m args below meth c E hr hq
  obtain ⟨b, hb1, hf⟩ := Option.bind_eq_some_iff.mp ho
  intro ls H locs hl hP hS
  obtain ⟨hx, hb, hml, hown, hts, hK, hinj, hE⟩ := id E
  obtain ⟨hlink, hinst, hsel, hpd, hcode, hpl, hnm, hini, hnL⟩ := C
  subst hst
  refine wy_back (r := (w1 b).1) (μ' := (w1 b).2) E hl hS (va_runV (cc := M.2.1) (nL := M.2.2.1) (As := As.map (x_cv G.2.2.2)) (n := n) (b := G.2.2.2 (910 + i)) (C := M'.1.cls) (Ts := x_ws) (own := M.1.cls) ⟨hx, hb, hml, hown, hts⟩ (hM b hb1)
    (⟨callB_of n hts (x_goodM hcode) rfl rfl rfl (hts _ hini) (hts _ hlink) ⟨hnm.1, hnm.2, hpd⟩ ⟨hd1, by show 8 + (M'.2.2.1 + 11) + 40 * d1 ≤ 40 * d; omega⟩, hts _ hinst, hts _ hsel⟩)
    ⟨x_blind, by rw [hc]; exact vk_recv (i := i) (adK := fun i => G.2.2.2 (910 + i)) hE.2.2.2.1 hi hS, fun U hU hW => ⟨rfl, by rw [hU]; exact hP, va_K.moved hW.alike hK, hinj, hE.go hS hU hW⟩⟩ rfl (by rw [List.length_map]; exact hn) hl.1 (by simp [x_cv]) (lv_room (by rw [x_rest]; exact hrest)) hd ⟨Nat.le_refl 0, Nat.le_refl 0⟩) (kk b a hf p e s m args below meth c E hr hq)
theorem wx_sval {i idx : Nat} (hi : i < 8) (hw : Cond.fieldLink M.1.cls idx "java/lang/String" "value" "[B" ∈ x_ws) (hd : decode M.2.1 pc = .ok (.getfield idx, 3)) (kk : Wx G M d (pc + 3) L (.ref (930 + i) :: st) μ w o) : Wx G M d pc L (.ref (910 + i) :: st) μ w o := by
  intro a ho p e s m args below meth c E hr hq ls H locs hl hP hS
  obtain ⟨hx, hb, hml, hown, hts, hK, hinj, hE⟩ := id E
  exact vk_getf (ref := "java/lang/String") hx hb (hE.2.2.2.1.1 i hi).2.2.1 hS hown (hts _ hw) (fun _ h => h) hd (kk a ho p e s m args below meth c E hr hq ls H locs hl hP hS)
theorem wx_scod {i idx : Nat} (hi : i < 8) (hw : Cond.fieldLink M.1.cls idx "java/lang/String" "coder" "B" ∈ x_ws) (hd : decode M.2.1 pc = .ok (.getfield idx, 3)) (kk : Wx G M d (pc + 3) L (.int 0 :: st) μ w o) : Wx G M d pc L (.ref (910 + i) :: st) μ w o := by
  intro a ho p e s m args below meth c E hr hq ls H locs hl hP hS
  obtain ⟨hx, hb, hml, hown, hts, hK, hinj, hE⟩ := id E
  exact vk_getf (ref := "java/lang/String") hx hb (hE.2.2.2.1.1 i hi).2.1 hS hown (hts _ hw) (fun _ h => h) hd (kk a ho p e s m args below meth c E hr hq ls H locs hl hP hS)
theorem wx_scom {idx : Nat} (hw : Cond.fieldLink M.1.cls idx "java/lang/String" "COMPACT_STRINGS" "Z" ∈ x_ws) (hd : decode M.2.1 pc = .ok (.getstatic idx, 3)) (kk : Wx G M d (pc + 3) L (.int 1 :: st) μ w o) : Wx G M d pc L st μ w o := by
  intro a ho p e s m args below meth c E hr hq ls H locs hl hP hS
  obtain ⟨hx, hb, hml, hown, hts, hK, hinj, hE⟩ := id E
  exact va_gets (ref := "java/lang/String") hx hb hE.2.2.1 hS hown (hts _ hw) (fun x h => h) hd (kk a ho p e s m args below meth c E hr hq ls H locs hl hP hS)
theorem wx_ssio {idx : Nat} (hw : Cond.fieldLink M.1.cls idx "jdk/internal/util/Preconditions" "SIOOBE_FORMATTER" "Ljava/util/function/BiFunction;" ∈ x_ws) (hd : decode M.2.1 pc = .ok (.getstatic idx, 3)) (kk : ∀ v : Value, (v = .null ∨ v = .ref 950) → Wx G M d (pc + 3) L (v :: st) μ w o) : Wx G M d pc L st μ w o := by
  intro a ho p e s m args below meth c E hr hq ls H locs hl hP hS
  obtain ⟨hx, hb, hml, hown, hts, hK, hinj, hE⟩ := id E
  obtain ⟨v, hv, hz⟩ := hE.2.2.2.2.2
  exact va_gets (ref := "jdk/internal/util/Preconditions") hx hb hz hS hown (hts _ hw) (fun x h => h) hd (kk v hv a ho p e s m args below meth c E hr hq ls H locs hl hP hS)
theorem wx_salen {i : Nat} (hi : i < 8) (hd : decode M.2.1 pc = .ok (.arraylength, 1)) (kk : Wx G M d (pc + 1) L (.int (nI (x_len.getD i 0)) :: st) μ w o) : Wx G M d pc L (.ref (930 + i) :: st) μ w o := by
  intro a ho p e s m args below meth c E hr hq ls H locs hl hP hS
  obtain ⟨hx, hb, hml, hown, hts, hK, hinj, hE⟩ := id E
  exact va_tlen hx hb (hE.2.2.2.1.1 i hi).2.2.2 hS rfl hd (kk a ho p e s m args below meth c E hr hq ls H locs hl hP hS)
theorem wx_sbald {i : Nat} {j : Int32} (hi : i < 8) (hin : vp_in j (x_len.getD i 0)) (hd : decode M.2.1 pc = .ok (.baload, 1)) (kk : Wx G M d (pc + 1) L (.int ((x_byt.getD i []).getD j.toNatClampNeg 0) :: st) μ w o) : Wx G M d pc L (.int j :: .ref (930 + i) :: st) μ w o := by
  intro a ho p e s m args below meth c E hr hq ls H locs hl hP hS
  obtain ⟨hx, hb, hml, hown, hts, hK, hinj, hE⟩ := id E
  exact va_tb hx hb (hE.2.2.2.1.1 i hi).2.2.2 hS hin rfl hd (kk a ho p e s m args below meth c E hr hq ls H locs hl hP hS)
end HAND
def mJ_length : xM := (yJ0_length_8abf5, cJ0_length_8abf5, 1, some .int)
def mJ_charAt : xM := (yJ0_charAt_5068e, cJ0_charAt_5068e, 2, some .char)
def mJ_coder : xM := (yJ0_coder_7d493, cJ0_coder_7d493, 1, some .byte)
def mJ_isLatin1 : xM := (yJ0_isLatin1_aae02, cJ0_isLatin1_aae02, 1, some .boolean)
def mJ_checkIndex : xM := (yJ0_checkIndex_df160, cJ0_checkIndex_df160, 2, none)
def mJ_latinAt : xM := (yJ1_charAt_3b067, cJ1_charAt_3b067, 2, some .char)
def mJ_preCheck : xM := (yJ3_checkIndex_8e157, cJ3_checkIndex_8e157, 3, some .int)
theorem okJ_length : x_ok mJ_length := ⟨xw_626, by decide +kernel, ⟨by decide +kernel, by decide +kernel⟩, xw_105, by decide⟩
theorem okJ_charAt : x_ok mJ_charAt := ⟨xw_636, by decide +kernel, ⟨by decide +kernel, by decide +kernel⟩, xw_105, by decide⟩
theorem okJ_coder : x_ok mJ_coder := ⟨xw_630, by decide +kernel, ⟨by decide +kernel, by decide +kernel⟩, xw_105, by decide⟩
theorem okJ_isLatin1 : x_ok mJ_isLatin1 := ⟨xw_640, by decide +kernel, ⟨by decide +kernel, by decide +kernel⟩, xw_105, by decide⟩
theorem okJ_checkIndex : x_ok mJ_checkIndex := ⟨xw_646, by decide +kernel, ⟨by decide +kernel, by decide +kernel⟩, xw_105, by decide⟩
theorem okJ_latinAt : x_ok mJ_latinAt := ⟨xw_643, by decide +kernel, ⟨by decide +kernel, by decide +kernel⟩, xw_106, by decide⟩
theorem okJ_preCheck : x_ok mJ_preCheck := ⟨xw_651, by decide +kernel, ⟨by decide +kernel, by decide +kernel⟩, xw_107, by decide⟩
theorem cJ_preCheck : x_CS RJ0 1059 mJ_preCheck 3 := ⟨xw_649, xw_650, by decide +kernel, okJ_preCheck⟩
theorem cJ_coder : x_CV RJ0 335 mJ_coder 0 := ⟨xw_627, xw_628, xw_629, by decide +kernel, okJ_coder⟩
theorem cJ_isLatin1 : x_CV RJ0 492 mJ_isLatin1 0 := ⟨xw_637, xw_638, xw_639, by decide +kernel, okJ_isLatin1⟩
theorem cJ_latinAt : x_CS RJ0 495 mJ_latinAt 2 := ⟨xw_641, xw_642, by decide +kernel, okJ_latinAt⟩
theorem cJ_checkIndex : x_CS RJ1 9 mJ_checkIndex 2 := ⟨xw_644, xw_645, by decide +kernel, okJ_checkIndex⟩
theorem l_J_preCheck (G : xG) (d : Nat) (μ : xMu) (i n : Int32) (v : Value) (hv : v = .null ∨ v = .ref 950) (h1 : ¬ i < 0) (h2 : i < n) : Mx G mJ_preCheck d [.int i, .int n, v] μ (x_wi μ) (some i) := by
  refine mx_enter okJ_preCheck [some (.int i), some (.int n), some v] (by rcases hv with rfl | rfl <;> rfl) (by rcases hv with rfl | rfl <;> exact Nat.le_of_ble_eq_true rfl) ?_
  refine wx_blk (pc' := 1) (L' := [some (.int i), some (.int n), some v]) (st' := [.int i]) [.iload_n 0] (by decide +kernel) rfl rfl ?_
  have e1 : (some i : Option Int32) = if i < 0 then none else some i := by rw [if_neg h1]
  rw [e1]
  refine wx_if_lt 9 (off := 8) (by decide +kernel) (by decide) wx_none ?_
  refine wx_blk (pc' := 6) (L' := [some (.int i), some (.int n), some v]) (st' := [.int n, .int i]) [.iload_n 0, .iload_n 1] (by decide +kernel) rfl rfl ?_
  have e2 : (some i : Option Int32) = if i < n then some i else none := by rw [if_pos h2]
  rw [e2]
  refine wx_ic_lt 16 (off := 10) (by decide +kernel) (by decide) ?_ wx_none
  refine wx_blk (pc' := 17) (L' := [some (.int i), some (.int n), some v]) (st' := [.int i]) [.iload_n 0] (by decide +kernel) rfl rfl ?_
  exact wx_iret rfl rfl (by decide +kernel)
theorem l_J_checkIndex (G : xG) (d : Nat) (hd : 1 ≤ d) (μ : xMu) (i n : Int32) (h1 : ¬ i < 0) (h2 : i < n) : Mx G mJ_checkIndex d [.int i, .int n] μ (x_wu μ) (some ()) := by
  refine mx_enter okJ_checkIndex [some (.int i), some (.int n)] rfl (Nat.le_of_ble_eq_true rfl) ?_
  refine wx_blk (pc' := 2) (L' := [some (.int i), some (.int n)]) (st' := [.int n, .int i]) [.iload_n 0, .iload_n 1] (by decide +kernel) rfl rfl ?_
  refine wx_ssio xw_647 (by decide +kernel) (fun v hv => ?_)
  have e1 : (some () : Option Unit) = (some i).bind (fun _ => some ()) := rfl
  rw [e1]
  refine wx_callS (d1 := 0) (As := [.int i, .int n, v]) (rest := []) hd cJ_preCheck rfl (Nat.le_of_ble_eq_true rfl) (l_J_preCheck G 0 μ i n v hv h1 h2) rfl (by decide +kernel) (fun r => ?_)
  refine wx_blk (pc' := 9) (L' := [some (.int i), some (.int n)]) (st' := []) [.pop] (by decide +kernel) rfl rfl ?_
  exact wx_vret rfl rfl (by decide +kernel)
theorem l_J_coder (G : xG) (d : Nat) (μ : xMu) (i : Nat) (hi : i < 8) : Mx G mJ_coder d [.ref (910 + i)] μ (x_wi μ) (some 0) := by
  refine mx_enter okJ_coder [some (.ref (910 + i))] rfl (Nat.le_of_ble_eq_true rfl) ?_
  refine wx_scom xw_631 (by decide +kernel) ?_
  have e1 : (some (0 : Int32)) = if (1 : Int32) = 0 then none else some 0 := by decide
  rw [e1]
  refine wx_if_eq 13 (off := 10) (by decide +kernel) (by decide) wx_none ?_
  refine wx_blk (pc' := 7) (L' := [some (.ref (910 + i))]) (st' := [.ref (910 + i)]) [.aload_n 0] (by decide +kernel) rfl rfl ?_
  refine wx_scod hi xw_1728 (by decide +kernel) ?_
  refine wx_goto 14 (off := 4) (by decide +kernel) (by decide) ?_
  exact wx_nret rfl rfl (by decide) (by decide +kernel)
theorem l_J_isLatin1 (G : xG) (d : Nat) (μ : xMu) (i : Nat) (hi : i < 8) : Mx G mJ_isLatin1 d [.ref (910 + i)] μ (x_wi μ) (some 1) := by
  refine mx_enter okJ_isLatin1 [some (.ref (910 + i))] rfl (Nat.le_of_ble_eq_true rfl) ?_
  refine wx_scom xw_631 (by decide +kernel) ?_
  have e1 : (some (1 : Int32)) = if (1 : Int32) = 0 then none else some 1 := by decide
  rw [e1]
  refine wx_if_eq 17 (off := 14) (by decide +kernel) (by decide) wx_none ?_
  refine wx_blk (pc' := 7) (L' := [some (.ref (910 + i))]) (st' := [.ref (910 + i)]) [.aload_n 0] (by decide +kernel) rfl rfl ?_
  refine wx_scod hi xw_1728 (by decide +kernel) ?_
  have e2 : (some (1 : Int32)) = if (0 : Int32) = 0 then some 1 else none := by decide
  rw [e2]
  refine wx_if_ne 17 (off := 7) (by decide +kernel) (by decide) wx_none ?_
  refine wx_blk (pc' := 14) (L' := [some (.ref (910 + i))]) (st' := [.int 1]) [.iconst 1] (by decide +kernel) rfl rfl ?_
  refine wx_goto 18 (off := 4) (by decide +kernel) (by decide) ?_
  exact wx_zret rfl rfl (by decide) (by decide +kernel)
theorem l_J_length (G : xG) (d : Nat) (hd : 1 ≤ d) (μ : xMu) (i : Nat) (hi : i < 8) : Mx G mJ_length d [.ref (910 + i)] μ (x_wi μ) (some (nI (x_len.getD i 0))) := by
  refine mx_enter okJ_length [some (.ref (910 + i))] rfl (Nat.le_of_ble_eq_true rfl) ?_
  refine wx_blk (pc' := 1) (L' := [some (.ref (910 + i))]) (st' := [.ref (910 + i)]) [.aload_n 0] (by decide +kernel) rfl rfl ?_
  refine wx_sval hi xw_1727 (by decide +kernel) ?_
  refine wx_salen hi (by decide +kernel) ?_
  refine wx_blk (pc' := 6) (L' := [some (.ref (910 + i))]) (st' := [.ref (910 + i), .int (nI (x_len.getD i 0))]) [.aload_n 0] (by decide +kernel) rfl rfl ?_
  have e1 : (some (nI (x_len.getD i 0))) = (some (0 : Int32)).bind (fun z => some (nI (x_len.getD i 0) >>> (z &&& 31))) := by
    simp
  rw [e1]
  refine wx_callT (d1 := 0) (As := []) (rest := [.int (nI (x_len.getD i 0))]) hd hi rfl cJ_coder rfl (Nat.le_of_ble_eq_true rfl) (l_J_coder G 0 μ i hi) rfl (by decide +kernel) (fun z => ?_)
  refine wx_blk (pc' := 10) (L' := [some (.ref (910 + i))]) (st' := [.int (nI (x_len.getD i 0) >>> (z &&& 31))]) [.ishr] (by decide +kernel) rfl rfl ?_
  exact wx_iret rfl rfl (by decide +kernel)
theorem l_J_latinAt (G : xG) (d : Nat) (hd : 2 ≤ d) (μ : xMu) (i : Nat) (hi : i < 8) (j : Int32) (hj : vp_in j (x_len.getD i 0)) : Mx G mJ_latinAt d [.ref (930 + i), .int j] μ (x_wi μ) (some ((x_byt.getD i []).getD j.toNatClampNeg 0)) := by
  have hlen : x_len.getD i 0 < 2 ^ 31 := by
    have h : ∀ i, i < 8 → x_len.getD i 0 < 2 ^ 31 := by decide
    exact h i hi
  obtain ⟨k, hk, rfl⟩ := vp_in_of hj hlen
  have hb : ∀ i, i < 8 → ∀ k, k < x_len.getD i 0 → (((x_byt.getD i []).getD k 0 &&& 255).toUInt32 % 65536).toInt32 = (x_byt.getD i []).getD k 0 ∧ narrow .char (.int ((x_byt.getD i []).getD k 0)) = .int ((x_byt.getD i []).getD k 0) := by decide +kernel
  obtain ⟨hb1, hb2⟩ := hb i hi k hk
  have hcl : (nI k).toNatClampNeg = k := nI_clamp (by omega)
  refine mx_enter okJ_latinAt [some (.ref (930 + i)), some (.int (nI k))] rfl (Nat.le_of_ble_eq_true rfl) ?_
  refine wx_blk (pc' := 2) (L' := [some (.ref (930 + i)), some (.int (nI k))]) (st' := [.ref (930 + i), .int (nI k)]) [.iload_n 1, .aload_n 0] (by decide +kernel) rfl rfl ?_
  refine wx_salen hi (by decide +kernel) ?_
  rw [show ∀ x : Int32, some x = (some ()).bind (fun _ => some x) from fun _ => rfl]
  refine wx_callS (d1 := 1) (As := [.int (nI k), .int (nI (x_len.getD i 0))]) (rest := []) hd cJ_checkIndex rfl (Nat.le_of_ble_eq_true rfl) (l_J_checkIndex G 1 (Nat.le_refl 1) μ _ _ (nI_pos (by omega)) (nI_lt hk hlen)) rfl (by decide +kernel) (fun r => ?_)
  refine wx_blk (pc' := 8) (L' := [some (.ref (930 + i)), some (.int (nI k))]) (st' := [.int (nI k), .ref (930 + i)]) [.aload_n 0, .iload_n 1] (by decide +kernel) rfl rfl ?_
  refine wx_sbald hi hj (by decide +kernel) ?_
  rw [hcl]
  refine wx_blk (pc' := 14) (L' := [some (.ref (930 + i)), some (.int (nI k))]) (st' := [.int ((((x_byt.getD i []).getD k 0 &&& 255).toUInt32 % 65536).toInt32)]) [.sipush 255, .iand, .i2c] (by decide +kernel) rfl rfl ?_
  rw [hb1]
  exact wx_nret rfl rfl hb2 (by decide +kernel)
theorem l_J_charAt (G : xG) (d : Nat) (hd : 3 ≤ d) (μ : xMu) (i : Nat) (hi : i < 8) (j : Int32) (hj : vp_in j (x_len.getD i 0)) : Mx G mJ_charAt d [.ref (910 + i), .int j] μ (x_wi μ) (some ((x_byt.getD i []).getD j.toNatClampNeg 0)) := by
  have hlen : x_len.getD i 0 < 2 ^ 31 := by
    have h : ∀ i, i < 8 → x_len.getD i 0 < 2 ^ 31 := by decide
    exact h i hi
  have hb2 : narrow .char (.int ((x_byt.getD i []).getD j.toNatClampNeg 0)) = .int ((x_byt.getD i []).getD j.toNatClampNeg 0) := by
    obtain ⟨k, hk, rfl⟩ := vp_in_of hj hlen
    rw [nI_clamp (by omega)]
    have hb : ∀ i, i < 8 → ∀ k, k < x_len.getD i 0 → narrow .char (.int ((x_byt.getD i []).getD k 0)) = .int ((x_byt.getD i []).getD k 0) := by decide +kernel
    exact hb i hi k hk
  refine mx_enter okJ_charAt [some (.ref (910 + i)), some (.int j)] rfl (Nat.le_of_ble_eq_true rfl) ?_
  refine wx_blk (pc' := 1) (L' := [some (.ref (910 + i)), some (.int j)]) (st' := [.ref (910 + i)]) [.aload_n 0] (by decide +kernel) rfl rfl ?_
  have e0 : ∀ x : Int32, some x = (some (1 : Int32)).bind (fun z => if z = 0 then none else some x) := fun x => rfl
  rw [e0]
  refine wx_callT (d1 := 0) (As := []) (rest := []) (by omega) hi rfl cJ_isLatin1 rfl (Nat.le_of_ble_eq_true rfl) (l_J_isLatin1 G 0 μ i hi) rfl (by decide +kernel) (fun z => ?_)
  refine wx_if_eq 16 (off := 12) (by decide +kernel) (by decide) wx_none ?_
  refine wx_blk (pc' := 8) (L' := [some (.ref (910 + i)), some (.int j)]) (st' := [.ref (910 + i)]) [.aload_n 0] (by decide +kernel) rfl rfl ?_
  refine wx_sval hi xw_1727 (by decide +kernel) ?_
  refine wx_blk (pc' := 12) (L' := [some (.ref (910 + i)), some (.int j)]) (st' := [.int j, .ref (930 + i)]) [.iload_n 1] (by decide +kernel) rfl rfl ?_
  have h1 := l_J_latinAt G 2 (Nat.le_refl 2) μ i hi j hj
  generalize (x_byt.getD i []).getD j.toNatClampNeg 0 = y at h1 hb2 ⊢
  have e1 : (some y) = (some y).bind (fun z => if z = y then some y else none) := by simp
  rw [e1]
  refine wx_callS (d1 := 2) (As := [.ref (930 + i), .int j]) (rest := []) (by omega) cJ_latinAt rfl (Nat.le_of_ble_eq_true rfl) h1 rfl (by decide +kernel) (fun z => ?_)
  intro a ha
  split at ha
  · next hz =>
    cases ha
    subst hz
    exact wx_nret rfl rfl hb2 (by decide +kernel) _ rfl
  · cases ha
theorem wx_slen {G : xG} {M : xM} {d pc : Nat} {L : List (Option Value)} {st : List Value} {μ : xMu} {α : Type} {w : α → Option Value × xMu} {q idx : Nat} {f : Int32 → Option α} (hd1 : 3 ≤ d) (hw : Cond.methodLink M.1.cls idx mJ_length.1 ∈ x_ws) (hrest : (st.map fun v => v.category).sum ≤ 8) (hd : decode M.2.1 pc = .ok (.invokevirtual idx, 3)) (kk : ∀ v, Wx G M d (pc + 3) L (.int v :: st) μ w (f v)) :
    Wx G M d pc L (.ref q :: st) μ w ((x_slen q).bind f) := by
  intro a ho
  obtain ⟨b, hb, hf⟩ := Option.bind_eq_some_iff.mp ho
  obtain ⟨h1, h2⟩ := x_bt hb
  simp only [Bool.and_eq_true, decide_eq_true_eq] at h1
  obtain ⟨i, rfl⟩ : ∃ i, q = 910 + i := ⟨q - 910, by omega⟩
  have hi : i < 8 := by omega
  rw [show 910 + i - 910 = i by omega] at h2
  have h3 := l_J_length G 1 (Nat.le_refl 1) μ i hi
  rw [h2] at h3
  have h4 : Wx G M d pc L (.ref (910 + i) :: st) μ w ((some b).bind f) := wx_callT (d1 := 1) (As := []) (rest := st) (by omega) hi rfl (n := 0) ⟨hw, xw_624, xw_625, by decide +kernel, okJ_length⟩ rfl hrest h3 rfl hd kk
  exact h4 a hf
theorem wx_schar {G : xG} {M : xM} {d pc : Nat} {L : List (Option Value)} {st : List Value} {μ : xMu} {α : Type} {w : α → Option Value × xMu} {q idx : Nat} {j : Int32} {f : Int32 → Option α} (hd1 : 4 ≤ d) (hw : Cond.methodLink M.1.cls idx mJ_charAt.1 ∈ x_ws) (hrest : (st.map fun v => v.category).sum ≤ 8) (hd : decode M.2.1 pc = .ok (.invokevirtual idx, 3)) (kk : ∀ v, Wx G M d (pc + 3) L (.int v :: st) μ w (f v)) :
    Wx G M d pc L (.int j :: .ref q :: st) μ w ((x_schar q j).bind f) := by
  intro a ho
  obtain ⟨b, hb, hf⟩ := Option.bind_eq_some_iff.mp ho
  obtain ⟨h1, h2⟩ := x_bt hb
  simp only [Bool.and_eq_true, decide_eq_true_eq] at h1
  obtain ⟨i, rfl⟩ : ∃ i, q = 910 + i := ⟨q - 910, by omega⟩
  have hi : i < 8 := by omega
  rw [show 910 + i - 910 = i by omega] at h1 h2
  have h3 := l_J_charAt G 3 (Nat.le_refl 3) μ i hi j (x_in_of h1.2)
  rw [h2] at h3
  have h4 : Wx G M d pc L (.int j :: .ref (910 + i) :: st) μ w ((some b).bind f) := wx_callT (d1 := 3) (As := [.int j]) (rest := st) (by omega) hi rfl (n := 1) ⟨hw, xw_634, xw_635, by decide +kernel, okJ_charAt⟩ rfl hrest h3 rfl hd kk
  exact h4 a hf
