/-! WakingLayers$Reader.readBody()V -/
def f5_readBody_l82 (k119 : xMu → Option xMu) : Nat → Nat → Int32 → xMu → Option xMu
  | 0, _, _, _ => none
  | n + 1, v1, v6, μ =>
  (if (6 : Int32) < v6 then
(k119 μ)
else
(if (μ 126 2) = 0 then
((f10_atSign μ (59 : Int32)).bind fun x9 =>
(if x9 = 0 then
((f5_readAct v1 μ).bind fun μ10 =>
((f5_readBody_l82 k119 n) v1 (v6 + (1 : Int32)) μ10))
else
(k119 μ)))
else
(k119 μ)))
set_option maxHeartbeats 4000000 in
set_option maxRecDepth 100000 in
theorem l_f5_readBody_l82 (G : xG) (d : Nat) (hd : 7 ≤ d) (k119 : xMu → Option xMu) (h119 : ∀ (μ1 : xMu), Wx G m5_readBody d 119 [some (.ref 126), none, none, none, none, none, none] [] μ1 x_wv (k119 μ1)) : ∀ (n : Nat) (v1 : Nat) (v6 : Int32) (μ : xMu), Wx G m5_readBody d 82 [some (.ref 126), some (.ref v1), none, none, none, none, some (.int v6)] [] μ x_wv (f5_readBody_l82 k119 n v1 v6 μ) := by
  intro n
  induction n with
  | zero => intro v1 v6 μ; exact wx_none
  | succ n h82 =>
    intro v1 v6 μ
    unfold f5_readBody_l82
    refine wx_blk (pc' := 86) (L' := [some (.ref 126), some (.ref v1), none, none, none, none, some (.int v6)]) (st' := [.int (6 : Int32), .int v6]) [.iload 6, .bipush 6] (by decide +kernel) rfl rfl ?_
    refine wx_ic_gt 119 (off := 33) (by decide +kernel) (by decide) ?_ ?_
    · refine wx_weak (L' := [some (.ref 126), none, none, none, none, none, none]) ⟨rfl, trivial⟩ ?_
      exact h119 μ
    · refine wx_blk (pc' := 90) (L' := [some (.ref 126), some (.ref v1), none, none, none, none, some (.int v6)]) (st' := [.ref 126]) [.aload_n 0] (by decide +kernel) rfl rfl ?_
      refine wx_geti is_126 ff_5_23 rfl (by decide +kernel) ?_
      refine wx_if_ne 119 (off := 26) (by decide +kernel) (by decide) ?_ ?_
      · refine wx_weak (L' := [some (.ref 126), none, none, none, none, none, none]) ⟨rfl, trivial⟩ ?_
        exact h119 μ
      · refine wx_blk (pc' := 97) (L' := [some (.ref 126), some (.ref v1), none, none, none, none, some (.int v6)]) (st' := [.ref 126]) [.aload_n 0] (by decide +kernel) rfl rfl ?_
        refine wx_getr is_126 ff_5_9 rfl rf_126_0 (by decide +kernel) ?_
        refine wx_blk (pc' := 102) (L' := [some (.ref 126), some (.ref v1), none, none, none, none, some (.int v6)]) (st' := [.int (59 : Int32), .ref 14]) [.bipush 59] (by decide +kernel) rfl rfl ?_
        refine wx_callV (d1 := 0) (As := [.int (59 : Int32)]) (rest := []) (by omega) is_14 (by decide) rfl cv_5_137 rfl (Nat.le_of_ble_eq_true rfl) (l_f10_atSign G 0 (by omega) μ (59 : Int32)) rfl (by decide +kernel) (fun x9 => ?_)
        refine wx_if_ne 119 (off := 14) (by decide +kernel) (by decide) ?_ ?_
        · refine wx_weak (L' := [some (.ref 126), none, none, none, none, none, none]) ⟨rfl, trivial⟩ ?_
          exact h119 μ
        · refine wx_blk (pc' := 110) (L' := [some (.ref 126), some (.ref v1), none, none, none, none, some (.int v6)]) (st' := [.ref v1, .ref 126]) [.aload_n 0, .aload_n 1] (by decide +kernel) rfl rfl ?_
          refine wx_callV (d1 := 6) (As := [.ref v1]) (rest := []) (by omega) is_126 (by decide) rfl cv_5_173 rfl (Nat.le_of_ble_eq_true rfl) (l_f5_readAct G 6 (by omega) v1 μ) rfl (by decide +kernel) (fun μ10 => ?_)
          refine wx_blk (pc' := 116) (L' := [some (.ref 126), some (.ref v1), none, none, none, none, some (.int (v6 + (1 : Int32)))]) (st' := []) [.iinc 6 1] (by decide +kernel) rfl rfl ?_
          refine wx_goto 82 (off := -34) (by decide +kernel) (by decide) ?_
          exact h82 v1 (v6 + (1 : Int32)) μ10
def f5_readBody_j119 (μ : xMu) : Option xMu :=
  ((f5_takeSign (59 : Int32) μ).bind fun μ12 =>
(if (μ12 126 2) = 0 then
(x_put μ12 16 8 ((μ12 16 8) + (1 : Int32)) fun μ13 =>
(some μ13))
else
(some μ12)))
set_option maxHeartbeats 4000000 in
set_option maxRecDepth 100000 in
theorem l_f5_readBody_j119 (G : xG) (d : Nat) (hd : 7 ≤ d) (μ : xMu) : Wx G m5_readBody d 119 [some (.ref 126), none, none, none, none, none, none] [] μ x_wv (f5_readBody_j119 μ) := by
  unfold f5_readBody_j119
  refine wx_blk (pc' := 122) (L' := [some (.ref 126), none, none, none, none, none, none]) (st' := [.int (59 : Int32), .ref 126]) [.aload_n 0, .bipush 59] (by decide +kernel) rfl rfl ?_
  refine wx_callV (d1 := 2) (As := [.int (59 : Int32)]) (rest := []) (by omega) is_126 (by decide) rfl cv_5_95 rfl (Nat.le_of_ble_eq_true rfl) (l_f5_takeSign G 2 (by omega) (59 : Int32) μ) rfl (by decide +kernel) (fun μ12 => ?_)
  refine wx_blk (pc' := 126) (L' := [some (.ref 126), none, none, none, none, none, none]) (st' := [.ref 126]) [.aload_n 0] (by decide +kernel) rfl rfl ?_
  refine wx_geti is_126 ff_5_23 rfl (by decide +kernel) ?_
  refine wx_if_ne 145 (off := 16) (by decide +kernel) (by decide) ?_ ?_
  · exact wx_vret rfl rfl (by decide +kernel)
  · refine wx_blk (pc' := 133) (L' := [some (.ref 126), none, none, none, none, none, none]) (st' := [.ref 126]) [.aload_n 0] (by decide +kernel) rfl rfl ?_
    refine wx_getr is_126 ff_5_15 rfl rf_126_1 (by decide +kernel) ?_
    refine wx_blk (pc' := 137) (L' := [some (.ref 126), none, none, none, none, none, none]) (st' := [.ref 16, .ref 16]) [.dup] (by decide +kernel) rfl rfl ?_
    refine wx_geti is_16 ff_5_155 rfl (by decide +kernel) ?_
    refine wx_blk (pc' := 142) (L' := [some (.ref 126), none, none, none, none, none, none]) (st' := [.int ((μ12 16 8) + (1 : Int32)), .ref 16]) [.iconst 1, .iadd] (by decide +kernel) rfl rfl ?_
    refine wx_put is_16 ff_5_155 fp_4_8 ⟨rfl, rfl⟩ (by decide +kernel) (fun μ13 => ?_)
    exact wx_vret rfl rfl (by decide +kernel)
def f5_readBody (μ : xMu) : Option xMu :=
  ((f5_takeFirstWord (μ 16 8) (24 : Int32) μ).bind fun μ1 =>
(if (μ1 126 2) = 0 then
(x_rld 21 24 (μ1 16 8) fun r2 =>
((f5_takeOwner μ1).bind fun q3 =>
((f5_takeNumber (q3.2 16 5) q3.2).bind fun q4 =>
((f5_takeNumber (4 : Int32) q4.2).bind fun q5 =>
((f5_takeWord 916 q5.2).bind fun q6 =>
(x_chk r2 1 ((f1_begin r2 q3.1 q4.1 q5.1 q6.1 q6.2).bind fun μ8 =>
(f5_readBody_l82 (fun (μ11 : xMu) => (f5_readBody_j119 μ11)) 1000 r2 (0 : Int32) μ8))))))))
else
(some μ1)))
set_option maxHeartbeats 4000000 in
set_option maxRecDepth 100000 in
theorem l_f5_readBody (G : xG) (d : Nat) (hd : 7 ≤ d) (μ : xMu) : Mx G m5_readBody d [.ref 126] μ x_wv (f5_readBody μ) := by
  refine mx_enter ok5_readBody [some (.ref 126), none, none, none, none, none, none] rfl (Nat.le_of_ble_eq_true rfl) ?_
  unfold f5_readBody
  refine wx_blk (pc' := 2) (L' := [some (.ref 126), none, none, none, none, none, none]) (st' := [.ref 126, .ref 126]) [.aload_n 0, .aload_n 0] (by decide +kernel) rfl rfl ?_
  refine wx_getr is_126 ff_5_15 rfl rf_126_1 (by decide +kernel) ?_
  refine wx_geti is_16 ff_5_155 rfl (by decide +kernel) ?_
  refine wx_blk (pc' := 10) (L' := [some (.ref 126), none, none, none, none, none, none]) (st' := [.int (24 : Int32), .int (μ 16 8), .ref 126]) [.bipush 24] (by decide +kernel) rfl rfl ?_
  refine wx_callV (d1 := 2) (As := [.int (μ 16 8), .int (24 : Int32)]) (rest := []) (by omega) is_126 (by decide) rfl cv_5_78 rfl (Nat.le_of_ble_eq_true rfl) (l_f5_takeFirstWord G 2 (by omega) (μ 16 8) (24 : Int32) μ) rfl (by decide +kernel) (fun μ1 => ?_)
  refine wx_blk (pc' := 14) (L' := [some (.ref 126), none, none, none, none, none, none]) (st' := [.ref 126]) [.aload_n 0] (by decide +kernel) rfl rfl ?_
  refine wx_geti is_126 ff_5_23 rfl (by decide +kernel) ?_
  refine wx_if_eq 21 (off := 4) (by decide +kernel) (by decide) ?_ ?_
  · refine wx_blk (pc' := 22) (L' := [some (.ref 126), none, none, none, none, none, none]) (st' := [.ref 126]) [.aload_n 0] (by decide +kernel) rfl rfl ?_
    refine wx_getr is_126 ff_5_15 rfl rf_126_1 (by decide +kernel) ?_
    refine wx_getr is_16 ff_5_158 rfl rf_16_4 (by decide +kernel) ?_
    refine wx_blk (pc' := 29) (L' := [some (.ref 126), none, none, none, none, none, none]) (st' := [.ref 126, .ref 21]) [.aload_n 0] (by decide +kernel) rfl rfl ?_
    refine wx_getr is_126 ff_5_15 rfl rf_126_1 (by decide +kernel) ?_
    refine wx_geti is_16 ff_5_155 rfl (by decide +kernel) ?_
    refine wx_rld is_21 (by decide) sz_21 (by decide +kernel) (fun r2 => ?_)
    refine wx_blk (pc' := 38) (L' := [some (.ref 126), some (.ref r2), none, none, none, none, none]) (st' := [.ref 126]) [.astore_n 1, .aload_n 0] (by decide +kernel) rfl rfl ?_
    refine wx_callV (d1 := 6) (As := []) (rest := []) (by omega) is_126 (by decide) rfl cv_5_162 rfl (Nat.le_of_ble_eq_true rfl) (l_f5_takeOwner G 6 (by omega) μ1) rfl (by decide +kernel) (fun q3 => ?_)
    refine wx_blk (pc' := 44) (L' := [some (.ref 126), some (.ref r2), some (.int q3.1), none, none, none, none]) (st' := [.ref 126, .ref 126]) [.istore_n 2, .aload_n 0, .aload_n 0] (by decide +kernel) rfl rfl ?_
    refine wx_getr is_126 ff_5_15 rfl rf_126_1 (by decide +kernel) ?_
    refine wx_geti is_16 ff_5_75 rfl (by decide +kernel) ?_
    refine wx_callV (d1 := 2) (As := [.int (q3.2 16 5)]) (rest := []) (by omega) is_126 (by decide) rfl cv_5_91 rfl (Nat.le_of_ble_eq_true rfl) (l_f5_takeNumber G 2 (by omega) (q3.2 16 5) q3.2) rfl (by decide +kernel) (fun q4 => ?_)
    refine wx_blk (pc' := 56) (L' := [some (.ref 126), some (.ref r2), some (.int q3.1), some (.int q4.1), none, none, none]) (st' := [.int (4 : Int32), .ref 126]) [.istore_n 3, .aload_n 0, .iconst 4] (by decide +kernel) rfl rfl ?_
    refine wx_callV (d1 := 2) (As := [.int (4 : Int32)]) (rest := []) (by omega) is_126 (by decide) rfl cv_5_91 rfl (Nat.le_of_ble_eq_true rfl) (l_f5_takeNumber G 2 (by omega) (4 : Int32) q4.2) rfl (by decide +kernel) (fun q5 => ?_)
    refine wx_blk (pc' := 62) (L' := [some (.ref 126), some (.ref r2), some (.int q3.1), some (.int q4.1), some (.int q5.1), none, none]) (st' := [.ref 126]) [.istore 4, .aload_n 0] (by decide +kernel) rfl rfl ?_
    refine wx_ldcs 6 (by decide) rfl (by decide +kernel) ?_
    refine wx_callV (d1 := 6) (As := [.ref 916]) (rest := []) (by omega) is_126 (by decide) rfl cv_5_117 rfl (Nat.le_of_ble_eq_true rfl) (l_f5_takeWord G 6 (by omega) 916 q5.2) rfl (by decide +kernel) (fun q6 => ?_)
    refine wx_blk (pc' := 76) (L' := [some (.ref 126), some (.ref r2), some (.int q3.1), some (.int q4.1), some (.int q5.1), some (.int q6.1), none]) (st' := [.int q6.1, .int q5.1, .int q4.1, .int q3.1, .ref r2]) [.istore 5, .aload_n 1, .iload_n 2, .iload_n 3, .iload 4, .iload 5] (by decide +kernel) rfl rfl ?_
    refine wx_chk (fun hx7 => ?_)
    refine wx_callV (d1 := 0) (As := [.int q3.1, .int q4.1, .int q5.1, .int q6.1]) (rest := []) (by omega) hx7 (by decide) rfl cv_5_168 rfl (Nat.le_of_ble_eq_true rfl) (l_f1_begin G 0 (by omega) r2 q3.1 q4.1 q5.1 q6.1 q6.2) rfl (by decide +kernel) (fun μ8 => ?_)
    refine wx_blk (pc' := 82) (L' := [some (.ref 126), some (.ref r2), some (.int q3.1), some (.int q4.1), some (.int q5.1), some (.int q6.1), some (.int (0 : Int32))]) (st' := []) [.iconst 0, .istore 6] (by decide +kernel) rfl rfl ?_
    refine wx_weak (L' := [some (.ref 126), some (.ref r2), none, none, none, none, some (.int (0 : Int32))]) ⟨rfl, ⟨rfl, ⟨rfl, trivial⟩⟩⟩ ?_
    refine l_f5_readBody_l82 G d hd _ ?_ 1000 r2 (0 : Int32) μ8
    · intro μ11
      refine l_f5_readBody_j119 G d hd μ11
  · exact wx_vret rfl rfl (by decide +kernel)
/-! WakingLayers$Reader.readTelling()V -/
def f5_readTelling (μ : xMu) : Option xMu :=
  ((f10_nameAmong μ 910).bind fun x1 =>
(x_sw x1 (nI 0) [
((f5_readKind μ).bind fun μ2 =>
(some μ2)),
((f5_readThing μ).bind fun μ3 =>
(some μ3)),
((f5_readLayer μ).bind fun μ4 =>
(some μ4)),
((f5_readBody μ).bind fun μ5 =>
(some μ5))] 
((f5_refuse (1 : Int32) μ).bind fun μ6 =>
(some μ6))))
set_option maxHeartbeats 4000000 in
set_option maxRecDepth 100000 in
theorem l_f5_readTelling (G : xG) (d : Nat) (hd : 8 ≤ d) (μ : xMu) : Mx G m5_readTelling d [.ref 126] μ x_wv (f5_readTelling μ) := by
  refine mx_enter ok5_readTelling [some (.ref 126)] rfl (Nat.le_of_ble_eq_true rfl) ?_
  unfold f5_readTelling
  refine wx_blk (pc' := 1) (L' := [some (.ref 126)]) (st' := [.ref 126]) [.aload_n 0] (by decide +kernel) rfl rfl ?_
  refine wx_getr is_126 ff_5_9 rfl rf_126_0 (by decide +kernel) ?_
  refine wx_ldcs 0 (by decide) rfl (by decide +kernel) ?_
  refine wx_callV (d1 := 5) (As := [.ref 910]) (rest := []) (by omega) is_14 (by decide) rfl cv_5_55 rfl (Nat.le_of_ble_eq_true rfl) (l_f10_nameAmong G 5 (by omega) μ 910) rfl (by decide +kernel) (fun x1 => ?_)
  refine wx_tsw [40, 47, 54, 61] 68 0 (dflt := 59) (lo := 0) (hi := 3) (offs := #[31, 38, 45, 52]) (len := 31) (by decide +kernel) rfl rfl (by decide) rfl rfl ⟨?_, ?_, ?_, ?_, trivial⟩ ?_
  · refine wx_blk (pc' := 41) (L' := [some (.ref 126)]) (st' := [.ref 126]) [.aload_n 0] (by decide +kernel) rfl rfl ?_
    refine wx_callV (d1 := 6) (As := []) (rest := []) (by omega) is_126 (by decide) rfl cv_5_59 rfl (Nat.le_of_ble_eq_true rfl) (l_f5_readKind G 6 (by omega) μ) rfl (by decide +kernel) (fun μ2 => ?_)
    refine wx_goto 73 (off := 29) (by decide +kernel) (by decide) ?_
    exact wx_vret rfl rfl (by decide +kernel)
  · refine wx_blk (pc' := 48) (L' := [some (.ref 126)]) (st' := [.ref 126]) [.aload_n 0] (by decide +kernel) rfl rfl ?_
    refine wx_callV (d1 := 3) (As := []) (rest := []) (by omega) is_126 (by decide) rfl cv_5_62 rfl (Nat.le_of_ble_eq_true rfl) (l_f5_readThing G 3 (by omega) μ) rfl (by decide +kernel) (fun μ3 => ?_)
    refine wx_goto 73 (off := 22) (by decide +kernel) (by decide) ?_
    exact wx_vret rfl rfl (by decide +kernel)
  · refine wx_blk (pc' := 55) (L' := [some (.ref 126)]) (st' := [.ref 126]) [.aload_n 0] (by decide +kernel) rfl rfl ?_
    refine wx_callV (d1 := 7) (As := []) (rest := []) (by omega) is_126 (by decide) rfl cv_5_65 rfl (Nat.le_of_ble_eq_true rfl) (l_f5_readLayer G 7 (by omega) μ) rfl (by decide +kernel) (fun μ4 => ?_)
    refine wx_goto 73 (off := 15) (by decide +kernel) (by decide) ?_
    exact wx_vret rfl rfl (by decide +kernel)
  · refine wx_blk (pc' := 62) (L' := [some (.ref 126)]) (st' := [.ref 126]) [.aload_n 0] (by decide +kernel) rfl rfl ?_
    refine wx_callV (d1 := 7) (As := []) (rest := []) (by omega) is_126 (by decide) rfl cv_5_68 rfl (Nat.le_of_ble_eq_true rfl) (l_f5_readBody G 7 (by omega) μ) rfl (by decide +kernel) (fun μ5 => ?_)
    refine wx_goto 73 (off := 8) (by decide +kernel) (by decide) ?_
    exact wx_vret rfl rfl (by decide +kernel)
  · refine wx_blk (pc' := 70) (L' := [some (.ref 126)]) (st' := [.int (1 : Int32), .ref 126]) [.aload_n 0, .iconst 1] (by decide +kernel) rfl rfl ?_
    refine wx_callV (d1 := 1) (As := [.int (1 : Int32)]) (rest := []) (by omega) is_126 (by decide) rfl cv_5_71 rfl (Nat.le_of_ble_eq_true rfl) (l_f5_refuse G 1 (by omega) (1 : Int32) μ) rfl (by decide +kernel) (fun μ6 => ?_)
    exact wx_vret rfl rfl (by decide +kernel)
/-! WakingLayers$Program.restoreCounts()V -/
def f4_restoreCounts (μ : xMu) : Option xMu :=
  (x_put μ 16 5 (μ 16 9) fun μ1 =>
(x_put μ1 16 6 (μ1 16 10) fun μ2 =>
(x_put μ2 16 7 (μ2 16 11) fun μ3 =>
(x_put μ3 16 8 (μ3 16 12) fun μ4 =>
(some μ4)))))
set_option maxHeartbeats 4000000 in
set_option maxRecDepth 100000 in
theorem l_f4_restoreCounts (G : xG) (d : Nat) (hd : 0 ≤ d) (μ : xMu) : Mx G m4_restoreCounts d [.ref 16] μ x_wv (f4_restoreCounts μ) := by
  refine mx_enter ok4_restoreCounts [some (.ref 16)] rfl (Nat.le_of_ble_eq_true rfl) ?_
  unfold f4_restoreCounts
  refine wx_blk (pc' := 2) (L' := [some (.ref 16)]) (st' := [.ref 16, .ref 16]) [.aload_n 0, .aload_n 0] (by decide +kernel) rfl rfl ?_
  refine wx_geti is_16 ff_4_43 rfl (by decide +kernel) ?_
  refine wx_put is_16 ff_4_40 fp_4_5 ⟨rfl, rfl⟩ (by decide +kernel) (fun μ1 => ?_)
  refine wx_blk (pc' := 10) (L' := [some (.ref 16)]) (st' := [.ref 16, .ref 16]) [.aload_n 0, .aload_n 0] (by decide +kernel) rfl rfl ?_
  refine wx_geti is_16 ff_4_46 rfl (by decide +kernel) ?_
  refine wx_put is_16 ff_4_33 fp_4_6 ⟨rfl, rfl⟩ (by decide +kernel) (fun μ2 => ?_)
  refine wx_blk (pc' := 18) (L' := [some (.ref 16)]) (st' := [.ref 16, .ref 16]) [.aload_n 0, .aload_n 0] (by decide +kernel) rfl rfl ?_
  refine wx_geti is_16 ff_4_49 rfl (by decide +kernel) ?_
  refine wx_put is_16 ff_4_37 fp_4_7 ⟨rfl, rfl⟩ (by decide +kernel) (fun μ3 => ?_)
  refine wx_blk (pc' := 26) (L' := [some (.ref 16)]) (st' := [.ref 16, .ref 16]) [.aload_n 0, .aload_n 0] (by decide +kernel) rfl rfl ?_
  refine wx_geti is_16 ff_4_55 rfl (by decide +kernel) ?_
  refine wx_put is_16 ff_4_52 fp_4_8 ⟨rfl, rfl⟩ (by decide +kernel) (fun μ4 => ?_)
  exact wx_vret rfl rfl (by decide +kernel)
/-! WakingLayers$Tape.clear()V -/
def f10_clear (μ : xMu) : Option xMu :=
  (x_put μ 14 1 (0 : Int32) fun μ1 =>
(some μ1))
set_option maxHeartbeats 4000000 in
set_option maxRecDepth 100000 in
theorem l_f10_clear (G : xG) (d : Nat) (hd : 0 ≤ d) (μ : xMu) : Mx G m10_clear d [.ref 14] μ x_wv (f10_clear μ) := by
  refine mx_enter ok10_clear [some (.ref 14)] rfl (Nat.le_of_ble_eq_true rfl) ?_
  unfold f10_clear
  refine wx_blk (pc' := 2) (L' := [some (.ref 14)]) (st' := [.int (0 : Int32), .ref 14]) [.aload_n 0, .iconst 0] (by decide +kernel) rfl rfl ?_
  refine wx_put is_14 ff_10_13 fp_10_1 ⟨rfl, rfl⟩ (by decide +kernel) (fun μ1 => ?_)
  exact wx_vret rfl rfl (by decide +kernel)
/-! WakingLayers$Reader.readTape()I -/
def f5_readTape_l21 (k55 : xMu → Option (Int32 × xMu)) : Nat → Int32 → xMu → Option (Int32 × xMu)
  | 0, _, _ => none
  | n + 1, v1, μ =>
  (if (600 : Int32) ≤ v1 then
(k55 μ)
else
(if (μ 126 2) = 0 then
((f10_atEnd μ).bind fun x4 =>
(if x4 = 0 then
((f5_readTelling μ).bind fun μ5 =>
((f5_readTape_l21 k55 n) (v1 + (1 : Int32)) μ5))
else
(k55 μ)))
else
(k55 μ)))
set_option maxHeartbeats 4000000 in
set_option maxRecDepth 100000 in
theorem l_f5_readTape_l21 (G : xG) (d : Nat) (hd : 9 ≤ d) (k55 : xMu → Option (Int32 × xMu)) (h55 : ∀ (μ1 : xMu), Wx G m5_readTape d 55 [some (.ref 126), none] [] μ1 x_wim (k55 μ1)) : ∀ (n : Nat) (v1 : Int32) (μ : xMu), Wx G m5_readTape d 21 [some (.ref 126), some (.int v1)] [] μ x_wim (f5_readTape_l21 k55 n v1 μ) := by
  intro n
  induction n with
  | zero => intro v1 μ; exact wx_none
  | succ n h21 =>
    intro v1 μ
    unfold f5_readTape_l21
    refine wx_blk (pc' := 25) (L' := [some (.ref 126), some (.int v1)]) (st' := [.int (600 : Int32), .int v1]) [.iload_n 1, .sipush 600] (by decide +kernel) rfl rfl ?_
    refine wx_ic_ge 55 (off := 30) (by decide +kernel) (by decide) ?_ ?_
    · refine wx_weak (L' := [some (.ref 126), none]) ⟨rfl, trivial⟩ ?_
      exact h55 μ
    · refine wx_blk (pc' := 29) (L' := [some (.ref 126), some (.int v1)]) (st' := [.ref 126]) [.aload_n 0] (by decide +kernel) rfl rfl ?_
      refine wx_geti is_126 ff_5_23 rfl (by decide +kernel) ?_
      refine wx_if_ne 55 (off := 23) (by decide +kernel) (by decide) ?_ ?_
      · refine wx_weak (L' := [some (.ref 126), none]) ⟨rfl, trivial⟩ ?_
        exact h55 μ
      · refine wx_blk (pc' := 36) (L' := [some (.ref 126), some (.int v1)]) (st' := [.ref 126]) [.aload_n 0] (by decide +kernel) rfl rfl ?_
        refine wx_getr is_126 ff_5_9 rfl rf_126_0 (by decide +kernel) ?_
        refine wx_callV (d1 := 0) (As := []) (rest := []) (by omega) is_14 (by decide) rfl cv_5_37 rfl (Nat.le_of_ble_eq_true rfl) (l_f10_atEnd G 0 (by omega) μ) rfl (by decide +kernel) (fun x4 => ?_)
        refine wx_if_ne 55 (off := 13) (by decide +kernel) (by decide) ?_ ?_
        · refine wx_weak (L' := [some (.ref 126), none]) ⟨rfl, trivial⟩ ?_
          exact h55 μ
        · refine wx_blk (pc' := 46) (L' := [some (.ref 126), some (.int v1)]) (st' := [.ref 126]) [.aload_n 0] (by decide +kernel) rfl rfl ?_
          refine wx_callV (d1 := 8) (As := []) (rest := []) (by omega) is_126 (by decide) rfl cv_5_41 rfl (Nat.le_of_ble_eq_true rfl) (l_f5_readTelling G 8 (by omega) μ) rfl (by decide +kernel) (fun μ5 => ?_)
          refine wx_blk (pc' := 52) (L' := [some (.ref 126), some (.int (v1 + (1 : Int32)))]) (st' := []) [.iinc 1 1] (by decide +kernel) rfl rfl ?_
          refine wx_goto 21 (off := -31) (by decide +kernel) (by decide) ?_
          exact h21 (v1 + (1 : Int32)) μ5
def f5_readTape_j69 (μ : xMu) : Option (Int32 × xMu) :=
  ((f10_clear μ).bind fun μ7 =>
(if (μ7 126 2) = 0 then
(some ((-1 : Int32), μ7))
else
(some ((μ7 126 3), μ7))))
set_option maxHeartbeats 4000000 in
set_option maxRecDepth 100000 in
theorem l_f5_readTape_j69 (G : xG) (d : Nat) (hd : 9 ≤ d) (μ : xMu) : Wx G m5_readTape d 69 [some (.ref 126), none] [] μ x_wim (f5_readTape_j69 μ) := by
  unfold f5_readTape_j69
  refine wx_blk (pc' := 70) (L' := [some (.ref 126), none]) (st' := [.ref 126]) [.aload_n 0] (by decide +kernel) rfl rfl ?_
  refine wx_getr is_126 ff_5_9 rfl rf_126_0 (by decide +kernel) ?_
  refine wx_callV (d1 := 0) (As := []) (rest := []) (by omega) is_14 (by decide) rfl cv_5_47 rfl (Nat.le_of_ble_eq_true rfl) (l_f10_clear G 0 (by omega) μ) rfl (by decide +kernel) (fun μ7 => ?_)
  refine wx_blk (pc' := 77) (L' := [some (.ref 126), none]) (st' := [.ref 126]) [.aload_n 0] (by decide +kernel) rfl rfl ?_
  refine wx_geti is_126 ff_5_23 rfl (by decide +kernel) ?_
  refine wx_if_eq 90 (off := 10) (by decide +kernel) (by decide) ?_ ?_
  · refine wx_blk (pc' := 91) (L' := [some (.ref 126), none]) (st' := [.int (-1 : Int32)]) [.iconst (-1)] (by decide +kernel) rfl rfl ?_
    exact wx_iret rfl rfl (by decide +kernel)
  · refine wx_blk (pc' := 84) (L' := [some (.ref 126), none]) (st' := [.ref 126]) [.aload_n 0] (by decide +kernel) rfl rfl ?_
    refine wx_geti is_126 ff_5_50 rfl (by decide +kernel) ?_
    refine wx_goto 91 (off := 4) (by decide +kernel) (by decide) ?_
    exact wx_iret rfl rfl (by decide +kernel)
def f5_readTape_j55 (μ : xMu) : Option (Int32 × xMu) :=
  (if (μ 126 2) = 0 then
(f5_readTape_j69 μ)
else
((f4_restoreCounts μ).bind fun μ8 =>
(f5_readTape_j69 μ8)))
set_option maxHeartbeats 4000000 in
set_option maxRecDepth 100000 in
theorem l_f5_readTape_j55 (G : xG) (d : Nat) (hd : 9 ≤ d) (μ : xMu) : Wx G m5_readTape d 55 [some (.ref 126), none] [] μ x_wim (f5_readTape_j55 μ) := by
  unfold f5_readTape_j55
  refine wx_blk (pc' := 56) (L' := [some (.ref 126), none]) (st' := [.ref 126]) [.aload_n 0] (by decide +kernel) rfl rfl ?_
  refine wx_geti is_126 ff_5_23 rfl (by decide +kernel) ?_
  refine wx_if_eq 69 (off := 10) (by decide +kernel) (by decide) ?_ ?_
  · refine l_f5_readTape_j69 G d hd μ
  · refine wx_blk (pc' := 63) (L' := [some (.ref 126), none]) (st' := [.ref 126]) [.aload_n 0] (by decide +kernel) rfl rfl ?_
    refine wx_getr is_126 ff_5_15 rfl rf_126_1 (by decide +kernel) ?_
    refine wx_callV (d1 := 0) (As := []) (rest := []) (by omega) is_16 (by decide) rfl cv_5_44 rfl (Nat.le_of_ble_eq_true rfl) (l_f4_restoreCounts G 0 (by omega) μ) rfl (by decide +kernel) (fun μ8 => ?_)
    refine l_f5_readTape_j69 G d hd μ8
def f5_readTape (μ : xMu) : Option (Int32 × xMu) :=
  (x_put μ 126 2 (0 : Int32) fun μ1 =>
((f4_keepCounts μ1).bind fun μ2 =>
((f10_firstToken μ2).bind fun μ3 =>
(f5_readTape_l21 (fun (μ6 : xMu) => (f5_readTape_j55 μ6)) 1000 (0 : Int32) μ3))))
set_option maxHeartbeats 4000000 in
set_option maxRecDepth 100000 in
theorem l_f5_readTape (G : xG) (d : Nat) (hd : 9 ≤ d) (μ : xMu) : Mx G m5_readTape d [.ref 126] μ x_wim (f5_readTape μ) := by
  refine mx_enter ok5_readTape [some (.ref 126), none] rfl (Nat.le_of_ble_eq_true rfl) ?_
  unfold f5_readTape
  refine wx_blk (pc' := 2) (L' := [some (.ref 126), none]) (st' := [.int (0 : Int32), .ref 126]) [.aload_n 0, .iconst 0] (by decide +kernel) rfl rfl ?_
  refine wx_put is_126 ff_5_23 fp_5_2 ⟨by decide, by decide⟩ (by decide +kernel) (fun μ1 => ?_)
  refine wx_blk (pc' := 6) (L' := [some (.ref 126), none]) (st' := [.ref 126]) [.aload_n 0] (by decide +kernel) rfl rfl ?_
  refine wx_getr is_126 ff_5_15 rfl rf_126_1 (by decide +kernel) ?_
  refine wx_callV (d1 := 0) (As := []) (rest := []) (by omega) is_16 (by decide) rfl cv_5_27 rfl (Nat.le_of_ble_eq_true rfl) (l_f4_keepCounts G 0 (by omega) μ1) rfl (by decide +kernel) (fun μ2 => ?_)
  refine wx_blk (pc' := 13) (L' := [some (.ref 126), none]) (st' := [.ref 126]) [.aload_n 0] (by decide +kernel) rfl rfl ?_
  refine wx_getr is_126 ff_5_9 rfl rf_126_0 (by decide +kernel) ?_
  refine wx_callV (d1 := 2) (As := []) (rest := []) (by omega) is_14 (by decide) rfl cv_5_32 rfl (Nat.le_of_ble_eq_true rfl) (l_f10_firstToken G 2 (by omega) μ2) rfl (by decide +kernel) (fun μ3 => ?_)
  refine wx_blk (pc' := 21) (L' := [some (.ref 126), some (.int (0 : Int32))]) (st' := []) [.iconst 0, .istore_n 1] (by decide +kernel) rfl rfl ?_
  refine l_f5_readTape_l21 G d hd _ ?_ 1000 (0 : Int32) μ3
  · intro μ6
    refine l_f5_readTape_j55 G d hd μ6
/-! WakingLayers.read()I -/
def f11_read (μ : xMu) : Option (Int32 × xMu) :=
  ((f5_readTape μ).bind fun q1 =>
(if 0 ≤ q1.1 then
(some (((-1000100 : Int32) - q1.1), q1.2))
else
(some ((q1.2 16 8), q1.2))))
set_option maxHeartbeats 4000000 in
set_option maxRecDepth 100000 in
theorem l_f11_read (G : xG) (d : Nat) (hd : 10 ≤ d) (μ : xMu) : Mx G m11_read d [.ref 0] μ x_wim (f11_read μ) := by
  refine mx_enter ok11_read [some (.ref 0), none] rfl (Nat.le_of_ble_eq_true rfl) ?_
  unfold f11_read
  refine wx_blk (pc' := 1) (L' := [some (.ref 0), none]) (st' := [.ref 0]) [.aload_n 0] (by decide +kernel) rfl rfl ?_
  refine wx_getr is_0 ff_11_35 rfl rf_0_3 (by decide +kernel) ?_
  refine wx_callV (d1 := 9) (As := []) (rest := []) (by omega) is_126 (by decide) rfl cv_11_135 rfl (Nat.le_of_ble_eq_true rfl) (l_f5_readTape G 9 (by omega) μ) rfl (by decide +kernel) (fun q1 => ?_)
  refine wx_blk (pc' := 9) (L' := [some (.ref 0), some (.int q1.1)]) (st' := [.int q1.1]) [.istore_n 1, .iload_n 1] (by decide +kernel) rfl rfl ?_
  refine wx_if_ge 22 (off := 13) (by decide +kernel) (by decide) ?_ ?_
  · refine wx_ldc (v := -1000100) xw_799 (by decide +kernel) ?_
    refine wx_blk (pc' := 26) (L' := [some (.ref 0), some (.int q1.1)]) (st' := [.int ((-1000100 : Int32) - q1.1)]) [.iload_n 1, .isub] (by decide +kernel) rfl rfl ?_
    exact wx_iret rfl rfl (by decide +kernel)
  · refine wx_blk (pc' := 13) (L' := [some (.ref 0), some (.int q1.1)]) (st' := [.ref 0]) [.aload_n 0] (by decide +kernel) rfl rfl ?_
    refine wx_getr is_0 ff_11_26 rfl rf_0_2 (by decide +kernel) ?_
    refine wx_geti is_16 ff_11_139 rfl (by decide +kernel) ?_
    refine wx_goto 26 (off := 7) (by decide +kernel) (by decide) ?_
    exact wx_iret rfl rfl (by decide +kernel)
/-! WakingLayers$Reader.latestFault()I -/
def f5_latestFault (μ : xMu) : Option Int32 :=
  (some (μ 126 4))
set_option maxHeartbeats 4000000 in
set_option maxRecDepth 100000 in
theorem l_f5_latestFault (G : xG) (d : Nat) (hd : 0 ≤ d) (μ : xMu) : Mx G m5_latestFault d [.ref 126] μ (x_wi μ) (f5_latestFault μ) := by
  refine mx_enter ok5_latestFault [some (.ref 126)] rfl (Nat.le_of_ble_eq_true rfl) ?_
  unfold f5_latestFault
  refine wx_blk (pc' := 1) (L' := [some (.ref 126)]) (st' := [.ref 126]) [.aload_n 0] (by decide +kernel) rfl rfl ?_
  refine wx_geti is_126 ff_5_19 rfl (by decide +kernel) ?_
  exact wx_iret rfl rfl (by decide +kernel)
/-! WakingLayers.fault()I -/
def f11_fault (μ : xMu) : Option Int32 :=
  ((f5_latestFault μ).bind fun x1 =>
(some x1))
set_option maxHeartbeats 4000000 in
set_option maxRecDepth 100000 in
theorem l_f11_fault (G : xG) (d : Nat) (hd : 1 ≤ d) (μ : xMu) : Mx G m11_fault d [.ref 0] μ (x_wi μ) (f11_fault μ) := by
  refine mx_enter ok11_fault [some (.ref 0)] rfl (Nat.le_of_ble_eq_true rfl) ?_
  unfold f11_fault
  refine wx_blk (pc' := 1) (L' := [some (.ref 0)]) (st' := [.ref 0]) [.aload_n 0] (by decide +kernel) rfl rfl ?_
  refine wx_getr is_0 ff_11_35 rfl rf_0_3 (by decide +kernel) ?_
  refine wx_callV (d1 := 0) (As := []) (rest := []) (by omega) is_126 (by decide) rfl cv_11_144 rfl (Nat.le_of_ble_eq_true rfl) (l_f5_latestFault G 0 (by omega) μ) rfl (by decide +kernel) (fun x1 => ?_)
  exact wx_iret rfl rfl (by decide +kernel)
/-! WakingLayers$Circumstances.awakeUnasked()I -/
def f2_awakeUnasked_l4 (μ : xMu) (k29 : Int32 → Option Int32) : Nat → Int32 → Int32 → Option Int32
  | 0, _, _ => none
  | n + 1, v1, v2 =>
  (if (μ 127 4) ≤ v2 then
(k29 v1)
else
(x_ald μ 129 16 v2 fun x1 =>
((f2_awakeUnasked_l4 μ k29 n) (v1 ||| ((1 : Int32) <<< (x1 &&& 31))) (v2 + (1 : Int32)))))
set_option maxHeartbeats 4000000 in
set_option maxRecDepth 100000 in
theorem l_f2_awakeUnasked_l4 (G : xG) (d : Nat) (hd : 0 ≤ d) (μ : xMu) (k29 : Int32 → Option Int32) (h29 : ∀ (v1 : Int32), Wx G m2_awakeUnasked d 29 [some (.ref 127), some (.int v1), none] [] μ (x_wi μ) (k29 v1)) : ∀ (n : Nat) (v1 : Int32) (v2 : Int32), Wx G m2_awakeUnasked d 4 [some (.ref 127), some (.int v1), some (.int v2)] [] μ (x_wi μ) (f2_awakeUnasked_l4 μ k29 n v1 v2) := by
  intro n
  induction n with
  | zero => intro v1 v2; exact wx_none
  | succ n h4 =>
    intro v1 v2
    unfold f2_awakeUnasked_l4
    refine wx_blk (pc' := 6) (L' := [some (.ref 127), some (.int v1), some (.int v2)]) (st' := [.ref 127, .int v2]) [.iload_n 2, .aload_n 0] (by decide +kernel) rfl rfl ?_
    refine wx_geti is_127 ff_2_25 rfl (by decide +kernel) ?_
    refine wx_ic_ge 29 (off := 20) (by decide +kernel) (by decide) ?_ ?_
    · refine wx_weak (L' := [some (.ref 127), some (.int v1), none]) ⟨rfl, ⟨rfl, trivial⟩⟩ ?_
      exact h29 v1
    · refine wx_blk (pc' := 15) (L' := [some (.ref 127), some (.int v1), some (.int v2)]) (st' := [.ref 127, .int (1 : Int32), .int v1]) [.iload_n 1, .iconst 1, .aload_n 0] (by decide +kernel) rfl rfl ?_
      refine wx_getr is_127 ff_2_15 rfl rf_127_2 (by decide +kernel) ?_
      refine wx_blk (pc' := 19) (L' := [some (.ref 127), some (.int v1), some (.int v2)]) (st' := [.int v2, .ref 129, .int (1 : Int32), .int v1]) [.iload_n 2] (by decide +kernel) rfl rfl ?_
      refine wx_ald is_129 sz_129 (by decide +kernel) (fun x1 => ?_)
      refine wx_blk (pc' := 26) (L' := [some (.ref 127), some (.int (v1 ||| ((1 : Int32) <<< (x1 &&& 31)))), some (.int (v2 + (1 : Int32)))]) (st' := []) [.ishl, .ior, .istore_n 1, .iinc 2 1] (by decide +kernel) rfl rfl ?_
      refine wx_goto 4 (off := -22) (by decide +kernel) (by decide) ?_
      exact h4 (v1 ||| ((1 : Int32) <<< (x1 &&& 31))) (v2 + (1 : Int32))
def f2_awakeUnasked_j64 (μ : xMu) (k31 : Int32 → Int32 → Option Int32) (v1 : Int32) (v2 : Int32) : Option Int32 :=
  (k31 v1 (v2 + (1 : Int32)))
set_option maxHeartbeats 4000000 in
set_option maxRecDepth 100000 in
theorem l_f2_awakeUnasked_j64 (G : xG) (d : Nat) (hd : 0 ≤ d) (μ : xMu) (k31 : Int32 → Int32 → Option Int32) (h31 : ∀ (v1 : Int32) (v2 : Int32), Wx G m2_awakeUnasked d 31 [some (.ref 127), some (.int v1), some (.int v2)] [] μ (x_wi μ) (k31 v1 v2)) (v1 : Int32) (v2 : Int32) : Wx G m2_awakeUnasked d 64 [some (.ref 127), some (.int v1), some (.int v2)] [] μ (x_wi μ) (f2_awakeUnasked_j64 μ k31 v1 v2) := by
  unfold f2_awakeUnasked_j64
  refine wx_blk (pc' := 67) (L' := [some (.ref 127), some (.int v1), some (.int (v2 + (1 : Int32)))]) (st' := []) [.iinc 2 1] (by decide +kernel) rfl rfl ?_
  refine wx_goto 31 (off := -36) (by decide +kernel) (by decide) ?_
  exact h31 v1 (v2 + (1 : Int32))
def f2_awakeUnasked_l31 (μ : xMu) (k70 : Int32 → Option Int32) : Nat → Int32 → Int32 → Option Int32
  | 0, _, _ => none
  | n + 1, v1, v2 =>
  (if (μ 16 7) ≤ v2 then
(k70 v1)
else
(x_rld 20 8 v2 fun r3 =>
(x_chk r3 3 (if (μ r3 0) = (3 : Int32) then
(f2_awakeUnasked_j64 μ (f2_awakeUnasked_l31 μ k70 n) (v1 ||| ((1 : Int32) <<< (v2 &&& 31))) v2)
else
(f2_awakeUnasked_j64 μ (f2_awakeUnasked_l31 μ k70 n) v1 v2)))))
set_option maxHeartbeats 4000000 in
set_option maxRecDepth 100000 in
theorem l_f2_awakeUnasked_l31 (G : xG) (d : Nat) (hd : 0 ≤ d) (μ : xMu) (k70 : Int32 → Option Int32) (h70 : ∀ (v1 : Int32), Wx G m2_awakeUnasked d 70 [none, some (.int v1), none] [] μ (x_wi μ) (k70 v1)) : ∀ (n : Nat) (v1 : Int32) (v2 : Int32), Wx G m2_awakeUnasked d 31 [some (.ref 127), some (.int v1), some (.int v2)] [] μ (x_wi μ) (f2_awakeUnasked_l31 μ k70 n v1 v2) := by
  intro n
  induction n with
  | zero => intro v1 v2; exact wx_none
  | succ n h31 =>
    intro v1 v2
    unfold f2_awakeUnasked_l31
    refine wx_blk (pc' := 33) (L' := [some (.ref 127), some (.int v1), some (.int v2)]) (st' := [.ref 127, .int v2]) [.iload_n 2, .aload_n 0] (by decide +kernel) rfl rfl ?_
    refine wx_getr is_127 ff_2_21 rfl rf_127_0 (by decide +kernel) ?_
    refine wx_geti is_16 ff_2_44 rfl (by decide +kernel) ?_
    refine wx_ic_ge 70 (off := 31) (by decide +kernel) (by decide) ?_ ?_
    · refine wx_weak (L' := [none, some (.int v1), none]) ⟨rfl, trivial⟩ ?_
      exact h70 v1
    · refine wx_blk (pc' := 43) (L' := [some (.ref 127), some (.int v1), some (.int v2)]) (st' := [.ref 127]) [.aload_n 0] (by decide +kernel) rfl rfl ?_
      refine wx_getr is_127 ff_2_21 rfl rf_127_0 (by decide +kernel) ?_
      refine wx_getr is_16 ff_2_49 rfl rf_16_3 (by decide +kernel) ?_
      refine wx_blk (pc' := 50) (L' := [some (.ref 127), some (.int v1), some (.int v2)]) (st' := [.int v2, .ref 20]) [.iload_n 2] (by decide +kernel) rfl rfl ?_
      refine wx_rld is_20 (by decide) sz_20 (by decide +kernel) (fun r3 => ?_)
      refine wx_chk (fun hx4 => ?_)
      refine wx_geti hx4 ff_2_53 rfl (by decide +kernel) ?_
      refine wx_blk (pc' := 55) (L' := [some (.ref 127), some (.int v1), some (.int v2)]) (st' := [.int (3 : Int32), .int (μ r3 0)]) [.iconst 3] (by decide +kernel) rfl rfl ?_
      refine wx_ic_ne 64 (off := 9) (by decide +kernel) (by decide) ?_ ?_
      · refine l_f2_awakeUnasked_j64 G d hd μ _ h31 v1 v2
      · refine wx_blk (pc' := 64) (L' := [some (.ref 127), some (.int (v1 ||| ((1 : Int32) <<< (v2 &&& 31)))), some (.int v2)]) (st' := []) [.iload_n 1, .iconst 1, .iload_n 2, .ishl, .ior, .istore_n 1] (by decide +kernel) rfl rfl ?_
        refine l_f2_awakeUnasked_j64 G d hd μ _ h31 (v1 ||| ((1 : Int32) <<< (v2 &&& 31))) v2
def f2_awakeUnasked (μ : xMu) : Option Int32 :=
  (f2_awakeUnasked_l4 μ (fun (y2 : Int32) => (f2_awakeUnasked_l31 μ (fun (y5 : Int32) => (some y5)) 1000 y2 (0 : Int32))) 1000 (0 : Int32) (0 : Int32))
set_option maxHeartbeats 4000000 in
set_option maxRecDepth 100000 in
theorem l_f2_awakeUnasked (G : xG) (d : Nat) (hd : 0 ≤ d) (μ : xMu) : Mx G m2_awakeUnasked d [.ref 127] μ (x_wi μ) (f2_awakeUnasked μ) := by
  refine mx_enter ok2_awakeUnasked [some (.ref 127), none, none] rfl (Nat.le_of_ble_eq_true rfl) ?_
  unfold f2_awakeUnasked
  refine wx_blk (pc' := 4) (L' := [some (.ref 127), some (.int (0 : Int32)), some (.int (0 : Int32))]) (st' := []) [.iconst 0, .istore_n 1, .iconst 0, .istore_n 2] (by decide +kernel) rfl rfl ?_
  refine l_f2_awakeUnasked_l4 G d hd μ _ ?_ 1000 (0 : Int32) (0 : Int32)
  · intro y2
    refine wx_blk (pc' := 31) (L' := [some (.ref 127), some (.int y2), some (.int (0 : Int32))]) (st' := []) [.iconst 0, .istore_n 2] (by decide +kernel) rfl rfl ?_
    refine l_f2_awakeUnasked_l31 G d hd μ _ ?_ 1000 y2 (0 : Int32)
    · intro y5
      refine wx_blk (pc' := 71) (L' := [none, some (.int y5), none]) (st' := [.int y5]) [.iload_n 1] (by decide +kernel) rfl rfl ?_
      exact wx_iret rfl rfl (by decide +kernel)
/-! WakingLayers$Circumstances.awakeSet()I -/
def f2_awakeSet (μ : xMu) : Option Int32 :=
  ((f2_awakeUnasked μ).bind fun x1 =>
(some (x1 ||| (μ 127 5))))
set_option maxHeartbeats 4000000 in
set_option maxRecDepth 100000 in
theorem l_f2_awakeSet (G : xG) (d : Nat) (hd : 1 ≤ d) (μ : xMu) : Mx G m2_awakeSet d [.ref 127] μ (x_wi μ) (f2_awakeSet μ) := by
  refine mx_enter ok2_awakeSet [some (.ref 127)] rfl (Nat.le_of_ble_eq_true rfl) ?_
  unfold f2_awakeSet
  refine wx_blk (pc' := 1) (L' := [some (.ref 127)]) (st' := [.ref 127]) [.aload_n 0] (by decide +kernel) rfl rfl ?_
  refine wx_callV (d1 := 0) (As := []) (rest := []) (by omega) is_127 (by decide) rfl cv_2_37 rfl (Nat.le_of_ble_eq_true rfl) (l_f2_awakeUnasked G 0 (by omega) μ) rfl (by decide +kernel) (fun x1 => ?_)
  refine wx_blk (pc' := 5) (L' := [some (.ref 127)]) (st' := [.ref 127, .int x1]) [.aload_n 0] (by decide +kernel) rfl rfl ?_
  refine wx_geti is_127 ff_2_29 rfl (by decide +kernel) ?_
  refine wx_blk (pc' := 9) (L' := [some (.ref 127)]) (st' := [.int (x1 ||| (μ 127 5))]) [.ior] (by decide +kernel) rfl rfl ?_
  exact wx_iret rfl rfl (by decide +kernel)
/-! WakingLayers$Circumstances.isAwake(I)Z -/
def f2_isAwake (μ : xMu) (v1 : Int32) : Option Int32 :=
  ((f2_awakeSet μ).bind fun x1 =>
(if ((x1 >>> (v1 &&& 31)) &&& (1 : Int32)) = (1 : Int32) then
(some (1 : Int32))
else
(some (0 : Int32))))
set_option maxHeartbeats 4000000 in
set_option maxRecDepth 100000 in
theorem l_f2_isAwake (G : xG) (d : Nat) (hd : 2 ≤ d) (μ : xMu) (v1 : Int32) : Mx G m2_isAwake d [.ref 127, .int v1] μ (x_wi μ) (f2_isAwake μ v1) := by
  refine mx_enter ok2_isAwake [some (.ref 127), some (.int v1)] rfl (Nat.le_of_ble_eq_true rfl) ?_
  unfold f2_isAwake
  refine wx_blk (pc' := 1) (L' := [some (.ref 127), some (.int v1)]) (st' := [.ref 127]) [.aload_n 0] (by decide +kernel) rfl rfl ?_
  refine wx_callV (d1 := 1) (As := []) (rest := []) (by omega) is_127 (by decide) rfl cv_2_41 rfl (Nat.le_of_ble_eq_true rfl) (l_f2_awakeSet G 1 (by omega) μ) rfl (by decide +kernel) (fun x1 => ?_)
  refine wx_blk (pc' := 9) (L' := [some (.ref 127), some (.int v1)]) (st' := [.int (1 : Int32), .int ((x1 >>> (v1 &&& 31)) &&& (1 : Int32))]) [.iload_n 1, .ishr, .iconst 1, .iand, .iconst 1] (by decide +kernel) rfl rfl ?_
  refine wx_ic_ne 16 (off := 7) (by decide +kernel) (by decide) ?_ ?_
  · refine wx_blk (pc' := 17) (L' := [some (.ref 127), some (.int v1)]) (st' := [.int (0 : Int32)]) [.iconst 0] (by decide +kernel) rfl rfl ?_
    exact wx_zret rfl rfl (by decide) (by decide +kernel)
  · refine wx_blk (pc' := 13) (L' := [some (.ref 127), some (.int v1)]) (st' := [.int (1 : Int32)]) [.iconst 1] (by decide +kernel) rfl rfl ?_
    refine wx_goto 17 (off := 4) (by decide +kernel) (by decide) ?_
    exact wx_zret rfl rfl (by decide) (by decide +kernel)
/-! WakingLayers$Circumstances.openOf(I)I -/
def f2_openOf_j25 (μ : xMu) (k4 : Int32 → Int32 → Int32 → Option Int32) (v1 : Int32) (v2 : Int32) (v3 : Int32) : Option Int32 :=
  (k4 v1 v2 (v3 + (1 : Int32)))
set_option maxHeartbeats 4000000 in
set_option maxRecDepth 100000 in
theorem l_f2_openOf_j25 (G : xG) (d : Nat) (hd : 0 ≤ d) (μ : xMu) (k4 : Int32 → Int32 → Int32 → Option Int32) (h4 : ∀ (v1 : Int32) (v2 : Int32) (v3 : Int32), Wx G m2_openOf d 4 [some (.ref 127), some (.int v1), some (.int v2), some (.int v3)] [] μ (x_wi μ) (k4 v1 v2 v3)) (v1 : Int32) (v2 : Int32) (v3 : Int32) : Wx G m2_openOf d 25 [some (.ref 127), some (.int v1), some (.int v2), some (.int v3)] [] μ (x_wi μ) (f2_openOf_j25 μ k4 v1 v2 v3) := by
  unfold f2_openOf_j25
  refine wx_blk (pc' := 28) (L' := [some (.ref 127), some (.int v1), some (.int v2), some (.int (v3 + (1 : Int32)))]) (st' := []) [.iinc 3 1] (by decide +kernel) rfl rfl ?_
  refine wx_goto 4 (off := -24) (by decide +kernel) (by decide) ?_
  exact h4 v1 v2 (v3 + (1 : Int32))
def f2_openOf_l4 (μ : xMu) (k31 : Int32 → Option Int32) : Nat → Int32 → Int32 → Int32 → Option Int32
  | 0, _, _, _ => none
  | n + 1, v1, v2, v3 =>
  (if (μ 127 4) ≤ v3 then
(k31 v2)
else
(x_ald μ 129 16 v3 fun x1 =>
(if x1 = v1 then
(f2_openOf_j25 μ (f2_openOf_l4 μ k31 n) v1 (v2 + (1 : Int32)) v3)
else
(f2_openOf_j25 μ (f2_openOf_l4 μ k31 n) v1 v2 v3))))
set_option maxHeartbeats 4000000 in
set_option maxRecDepth 100000 in
theorem l_f2_openOf_l4 (G : xG) (d : Nat) (hd : 0 ≤ d) (μ : xMu) (k31 : Int32 → Option Int32) (h31 : ∀ (v2 : Int32), Wx G m2_openOf d 31 [none, none, some (.int v2), none] [] μ (x_wi μ) (k31 v2)) : ∀ (n : Nat) (v1 : Int32) (v2 : Int32) (v3 : Int32), Wx G m2_openOf d 4 [some (.ref 127), some (.int v1), some (.int v2), some (.int v3)] [] μ (x_wi μ) (f2_openOf_l4 μ k31 n v1 v2 v3) := by
  intro n
  induction n with
  | zero => intro v1 v2 v3; exact wx_none
  | succ n h4 =>
    intro v1 v2 v3
    unfold f2_openOf_l4
    refine wx_blk (pc' := 6) (L' := [some (.ref 127), some (.int v1), some (.int v2), some (.int v3)]) (st' := [.ref 127, .int v3]) [.iload_n 3, .aload_n 0] (by decide +kernel) rfl rfl ?_
    refine wx_geti is_127 ff_2_25 rfl (by decide +kernel) ?_
    refine wx_ic_ge 31 (off := 22) (by decide +kernel) (by decide) ?_ ?_
    · refine wx_weak (L' := [none, none, some (.int v2), none]) ⟨rfl, trivial⟩ ?_
      exact h31 v2
    · refine wx_blk (pc' := 13) (L' := [some (.ref 127), some (.int v1), some (.int v2), some (.int v3)]) (st' := [.ref 127]) [.aload_n 0] (by decide +kernel) rfl rfl ?_
      refine wx_getr is_127 ff_2_15 rfl rf_127_2 (by decide +kernel) ?_
      refine wx_blk (pc' := 17) (L' := [some (.ref 127), some (.int v1), some (.int v2), some (.int v3)]) (st' := [.int v3, .ref 129]) [.iload_n 3] (by decide +kernel) rfl rfl ?_
      refine wx_ald is_129 sz_129 (by decide +kernel) (fun x1 => ?_)
      refine wx_blk (pc' := 19) (L' := [some (.ref 127), some (.int v1), some (.int v2), some (.int v3)]) (st' := [.int v1, .int x1]) [.iload_n 1] (by decide +kernel) rfl rfl ?_
      refine wx_ic_ne 25 (off := 6) (by decide +kernel) (by decide) ?_ ?_
      · refine l_f2_openOf_j25 G d hd μ _ h4 v1 v2 v3
      · refine wx_blk (pc' := 25) (L' := [some (.ref 127), some (.int v1), some (.int (v2 + (1 : Int32))), some (.int v3)]) (st' := []) [.iinc 2 1] (by decide +kernel) rfl rfl ?_
        refine l_f2_openOf_j25 G d hd μ _ h4 v1 (v2 + (1 : Int32)) v3
def f2_openOf (μ : xMu) (v1 : Int32) : Option Int32 :=
  (f2_openOf_l4 μ (fun (y2 : Int32) => (some y2)) 1000 v1 (0 : Int32) (0 : Int32))
set_option maxHeartbeats 4000000 in
set_option maxRecDepth 100000 in
theorem l_f2_openOf (G : xG) (d : Nat) (hd : 0 ≤ d) (μ : xMu) (v1 : Int32) : Mx G m2_openOf d [.ref 127, .int v1] μ (x_wi μ) (f2_openOf μ v1) := by
  refine mx_enter ok2_openOf [some (.ref 127), some (.int v1), none, none] rfl (Nat.le_of_ble_eq_true rfl) ?_
  unfold f2_openOf
  refine wx_blk (pc' := 4) (L' := [some (.ref 127), some (.int v1), some (.int (0 : Int32)), some (.int (0 : Int32))]) (st' := []) [.iconst 0, .istore_n 2, .iconst 0, .istore_n 3] (by decide +kernel) rfl rfl ?_
  refine l_f2_openOf_l4 G d hd μ _ ?_ 1000 v1 (0 : Int32) (0 : Int32)
  · intro y2
    refine wx_blk (pc' := 32) (L' := [none, none, some (.int y2), none]) (st' := [.int y2]) [.iload_n 2] (by decide +kernel) rfl rfl ?_
    exact wx_iret rfl rfl (by decide +kernel)
/-! WakingLayers.layer(II)I -/
def f11_layer (μ : xMu) (v1 : Int32) (v2 : Int32) : Option Int32 :=
  ((f4_isLayer μ v1).bind fun x1 =>
(if x1 = 0 then
(some (-1000001 : Int32))
else
(x_rld 20 8 v1 fun r2 =>
(x_sw v2 (nI 0) [
(x_chk r2 3 (some (μ r2 0))),
(x_chk r2 3 (some (μ r2 1))),
(x_chk r2 3 (some (μ r2 2))),
(x_chk r2 3 (some (μ r2 3))),
((f2_isAwake μ v1).bind fun x7 =>
(if x7 = 0 then
(some (0 : Int32))
else
(some (1 : Int32)))),
((f2_openOf μ v1).bind fun x8 =>
(some x8))] 
(some (-1000001 : Int32))))))
set_option maxHeartbeats 4000000 in
set_option maxRecDepth 100000 in
theorem l_f11_layer (G : xG) (d : Nat) (hd : 3 ≤ d) (μ : xMu) (v1 : Int32) (v2 : Int32) : Mx G m11_layer d [.ref 0, .int v1, .int v2] μ (x_wi μ) (f11_layer μ v1 v2) := by
  refine mx_enter ok11_layer [some (.ref 0), some (.int v1), some (.int v2), none] rfl (Nat.le_of_ble_eq_true rfl) ?_
  unfold f11_layer
  refine wx_blk (pc' := 1) (L' := [some (.ref 0), some (.int v1), some (.int v2), none]) (st' := [.ref 0]) [.aload_n 0] (by decide +kernel) rfl rfl ?_
  refine wx_getr is_0 ff_11_26 rfl rf_0_2 (by decide +kernel) ?_
  refine wx_blk (pc' := 5) (L' := [some (.ref 0), some (.int v1), some (.int v2), none]) (st' := [.int v1, .ref 16]) [.iload_n 1] (by decide +kernel) rfl rfl ?_
  refine wx_callV (d1 := 0) (As := [.int v1]) (rest := []) (by omega) is_16 (by decide) rfl cv_11_147 rfl (Nat.le_of_ble_eq_true rfl) (l_f4_isLayer G 0 (by omega) μ v1) rfl (by decide +kernel) (fun x1 => ?_)
  refine wx_if_ne 14 (off := 6) (by decide +kernel) (by decide) ?_ ?_
  · refine wx_blk (pc' := 15) (L' := [some (.ref 0), some (.int v1), some (.int v2), none]) (st' := [.ref 0]) [.aload_n 0] (by decide +kernel) rfl rfl ?_
    refine wx_getr is_0 ff_11_26 rfl rf_0_2 (by decide +kernel) ?_
    refine wx_getr is_16 ff_11_150 rfl rf_16_3 (by decide +kernel) ?_
    refine wx_blk (pc' := 22) (L' := [some (.ref 0), some (.int v1), some (.int v2), none]) (st' := [.int v1, .ref 20]) [.iload_n 1] (by decide +kernel) rfl rfl ?_
    refine wx_rld is_20 (by decide) sz_20 (by decide +kernel) (fun r2 => ?_)
    refine wx_blk (pc' := 25) (L' := [some (.ref 0), some (.int v1), some (.int v2), some (.ref r2)]) (st' := [.int v2]) [.astore_n 3, .iload_n 2] (by decide +kernel) rfl rfl ?_
    refine wx_tsw [64, 69, 74, 79, 84, 101] 110 0 (dflt := 85) (lo := 0) (hi := 5) (offs := #[39, 44, 49, 54, 59, 76]) (len := 39) (by decide +kernel) rfl rfl (by decide) rfl rfl ⟨?_, ?_, ?_, ?_, ?_, ?_, trivial⟩ ?_
    · refine wx_blk (pc' := 65) (L' := [some (.ref 0), some (.int v1), some (.int v2), some (.ref r2)]) (st' := [.ref r2]) [.aload_n 3] (by decide +kernel) rfl rfl ?_
      refine wx_chk (fun hx3 => ?_)
      refine wx_geti hx3 ff_11_154 rfl (by decide +kernel) ?_
      exact wx_iret rfl rfl (by decide +kernel)
    · refine wx_blk (pc' := 70) (L' := [some (.ref 0), some (.int v1), some (.int v2), some (.ref r2)]) (st' := [.ref r2]) [.aload_n 3] (by decide +kernel) rfl rfl ?_
      refine wx_chk (fun hx4 => ?_)
      refine wx_geti hx4 ff_11_159 rfl (by decide +kernel) ?_
      exact wx_iret rfl rfl (by decide +kernel)
    · refine wx_blk (pc' := 75) (L' := [some (.ref 0), some (.int v1), some (.int v2), some (.ref r2)]) (st' := [.ref r2]) [.aload_n 3] (by decide +kernel) rfl rfl ?_
      refine wx_chk (fun hx5 => ?_)
      refine wx_geti hx5 ff_11_162 rfl (by decide +kernel) ?_
      exact wx_iret rfl rfl (by decide +kernel)
    · refine wx_blk (pc' := 80) (L' := [some (.ref 0), some (.int v1), some (.int v2), some (.ref r2)]) (st' := [.ref r2]) [.aload_n 3] (by decide +kernel) rfl rfl ?_
      refine wx_chk (fun hx6 => ?_)
      refine wx_geti hx6 ff_11_165 rfl (by decide +kernel) ?_
      exact wx_iret rfl rfl (by decide +kernel)
    · refine wx_blk (pc' := 85) (L' := [some (.ref 0), some (.int v1), some (.int v2), some (.ref r2)]) (st' := [.ref 0]) [.aload_n 0] (by decide +kernel) rfl rfl ?_
      refine wx_getr is_0 ff_11_44 rfl rf_0_4 (by decide +kernel) ?_
      refine wx_blk (pc' := 89) (L' := [some (.ref 0), some (.int v1), some (.int v2), some (.ref r2)]) (st' := [.int v1, .ref 127]) [.iload_n 1] (by decide +kernel) rfl rfl ?_
      refine wx_callV (d1 := 2) (As := [.int v1]) (rest := []) (by omega) is_127 (by decide) rfl cv_11_168 rfl (Nat.le_of_ble_eq_true rfl) (l_f2_isAwake G 2 (by omega) μ v1) rfl (by decide +kernel) (fun x7 => ?_)
      refine wx_if_eq 99 (off := 7) (by decide +kernel) (by decide) ?_ ?_
      · refine wx_blk (pc' := 100) (L' := [some (.ref 0), some (.int v1), some (.int v2), some (.ref r2)]) (st' := [.int (0 : Int32)]) [.iconst 0] (by decide +kernel) rfl rfl ?_
        exact wx_iret rfl rfl (by decide +kernel)
      · refine wx_blk (pc' := 96) (L' := [some (.ref 0), some (.int v1), some (.int v2), some (.ref r2)]) (st' := [.int (1 : Int32)]) [.iconst 1] (by decide +kernel) rfl rfl ?_
        refine wx_goto 100 (off := 4) (by decide +kernel) (by decide) ?_
        exact wx_iret rfl rfl (by decide +kernel)
    · refine wx_blk (pc' := 102) (L' := [some (.ref 0), some (.int v1), some (.int v2), some (.ref r2)]) (st' := [.ref 0]) [.aload_n 0] (by decide +kernel) rfl rfl ?_
      refine wx_getr is_0 ff_11_44 rfl rf_0_4 (by decide +kernel) ?_
      refine wx_blk (pc' := 106) (L' := [some (.ref 0), some (.int v1), some (.int v2), some (.ref r2)]) (st' := [.int v1, .ref 127]) [.iload_n 1] (by decide +kernel) rfl rfl ?_
      refine wx_callV (d1 := 0) (As := [.int v1]) (rest := []) (by omega) is_127 (by decide) rfl cv_11_171 rfl (Nat.le_of_ble_eq_true rfl) (l_f2_openOf G 0 (by omega) μ v1) rfl (by decide +kernel) (fun x8 => ?_)
      exact wx_iret rfl rfl (by decide +kernel)
    · refine wx_ldc (v := -1000001) xw_513 (by decide +kernel) ?_
      exact wx_iret rfl rfl (by decide +kernel)
  · refine wx_ldc (v := -1000001) xw_513 (by decide +kernel) ?_
    exact wx_iret rfl rfl (by decide +kernel)
/-! WakingLayers$Circumstances.isFactValue(I)Z -/
def f2_isFactValue (v0 : Int32) : Option Int32 :=
  (if v0 < 0 then
(some (0 : Int32))
else
(if (10 : Int32) ≤ v0 then
(some (0 : Int32))
else
(some (1 : Int32))))
set_option maxHeartbeats 4000000 in
set_option maxRecDepth 100000 in
theorem l_f2_isFactValue (G : xG) (d : Nat) (hd : 0 ≤ d) (μ : xMu) (v0 : Int32) : Mx G m2_isFactValue d [.int v0] μ (x_wi μ) (f2_isFactValue v0) := by
  refine mx_enter ok2_isFactValue [some (.int v0)] rfl (Nat.le_of_ble_eq_true rfl) ?_
  unfold f2_isFactValue
  refine wx_blk (pc' := 1) (L' := [some (.int v0)]) (st' := [.int v0]) [.iload_n 0] (by decide +kernel) rfl rfl ?_
  refine wx_if_lt 14 (off := 13) (by decide +kernel) (by decide) ?_ ?_
  · refine wx_blk (pc' := 15) (L' := [some (.int v0)]) (st' := [.int (0 : Int32)]) [.iconst 0] (by decide +kernel) rfl rfl ?_
    exact wx_zret rfl rfl (by decide) (by decide +kernel)
  · refine wx_blk (pc' := 7) (L' := [some (.int v0)]) (st' := [.int (10 : Int32), .int v0]) [.iload_n 0, .bipush 10] (by decide +kernel) rfl rfl ?_
    refine wx_ic_ge 14 (off := 7) (by decide +kernel) (by decide) ?_ ?_
    · refine wx_blk (pc' := 15) (L' := [some (.int v0)]) (st' := [.int (0 : Int32)]) [.iconst 0] (by decide +kernel) rfl rfl ?_
      exact wx_zret rfl rfl (by decide) (by decide +kernel)
    · refine wx_blk (pc' := 11) (L' := [some (.int v0)]) (st' := [.int (1 : Int32)]) [.iconst 1] (by decide +kernel) rfl rfl ?_
      refine wx_goto 15 (off := 4) (by decide +kernel) (by decide) ?_
      exact wx_zret rfl rfl (by decide) (by decide +kernel)
/-! WakingLayers$Circumstances.tell(II)I -/
def f2_tell (v1 : Int32) (v2 : Int32) (μ : xMu) : Option (Int32 × xMu) :=
  (x_ald μ 128 4 v1 fun x1 =>
(x_ast μ 128 4 v1 v2 fun μ2 =>
(some (x1, μ2))))
set_option maxHeartbeats 4000000 in
set_option maxRecDepth 100000 in
theorem l_f2_tell (G : xG) (d : Nat) (hd : 0 ≤ d) (v1 : Int32) (v2 : Int32) (μ : xMu) : Mx G m2_tell d [.ref 127, .int v1, .int v2] μ x_wim (f2_tell v1 v2 μ) := by
  refine mx_enter ok2_tell [some (.ref 127), some (.int v1), some (.int v2), none] rfl (Nat.le_of_ble_eq_true rfl) ?_
  unfold f2_tell
  refine wx_blk (pc' := 1) (L' := [some (.ref 127), some (.int v1), some (.int v2), none]) (st' := [.ref 127]) [.aload_n 0] (by decide +kernel) rfl rfl ?_
  refine wx_getr is_127 ff_2_11 rfl rf_127_1 (by decide +kernel) ?_
  refine wx_blk (pc' := 5) (L' := [some (.ref 127), some (.int v1), some (.int v2), none]) (st' := [.int v1, .ref 128]) [.iload_n 1] (by decide +kernel) rfl rfl ?_
  refine wx_ald is_128 sz_128 (by decide +kernel) (fun x1 => ?_)
  refine wx_blk (pc' := 8) (L' := [some (.ref 127), some (.int v1), some (.int v2), some (.int x1)]) (st' := [.ref 127]) [.istore_n 3, .aload_n 0] (by decide +kernel) rfl rfl ?_
  refine wx_getr is_127 ff_2_11 rfl rf_127_1 (by decide +kernel) ?_
  refine wx_blk (pc' := 13) (L' := [some (.ref 127), some (.int v1), some (.int v2), some (.int x1)]) (st' := [.int v2, .int v1, .ref 128]) [.iload_n 1, .iload_n 2] (by decide +kernel) rfl rfl ?_
  refine wx_ast is_128 sz_128 (by decide +kernel) (fun μ2 => ?_)
  refine wx_blk (pc' := 15) (L' := [some (.ref 127), some (.int v1), some (.int v2), some (.int x1)]) (st' := [.int x1]) [.iload_n 3] (by decide +kernel) rfl rfl ?_
  exact wx_iret rfl rfl (by decide +kernel)
/-! WakingLayers.fact(II)I -/
def f11_fact (v1 : Int32) (v2 : Int32) (μ : xMu) : Option (Int32 × xMu) :=
  (if v1 < 0 then
(some ((-1000001 : Int32), μ))
else
(if (4 : Int32) ≤ v1 then
(some ((-1000001 : Int32), μ))
else
((f2_isFactValue v2).bind fun x1 =>
(if x1 = 0 then
(some ((-1000001 : Int32), μ))
else
((f2_tell v1 v2 μ).bind fun q2 =>
(some (q2.1, q2.2)))))))
set_option maxHeartbeats 4000000 in
set_option maxRecDepth 100000 in
theorem l_f11_fact (G : xG) (d : Nat) (hd : 1 ≤ d) (v1 : Int32) (v2 : Int32) (μ : xMu) : Mx G m11_fact d [.ref 0, .int v1, .int v2] μ x_wim (f11_fact v1 v2 μ) := by
  refine mx_enter ok11_fact [some (.ref 0), some (.int v1), some (.int v2)] rfl (Nat.le_of_ble_eq_true rfl) ?_
  unfold f11_fact
  refine wx_blk (pc' := 1) (L' := [some (.ref 0), some (.int v1), some (.int v2)]) (st' := [.int v1]) [.iload_n 1] (by decide +kernel) rfl rfl ?_
  refine wx_if_lt 16 (off := 15) (by decide +kernel) (by decide) ?_ ?_
  · refine wx_ldc (v := -1000001) xw_513 (by decide +kernel) ?_
    exact wx_iret rfl rfl (by decide +kernel)
  · refine wx_blk (pc' := 6) (L' := [some (.ref 0), some (.int v1), some (.int v2)]) (st' := [.int (4 : Int32), .int v1]) [.iload_n 1, .iconst 4] (by decide +kernel) rfl rfl ?_
    refine wx_ic_ge 16 (off := 10) (by decide +kernel) (by decide) ?_ ?_
    · refine wx_ldc (v := -1000001) xw_513 (by decide +kernel) ?_
      exact wx_iret rfl rfl (by decide +kernel)
    · refine wx_blk (pc' := 10) (L' := [some (.ref 0), some (.int v1), some (.int v2)]) (st' := [.int v2]) [.iload_n 2] (by decide +kernel) rfl rfl ?_
      refine wx_callS (d1 := 0) (As := [.int v2]) (rest := []) (by omega) cs_11_174 rfl (Nat.le_of_ble_eq_true rfl) (l_f2_isFactValue G 0 (by omega) μ v2) rfl (by decide +kernel) (fun x1 => ?_)
      refine wx_if_ne 19 (off := 6) (by decide +kernel) (by decide) ?_ ?_
      · refine wx_blk (pc' := 20) (L' := [some (.ref 0), some (.int v1), some (.int v2)]) (st' := [.ref 0]) [.aload_n 0] (by decide +kernel) rfl rfl ?_
        refine wx_getr is_0 ff_11_44 rfl rf_0_4 (by decide +kernel) ?_
        refine wx_blk (pc' := 25) (L' := [some (.ref 0), some (.int v1), some (.int v2)]) (st' := [.int v2, .int v1, .ref 127]) [.iload_n 1, .iload_n 2] (by decide +kernel) rfl rfl ?_
        refine wx_callV (d1 := 0) (As := [.int v1, .int v2]) (rest := []) (by omega) is_127 (by decide) rfl cv_11_177 rfl (Nat.le_of_ble_eq_true rfl) (l_f2_tell G 0 (by omega) v1 v2 μ) rfl (by decide +kernel) (fun q2 => ?_)
        exact wx_iret rfl rfl (by decide +kernel)
      · refine wx_ldc (v := -1000001) xw_513 (by decide +kernel) ?_
        exact wx_iret rfl rfl (by decide +kernel)
/-! WakingLayers$Sheets.item(II)I -/
def f8_item (μ : xMu) (v1 : Int32) (v2 : Int32) : Option Int32 :=
  (x_rld 5 8 v1 fun r1 =>
(x_chk r1 13 (x_ald μ r1 (x_sz r1) v2 fun x2 =>
(some x2))))
set_option maxHeartbeats 4000000 in
set_option maxRecDepth 100000 in
theorem l_f8_item (G : xG) (d : Nat) (hd : 0 ≤ d) (μ : xMu) (v1 : Int32) (v2 : Int32) : Mx G m8_item d [.ref 1, .int v1, .int v2] μ (x_wi μ) (f8_item μ v1 v2) := by
  refine mx_enter ok8_item [some (.ref 1), some (.int v1), some (.int v2)] rfl (Nat.le_of_ble_eq_true rfl) ?_
  unfold f8_item
  refine wx_blk (pc' := 1) (L' := [some (.ref 1), some (.int v1), some (.int v2)]) (st' := [.ref 1]) [.aload_n 0] (by decide +kernel) rfl rfl ?_
  refine wx_getr is_1 ff_8_22 rfl rf_1_3 (by decide +kernel) ?_
  refine wx_blk (pc' := 5) (L' := [some (.ref 1), some (.int v1), some (.int v2)]) (st' := [.int v1, .ref 5]) [.iload_n 1] (by decide +kernel) rfl rfl ?_
  refine wx_rld is_5 (by decide) sz_5 (by decide +kernel) (fun r1 => ?_)
  refine wx_blk (pc' := 7) (L' := [some (.ref 1), some (.int v1), some (.int v2)]) (st' := [.int v2, .ref r1]) [.iload_n 2] (by decide +kernel) rfl rfl ?_
  refine wx_chk (fun hx3 => ?_)
  refine wx_ald hx3 rfl (by decide +kernel) (fun x2 => ?_)
  exact wx_iret rfl rfl (by decide +kernel)
/-! WakingLayers.facts(III)I -/
def f11_facts_l59 (k92 : Int32 → Int32 → Int32 → xMu → Option (Int32 × xMu)) : Nat → Int32 → Int32 → Int32 → Int32 → xMu → Option (Int32 × xMu)
  | 0, _, _, _, _, _ => none
  | n + 1, v1, v2, v3, v4, μ =>
  (if v3 ≤ v4 then
(k92 v1 v2 v3 μ)
else
((f8_item μ v1 (v2 + v4)).bind fun x4 =>
((f2_isFactValue x4).bind fun x5 =>
(if x5 = 0 then
(some ((-1000001 : Int32), μ))
else
((f11_facts_l59 k92 n) v1 v2 v3 (v4 + (1 : Int32)) μ)))))
set_option maxHeartbeats 4000000 in
set_option maxRecDepth 100000 in
theorem l_f11_facts_l59 (G : xG) (d : Nat) (hd : 1 ≤ d) (k92 : Int32 → Int32 → Int32 → xMu → Option (Int32 × xMu)) (h92 : ∀ (v1 : Int32) (v2 : Int32) (v3 : Int32) (μ1 : xMu), Wx G m11_facts d 92 [some (.ref 0), some (.int v1), some (.int v2), some (.int v3), none] [] μ1 x_wim (k92 v1 v2 v3 μ1)) : ∀ (n : Nat) (v1 : Int32) (v2 : Int32) (v3 : Int32) (v4 : Int32) (μ : xMu), Wx G m11_facts d 59 [some (.ref 0), some (.int v1), some (.int v2), some (.int v3), some (.int v4)] [] μ x_wim (f11_facts_l59 k92 n v1 v2 v3 v4 μ) := by
  intro n
  induction n with
  | zero => intro v1 v2 v3 v4 μ; exact wx_none
  | succ n h59 =>
    intro v1 v2 v3 v4 μ
    unfold f11_facts_l59
    refine wx_blk (pc' := 62) (L' := [some (.ref 0), some (.int v1), some (.int v2), some (.int v3), some (.int v4)]) (st' := [.int v3, .int v4]) [.iload 4, .iload_n 3] (by decide +kernel) rfl rfl ?_
    refine wx_ic_ge 92 (off := 30) (by decide +kernel) (by decide) ?_ ?_
    · refine wx_weak (L' := [some (.ref 0), some (.int v1), some (.int v2), some (.int v3), none]) ⟨rfl, ⟨rfl, ⟨rfl, ⟨rfl, trivial⟩⟩⟩⟩ ?_
      exact h92 v1 v2 v3 μ
    · refine wx_blk (pc' := 66) (L' := [some (.ref 0), some (.int v1), some (.int v2), some (.int v3), some (.int v4)]) (st' := [.ref 0]) [.aload_n 0] (by decide +kernel) rfl rfl ?_
      refine wx_getr is_0 ff_11_10 rfl rf_0_0 (by decide +kernel) ?_
      refine wx_blk (pc' := 74) (L' := [some (.ref 0), some (.int v1), some (.int v2), some (.int v3), some (.int v4)]) (st' := [.int (v2 + v4), .int v1, .ref 1]) [.iload_n 1, .iload_n 2, .iload 4, .iadd] (by decide +kernel) rfl rfl ?_
      refine wx_callV (d1 := 0) (As := [.int v1, .int (v2 + v4)]) (rest := []) (by omega) is_1 (by decide) rfl cv_11_181 rfl (Nat.le_of_ble_eq_true rfl) (l_f8_item G 0 (by omega) μ v1 (v2 + v4)) rfl (by decide +kernel) (fun x4 => ?_)
      refine wx_callS (d1 := 0) (As := [.int x4]) (rest := []) (by omega) cs_11_174 rfl (Nat.le_of_ble_eq_true rfl) (l_f2_isFactValue G 0 (by omega) μ x4) rfl (by decide +kernel) (fun x5 => ?_)
      refine wx_if_ne 86 (off := 6) (by decide +kernel) (by decide) ?_ ?_
      · refine wx_blk (pc' := 89) (L' := [some (.ref 0), some (.int v1), some (.int v2), some (.int v3), some (.int (v4 + (1 : Int32)))]) (st' := []) [.iinc 4 1] (by decide +kernel) rfl rfl ?_
        refine wx_goto 59 (off := -30) (by decide +kernel) (by decide) ?_
        exact h59 v1 v2 v3 (v4 + (1 : Int32)) μ
      · refine wx_ldc (v := -1000001) xw_513 (by decide +kernel) ?_
        exact wx_iret rfl rfl (by decide +kernel)
def f11_facts_l95 (k129 : Int32 → xMu → Option (Int32 × xMu)) : Nat → Int32 → Int32 → Int32 → Int32 → xMu → Option (Int32 × xMu)
  | 0, _, _, _, _, _ => none
  | n + 1, v1, v2, v3, v4, μ =>
  (if v3 ≤ v4 then
(k129 v3 μ)
else
((f8_item μ v1 (v2 + v4)).bind fun x10 =>
((f2_tell v4 x10 μ).bind fun q11 =>
((f11_facts_l95 k129 n) v1 v2 v3 (v4 + (1 : Int32)) q11.2))))
set_option maxHeartbeats 4000000 in
set_option maxRecDepth 100000 in
theorem l_f11_facts_l95 (G : xG) (d : Nat) (hd : 1 ≤ d) (k129 : Int32 → xMu → Option (Int32 × xMu)) (h129 : ∀ (v3 : Int32) (μ1 : xMu), Wx G m11_facts d 129 [some (.ref 0), none, none, some (.int v3), none] [] μ1 x_wim (k129 v3 μ1)) : ∀ (n : Nat) (v1 : Int32) (v2 : Int32) (v3 : Int32) (v4 : Int32) (μ : xMu), Wx G m11_facts d 95 [some (.ref 0), some (.int v1), some (.int v2), some (.int v3), some (.int v4)] [] μ x_wim (f11_facts_l95 k129 n v1 v2 v3 v4 μ) := by
  intro n
  induction n with
  | zero => intro v1 v2 v3 v4 μ; exact wx_none
  | succ n h95 =>
    intro v1 v2 v3 v4 μ
    unfold f11_facts_l95
    refine wx_blk (pc' := 98) (L' := [some (.ref 0), some (.int v1), some (.int v2), some (.int v3), some (.int v4)]) (st' := [.int v3, .int v4]) [.iload 4, .iload_n 3] (by decide +kernel) rfl rfl ?_
    refine wx_ic_ge 129 (off := 31) (by decide +kernel) (by decide) ?_ ?_
    · refine wx_weak (L' := [some (.ref 0), none, none, some (.int v3), none]) ⟨rfl, ⟨rfl, trivial⟩⟩ ?_
      exact h129 v3 μ
    · refine wx_blk (pc' := 102) (L' := [some (.ref 0), some (.int v1), some (.int v2), some (.int v3), some (.int v4)]) (st' := [.ref 0]) [.aload_n 0] (by decide +kernel) rfl rfl ?_
      refine wx_getr is_0 ff_11_44 rfl rf_0_4 (by decide +kernel) ?_
      refine wx_blk (pc' := 108) (L' := [some (.ref 0), some (.int v1), some (.int v2), some (.int v3), some (.int v4)]) (st' := [.ref 0, .int v4, .ref 127]) [.iload 4, .aload_n 0] (by decide +kernel) rfl rfl ?_
      refine wx_getr is_0 ff_11_10 rfl rf_0_0 (by decide +kernel) ?_
      refine wx_blk (pc' := 116) (L' := [some (.ref 0), some (.int v1), some (.int v2), some (.int v3), some (.int v4)]) (st' := [.int (v2 + v4), .int v1, .ref 1, .int v4, .ref 127]) [.iload_n 1, .iload_n 2, .iload 4, .iadd] (by decide +kernel) rfl rfl ?_
      refine wx_callV (d1 := 0) (As := [.int v1, .int (v2 + v4)]) (rest := [.int v4, .ref 127]) (by omega) is_1 (by decide) rfl cv_11_181 rfl (Nat.le_of_ble_eq_true rfl) (l_f8_item G 0 (by omega) μ v1 (v2 + v4)) rfl (by decide +kernel) (fun x10 => ?_)
      refine wx_callV (d1 := 0) (As := [.int v4, .int x10]) (rest := []) (by omega) is_127 (by decide) rfl cv_11_177 rfl (Nat.le_of_ble_eq_true rfl) (l_f2_tell G 0 (by omega) v4 x10 μ) rfl (by decide +kernel) (fun q11 => ?_)
      refine wx_blk (pc' := 126) (L' := [some (.ref 0), some (.int v1), some (.int v2), some (.int v3), some (.int (v4 + (1 : Int32)))]) (st' := []) [.pop, .iinc 4 1] (by decide +kernel) rfl rfl ?_
      refine wx_goto 95 (off := -31) (by decide +kernel) (by decide) ?_
      exact h95 v1 v2 v3 (v4 + (1 : Int32)) q11.2
def f11_facts (v1 : Int32) (v2 : Int32) (v3 : Int32) (μ : xMu) : Option (Int32 × xMu) :=
  ((f8_isSheet v1).bind fun x1 =>
(if x1 = 0 then
(some ((-1000001 : Int32), μ))
else
(if v3 < (1 : Int32) then
(some ((-1000001 : Int32), μ))
else
(if v3 ≤ (4 : Int32) then
((f8_isMissing μ v1).bind fun x2 =>
(if x2 = 0 then
((f8_hasPlaces μ v1 v2 v3).bind fun x3 =>
(if x3 = 0 then
((f11_finding (2 : Int32) μ).bind fun q15 =>
(some (q15.1, q15.2)))
else
(f11_facts_l59 (fun (y6 : Int32) (y7 : Int32) (y8 : Int32) (μ9 : xMu) => (f11_facts_l95 (fun (y12 : Int32) (μ13 : xMu) => ((f11_withoutFinding y12 μ13).bind fun q14 =>
(some (q14.1, q14.2)))) 1000 y6 y7 y8 (0 : Int32) μ9)) 1000 v1 v2 v3 (0 : Int32) μ)))
else
((f11_finding (1 : Int32) μ).bind fun q16 =>
(some (q16.1, q16.2)))))
else
(some ((-1000001 : Int32), μ))))))
set_option maxHeartbeats 4000000 in
set_option maxRecDepth 100000 in
theorem l_f11_facts (G : xG) (d : Nat) (hd : 1 ≤ d) (v1 : Int32) (v2 : Int32) (v3 : Int32) (μ : xMu) : Mx G m11_facts d [.ref 0, .int v1, .int v2, .int v3] μ x_wim (f11_facts v1 v2 v3 μ) := by
  refine mx_enter ok11_facts [some (.ref 0), some (.int v1), some (.int v2), some (.int v3), none] rfl (Nat.le_of_ble_eq_true rfl) ?_
  unfold f11_facts
  refine wx_blk (pc' := 1) (L' := [some (.ref 0), some (.int v1), some (.int v2), some (.int v3), none]) (st' := [.int v1]) [.iload_n 1] (by decide +kernel) rfl rfl ?_
  refine wx_callS (d1 := 0) (As := [.int v1]) (rest := []) (by omega) cs_11_86 rfl (Nat.le_of_ble_eq_true rfl) (l_f8_isSheet G 0 (by omega) μ v1) rfl (by decide +kernel) (fun x1 => ?_)
  refine wx_if_eq 17 (off := 13) (by decide +kernel) (by decide) ?_ ?_
  · refine wx_ldc (v := -1000001) xw_513 (by decide +kernel) ?_
    exact wx_iret rfl rfl (by decide +kernel)
  · refine wx_blk (pc' := 9) (L' := [some (.ref 0), some (.int v1), some (.int v2), some (.int v3), none]) (st' := [.int (1 : Int32), .int v3]) [.iload_n 3, .iconst 1] (by decide +kernel) rfl rfl ?_
    refine wx_ic_lt 17 (off := 8) (by decide +kernel) (by decide) ?_ ?_
    · refine wx_ldc (v := -1000001) xw_513 (by decide +kernel) ?_
      exact wx_iret rfl rfl (by decide +kernel)
    · refine wx_blk (pc' := 14) (L' := [some (.ref 0), some (.int v1), some (.int v2), some (.int v3), none]) (st' := [.int (4 : Int32), .int v3]) [.iload_n 3, .iconst 4] (by decide +kernel) rfl rfl ?_
      refine wx_ic_le 20 (off := 6) (by decide +kernel) (by decide) ?_ ?_
      · refine wx_blk (pc' := 21) (L' := [some (.ref 0), some (.int v1), some (.int v2), some (.int v3), none]) (st' := [.ref 0]) [.aload_n 0] (by decide +kernel) rfl rfl ?_
        refine wx_getr is_0 ff_11_10 rfl rf_0_0 (by decide +kernel) ?_
        refine wx_blk (pc' := 25) (L' := [some (.ref 0), some (.int v1), some (.int v2), some (.int v3), none]) (st' := [.int v1, .ref 1]) [.iload_n 1] (by decide +kernel) rfl rfl ?_
        refine wx_callV (d1 := 0) (As := [.int v1]) (rest := []) (by omega) is_1 (by decide) rfl cv_11_105 rfl (Nat.le_of_ble_eq_true rfl) (l_f8_isMissing G 0 (by omega) μ v1) rfl (by decide +kernel) (fun x2 => ?_)
        refine wx_if_eq 37 (off := 9) (by decide +kernel) (by decide) ?_ ?_
        · refine wx_blk (pc' := 38) (L' := [some (.ref 0), some (.int v1), some (.int v2), some (.int v3), none]) (st' := [.ref 0]) [.aload_n 0] (by decide +kernel) rfl rfl ?_
          refine wx_getr is_0 ff_11_10 rfl rf_0_0 (by decide +kernel) ?_
          refine wx_blk (pc' := 44) (L' := [some (.ref 0), some (.int v1), some (.int v2), some (.int v3), none]) (st' := [.int v3, .int v2, .int v1, .ref 1]) [.iload_n 1, .iload_n 2, .iload_n 3] (by decide +kernel) rfl rfl ?_
          refine wx_callV (d1 := 0) (As := [.int v1, .int v2, .int v3]) (rest := []) (by omega) is_1 (by decide) rfl cv_11_108 rfl (Nat.le_of_ble_eq_true rfl) (l_f8_hasPlaces G 0 (by omega) μ v1 v2 v3) rfl (by decide +kernel) (fun x3 => ?_)
          refine wx_if_ne 56 (off := 9) (by decide +kernel) (by decide) ?_ ?_
          · refine wx_blk (pc' := 59) (L' := [some (.ref 0), some (.int v1), some (.int v2), some (.int v3), some (.int (0 : Int32))]) (st' := []) [.iconst 0, .istore 4] (by decide +kernel) rfl rfl ?_
            refine l_f11_facts_l59 G d hd _ ?_ 1000 v1 v2 v3 (0 : Int32) μ
            · intro y6 y7 y8 μ9
              refine wx_blk (pc' := 95) (L' := [some (.ref 0), some (.int y6), some (.int y7), some (.int y8), some (.int (0 : Int32))]) (st' := []) [.iconst 0, .istore 4] (by decide +kernel) rfl rfl ?_
              refine l_f11_facts_l95 G d hd _ ?_ 1000 y6 y7 y8 (0 : Int32) μ9
              · intro y12 μ13
                refine wx_blk (pc' := 131) (L' := [some (.ref 0), none, none, some (.int y12), none]) (st' := [.int y12, .ref 0]) [.aload_n 0, .iload_n 3] (by decide +kernel) rfl rfl ?_
                refine wx_callV (d1 := 0) (As := [.int y12]) (rest := []) (by omega) is_0 (by decide) rfl cv_11_102 rfl (Nat.le_of_ble_eq_true rfl) (l_f11_withoutFinding G 0 (by omega) y12 μ13) rfl (by decide +kernel) (fun q14 => ?_)
                exact wx_iret rfl rfl (by decide +kernel)
          · refine wx_blk (pc' := 52) (L' := [some (.ref 0), some (.int v1), some (.int v2), some (.int v3), none]) (st' := [.int (2 : Int32), .ref 0]) [.aload_n 0, .iconst 2] (by decide +kernel) rfl rfl ?_
            refine wx_callV (d1 := 0) (As := [.int (2 : Int32)]) (rest := []) (by omega) is_0 (by decide) rfl cv_11_94 rfl (Nat.le_of_ble_eq_true rfl) (l_f11_finding G 0 (by omega) (2 : Int32) μ) rfl (by decide +kernel) (fun q15 => ?_)
            exact wx_iret rfl rfl (by decide +kernel)
        · refine wx_blk (pc' := 33) (L' := [some (.ref 0), some (.int v1), some (.int v2), some (.int v3), none]) (st' := [.int (1 : Int32), .ref 0]) [.aload_n 0, .iconst 1] (by decide +kernel) rfl rfl ?_
          refine wx_callV (d1 := 0) (As := [.int (1 : Int32)]) (rest := []) (by omega) is_0 (by decide) rfl cv_11_94 rfl (Nat.le_of_ble_eq_true rfl) (l_f11_finding G 0 (by omega) (1 : Int32) μ) rfl (by decide +kernel) (fun q16 => ?_)
          exact wx_iret rfl rfl (by decide +kernel)
      · refine wx_ldc (v := -1000001) xw_513 (by decide +kernel) ?_
        exact wx_iret rfl rfl (by decide +kernel)
