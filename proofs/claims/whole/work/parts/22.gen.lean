/-! WakingLayers$Program.addThing(II)V -/
def f4_addThing (v1 : Int32) (v2 : Int32) (μ : xMu) : Option xMu :=
  (x_ast μ 18 8 (μ 16 6) v1 fun μ1 =>
(x_ast μ1 19 8 (μ1 16 6) v2 fun μ2 =>
(x_put μ2 16 6 ((μ2 16 6) + (1 : Int32)) fun μ3 =>
(some μ3))))
set_option maxHeartbeats 4000000 in
set_option maxRecDepth 100000 in
theorem l_f4_addThing (G : xG) (d : Nat) (hd : 0 ≤ d) (v1 : Int32) (v2 : Int32) (μ : xMu) : Mx G m4_addThing d [.ref 16, .int v1, .int v2] μ x_wv (f4_addThing v1 v2 μ) := by
  refine mx_enter ok4_addThing [some (.ref 16), some (.int v1), some (.int v2)] rfl (Nat.le_of_ble_eq_true rfl) ?_
  unfold f4_addThing
  refine wx_blk (pc' := 1) (L' := [some (.ref 16), some (.int v1), some (.int v2)]) (st' := [.ref 16]) [.aload_n 0] (by decide +kernel) rfl rfl ?_
  refine wx_getr is_16 ff_4_13 rfl rf_16_1 (by decide +kernel) ?_
  refine wx_blk (pc' := 5) (L' := [some (.ref 16), some (.int v1), some (.int v2)]) (st' := [.ref 16, .ref 18]) [.aload_n 0] (by decide +kernel) rfl rfl ?_
  refine wx_geti is_16 ff_4_33 rfl (by decide +kernel) ?_
  refine wx_blk (pc' := 9) (L' := [some (.ref 16), some (.int v1), some (.int v2)]) (st' := [.int v1, .int (μ 16 6), .ref 18]) [.iload_n 1] (by decide +kernel) rfl rfl ?_
  refine wx_ast is_18 sz_18 (by decide +kernel) (fun μ1 => ?_)
  refine wx_blk (pc' := 11) (L' := [some (.ref 16), some (.int v1), some (.int v2)]) (st' := [.ref 16]) [.aload_n 0] (by decide +kernel) rfl rfl ?_
  refine wx_getr is_16 ff_4_16 rfl rf_16_2 (by decide +kernel) ?_
  refine wx_blk (pc' := 15) (L' := [some (.ref 16), some (.int v1), some (.int v2)]) (st' := [.ref 16, .ref 19]) [.aload_n 0] (by decide +kernel) rfl rfl ?_
  refine wx_geti is_16 ff_4_33 rfl (by decide +kernel) ?_
  refine wx_blk (pc' := 19) (L' := [some (.ref 16), some (.int v1), some (.int v2)]) (st' := [.int v2, .int (μ1 16 6), .ref 19]) [.iload_n 2] (by decide +kernel) rfl rfl ?_
  refine wx_ast is_19 sz_19 (by decide +kernel) (fun μ2 => ?_)
  refine wx_blk (pc' := 22) (L' := [some (.ref 16), some (.int v1), some (.int v2)]) (st' := [.ref 16, .ref 16]) [.aload_n 0, .dup] (by decide +kernel) rfl rfl ?_
  refine wx_geti is_16 ff_4_33 rfl (by decide +kernel) ?_
  refine wx_blk (pc' := 27) (L' := [some (.ref 16), some (.int v1), some (.int v2)]) (st' := [.int ((μ2 16 6) + (1 : Int32)), .ref 16]) [.iconst 1, .iadd] (by decide +kernel) rfl rfl ?_
  refine wx_put is_16 ff_4_33 fp_4_6 ⟨rfl, rfl⟩ (by decide +kernel) (fun μ3 => ?_)
  exact wx_vret rfl rfl (by decide +kernel)
/-! WakingLayers$Reader.readThing()V -/
def f5_readThing (μ : xMu) : Option xMu :=
  ((f5_takeFirstWord (μ 16 6) (8 : Int32) μ).bind fun μ1 =>
((f5_takeNumber (μ1 16 5) μ1).bind fun q2 =>
((f5_takeNumber (100 : Int32) q2.2).bind fun q3 =>
((f5_takeSign (59 : Int32) q3.2).bind fun μ4 =>
(if (μ4 126 2) = 0 then
((f4_addThing q2.1 q3.1 μ4).bind fun μ5 =>
(some μ5))
else
(some μ4))))))
set_option maxHeartbeats 4000000 in
set_option maxRecDepth 100000 in
theorem l_f5_readThing (G : xG) (d : Nat) (hd : 3 ≤ d) (μ : xMu) : Mx G m5_readThing d [.ref 126] μ x_wv (f5_readThing μ) := by
  refine mx_enter ok5_readThing [some (.ref 126), none, none] rfl (Nat.le_of_ble_eq_true rfl) ?_
  unfold f5_readThing
  refine wx_blk (pc' := 2) (L' := [some (.ref 126), none, none]) (st' := [.ref 126, .ref 126]) [.aload_n 0, .aload_n 0] (by decide +kernel) rfl rfl ?_
  refine wx_getr is_126 ff_5_15 rfl rf_126_1 (by decide +kernel) ?_
  refine wx_geti is_16 ff_5_102 rfl (by decide +kernel) ?_
  refine wx_blk (pc' := 10) (L' := [some (.ref 126), none, none]) (st' := [.int (8 : Int32), .int (μ 16 6), .ref 126]) [.bipush 8] (by decide +kernel) rfl rfl ?_
  refine wx_callV (d1 := 2) (As := [.int (μ 16 6), .int (8 : Int32)]) (rest := []) (by omega) is_126 (by decide) rfl cv_5_78 rfl (Nat.le_of_ble_eq_true rfl) (l_f5_takeFirstWord G 2 (by omega) (μ 16 6) (8 : Int32) μ) rfl (by decide +kernel) (fun μ1 => ?_)
  refine wx_blk (pc' := 15) (L' := [some (.ref 126), none, none]) (st' := [.ref 126, .ref 126]) [.aload_n 0, .aload_n 0] (by decide +kernel) rfl rfl ?_
  refine wx_getr is_126 ff_5_15 rfl rf_126_1 (by decide +kernel) ?_
  refine wx_geti is_16 ff_5_75 rfl (by decide +kernel) ?_
  refine wx_callV (d1 := 2) (As := [.int (μ1 16 5)]) (rest := []) (by omega) is_126 (by decide) rfl cv_5_91 rfl (Nat.le_of_ble_eq_true rfl) (l_f5_takeNumber G 2 (by omega) (μ1 16 5) μ1) rfl (by decide +kernel) (fun q2 => ?_)
  refine wx_blk (pc' := 28) (L' := [some (.ref 126), some (.int q2.1), none]) (st' := [.int (100 : Int32), .ref 126]) [.istore_n 1, .aload_n 0, .bipush 100] (by decide +kernel) rfl rfl ?_
  refine wx_callV (d1 := 2) (As := [.int (100 : Int32)]) (rest := []) (by omega) is_126 (by decide) rfl cv_5_91 rfl (Nat.le_of_ble_eq_true rfl) (l_f5_takeNumber G 2 (by omega) (100 : Int32) q2.2) rfl (by decide +kernel) (fun q3 => ?_)
  refine wx_blk (pc' := 35) (L' := [some (.ref 126), some (.int q2.1), some (.int q3.1)]) (st' := [.int (59 : Int32), .ref 126]) [.istore_n 2, .aload_n 0, .bipush 59] (by decide +kernel) rfl rfl ?_
  refine wx_callV (d1 := 2) (As := [.int (59 : Int32)]) (rest := []) (by omega) is_126 (by decide) rfl cv_5_95 rfl (Nat.le_of_ble_eq_true rfl) (l_f5_takeSign G 2 (by omega) (59 : Int32) q3.2) rfl (by decide +kernel) (fun μ4 => ?_)
  refine wx_blk (pc' := 39) (L' := [some (.ref 126), some (.int q2.1), some (.int q3.1)]) (st' := [.ref 126]) [.aload_n 0] (by decide +kernel) rfl rfl ?_
  refine wx_geti is_126 ff_5_23 rfl (by decide +kernel) ?_
  refine wx_if_ne 54 (off := 12) (by decide +kernel) (by decide) ?_ ?_
  · exact wx_vret rfl rfl (by decide +kernel)
  · refine wx_blk (pc' := 46) (L' := [some (.ref 126), some (.int q2.1), some (.int q3.1)]) (st' := [.ref 126]) [.aload_n 0] (by decide +kernel) rfl rfl ?_
    refine wx_getr is_126 ff_5_15 rfl rf_126_1 (by decide +kernel) ?_
    refine wx_blk (pc' := 51) (L' := [some (.ref 126), some (.int q2.1), some (.int q3.1)]) (st' := [.int q3.1, .int q2.1, .ref 16]) [.iload_n 1, .iload_n 2] (by decide +kernel) rfl rfl ?_
    refine wx_callV (d1 := 0) (As := [.int q2.1, .int q3.1]) (rest := []) (by omega) is_16 (by decide) rfl cv_5_105 rfl (Nat.le_of_ble_eq_true rfl) (l_f4_addThing G 0 (by omega) q2.1 q3.1 μ4) rfl (by decide +kernel) (fun μ5 => ?_)
    exact wx_vret rfl rfl (by decide +kernel)
/-! WakingLayers$Reader.takeWord(Ljava/lang/String;)I -/
def f5_takeWord_j19 (s0 : Int32) (μ : xMu) : Option (Int32 × xMu) :=
  (if 0 ≤ s0 then
((f10_nextToken μ).bind fun μ2 =>
(some (s0, μ2)))
else
((f5_refuse (1 : Int32) μ).bind fun μ3 =>
(some ((0 : Int32), μ3))))
set_option maxHeartbeats 4000000 in
set_option maxRecDepth 100000 in
theorem l_f5_takeWord_j19 (G : xG) (d : Nat) (hd : 6 ≤ d) (s0 : Int32) (μ : xMu) : Wx G m5_takeWord d 19 [some (.ref 126), none, none] [.int s0] μ x_wim (f5_takeWord_j19 s0 μ) := by
  unfold f5_takeWord_j19
  refine wx_blk (pc' := 21) (L' := [some (.ref 126), none, some (.int s0)]) (st' := [.int s0]) [.istore_n 2, .iload_n 2] (by decide +kernel) rfl rfl ?_
  refine wx_if_ge 31 (off := 10) (by decide +kernel) (by decide) ?_ ?_
  · refine wx_blk (pc' := 32) (L' := [some (.ref 126), none, some (.int s0)]) (st' := [.ref 126]) [.aload_n 0] (by decide +kernel) rfl rfl ?_
    refine wx_getr is_126 ff_5_9 rfl rf_126_0 (by decide +kernel) ?_
    refine wx_callV (d1 := 1) (As := []) (rest := []) (by omega) is_14 (by decide) rfl cv_5_88 rfl (Nat.le_of_ble_eq_true rfl) (l_f10_nextToken G 1 (by omega) μ) rfl (by decide +kernel) (fun μ2 => ?_)
    refine wx_blk (pc' := 39) (L' := [some (.ref 126), none, some (.int s0)]) (st' := [.int s0]) [.iload_n 2] (by decide +kernel) rfl rfl ?_
    exact wx_iret rfl rfl (by decide +kernel)
  · refine wx_blk (pc' := 26) (L' := [some (.ref 126), none, some (.int s0)]) (st' := [.int (1 : Int32), .ref 126]) [.aload_n 0, .iconst 1] (by decide +kernel) rfl rfl ?_
    refine wx_callV (d1 := 1) (As := [.int (1 : Int32)]) (rest := []) (by omega) is_126 (by decide) rfl cv_5_71 rfl (Nat.le_of_ble_eq_true rfl) (l_f5_refuse G 1 (by omega) (1 : Int32) μ) rfl (by decide +kernel) (fun μ3 => ?_)
    refine wx_blk (pc' := 30) (L' := [some (.ref 126), none, some (.int s0)]) (st' := [.int (0 : Int32)]) [.iconst 0] (by decide +kernel) rfl rfl ?_
    exact wx_iret rfl rfl (by decide +kernel)
def f5_takeWord (v1 : Nat) (μ : xMu) : Option (Int32 × xMu) :=
  (if (μ 126 2) = 0 then
((f10_nameAmong μ v1).bind fun x1 =>
(f5_takeWord_j19 x1 μ))
else
(f5_takeWord_j19 (-1 : Int32) μ))
set_option maxHeartbeats 4000000 in
set_option maxRecDepth 100000 in
theorem l_f5_takeWord (G : xG) (d : Nat) (hd : 6 ≤ d) (v1 : Nat) (μ : xMu) : Mx G m5_takeWord d [.ref 126, .ref v1] μ x_wim (f5_takeWord v1 μ) := by
  refine mx_enter ok5_takeWord [some (.ref 126), some (.ref v1), none] rfl (Nat.le_of_ble_eq_true rfl) ?_
  unfold f5_takeWord
  refine wx_blk (pc' := 1) (L' := [some (.ref 126), some (.ref v1), none]) (st' := [.ref 126]) [.aload_n 0] (by decide +kernel) rfl rfl ?_
  refine wx_geti is_126 ff_5_23 rfl (by decide +kernel) ?_
  refine wx_if_eq 11 (off := 7) (by decide +kernel) (by decide) ?_ ?_
  · refine wx_blk (pc' := 12) (L' := [some (.ref 126), some (.ref v1), none]) (st' := [.ref 126]) [.aload_n 0] (by decide +kernel) rfl rfl ?_
    refine wx_getr is_126 ff_5_9 rfl rf_126_0 (by decide +kernel) ?_
    refine wx_blk (pc' := 16) (L' := [some (.ref 126), some (.ref v1), none]) (st' := [.ref v1, .ref 14]) [.aload_n 1] (by decide +kernel) rfl rfl ?_
    refine wx_callV (d1 := 5) (As := [.ref v1]) (rest := []) (by omega) is_14 (by decide) rfl cv_5_55 rfl (Nat.le_of_ble_eq_true rfl) (l_f10_nameAmong G 5 (by omega) μ v1) rfl (by decide +kernel) (fun x1 => ?_)
    refine wx_weak (L' := [some (.ref 126), none, none]) ⟨rfl, trivial⟩ ?_
    refine l_f5_takeWord_j19 G d hd x1 μ
  · refine wx_blk (pc' := 8) (L' := [some (.ref 126), some (.ref v1), none]) (st' := [.int (-1 : Int32)]) [.iconst (-1)] (by decide +kernel) rfl rfl ?_
    refine wx_goto 19 (off := 11) (by decide +kernel) (by decide) ?_
    refine wx_weak (L' := [some (.ref 126), none, none]) ⟨rfl, trivial⟩ ?_
    refine l_f5_takeWord_j19 G d hd (-1 : Int32) μ
/-! WakingLayers$Layer.begin(II)V -/
def f3_begin (v0 : Nat) (v1 : Int32) (v2 : Int32) (μ : xMu) : Option xMu :=
  (x_chk v0 3 (x_put μ v0 0 v1 fun μ2 =>
(x_put μ2 v0 1 v2 fun μ3 =>
(x_put μ3 v0 2 (0 : Int32) fun μ4 =>
(x_put μ4 v0 3 (0 : Int32) fun μ5 =>
(x_put μ5 v0 4 (0 : Int32) fun μ6 =>
(some μ6)))))))
set_option maxHeartbeats 4000000 in
set_option maxRecDepth 100000 in
theorem l_f3_begin (G : xG) (d : Nat) (hd : 0 ≤ d) (v0 : Nat) (v1 : Int32) (v2 : Int32) (μ : xMu) : Mx G m3_begin d [.ref v0, .int v1, .int v2] μ x_wv (f3_begin v0 v1 v2 μ) := by
  refine mx_enter ok3_begin [some (.ref v0), some (.int v1), some (.int v2)] rfl (Nat.le_of_ble_eq_true rfl) ?_
  unfold f3_begin
  refine wx_blk (pc' := 2) (L' := [some (.ref v0), some (.int v1), some (.int v2)]) (st' := [.int v1, .ref v0]) [.aload_n 0, .iload_n 1] (by decide +kernel) rfl rfl ?_
  refine wx_chk (fun hx1 => ?_)
  refine wx_put hx1 ff_3_7 fp_3_0 ⟨rfl, rfl⟩ (by decide +kernel) (fun μ2 => ?_)
  refine wx_blk (pc' := 7) (L' := [some (.ref v0), some (.int v1), some (.int v2)]) (st' := [.int v2, .ref v0]) [.aload_n 0, .iload_n 2] (by decide +kernel) rfl rfl ?_
  refine wx_put hx1 ff_3_13 fp_3_1 ⟨rfl, rfl⟩ (by decide +kernel) (fun μ3 => ?_)
  refine wx_blk (pc' := 12) (L' := [some (.ref v0), some (.int v1), some (.int v2)]) (st' := [.int (0 : Int32), .ref v0]) [.aload_n 0, .iconst 0] (by decide +kernel) rfl rfl ?_
  refine wx_put hx1 ff_3_16 fp_3_2 ⟨rfl, rfl⟩ (by decide +kernel) (fun μ4 => ?_)
  refine wx_blk (pc' := 17) (L' := [some (.ref v0), some (.int v1), some (.int v2)]) (st' := [.int (0 : Int32), .ref v0]) [.aload_n 0, .iconst 0] (by decide +kernel) rfl rfl ?_
  refine wx_put hx1 ff_3_19 fp_3_3 ⟨rfl, rfl⟩ (by decide +kernel) (fun μ5 => ?_)
  refine wx_blk (pc' := 22) (L' := [some (.ref v0), some (.int v1), some (.int v2)]) (st' := [.int (0 : Int32), .ref v0]) [.aload_n 0, .iconst 0] (by decide +kernel) rfl rfl ?_
  refine wx_put hx1 ff_3_22 fp_3_4 ⟨by decide, by decide⟩ (by decide +kernel) (fun μ6 => ?_)
  exact wx_vret rfl rfl (by decide +kernel)
/-! WakingLayers$Layer.beginTest(ICI)V -/
def f3_beginTest (v0 : Nat) (v1 : Int32) (v2 : Int32) (v3 : Int32) (μ : xMu) : Option xMu :=
  (x_chk v0 3 (x_put μ v0 4 (1 : Int32) fun μ2 =>
(x_put μ2 v0 5 v1 fun μ3 =>
(x_tst (x_cok v2) (x_put μ3 v0 6 v2 fun μ5 =>
(x_put μ5 v0 7 v3 fun μ6 =>
(some μ6)))))))
set_option maxHeartbeats 4000000 in
set_option maxRecDepth 100000 in
theorem l_f3_beginTest (G : xG) (d : Nat) (hd : 0 ≤ d) (v0 : Nat) (v1 : Int32) (v2 : Int32) (v3 : Int32) (μ : xMu) : Mx G m3_beginTest d [.ref v0, .int v1, .int v2, .int v3] μ x_wv (f3_beginTest v0 v1 v2 v3 μ) := by
  refine mx_enter ok3_beginTest [some (.ref v0), some (.int v1), some (.int v2), some (.int v3)] rfl (Nat.le_of_ble_eq_true rfl) ?_
  unfold f3_beginTest
  refine wx_blk (pc' := 2) (L' := [some (.ref v0), some (.int v1), some (.int v2), some (.int v3)]) (st' := [.int (1 : Int32), .ref v0]) [.aload_n 0, .iconst 1] (by decide +kernel) rfl rfl ?_
  refine wx_chk (fun hx1 => ?_)
  refine wx_put hx1 ff_3_22 fp_3_4 ⟨by decide, by decide⟩ (by decide +kernel) (fun μ2 => ?_)
  refine wx_blk (pc' := 7) (L' := [some (.ref v0), some (.int v1), some (.int v2), some (.int v3)]) (st' := [.int v1, .ref v0]) [.aload_n 0, .iload_n 1] (by decide +kernel) rfl rfl ?_
  refine wx_put hx1 ff_3_26 fp_3_5 ⟨rfl, rfl⟩ (by decide +kernel) (fun μ3 => ?_)
  refine wx_blk (pc' := 12) (L' := [some (.ref v0), some (.int v1), some (.int v2), some (.int v3)]) (st' := [.int v2, .ref v0]) [.aload_n 0, .iload_n 2] (by decide +kernel) rfl rfl ?_
  refine wx_tst (fun hx4 => ?_)
  refine wx_put hx1 ff_3_29 fp_3_6 (x_cn hx4) (by decide +kernel) (fun μ5 => ?_)
  refine wx_blk (pc' := 17) (L' := [some (.ref v0), some (.int v1), some (.int v2), some (.int v3)]) (st' := [.int v3, .ref v0]) [.aload_n 0, .iload_n 3] (by decide +kernel) rfl rfl ?_
  refine wx_put hx1 ff_3_33 fp_3_7 ⟨rfl, rfl⟩ (by decide +kernel) (fun μ6 => ?_)
  exact wx_vret rfl rfl (by decide +kernel)
/-! WakingLayers$Reader.readTest(LWakingLayers$Layer;)V -/
def f5_readTest_j42 (v1 : Nat) (v2 : Int32) (v3 : Int32) (μ : xMu) : Option xMu :=
  ((f5_takeSign v3 μ).bind fun μ4 =>
((f5_takeNumber (10 : Int32) μ4).bind fun q5 =>
(x_chk v1 3 ((f3_beginTest v1 v2 v3 q5.1 q5.2).bind fun μ7 =>
(some μ7)))))
set_option maxHeartbeats 4000000 in
set_option maxRecDepth 100000 in
theorem l_f5_readTest_j42 (G : xG) (d : Nat) (hd : 3 ≤ d) (v1 : Nat) (v2 : Int32) (v3 : Int32) (μ : xMu) : Wx G m5_readTest d 42 [some (.ref 126), some (.ref v1), some (.int v2), some (.int v3)] [] μ x_wv (f5_readTest_j42 v1 v2 v3 μ) := by
  unfold f5_readTest_j42
  refine wx_blk (pc' := 44) (L' := [some (.ref 126), some (.ref v1), some (.int v2), some (.int v3)]) (st' := [.int v3, .ref 126]) [.aload_n 0, .iload_n 3] (by decide +kernel) rfl rfl ?_
  refine wx_callV (d1 := 2) (As := [.int v3]) (rest := []) (by omega) is_126 (by decide) rfl cv_5_95 rfl (Nat.le_of_ble_eq_true rfl) (l_f5_takeSign G 2 (by omega) v3 μ) rfl (by decide +kernel) (fun μ4 => ?_)
  refine wx_blk (pc' := 53) (L' := [some (.ref 126), some (.ref v1), some (.int v2), some (.int v3)]) (st' := [.int (10 : Int32), .ref 126, .int v3, .int v2, .ref v1]) [.aload_n 1, .iload_n 2, .iload_n 3, .aload_n 0, .bipush 10] (by decide +kernel) rfl rfl ?_
  refine wx_callV (d1 := 2) (As := [.int (10 : Int32)]) (rest := [.int v3, .int v2, .ref v1]) (by omega) is_126 (by decide) rfl cv_5_91 rfl (Nat.le_of_ble_eq_true rfl) (l_f5_takeNumber G 2 (by omega) (10 : Int32) μ4) rfl (by decide +kernel) (fun q5 => ?_)
  refine wx_chk (fun hx6 => ?_)
  refine wx_callV (d1 := 0) (As := [.int v2, .int v3, .int q5.1]) (rest := []) (by omega) hx6 (by decide) rfl cv_5_141 rfl (Nat.le_of_ble_eq_true rfl) (l_f3_beginTest G 0 (by omega) v1 v2 v3 q5.1 q5.2) rfl (by decide +kernel) (fun μ7 => ?_)
  exact wx_vret rfl rfl (by decide +kernel)
def f5_readTest (v1 : Nat) (μ : xMu) : Option xMu :=
  ((f5_takeNumber (4 : Int32) μ).bind fun q1 =>
((f10_atSign q1.2 (60 : Int32)).bind fun x2 =>
(if x2 = 0 then
((f10_atSign q1.2 (62 : Int32)).bind fun x3 =>
(if x3 = 0 then
(f5_readTest_j42 v1 q1.1 (61 : Int32) q1.2)
else
(f5_readTest_j42 v1 q1.1 (62 : Int32) q1.2)))
else
(f5_readTest_j42 v1 q1.1 (60 : Int32) q1.2))))
set_option maxHeartbeats 4000000 in
set_option maxRecDepth 100000 in
theorem l_f5_readTest (G : xG) (d : Nat) (hd : 3 ≤ d) (v1 : Nat) (μ : xMu) : Mx G m5_readTest d [.ref 126, .ref v1] μ x_wv (f5_readTest v1 μ) := by
  refine mx_enter ok5_readTest [some (.ref 126), some (.ref v1), none, none] rfl (Nat.le_of_ble_eq_true rfl) ?_
  unfold f5_readTest
  refine wx_blk (pc' := 2) (L' := [some (.ref 126), some (.ref v1), none, none]) (st' := [.int (4 : Int32), .ref 126]) [.aload_n 0, .iconst 4] (by decide +kernel) rfl rfl ?_
  refine wx_callV (d1 := 2) (As := [.int (4 : Int32)]) (rest := []) (by omega) is_126 (by decide) rfl cv_5_91 rfl (Nat.le_of_ble_eq_true rfl) (l_f5_takeNumber G 2 (by omega) (4 : Int32) μ) rfl (by decide +kernel) (fun q1 => ?_)
  refine wx_blk (pc' := 10) (L' := [some (.ref 126), some (.ref v1), some (.int q1.1), some (.int (61 : Int32))]) (st' := [.ref 126]) [.istore_n 2, .bipush 61, .istore_n 3, .aload_n 0] (by decide +kernel) rfl rfl ?_
  refine wx_getr is_126 ff_5_9 rfl rf_126_0 (by decide +kernel) ?_
  refine wx_blk (pc' := 15) (L' := [some (.ref 126), some (.ref v1), some (.int q1.1), some (.int (61 : Int32))]) (st' := [.int (60 : Int32), .ref 14]) [.bipush 60] (by decide +kernel) rfl rfl ?_
  refine wx_callV (d1 := 0) (As := [.int (60 : Int32)]) (rest := []) (by omega) is_14 (by decide) rfl cv_5_137 rfl (Nat.le_of_ble_eq_true rfl) (l_f10_atSign G 0 (by omega) q1.2 (60 : Int32)) rfl (by decide +kernel) (fun x2 => ?_)
  refine wx_if_eq 27 (off := 9) (by decide +kernel) (by decide) ?_ ?_
  · refine wx_blk (pc' := 28) (L' := [some (.ref 126), some (.ref v1), some (.int q1.1), some (.int (61 : Int32))]) (st' := [.ref 126]) [.aload_n 0] (by decide +kernel) rfl rfl ?_
    refine wx_getr is_126 ff_5_9 rfl rf_126_0 (by decide +kernel) ?_
    refine wx_blk (pc' := 33) (L' := [some (.ref 126), some (.ref v1), some (.int q1.1), some (.int (61 : Int32))]) (st' := [.int (62 : Int32), .ref 14]) [.bipush 62] (by decide +kernel) rfl rfl ?_
    refine wx_callV (d1 := 0) (As := [.int (62 : Int32)]) (rest := []) (by omega) is_14 (by decide) rfl cv_5_137 rfl (Nat.le_of_ble_eq_true rfl) (l_f10_atSign G 0 (by omega) q1.2 (62 : Int32)) rfl (by decide +kernel) (fun x3 => ?_)
    refine wx_if_eq 42 (off := 6) (by decide +kernel) (by decide) ?_ ?_
    · refine l_f5_readTest_j42 G d hd v1 q1.1 (61 : Int32) q1.2
    · refine wx_blk (pc' := 42) (L' := [some (.ref 126), some (.ref v1), some (.int q1.1), some (.int (62 : Int32))]) (st' := []) [.bipush 62, .istore_n 3] (by decide +kernel) rfl rfl ?_
      refine l_f5_readTest_j42 G d hd v1 q1.1 (62 : Int32) q1.2
  · refine wx_blk (pc' := 24) (L' := [some (.ref 126), some (.ref v1), some (.int q1.1), some (.int (60 : Int32))]) (st' := []) [.bipush 60, .istore_n 3] (by decide +kernel) rfl rfl ?_
    refine wx_goto 42 (off := 18) (by decide +kernel) (by decide) ?_
    refine l_f5_readTest_j42 G d hd v1 q1.1 (60 : Int32) q1.2
/-! WakingLayers$Reader.readNeedsAndBars(LWakingLayers$Layer;)V -/
def f5_readNeedsAndBars_j101 (k2 : Nat → Int32 → xMu → Option xMu) (v1 : Nat) (v2 : Int32) (μ : xMu) : Option xMu :=
  (k2 v1 (v2 + (1 : Int32)) μ)
set_option maxHeartbeats 4000000 in
set_option maxRecDepth 100000 in
theorem l_f5_readNeedsAndBars_j101 (G : xG) (d : Nat) (hd : 6 ≤ d) (k2 : Nat → Int32 → xMu → Option xMu) (h2 : ∀ (v1 : Nat) (v2 : Int32) (μ1 : xMu), Wx G m5_readNeedsAndBars d 2 [some (.ref 126), some (.ref v1), some (.int v2)] [] μ1 x_wv (k2 v1 v2 μ1)) (v1 : Nat) (v2 : Int32) (μ : xMu) : Wx G m5_readNeedsAndBars d 101 [some (.ref 126), some (.ref v1), some (.int v2)] [] μ x_wv (f5_readNeedsAndBars_j101 k2 v1 v2 μ) := by
  unfold f5_readNeedsAndBars_j101
  refine wx_blk (pc' := 104) (L' := [some (.ref 126), some (.ref v1), some (.int (v2 + (1 : Int32)))]) (st' := []) [.iinc 2 1] (by decide +kernel) rfl rfl ?_
  refine wx_goto 2 (off := -102) (by decide +kernel) (by decide) ?_
  exact h2 v1 (v2 + (1 : Int32)) μ
def f5_readNeedsAndBars_l2 (k107 : xMu → Option xMu) : Nat → Nat → Int32 → xMu → Option xMu
  | 0, _, _, _ => none
  | n + 1, v1, v2, μ =>
  (if (600 : Int32) ≤ v2 then
(k107 μ)
else
(if (μ 126 2) = 0 then
((f10_atName μ 913).bind fun x1 =>
(if x1 = 0 then
((f10_atName μ 914).bind fun x2 =>
(if x2 = 0 then
(k107 μ)
else
((f10_nextToken μ).bind fun μ3 =>
(x_chk v1 3 ((f5_takeNumber (μ3 16 7) μ3).bind fun q5 =>
(x_put q5.2 v1 3 ((μ3 v1 3) ||| ((1 : Int32) <<< (q5.1 &&& 31))) fun μ6 =>
(f5_readNeedsAndBars_j101 (f5_readNeedsAndBars_l2 k107 n) v1 v2 μ6)))))))
else
((f10_nextToken μ).bind fun μ7 =>
(x_chk v1 3 ((f5_takeNumber (μ7 16 7) μ7).bind fun q9 =>
(x_put q9.2 v1 2 ((μ7 v1 2) ||| ((1 : Int32) <<< (q9.1 &&& 31))) fun μ10 =>
(f5_readNeedsAndBars_j101 (f5_readNeedsAndBars_l2 k107 n) v1 v2 μ10)))))))
else
(k107 μ)))
set_option maxHeartbeats 4000000 in
set_option maxRecDepth 100000 in
theorem l_f5_readNeedsAndBars_l2 (G : xG) (d : Nat) (hd : 6 ≤ d) (k107 : xMu → Option xMu) (h107 : ∀ (μ1 : xMu), Wx G m5_readNeedsAndBars d 107 [none, none, none] [] μ1 x_wv (k107 μ1)) : ∀ (n : Nat) (v1 : Nat) (v2 : Int32) (μ : xMu), Wx G m5_readNeedsAndBars d 2 [some (.ref 126), some (.ref v1), some (.int v2)] [] μ x_wv (f5_readNeedsAndBars_l2 k107 n v1 v2 μ) := by
  intro n
  induction n with
  | zero => intro v1 v2 μ; exact wx_none
  | succ n h2 =>
    intro v1 v2 μ
    unfold f5_readNeedsAndBars_l2
    refine wx_blk (pc' := 6) (L' := [some (.ref 126), some (.ref v1), some (.int v2)]) (st' := [.int (600 : Int32), .int v2]) [.iload_n 2, .sipush 600] (by decide +kernel) rfl rfl ?_
    refine wx_ic_ge 107 (off := 101) (by decide +kernel) (by decide) ?_ ?_
    · refine wx_weak (L' := [none, none, none]) trivial ?_
      exact h107 μ
    · refine wx_blk (pc' := 10) (L' := [some (.ref 126), some (.ref v1), some (.int v2)]) (st' := [.ref 126]) [.aload_n 0] (by decide +kernel) rfl rfl ?_
      refine wx_geti is_126 ff_5_23 rfl (by decide +kernel) ?_
      refine wx_if_ne 107 (off := 94) (by decide +kernel) (by decide) ?_ ?_
      · refine wx_weak (L' := [none, none, none]) trivial ?_
        exact h107 μ
      · refine wx_blk (pc' := 17) (L' := [some (.ref 126), some (.ref v1), some (.int v2)]) (st' := [.ref 126]) [.aload_n 0] (by decide +kernel) rfl rfl ?_
        refine wx_getr is_126 ff_5_9 rfl rf_126_0 (by decide +kernel) ?_
        refine wx_ldcs 3 (by decide) rfl (by decide +kernel) ?_
        refine wx_callV (d1 := 5) (As := [.ref 913]) (rest := []) (by omega) is_14 (by decide) rfl cv_5_84 rfl (Nat.le_of_ble_eq_true rfl) (l_f10_atName G 5 (by omega) μ 913) rfl (by decide +kernel) (fun x1 => ?_)
        refine wx_if_eq 60 (off := 35) (by decide +kernel) (by decide) ?_ ?_
        · refine wx_blk (pc' := 61) (L' := [some (.ref 126), some (.ref v1), some (.int v2)]) (st' := [.ref 126]) [.aload_n 0] (by decide +kernel) rfl rfl ?_
          refine wx_getr is_126 ff_5_9 rfl rf_126_0 (by decide +kernel) ?_
          refine wx_ldcs 4 (by decide) rfl (by decide +kernel) ?_
          refine wx_callV (d1 := 5) (As := [.ref 914]) (rest := []) (by omega) is_14 (by decide) rfl cv_5_84 rfl (Nat.le_of_ble_eq_true rfl) (l_f10_atName G 5 (by omega) μ 914) rfl (by decide +kernel) (fun x2 => ?_)
          refine wx_if_eq 107 (off := 38) (by decide +kernel) (by decide) ?_ ?_
          · refine wx_weak (L' := [none, none, none]) trivial ?_
            exact h107 μ
          · refine wx_blk (pc' := 73) (L' := [some (.ref 126), some (.ref v1), some (.int v2)]) (st' := [.ref 126]) [.aload_n 0] (by decide +kernel) rfl rfl ?_
            refine wx_getr is_126 ff_5_9 rfl rf_126_0 (by decide +kernel) ?_
            refine wx_callV (d1 := 1) (As := []) (rest := []) (by omega) is_14 (by decide) rfl cv_5_88 rfl (Nat.le_of_ble_eq_true rfl) (l_f10_nextToken G 1 (by omega) μ) rfl (by decide +kernel) (fun μ3 => ?_)
            refine wx_blk (pc' := 81) (L' := [some (.ref 126), some (.ref v1), some (.int v2)]) (st' := [.ref v1, .ref v1]) [.aload_n 1, .dup] (by decide +kernel) rfl rfl ?_
            refine wx_chk (fun hx4 => ?_)
            refine wx_geti hx4 ff_5_152 rfl (by decide +kernel) ?_
            refine wx_blk (pc' := 87) (L' := [some (.ref 126), some (.ref v1), some (.int v2)]) (st' := [.ref 126, .ref 126, .int (1 : Int32), .int (μ3 v1 3), .ref v1]) [.iconst 1, .aload_n 0, .aload_n 0] (by decide +kernel) rfl rfl ?_
            refine wx_getr is_126 ff_5_15 rfl rf_126_1 (by decide +kernel) ?_
            refine wx_geti is_16 ff_5_108 rfl (by decide +kernel) ?_
            refine wx_callV (d1 := 2) (As := [.int (μ3 16 7)]) (rest := [.int (1 : Int32), .int (μ3 v1 3), .ref v1]) (by omega) is_126 (by decide) rfl cv_5_91 rfl (Nat.le_of_ble_eq_true rfl) (l_f5_takeNumber G 2 (by omega) (μ3 16 7) μ3) rfl (by decide +kernel) (fun q5 => ?_)
            refine wx_blk (pc' := 98) (L' := [some (.ref 126), some (.ref v1), some (.int v2)]) (st' := [.int ((μ3 v1 3) ||| ((1 : Int32) <<< (q5.1 &&& 31))), .ref v1]) [.ishl, .ior] (by decide +kernel) rfl rfl ?_
            refine wx_put hx4 ff_5_152 fp_3_3 ⟨rfl, rfl⟩ (by decide +kernel) (fun μ6 => ?_)
            refine l_f5_readNeedsAndBars_j101 G d hd _ h2 v1 v2 μ6
        · refine wx_blk (pc' := 29) (L' := [some (.ref 126), some (.ref v1), some (.int v2)]) (st' := [.ref 126]) [.aload_n 0] (by decide +kernel) rfl rfl ?_
          refine wx_getr is_126 ff_5_9 rfl rf_126_0 (by decide +kernel) ?_
          refine wx_callV (d1 := 1) (As := []) (rest := []) (by omega) is_14 (by decide) rfl cv_5_88 rfl (Nat.le_of_ble_eq_true rfl) (l_f10_nextToken G 1 (by omega) μ) rfl (by decide +kernel) (fun μ7 => ?_)
          refine wx_blk (pc' := 37) (L' := [some (.ref 126), some (.ref v1), some (.int v2)]) (st' := [.ref v1, .ref v1]) [.aload_n 1, .dup] (by decide +kernel) rfl rfl ?_
          refine wx_chk (fun hx8 => ?_)
          refine wx_geti hx8 ff_5_147 rfl (by decide +kernel) ?_
          refine wx_blk (pc' := 43) (L' := [some (.ref 126), some (.ref v1), some (.int v2)]) (st' := [.ref 126, .ref 126, .int (1 : Int32), .int (μ7 v1 2), .ref v1]) [.iconst 1, .aload_n 0, .aload_n 0] (by decide +kernel) rfl rfl ?_
          refine wx_getr is_126 ff_5_15 rfl rf_126_1 (by decide +kernel) ?_
          refine wx_geti is_16 ff_5_108 rfl (by decide +kernel) ?_
          refine wx_callV (d1 := 2) (As := [.int (μ7 16 7)]) (rest := [.int (1 : Int32), .int (μ7 v1 2), .ref v1]) (by omega) is_126 (by decide) rfl cv_5_91 rfl (Nat.le_of_ble_eq_true rfl) (l_f5_takeNumber G 2 (by omega) (μ7 16 7) μ7) rfl (by decide +kernel) (fun q9 => ?_)
          refine wx_blk (pc' := 54) (L' := [some (.ref 126), some (.ref v1), some (.int v2)]) (st' := [.int ((μ7 v1 2) ||| ((1 : Int32) <<< (q9.1 &&& 31))), .ref v1]) [.ishl, .ior] (by decide +kernel) rfl rfl ?_
          refine wx_put hx8 ff_5_147 fp_3_2 ⟨rfl, rfl⟩ (by decide +kernel) (fun μ10 => ?_)
          refine wx_goto 101 (off := 44) (by decide +kernel) (by decide) ?_
          refine l_f5_readNeedsAndBars_j101 G d hd _ h2 v1 v2 μ10
def f5_readNeedsAndBars (v1 : Nat) (μ : xMu) : Option xMu :=
  (f5_readNeedsAndBars_l2 (fun (μ11 : xMu) => (some μ11)) 1000 v1 (0 : Int32) μ)
set_option maxHeartbeats 4000000 in
set_option maxRecDepth 100000 in
theorem l_f5_readNeedsAndBars (G : xG) (d : Nat) (hd : 6 ≤ d) (v1 : Nat) (μ : xMu) : Mx G m5_readNeedsAndBars d [.ref 126, .ref v1] μ x_wv (f5_readNeedsAndBars v1 μ) := by
  refine mx_enter ok5_readNeedsAndBars [some (.ref 126), some (.ref v1), none] rfl (Nat.le_of_ble_eq_true rfl) ?_
  unfold f5_readNeedsAndBars
  refine wx_blk (pc' := 2) (L' := [some (.ref 126), some (.ref v1), some (.int (0 : Int32))]) (st' := []) [.iconst 0, .istore_n 2] (by decide +kernel) rfl rfl ?_
  refine l_f5_readNeedsAndBars_l2 G d hd _ ?_ 1000 v1 (0 : Int32) μ
  · intro μ11
    exact wx_vret rfl rfl (by decide +kernel)
/-! WakingLayers$Reader.readLayer()V -/
def f5_readLayer_j94 (μ : xMu) : Option xMu :=
  ((f5_takeSign (59 : Int32) μ).bind fun μ7 =>
(if (μ7 126 2) = 0 then
(x_put μ7 16 7 ((μ7 16 7) + (1 : Int32)) fun μ8 =>
(some μ8))
else
(some μ7)))
set_option maxHeartbeats 4000000 in
set_option maxRecDepth 100000 in
theorem l_f5_readLayer_j94 (G : xG) (d : Nat) (hd : 7 ≤ d) (μ : xMu) : Wx G m5_readLayer d 94 [some (.ref 126), none, none, none] [] μ x_wv (f5_readLayer_j94 μ) := by
  unfold f5_readLayer_j94
  refine wx_blk (pc' := 97) (L' := [some (.ref 126), none, none, none]) (st' := [.int (59 : Int32), .ref 126]) [.aload_n 0, .bipush 59] (by decide +kernel) rfl rfl ?_
  refine wx_callV (d1 := 2) (As := [.int (59 : Int32)]) (rest := []) (by omega) is_126 (by decide) rfl cv_5_95 rfl (Nat.le_of_ble_eq_true rfl) (l_f5_takeSign G 2 (by omega) (59 : Int32) μ) rfl (by decide +kernel) (fun μ7 => ?_)
  refine wx_blk (pc' := 101) (L' := [some (.ref 126), none, none, none]) (st' := [.ref 126]) [.aload_n 0] (by decide +kernel) rfl rfl ?_
  refine wx_geti is_126 ff_5_23 rfl (by decide +kernel) ?_
  refine wx_if_ne 120 (off := 16) (by decide +kernel) (by decide) ?_ ?_
  · exact wx_vret rfl rfl (by decide +kernel)
  · refine wx_blk (pc' := 108) (L' := [some (.ref 126), none, none, none]) (st' := [.ref 126]) [.aload_n 0] (by decide +kernel) rfl rfl ?_
    refine wx_getr is_126 ff_5_15 rfl rf_126_1 (by decide +kernel) ?_
    refine wx_blk (pc' := 112) (L' := [some (.ref 126), none, none, none]) (st' := [.ref 16, .ref 16]) [.dup] (by decide +kernel) rfl rfl ?_
    refine wx_geti is_16 ff_5_108 rfl (by decide +kernel) ?_
    refine wx_blk (pc' := 117) (L' := [some (.ref 126), none, none, none]) (st' := [.int ((μ7 16 7) + (1 : Int32)), .ref 16]) [.iconst 1, .iadd] (by decide +kernel) rfl rfl ?_
    refine wx_put is_16 ff_5_108 fp_4_7 ⟨rfl, rfl⟩ (by decide +kernel) (fun μ8 => ?_)
    exact wx_vret rfl rfl (by decide +kernel)
def f5_readLayer_j84 (v1 : Nat) (v2 : Int32) (μ : xMu) : Option xMu :=
  (if v2 = (2 : Int32) then
((f5_readNeedsAndBars v1 μ).bind fun μ9 =>
(f5_readLayer_j94 μ9))
else
(f5_readLayer_j94 μ))
set_option maxHeartbeats 4000000 in
set_option maxRecDepth 100000 in
theorem l_f5_readLayer_j84 (G : xG) (d : Nat) (hd : 7 ≤ d) (v1 : Nat) (v2 : Int32) (μ : xMu) : Wx G m5_readLayer d 84 [some (.ref 126), some (.ref v1), some (.int v2), none] [] μ x_wv (f5_readLayer_j84 v1 v2 μ) := by
  unfold f5_readLayer_j84
  refine wx_blk (pc' := 86) (L' := [some (.ref 126), some (.ref v1), some (.int v2), none]) (st' := [.int (2 : Int32), .int v2]) [.iload_n 2, .iconst 2] (by decide +kernel) rfl rfl ?_
  refine wx_ic_ne 94 (off := 8) (by decide +kernel) (by decide) ?_ ?_
  · refine wx_weak (L' := [some (.ref 126), none, none, none]) ⟨rfl, trivial⟩ ?_
    refine l_f5_readLayer_j94 G d hd μ
  · refine wx_blk (pc' := 91) (L' := [some (.ref 126), some (.ref v1), some (.int v2), none]) (st' := [.ref v1, .ref 126]) [.aload_n 0, .aload_n 1] (by decide +kernel) rfl rfl ?_
    refine wx_callV (d1 := 6) (As := [.ref v1]) (rest := []) (by omega) is_126 (by decide) rfl cv_5_132 rfl (Nat.le_of_ble_eq_true rfl) (l_f5_readNeedsAndBars G 6 (by omega) v1 μ) rfl (by decide +kernel) (fun μ9 => ?_)
    refine wx_weak (L' := [some (.ref 126), none, none, none]) ⟨rfl, trivial⟩ ?_
    refine l_f5_readLayer_j94 G d hd μ9
def f5_readLayer (μ : xMu) : Option xMu :=
  ((f5_takeFirstWord (μ 16 7) (8 : Int32) μ).bind fun μ1 =>
(if (μ1 126 2) = 0 then
(x_rld 20 8 (μ1 16 7) fun r2 =>
((f5_takeWord 912 μ1).bind fun q3 =>
((f5_takeNumber (10 : Int32) q3.2).bind fun q4 =>
(x_chk r2 3 ((f3_begin r2 q3.1 q4.1 q4.2).bind fun μ6 =>
(if q3.1 = (2 : Int32) then
(if (μ6 126 2) = 0 then
((f10_atNumber μ6).bind fun x10 =>
(if x10 = 0 then
(f5_readLayer_j84 r2 q3.1 μ6)
else
((f5_readTest r2 μ6).bind fun μ11 =>
(f5_readLayer_j84 r2 q3.1 μ11))))
else
(f5_readLayer_j84 r2 q3.1 μ6))
else
(f5_readLayer_j84 r2 q3.1 μ6)))))))
else
(some μ1)))
set_option maxHeartbeats 4000000 in
set_option maxRecDepth 100000 in
theorem l_f5_readLayer (G : xG) (d : Nat) (hd : 7 ≤ d) (μ : xMu) : Mx G m5_readLayer d [.ref 126] μ x_wv (f5_readLayer μ) := by
  refine mx_enter ok5_readLayer [some (.ref 126), none, none, none] rfl (Nat.le_of_ble_eq_true rfl) ?_
  unfold f5_readLayer
  refine wx_blk (pc' := 2) (L' := [some (.ref 126), none, none, none]) (st' := [.ref 126, .ref 126]) [.aload_n 0, .aload_n 0] (by decide +kernel) rfl rfl ?_
  refine wx_getr is_126 ff_5_15 rfl rf_126_1 (by decide +kernel) ?_
  refine wx_geti is_16 ff_5_108 rfl (by decide +kernel) ?_
  refine wx_blk (pc' := 10) (L' := [some (.ref 126), none, none, none]) (st' := [.int (8 : Int32), .int (μ 16 7), .ref 126]) [.bipush 8] (by decide +kernel) rfl rfl ?_
  refine wx_callV (d1 := 2) (As := [.int (μ 16 7), .int (8 : Int32)]) (rest := []) (by omega) is_126 (by decide) rfl cv_5_78 rfl (Nat.le_of_ble_eq_true rfl) (l_f5_takeFirstWord G 2 (by omega) (μ 16 7) (8 : Int32) μ) rfl (by decide +kernel) (fun μ1 => ?_)
  refine wx_blk (pc' := 14) (L' := [some (.ref 126), none, none, none]) (st' := [.ref 126]) [.aload_n 0] (by decide +kernel) rfl rfl ?_
  refine wx_geti is_126 ff_5_23 rfl (by decide +kernel) ?_
  refine wx_if_eq 21 (off := 4) (by decide +kernel) (by decide) ?_ ?_
  · refine wx_blk (pc' := 22) (L' := [some (.ref 126), none, none, none]) (st' := [.ref 126]) [.aload_n 0] (by decide +kernel) rfl rfl ?_
    refine wx_getr is_126 ff_5_15 rfl rf_126_1 (by decide +kernel) ?_
    refine wx_getr is_16 ff_5_111 rfl rf_16_3 (by decide +kernel) ?_
    refine wx_blk (pc' := 29) (L' := [some (.ref 126), none, none, none]) (st' := [.ref 126, .ref 20]) [.aload_n 0] (by decide +kernel) rfl rfl ?_
    refine wx_getr is_126 ff_5_15 rfl rf_126_1 (by decide +kernel) ?_
    refine wx_geti is_16 ff_5_108 rfl (by decide +kernel) ?_
    refine wx_rld is_20 (by decide) sz_20 (by decide +kernel) (fun r2 => ?_)
    refine wx_blk (pc' := 38) (L' := [some (.ref 126), some (.ref r2), none, none]) (st' := [.ref 126]) [.astore_n 1, .aload_n 0] (by decide +kernel) rfl rfl ?_
    refine wx_ldcs 2 (by decide) rfl (by decide +kernel) ?_
    refine wx_callV (d1 := 6) (As := [.ref 912]) (rest := []) (by omega) is_126 (by decide) rfl cv_5_117 rfl (Nat.le_of_ble_eq_true rfl) (l_f5_takeWord G 6 (by omega) 912 μ1) rfl (by decide +kernel) (fun q3 => ?_)
    refine wx_blk (pc' := 47) (L' := [some (.ref 126), some (.ref r2), some (.int q3.1), none]) (st' := [.int (10 : Int32), .ref 126]) [.istore_n 2, .aload_n 0, .bipush 10] (by decide +kernel) rfl rfl ?_
    refine wx_callV (d1 := 2) (As := [.int (10 : Int32)]) (rest := []) (by omega) is_126 (by decide) rfl cv_5_91 rfl (Nat.le_of_ble_eq_true rfl) (l_f5_takeNumber G 2 (by omega) (10 : Int32) q3.2) rfl (by decide +kernel) (fun q4 => ?_)
    refine wx_blk (pc' := 54) (L' := [some (.ref 126), some (.ref r2), some (.int q3.1), some (.int q4.1)]) (st' := [.int q4.1, .int q3.1, .ref r2]) [.istore_n 3, .aload_n 1, .iload_n 2, .iload_n 3] (by decide +kernel) rfl rfl ?_
    refine wx_chk (fun hx5 => ?_)
    refine wx_callV (d1 := 0) (As := [.int q3.1, .int q4.1]) (rest := []) (by omega) hx5 (by decide) rfl cv_5_120 rfl (Nat.le_of_ble_eq_true rfl) (l_f3_begin G 0 (by omega) r2 q3.1 q4.1 q4.2) rfl (by decide +kernel) (fun μ6 => ?_)
    refine wx_blk (pc' := 59) (L' := [some (.ref 126), some (.ref r2), some (.int q3.1), some (.int q4.1)]) (st' := [.int (2 : Int32), .int q3.1]) [.iload_n 2, .iconst 2] (by decide +kernel) rfl rfl ?_
    refine wx_ic_ne 84 (off := 25) (by decide +kernel) (by decide) ?_ ?_
    · refine wx_weak (L' := [some (.ref 126), some (.ref r2), some (.int q3.1), none]) ⟨rfl, ⟨rfl, ⟨rfl, trivial⟩⟩⟩ ?_
      refine l_f5_readLayer_j84 G d hd r2 q3.1 μ6
    · refine wx_blk (pc' := 63) (L' := [some (.ref 126), some (.ref r2), some (.int q3.1), some (.int q4.1)]) (st' := [.ref 126]) [.aload_n 0] (by decide +kernel) rfl rfl ?_
      refine wx_geti is_126 ff_5_23 rfl (by decide +kernel) ?_
      refine wx_if_ne 84 (off := 18) (by decide +kernel) (by decide) ?_ ?_
      · refine wx_weak (L' := [some (.ref 126), some (.ref r2), some (.int q3.1), none]) ⟨rfl, ⟨rfl, ⟨rfl, trivial⟩⟩⟩ ?_
        refine l_f5_readLayer_j84 G d hd r2 q3.1 μ6
      · refine wx_blk (pc' := 70) (L' := [some (.ref 126), some (.ref r2), some (.int q3.1), some (.int q4.1)]) (st' := [.ref 126]) [.aload_n 0] (by decide +kernel) rfl rfl ?_
        refine wx_getr is_126 ff_5_9 rfl rf_126_0 (by decide +kernel) ?_
        refine wx_callV (d1 := 0) (As := []) (rest := []) (by omega) is_14 (by decide) rfl cv_5_125 rfl (Nat.le_of_ble_eq_true rfl) (l_f10_atNumber G 0 (by omega) μ6) rfl (by decide +kernel) (fun x10 => ?_)
        refine wx_if_eq 84 (off := 8) (by decide +kernel) (by decide) ?_ ?_
        · refine wx_weak (L' := [some (.ref 126), some (.ref r2), some (.int q3.1), none]) ⟨rfl, ⟨rfl, ⟨rfl, trivial⟩⟩⟩ ?_
          refine l_f5_readLayer_j84 G d hd r2 q3.1 μ6
        · refine wx_blk (pc' := 81) (L' := [some (.ref 126), some (.ref r2), some (.int q3.1), some (.int q4.1)]) (st' := [.ref r2, .ref 126]) [.aload_n 0, .aload_n 1] (by decide +kernel) rfl rfl ?_
          refine wx_callV (d1 := 3) (As := [.ref r2]) (rest := []) (by omega) is_126 (by decide) rfl cv_5_128 rfl (Nat.le_of_ble_eq_true rfl) (l_f5_readTest G 3 (by omega) r2 μ6) rfl (by decide +kernel) (fun μ11 => ?_)
          refine wx_weak (L' := [some (.ref 126), some (.ref r2), some (.int q3.1), none]) ⟨rfl, ⟨rfl, ⟨rfl, trivial⟩⟩⟩ ?_
          refine l_f5_readLayer_j84 G d hd r2 q3.1 μ11
  · exact wx_vret rfl rfl (by decide +kernel)
/-! WakingLayers$Reader.takeOwner()I -/
def f5_takeOwner (μ : xMu) : Option (Int32 × xMu) :=
  ((f10_atName μ 915).bind fun x1 =>
(if x1 = 0 then
((f5_takeNumber (μ 16 7) μ).bind fun q3 =>
(some (q3.1, q3.2)))
else
((f10_nextToken μ).bind fun μ2 =>
(some ((-1 : Int32), μ2)))))
set_option maxHeartbeats 4000000 in
set_option maxRecDepth 100000 in
theorem l_f5_takeOwner (G : xG) (d : Nat) (hd : 6 ≤ d) (μ : xMu) : Mx G m5_takeOwner d [.ref 126] μ x_wim (f5_takeOwner μ) := by
  refine mx_enter ok5_takeOwner [some (.ref 126)] rfl (Nat.le_of_ble_eq_true rfl) ?_
  unfold f5_takeOwner
  refine wx_blk (pc' := 1) (L' := [some (.ref 126)]) (st' := [.ref 126]) [.aload_n 0] (by decide +kernel) rfl rfl ?_
  refine wx_getr is_126 ff_5_9 rfl rf_126_0 (by decide +kernel) ?_
  refine wx_ldcs 5 (by decide) rfl (by decide +kernel) ?_
  refine wx_callV (d1 := 5) (As := [.ref 915]) (rest := []) (by omega) is_14 (by decide) rfl cv_5_84 rfl (Nat.le_of_ble_eq_true rfl) (l_f10_atName G 5 (by omega) μ 915) rfl (by decide +kernel) (fun x1 => ?_)
  refine wx_if_ne 24 (off := 15) (by decide +kernel) (by decide) ?_ ?_
  · refine wx_blk (pc' := 25) (L' := [some (.ref 126)]) (st' := [.ref 126]) [.aload_n 0] (by decide +kernel) rfl rfl ?_
    refine wx_getr is_126 ff_5_9 rfl rf_126_0 (by decide +kernel) ?_
    refine wx_callV (d1 := 1) (As := []) (rest := []) (by omega) is_14 (by decide) rfl cv_5_88 rfl (Nat.le_of_ble_eq_true rfl) (l_f10_nextToken G 1 (by omega) μ) rfl (by decide +kernel) (fun μ2 => ?_)
    refine wx_blk (pc' := 32) (L' := [some (.ref 126)]) (st' := [.int (-1 : Int32)]) [.iconst (-1)] (by decide +kernel) rfl rfl ?_
    exact wx_iret rfl rfl (by decide +kernel)
  · refine wx_blk (pc' := 14) (L' := [some (.ref 126)]) (st' := [.ref 126, .ref 126]) [.aload_n 0, .aload_n 0] (by decide +kernel) rfl rfl ?_
    refine wx_getr is_126 ff_5_15 rfl rf_126_1 (by decide +kernel) ?_
    refine wx_geti is_16 ff_5_108 rfl (by decide +kernel) ?_
    refine wx_callV (d1 := 2) (As := [.int (μ 16 7)]) (rest := []) (by omega) is_126 (by decide) rfl cv_5_91 rfl (Nat.le_of_ble_eq_true rfl) (l_f5_takeNumber G 2 (by omega) (μ 16 7) μ) rfl (by decide +kernel) (fun q3 => ?_)
    exact wx_iret rfl rfl (by decide +kernel)
/-! WakingLayers$Body.begin(IIII)V -/
def f1_begin (v0 : Nat) (v1 : Int32) (v2 : Int32) (v3 : Int32) (v4 : Int32) (μ : xMu) : Option xMu :=
  (x_chk v0 1 (x_put μ v0 4 v1 fun μ2 =>
(x_put μ2 v0 6 v2 fun μ3 =>
(x_put μ3 v0 7 v3 fun μ4 =>
(x_put μ4 v0 5 v4 fun μ5 =>
(x_put μ5 v0 3 (0 : Int32) fun μ6 =>
(some μ6)))))))
set_option maxHeartbeats 4000000 in
set_option maxRecDepth 100000 in
theorem l_f1_begin (G : xG) (d : Nat) (hd : 0 ≤ d) (v0 : Nat) (v1 : Int32) (v2 : Int32) (v3 : Int32) (v4 : Int32) (μ : xMu) : Mx G m1_begin d [.ref v0, .int v1, .int v2, .int v3, .int v4] μ x_wv (f1_begin v0 v1 v2 v3 v4 μ) := by
  refine mx_enter ok1_begin [some (.ref v0), some (.int v1), some (.int v2), some (.int v3), some (.int v4)] rfl (Nat.le_of_ble_eq_true rfl) ?_
  unfold f1_begin
  refine wx_blk (pc' := 2) (L' := [some (.ref v0), some (.int v1), some (.int v2), some (.int v3), some (.int v4)]) (st' := [.int v1, .ref v0]) [.aload_n 0, .iload_n 1] (by decide +kernel) rfl rfl ?_
  refine wx_chk (fun hx1 => ?_)
  refine wx_put hx1 ff_1_19 fp_1_4 ⟨rfl, rfl⟩ (by decide +kernel) (fun μ2 => ?_)
  refine wx_blk (pc' := 7) (L' := [some (.ref v0), some (.int v1), some (.int v2), some (.int v3), some (.int v4)]) (st' := [.int v2, .ref v0]) [.aload_n 0, .iload_n 2] (by decide +kernel) rfl rfl ?_
  refine wx_put hx1 ff_1_23 fp_1_6 ⟨rfl, rfl⟩ (by decide +kernel) (fun μ3 => ?_)
  refine wx_blk (pc' := 12) (L' := [some (.ref v0), some (.int v1), some (.int v2), some (.int v3), some (.int v4)]) (st' := [.int v3, .ref v0]) [.aload_n 0, .iload_n 3] (by decide +kernel) rfl rfl ?_
  refine wx_put hx1 ff_1_26 fp_1_7 ⟨rfl, rfl⟩ (by decide +kernel) (fun μ4 => ?_)
  refine wx_blk (pc' := 18) (L' := [some (.ref v0), some (.int v1), some (.int v2), some (.int v3), some (.int v4)]) (st' := [.int v4, .ref v0]) [.aload_n 0, .iload 4] (by decide +kernel) rfl rfl ?_
  refine wx_put hx1 ff_1_29 fp_1_5 ⟨rfl, rfl⟩ (by decide +kernel) (fun μ5 => ?_)
  refine wx_blk (pc' := 23) (L' := [some (.ref v0), some (.int v1), some (.int v2), some (.int v3), some (.int v4)]) (st' := [.int (0 : Int32), .ref v0]) [.aload_n 0, .iconst 0] (by decide +kernel) rfl rfl ?_
  refine wx_put hx1 ff_1_32 fp_1_3 ⟨rfl, rfl⟩ (by decide +kernel) (fun μ6 => ?_)
  exact wx_vret rfl rfl (by decide +kernel)
/-! WakingLayers$Program.isLayer(I)Z -/
def f4_isLayer (μ : xMu) (v1 : Int32) : Option Int32 :=
  (if v1 < 0 then
(some (0 : Int32))
else
(if (μ 16 7) ≤ v1 then
(some (0 : Int32))
else
(some (1 : Int32))))
set_option maxHeartbeats 4000000 in
set_option maxRecDepth 100000 in
theorem l_f4_isLayer (G : xG) (d : Nat) (hd : 0 ≤ d) (μ : xMu) (v1 : Int32) : Mx G m4_isLayer d [.ref 16, .int v1] μ (x_wi μ) (f4_isLayer μ v1) := by
  refine mx_enter ok4_isLayer [some (.ref 16), some (.int v1)] rfl (Nat.le_of_ble_eq_true rfl) ?_
  unfold f4_isLayer
  refine wx_blk (pc' := 1) (L' := [some (.ref 16), some (.int v1)]) (st' := [.int v1]) [.iload_n 1] (by decide +kernel) rfl rfl ?_
  refine wx_if_lt 16 (off := 15) (by decide +kernel) (by decide) ?_ ?_
  · refine wx_blk (pc' := 17) (L' := [some (.ref 16), some (.int v1)]) (st' := [.int (0 : Int32)]) [.iconst 0] (by decide +kernel) rfl rfl ?_
    exact wx_zret rfl rfl (by decide) (by decide +kernel)
  · refine wx_blk (pc' := 6) (L' := [some (.ref 16), some (.int v1)]) (st' := [.ref 16, .int v1]) [.iload_n 1, .aload_n 0] (by decide +kernel) rfl rfl ?_
    refine wx_geti is_16 ff_4_37 rfl (by decide +kernel) ?_
    refine wx_ic_ge 16 (off := 7) (by decide +kernel) (by decide) ?_ ?_
    · refine wx_blk (pc' := 17) (L' := [some (.ref 16), some (.int v1)]) (st' := [.int (0 : Int32)]) [.iconst 0] (by decide +kernel) rfl rfl ?_
      exact wx_zret rfl rfl (by decide) (by decide +kernel)
    · refine wx_blk (pc' := 13) (L' := [some (.ref 16), some (.int v1)]) (st' := [.int (1 : Int32)]) [.iconst 1] (by decide +kernel) rfl rfl ?_
      refine wx_goto 17 (off := 4) (by decide +kernel) (by decide) ?_
      exact wx_zret rfl rfl (by decide) (by decide +kernel)
/-! WakingLayers$Layer.isWoken()Z -/
def f3_isWoken_j15 (μ : xMu) : Option Int32 :=
  (some (1 : Int32))
set_option maxHeartbeats 4000000 in
set_option maxRecDepth 100000 in
theorem l_f3_isWoken_j15 (G : xG) (d : Nat) (hd : 0 ≤ d) (μ : xMu) : Wx G m3_isWoken d 15 [none] [] μ (x_wi μ) (f3_isWoken_j15 μ) := by
  unfold f3_isWoken_j15
  refine wx_blk (pc' := 16) (L' := [none]) (st' := [.int (1 : Int32)]) [.iconst 1] (by decide +kernel) rfl rfl ?_
  refine wx_goto 20 (off := 4) (by decide +kernel) (by decide) ?_
  exact wx_zret rfl rfl (by decide) (by decide +kernel)
def f3_isWoken (μ : xMu) (v0 : Nat) : Option Int32 :=
  (x_chk v0 3 (if (μ v0 0) = 0 then
(f3_isWoken_j15 μ)
else
(if (μ v0 0) = (1 : Int32) then
(f3_isWoken_j15 μ)
else
(some (0 : Int32)))))
set_option maxHeartbeats 4000000 in
set_option maxRecDepth 100000 in
theorem l_f3_isWoken (G : xG) (d : Nat) (hd : 0 ≤ d) (μ : xMu) (v0 : Nat) : Mx G m3_isWoken d [.ref v0] μ (x_wi μ) (f3_isWoken μ v0) := by
  refine mx_enter ok3_isWoken [some (.ref v0)] rfl (Nat.le_of_ble_eq_true rfl) ?_
  unfold f3_isWoken
  refine wx_blk (pc' := 1) (L' := [some (.ref v0)]) (st' := [.ref v0]) [.aload_n 0] (by decide +kernel) rfl rfl ?_
  refine wx_chk (fun hx1 => ?_)
  refine wx_geti hx1 ff_3_7 rfl (by decide +kernel) ?_
  refine wx_if_eq 15 (off := 11) (by decide +kernel) (by decide) ?_ ?_
  · refine wx_weak (L' := [none]) trivial ?_
    refine l_f3_isWoken_j15 G d hd μ
  · refine wx_blk (pc' := 8) (L' := [some (.ref v0)]) (st' := [.ref v0]) [.aload_n 0] (by decide +kernel) rfl rfl ?_
    refine wx_geti hx1 ff_3_7 rfl (by decide +kernel) ?_
    refine wx_blk (pc' := 12) (L' := [some (.ref v0)]) (st' := [.int (1 : Int32), .int (μ v0 0)]) [.iconst 1] (by decide +kernel) rfl rfl ?_
    refine wx_ic_ne 19 (off := 7) (by decide +kernel) (by decide) ?_ ?_
    · refine wx_blk (pc' := 20) (L' := [some (.ref v0)]) (st' := [.int (0 : Int32)]) [.iconst 0] (by decide +kernel) rfl rfl ?_
      exact wx_zret rfl rfl (by decide) (by decide +kernel)
    · refine wx_weak (L' := [none]) trivial ?_
      refine l_f3_isWoken_j15 G d hd μ
/-! WakingLayers$Reader.refuseUnwoken()V -/
def f5_refuseUnwoken (μ : xMu) : Option xMu :=
  ((f10_atNumber μ).bind fun x1 =>
(if x1 = 0 then
(some μ)
else
((f10_number μ).bind fun x2 =>
((f4_isLayer μ x2).bind fun x3 =>
(if x3 = 0 then
(some μ)
else
((f10_number μ).bind fun x4 =>
(x_rld 20 8 x4 fun r5 =>
(x_chk r5 3 ((f3_isWoken μ r5).bind fun x7 =>
(if x7 = 0 then
((f5_refuse (2 : Int32) μ).bind fun μ8 =>
(some μ8))
else
(some μ)))))))))))
set_option maxHeartbeats 4000000 in
set_option maxRecDepth 100000 in
theorem l_f5_refuseUnwoken (G : xG) (d : Nat) (hd : 2 ≤ d) (μ : xMu) : Mx G m5_refuseUnwoken d [.ref 126] μ x_wv (f5_refuseUnwoken μ) := by
  refine mx_enter ok5_refuseUnwoken [some (.ref 126)] rfl (Nat.le_of_ble_eq_true rfl) ?_
  unfold f5_refuseUnwoken
  refine wx_blk (pc' := 1) (L' := [some (.ref 126)]) (st' := [.ref 126]) [.aload_n 0] (by decide +kernel) rfl rfl ?_
  refine wx_getr is_126 ff_5_9 rfl rf_126_0 (by decide +kernel) ?_
  refine wx_callV (d1 := 0) (As := []) (rest := []) (by omega) is_14 (by decide) rfl cv_5_125 rfl (Nat.le_of_ble_eq_true rfl) (l_f10_atNumber G 0 (by omega) μ) rfl (by decide +kernel) (fun x1 => ?_)
  refine wx_if_eq 53 (off := 46) (by decide +kernel) (by decide) ?_ ?_
  · exact wx_vret rfl rfl (by decide +kernel)
  · refine wx_blk (pc' := 11) (L' := [some (.ref 126)]) (st' := [.ref 126]) [.aload_n 0] (by decide +kernel) rfl rfl ?_
    refine wx_getr is_126 ff_5_15 rfl rf_126_1 (by decide +kernel) ?_
    refine wx_blk (pc' := 15) (L' := [some (.ref 126)]) (st' := [.ref 126, .ref 16]) [.aload_n 0] (by decide +kernel) rfl rfl ?_
    refine wx_getr is_126 ff_5_9 rfl rf_126_0 (by decide +kernel) ?_
    refine wx_callV (d1 := 0) (As := []) (rest := [.ref 16]) (by omega) is_14 (by decide) rfl cv_5_194 rfl (Nat.le_of_ble_eq_true rfl) (l_f10_number G 0 (by omega) μ) rfl (by decide +kernel) (fun x2 => ?_)
    refine wx_callV (d1 := 0) (As := [.int x2]) (rest := []) (by omega) is_16 (by decide) rfl cv_5_197 rfl (Nat.le_of_ble_eq_true rfl) (l_f4_isLayer G 0 (by omega) μ x2) rfl (by decide +kernel) (fun x3 => ?_)
    refine wx_if_eq 53 (off := 29) (by decide +kernel) (by decide) ?_ ?_
    · exact wx_vret rfl rfl (by decide +kernel)
    · refine wx_blk (pc' := 28) (L' := [some (.ref 126)]) (st' := [.ref 126]) [.aload_n 0] (by decide +kernel) rfl rfl ?_
      refine wx_getr is_126 ff_5_15 rfl rf_126_1 (by decide +kernel) ?_
      refine wx_getr is_16 ff_5_111 rfl rf_16_3 (by decide +kernel) ?_
      refine wx_blk (pc' := 35) (L' := [some (.ref 126)]) (st' := [.ref 126, .ref 20]) [.aload_n 0] (by decide +kernel) rfl rfl ?_
      refine wx_getr is_126 ff_5_9 rfl rf_126_0 (by decide +kernel) ?_
      refine wx_callV (d1 := 0) (As := []) (rest := [.ref 20]) (by omega) is_14 (by decide) rfl cv_5_194 rfl (Nat.le_of_ble_eq_true rfl) (l_f10_number G 0 (by omega) μ) rfl (by decide +kernel) (fun x4 => ?_)
      refine wx_rld is_20 (by decide) sz_20 (by decide +kernel) (fun r5 => ?_)
      refine wx_chk (fun hx6 => ?_)
      refine wx_callV (d1 := 0) (As := []) (rest := []) (by omega) hx6 (by decide) rfl cv_5_201 rfl (Nat.le_of_ble_eq_true rfl) (l_f3_isWoken G 0 (by omega) μ r5) rfl (by decide +kernel) (fun x7 => ?_)
      refine wx_if_ne 53 (off := 8) (by decide +kernel) (by decide) ?_ ?_
      · exact wx_vret rfl rfl (by decide +kernel)
      · refine wx_blk (pc' := 50) (L' := [some (.ref 126)]) (st' := [.int (2 : Int32), .ref 126]) [.aload_n 0, .iconst 2] (by decide +kernel) rfl rfl ?_
        refine wx_callV (d1 := 1) (As := [.int (2 : Int32)]) (rest := []) (by omega) is_126 (by decide) rfl cv_5_71 rfl (Nat.le_of_ble_eq_true rfl) (l_f5_refuse G 1 (by omega) (2 : Int32) μ) rfl (by decide +kernel) (fun μ8 => ?_)
        exact wx_vret rfl rfl (by decide +kernel)
/-! WakingLayers$Body.addAct(III)V -/
def f1_addAct (v0 : Nat) (v1 : Int32) (v2 : Int32) (v3 : Int32) (μ : xMu) : Option xMu :=
  (x_chk v0 1 (x_rfd v0 0 fun r2 =>
(x_chk r2 13 (x_ast μ r2 (x_sz r2) (μ v0 3) v1 fun μ4 =>
(x_rfd v0 1 fun r5 =>
(x_chk r5 13 (x_ast μ4 r5 (x_sz r5) (μ4 v0 3) v2 fun μ7 =>
(x_rfd v0 2 fun r8 =>
(x_chk r8 13 (x_ast μ7 r8 (x_sz r8) (μ7 v0 3) v3 fun μ10 =>
(x_put μ10 v0 3 ((μ10 v0 3) + (1 : Int32)) fun μ11 =>
(some μ11))))))))))))
set_option maxHeartbeats 4000000 in
set_option maxRecDepth 100000 in
theorem l_f1_addAct (G : xG) (d : Nat) (hd : 0 ≤ d) (v0 : Nat) (v1 : Int32) (v2 : Int32) (v3 : Int32) (μ : xMu) : Mx G m1_addAct d [.ref v0, .int v1, .int v2, .int v3] μ x_wv (f1_addAct v0 v1 v2 v3 μ) := by
  refine mx_enter ok1_addAct [some (.ref v0), some (.int v1), some (.int v2), some (.int v3)] rfl (Nat.le_of_ble_eq_true rfl) ?_
  unfold f1_addAct
  refine wx_blk (pc' := 1) (L' := [some (.ref v0), some (.int v1), some (.int v2), some (.int v3)]) (st' := [.ref v0]) [.aload_n 0] (by decide +kernel) rfl rfl ?_
  refine wx_chk (fun hx1 => ?_)
  refine wx_rfd hx1 ff_1_9 rfl (by decide +kernel) (fun r2 => ?_)
  refine wx_blk (pc' := 5) (L' := [some (.ref v0), some (.int v1), some (.int v2), some (.int v3)]) (st' := [.ref v0, .ref r2]) [.aload_n 0] (by decide +kernel) rfl rfl ?_
  refine wx_geti hx1 ff_1_32 rfl (by decide +kernel) ?_
  refine wx_blk (pc' := 9) (L' := [some (.ref v0), some (.int v1), some (.int v2), some (.int v3)]) (st' := [.int v1, .int (μ v0 3), .ref r2]) [.iload_n 1] (by decide +kernel) rfl rfl ?_
  refine wx_chk (fun hx3 => ?_)
  refine wx_ast hx3 rfl (by decide +kernel) (fun μ4 => ?_)
  refine wx_blk (pc' := 11) (L' := [some (.ref v0), some (.int v1), some (.int v2), some (.int v3)]) (st' := [.ref v0]) [.aload_n 0] (by decide +kernel) rfl rfl ?_
  refine wx_rfd hx1 ff_1_13 rfl (by decide +kernel) (fun r5 => ?_)
  refine wx_blk (pc' := 15) (L' := [some (.ref v0), some (.int v1), some (.int v2), some (.int v3)]) (st' := [.ref v0, .ref r5]) [.aload_n 0] (by decide +kernel) rfl rfl ?_
  refine wx_geti hx1 ff_1_32 rfl (by decide +kernel) ?_
  refine wx_blk (pc' := 19) (L' := [some (.ref v0), some (.int v1), some (.int v2), some (.int v3)]) (st' := [.int v2, .int (μ4 v0 3), .ref r5]) [.iload_n 2] (by decide +kernel) rfl rfl ?_
  refine wx_chk (fun hx6 => ?_)
  refine wx_ast hx6 rfl (by decide +kernel) (fun μ7 => ?_)
  refine wx_blk (pc' := 21) (L' := [some (.ref v0), some (.int v1), some (.int v2), some (.int v3)]) (st' := [.ref v0]) [.aload_n 0] (by decide +kernel) rfl rfl ?_
  refine wx_rfd hx1 ff_1_16 rfl (by decide +kernel) (fun r8 => ?_)
  refine wx_blk (pc' := 25) (L' := [some (.ref v0), some (.int v1), some (.int v2), some (.int v3)]) (st' := [.ref v0, .ref r8]) [.aload_n 0] (by decide +kernel) rfl rfl ?_
  refine wx_geti hx1 ff_1_32 rfl (by decide +kernel) ?_
  refine wx_blk (pc' := 29) (L' := [some (.ref v0), some (.int v1), some (.int v2), some (.int v3)]) (st' := [.int v3, .int (μ7 v0 3), .ref r8]) [.iload_n 3] (by decide +kernel) rfl rfl ?_
  refine wx_chk (fun hx9 => ?_)
  refine wx_ast hx9 rfl (by decide +kernel) (fun μ10 => ?_)
  refine wx_blk (pc' := 32) (L' := [some (.ref v0), some (.int v1), some (.int v2), some (.int v3)]) (st' := [.ref v0, .ref v0]) [.aload_n 0, .dup] (by decide +kernel) rfl rfl ?_
  refine wx_geti hx1 ff_1_32 rfl (by decide +kernel) ?_
  refine wx_blk (pc' := 37) (L' := [some (.ref v0), some (.int v1), some (.int v2), some (.int v3)]) (st' := [.int ((μ10 v0 3) + (1 : Int32)), .ref v0]) [.iconst 1, .iadd] (by decide +kernel) rfl rfl ?_
  refine wx_put hx1 ff_1_32 fp_1_3 ⟨rfl, rfl⟩ (by decide +kernel) (fun μ11 => ?_)
  exact wx_vret rfl rfl (by decide +kernel)
/-! WakingLayers$Reader.readAct(LWakingLayers$Body;)V -/
def f5_readAct_j27 (μ : xMu) : Option xMu :=
  ((f5_refuse (1 : Int32) μ).bind fun μ2 =>
(some μ2))
set_option maxHeartbeats 4000000 in
set_option maxRecDepth 100000 in
theorem l_f5_readAct_j27 (G : xG) (d : Nat) (hd : 6 ≤ d) (μ : xMu) : Wx G m5_readAct d 27 [some (.ref 126), none, none, none, none] [] μ x_wv (f5_readAct_j27 μ) := by
  unfold f5_readAct_j27
  refine wx_blk (pc' := 29) (L' := [some (.ref 126), none, none, none, none]) (st' := [.int (1 : Int32), .ref 126]) [.aload_n 0, .iconst 1] (by decide +kernel) rfl rfl ?_
  refine wx_callV (d1 := 1) (As := [.int (1 : Int32)]) (rest := []) (by omega) is_126 (by decide) rfl cv_5_71 rfl (Nat.le_of_ble_eq_true rfl) (l_f5_refuse G 1 (by omega) (1 : Int32) μ) rfl (by decide +kernel) (fun μ2 => ?_)
  refine wx_goto 139 (off := 107) (by decide +kernel) (by decide) ?_
  exact wx_vret rfl rfl (by decide +kernel)
def f5_readAct_j131 (v1 : Nat) (v2 : Int32) (v3 : Int32) (v4 : Int32) (μ : xMu) : Option xMu :=
  (x_chk v1 1 ((f1_addAct v1 v2 v3 v4 μ).bind fun μ7 =>
(some μ7)))
set_option maxHeartbeats 4000000 in
set_option maxRecDepth 100000 in
theorem l_f5_readAct_j131 (G : xG) (d : Nat) (hd : 6 ≤ d) (v1 : Nat) (v2 : Int32) (v3 : Int32) (v4 : Int32) (μ : xMu) : Wx G m5_readAct d 131 [none, some (.ref v1), some (.int v2), some (.int v3), some (.int v4)] [] μ x_wv (f5_readAct_j131 v1 v2 v3 v4 μ) := by
  unfold f5_readAct_j131
  refine wx_blk (pc' := 136) (L' := [none, some (.ref v1), some (.int v2), some (.int v3), some (.int v4)]) (st' := [.int v4, .int v3, .int v2, .ref v1]) [.aload_n 1, .iload_n 2, .iload_n 3, .iload 4] (by decide +kernel) rfl rfl ?_
  refine wx_chk (fun hx6 => ?_)
  refine wx_callV (d1 := 0) (As := [.int v2, .int v3, .int v4]) (rest := []) (by omega) hx6 (by decide) rfl cv_5_188 rfl (Nat.le_of_ble_eq_true rfl) (l_f1_addAct G 0 (by omega) v1 v2 v3 v4 μ) rfl (by decide +kernel) (fun μ7 => ?_)
  exact wx_vret rfl rfl (by decide +kernel)
def f5_readAct_j73 (v1 : Nat) (v2 : Int32) (v4 : Int32) (μ : xMu) : Option xMu :=
  ((f5_takeNumber (10 : Int32) μ).bind fun q5 =>
(f5_readAct_j131 v1 v2 q5.1 v4 q5.2))
set_option maxHeartbeats 4000000 in
set_option maxRecDepth 100000 in
theorem l_f5_readAct_j73 (G : xG) (d : Nat) (hd : 6 ≤ d) (v1 : Nat) (v2 : Int32) (v4 : Int32) (μ : xMu) : Wx G m5_readAct d 73 [some (.ref 126), some (.ref v1), some (.int v2), none, some (.int v4)] [] μ x_wv (f5_readAct_j73 v1 v2 v4 μ) := by
  unfold f5_readAct_j73
  refine wx_blk (pc' := 76) (L' := [some (.ref 126), some (.ref v1), some (.int v2), none, some (.int v4)]) (st' := [.int (10 : Int32), .ref 126]) [.aload_n 0, .bipush 10] (by decide +kernel) rfl rfl ?_
  refine wx_callV (d1 := 2) (As := [.int (10 : Int32)]) (rest := []) (by omega) is_126 (by decide) rfl cv_5_91 rfl (Nat.le_of_ble_eq_true rfl) (l_f5_takeNumber G 2 (by omega) (10 : Int32) μ) rfl (by decide +kernel) (fun q5 => ?_)
  refine wx_blk (pc' := 80) (L' := [some (.ref 126), some (.ref v1), some (.int v2), some (.int q5.1), some (.int v4)]) (st' := []) [.istore_n 3] (by decide +kernel) rfl rfl ?_
  refine wx_goto 131 (off := 51) (by decide +kernel) (by decide) ?_
  refine wx_weak (L' := [none, some (.ref v1), some (.int v2), some (.int q5.1), some (.int v4)]) ⟨rfl, ⟨rfl, ⟨rfl, ⟨rfl, trivial⟩⟩⟩⟩ ?_
  refine l_f5_readAct_j131 G d hd v1 v2 q5.1 v4 q5.2
def f5_readAct_j35 (v1 : Nat) (v2 : Int32) (μ : xMu) : Option xMu :=
  (x_chk v1 1 (if (μ v1 3) < (6 : Int32) then
((f10_nextToken μ).bind fun μ4 =>
(if v2 = 0 then
(f5_readAct_j73 v1 v2 (0 : Int32) μ4)
else
(if v2 = (1 : Int32) then
(f5_readAct_j73 v1 v2 (0 : Int32) μ4)
else
(if v2 = (4 : Int32) then
((f5_takeNumber (μ4 16 6) μ4).bind fun q10 =>
((f5_takeNumber (4 : Int32) q10.2).bind fun q11 =>
(f5_readAct_j131 v1 v2 q10.1 q11.1 q11.2)))
else
(if v2 = (5 : Int32) then
((f5_refuseUnwoken μ4).bind fun μ8 =>
((f5_takeNumber (μ8 16 7) μ8).bind fun q9 =>
(f5_readAct_j131 v1 v2 q9.1 (0 : Int32) q9.2)))
else
(f5_readAct_j131 v1 v2 (0 : Int32) (0 : Int32) μ4))))))
else
((f5_refuse (3 : Int32) μ).bind fun μ12 =>
(some μ12))))
set_option maxHeartbeats 4000000 in
set_option maxRecDepth 100000 in
theorem l_f5_readAct_j35 (G : xG) (d : Nat) (hd : 6 ≤ d) (v1 : Nat) (v2 : Int32) (μ : xMu) : Wx G m5_readAct d 35 [some (.ref 126), some (.ref v1), some (.int v2), none, none] [] μ x_wv (f5_readAct_j35 v1 v2 μ) := by
  unfold f5_readAct_j35
  refine wx_blk (pc' := 36) (L' := [some (.ref 126), some (.ref v1), some (.int v2), none, none]) (st' := [.ref v1]) [.aload_n 1] (by decide +kernel) rfl rfl ?_
  refine wx_chk (fun hx3 => ?_)
  refine wx_geti hx3 ff_5_182 rfl (by decide +kernel) ?_
  refine wx_blk (pc' := 41) (L' := [some (.ref 126), some (.ref v1), some (.int v2), none, none]) (st' := [.int (6 : Int32), .int (μ v1 3)]) [.bipush 6] (by decide +kernel) rfl rfl ?_
  refine wx_ic_lt 52 (off := 11) (by decide +kernel) (by decide) ?_ ?_
  · refine wx_blk (pc' := 53) (L' := [some (.ref 126), some (.ref v1), some (.int v2), none, none]) (st' := [.ref 126]) [.aload_n 0] (by decide +kernel) rfl rfl ?_
    refine wx_getr is_126 ff_5_9 rfl rf_126_0 (by decide +kernel) ?_
    refine wx_callV (d1 := 1) (As := []) (rest := []) (by omega) is_14 (by decide) rfl cv_5_88 rfl (Nat.le_of_ble_eq_true rfl) (l_f10_nextToken G 1 (by omega) μ) rfl (by decide +kernel) (fun μ4 => ?_)
    refine wx_blk (pc' := 65) (L' := [some (.ref 126), some (.ref v1), some (.int v2), some (.int (0 : Int32)), some (.int (0 : Int32))]) (st' := [.int v2]) [.iconst 0, .istore_n 3, .iconst 0, .istore 4, .iload_n 2] (by decide +kernel) rfl rfl ?_
    refine wx_if_eq 73 (off := 8) (by decide +kernel) (by decide) ?_ ?_
    · refine wx_weak (L' := [some (.ref 126), some (.ref v1), some (.int v2), none, some (.int (0 : Int32))]) ⟨rfl, ⟨rfl, ⟨rfl, ⟨rfl, trivial⟩⟩⟩⟩ ?_
      refine l_f5_readAct_j73 G d hd v1 v2 (0 : Int32) μ4
    · refine wx_blk (pc' := 70) (L' := [some (.ref 126), some (.ref v1), some (.int v2), some (.int (0 : Int32)), some (.int (0 : Int32))]) (st' := [.int (1 : Int32), .int v2]) [.iload_n 2, .iconst 1] (by decide +kernel) rfl rfl ?_
      refine wx_ic_ne 83 (off := 13) (by decide +kernel) (by decide) ?_ ?_
      · refine wx_blk (pc' := 85) (L' := [some (.ref 126), some (.ref v1), some (.int v2), some (.int (0 : Int32)), some (.int (0 : Int32))]) (st' := [.int (4 : Int32), .int v2]) [.iload_n 2, .iconst 4] (by decide +kernel) rfl rfl ?_
        refine wx_ic_ne 110 (off := 25) (by decide +kernel) (by decide) ?_ ?_
        · refine wx_blk (pc' := 112) (L' := [some (.ref 126), some (.ref v1), some (.int v2), some (.int (0 : Int32)), some (.int (0 : Int32))]) (st' := [.int (5 : Int32), .int v2]) [.iload_n 2, .iconst 5] (by decide +kernel) rfl rfl ?_
          refine wx_ic_ne 131 (off := 19) (by decide +kernel) (by decide) ?_ ?_
          · refine wx_weak (L' := [none, some (.ref v1), some (.int v2), some (.int (0 : Int32)), some (.int (0 : Int32))]) ⟨rfl, ⟨rfl, ⟨rfl, ⟨rfl, trivial⟩⟩⟩⟩ ?_
            refine l_f5_readAct_j131 G d hd v1 v2 (0 : Int32) (0 : Int32) μ4
          · refine wx_blk (pc' := 116) (L' := [some (.ref 126), some (.ref v1), some (.int v2), some (.int (0 : Int32)), some (.int (0 : Int32))]) (st' := [.ref 126]) [.aload_n 0] (by decide +kernel) rfl rfl ?_
            refine wx_callV (d1 := 2) (As := []) (rest := []) (by omega) is_126 (by decide) rfl cv_5_185 rfl (Nat.le_of_ble_eq_true rfl) (l_f5_refuseUnwoken G 2 (by omega) μ4) rfl (by decide +kernel) (fun μ8 => ?_)
            refine wx_blk (pc' := 121) (L' := [some (.ref 126), some (.ref v1), some (.int v2), some (.int (0 : Int32)), some (.int (0 : Int32))]) (st' := [.ref 126, .ref 126]) [.aload_n 0, .aload_n 0] (by decide +kernel) rfl rfl ?_
            refine wx_getr is_126 ff_5_15 rfl rf_126_1 (by decide +kernel) ?_
            refine wx_geti is_16 ff_5_108 rfl (by decide +kernel) ?_
            refine wx_callV (d1 := 2) (As := [.int (μ8 16 7)]) (rest := []) (by omega) is_126 (by decide) rfl cv_5_91 rfl (Nat.le_of_ble_eq_true rfl) (l_f5_takeNumber G 2 (by omega) (μ8 16 7) μ8) rfl (by decide +kernel) (fun q9 => ?_)
            refine wx_blk (pc' := 131) (L' := [some (.ref 126), some (.ref v1), some (.int v2), some (.int q9.1), some (.int (0 : Int32))]) (st' := []) [.istore_n 3] (by decide +kernel) rfl rfl ?_
            refine wx_weak (L' := [none, some (.ref v1), some (.int v2), some (.int q9.1), some (.int (0 : Int32))]) ⟨rfl, ⟨rfl, ⟨rfl, ⟨rfl, trivial⟩⟩⟩⟩ ?_
            refine l_f5_readAct_j131 G d hd v1 v2 q9.1 (0 : Int32) q9.2
        · refine wx_blk (pc' := 90) (L' := [some (.ref 126), some (.ref v1), some (.int v2), some (.int (0 : Int32)), some (.int (0 : Int32))]) (st' := [.ref 126, .ref 126]) [.aload_n 0, .aload_n 0] (by decide +kernel) rfl rfl ?_
          refine wx_getr is_126 ff_5_15 rfl rf_126_1 (by decide +kernel) ?_
          refine wx_geti is_16 ff_5_102 rfl (by decide +kernel) ?_
          refine wx_callV (d1 := 2) (As := [.int (μ4 16 6)]) (rest := []) (by omega) is_126 (by decide) rfl cv_5_91 rfl (Nat.le_of_ble_eq_true rfl) (l_f5_takeNumber G 2 (by omega) (μ4 16 6) μ4) rfl (by decide +kernel) (fun q10 => ?_)
          refine wx_blk (pc' := 102) (L' := [some (.ref 126), some (.ref v1), some (.int v2), some (.int q10.1), some (.int (0 : Int32))]) (st' := [.int (4 : Int32), .ref 126]) [.istore_n 3, .aload_n 0, .iconst 4] (by decide +kernel) rfl rfl ?_
          refine wx_callV (d1 := 2) (As := [.int (4 : Int32)]) (rest := []) (by omega) is_126 (by decide) rfl cv_5_91 rfl (Nat.le_of_ble_eq_true rfl) (l_f5_takeNumber G 2 (by omega) (4 : Int32) q10.2) rfl (by decide +kernel) (fun q11 => ?_)
          refine wx_blk (pc' := 107) (L' := [some (.ref 126), some (.ref v1), some (.int v2), some (.int q10.1), some (.int q11.1)]) (st' := []) [.istore 4] (by decide +kernel) rfl rfl ?_
          refine wx_goto 131 (off := 24) (by decide +kernel) (by decide) ?_
          refine wx_weak (L' := [none, some (.ref v1), some (.int v2), some (.int q10.1), some (.int q11.1)]) ⟨rfl, ⟨rfl, ⟨rfl, ⟨rfl, trivial⟩⟩⟩⟩ ?_
          refine l_f5_readAct_j131 G d hd v1 v2 q10.1 q11.1 q11.2
      · refine wx_weak (L' := [some (.ref 126), some (.ref v1), some (.int v2), none, some (.int (0 : Int32))]) ⟨rfl, ⟨rfl, ⟨rfl, ⟨rfl, trivial⟩⟩⟩⟩ ?_
        refine l_f5_readAct_j73 G d hd v1 v2 (0 : Int32) μ4
  · refine wx_blk (pc' := 46) (L' := [some (.ref 126), some (.ref v1), some (.int v2), none, none]) (st' := [.int (3 : Int32), .ref 126]) [.aload_n 0, .iconst 3] (by decide +kernel) rfl rfl ?_
    refine wx_callV (d1 := 1) (As := [.int (3 : Int32)]) (rest := []) (by omega) is_126 (by decide) rfl cv_5_71 rfl (Nat.le_of_ble_eq_true rfl) (l_f5_refuse G 1 (by omega) (3 : Int32) μ) rfl (by decide +kernel) (fun μ12 => ?_)
    refine wx_goto 139 (off := 90) (by decide +kernel) (by decide) ?_
    exact wx_vret rfl rfl (by decide +kernel)
def f5_readAct (v1 : Nat) (μ : xMu) : Option xMu :=
  ((f10_nameAmong μ 917).bind fun x1 =>
(if x1 < 0 then
(f5_readAct_j27 μ)
else
(if x1 = (3 : Int32) then
(x_chk v1 1 (if (μ v1 5) = (2 : Int32) then
(f5_readAct_j35 v1 x1 μ)
else
(f5_readAct_j27 μ)))
else
(f5_readAct_j35 v1 x1 μ))))
set_option maxHeartbeats 4000000 in
set_option maxRecDepth 100000 in
theorem l_f5_readAct (G : xG) (d : Nat) (hd : 6 ≤ d) (v1 : Nat) (μ : xMu) : Mx G m5_readAct d [.ref 126, .ref v1] μ x_wv (f5_readAct v1 μ) := by
  refine mx_enter ok5_readAct [some (.ref 126), some (.ref v1), none, none, none] rfl (Nat.le_of_ble_eq_true rfl) ?_
  unfold f5_readAct
  refine wx_blk (pc' := 1) (L' := [some (.ref 126), some (.ref v1), none, none, none]) (st' := [.ref 126]) [.aload_n 0] (by decide +kernel) rfl rfl ?_
  refine wx_getr is_126 ff_5_9 rfl rf_126_0 (by decide +kernel) ?_
  refine wx_ldcs 7 (by decide) rfl (by decide +kernel) ?_
  refine wx_callV (d1 := 5) (As := [.ref 917]) (rest := []) (by omega) is_14 (by decide) rfl cv_5_55 rfl (Nat.le_of_ble_eq_true rfl) (l_f10_nameAmong G 5 (by omega) μ 917) rfl (by decide +kernel) (fun x1 => ?_)
  refine wx_blk (pc' := 11) (L' := [some (.ref 126), some (.ref v1), some (.int x1), none, none]) (st' := [.int x1]) [.istore_n 2, .iload_n 2] (by decide +kernel) rfl rfl ?_
  refine wx_if_lt 27 (off := 16) (by decide +kernel) (by decide) ?_ ?_
  · refine wx_weak (L' := [some (.ref 126), none, none, none, none]) ⟨rfl, trivial⟩ ?_
    refine l_f5_readAct_j27 G d hd μ
  · refine wx_blk (pc' := 16) (L' := [some (.ref 126), some (.ref v1), some (.int x1), none, none]) (st' := [.int (3 : Int32), .int x1]) [.iload_n 2, .iconst 3] (by decide +kernel) rfl rfl ?_
    refine wx_ic_ne 35 (off := 19) (by decide +kernel) (by decide) ?_ ?_
    · refine l_f5_readAct_j35 G d hd v1 x1 μ
    · refine wx_blk (pc' := 20) (L' := [some (.ref 126), some (.ref v1), some (.int x1), none, none]) (st' := [.ref v1]) [.aload_n 1] (by decide +kernel) rfl rfl ?_
      refine wx_chk (fun hx13 => ?_)
      refine wx_geti hx13 ff_5_179 rfl (by decide +kernel) ?_
      refine wx_blk (pc' := 24) (L' := [some (.ref 126), some (.ref v1), some (.int x1), none, none]) (st' := [.int (2 : Int32), .int (μ v1 5)]) [.iconst 2] (by decide +kernel) rfl rfl ?_
      refine wx_ic_eq 35 (off := 11) (by decide +kernel) (by decide) ?_ ?_
      · refine l_f5_readAct_j35 G d hd v1 x1 μ
      · refine wx_weak (L' := [some (.ref 126), none, none, none, none]) ⟨rfl, trivial⟩ ?_
        refine l_f5_readAct_j27 G d hd μ
