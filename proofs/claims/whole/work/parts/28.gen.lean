/-! WakingLayers$Asker.lentMark(I)I -/
def f0_lentMark (v1 : Int32) (μ : xMu) : Option (Int32 × xMu) :=
  ((f0_leave (20 : Int32) μ).bind fun μ1 =>
((f4_bodiesOf μ1 v1).bind fun x2 =>
(some (x2, μ1))))
set_option maxHeartbeats 4000000 in
set_option maxRecDepth 100000 in
theorem l_f0_lentMark (G : xG) (d : Nat) (hd : 1 ≤ d) (v1 : Int32) (μ : xMu) : Mx G m0_lentMark d [.ref 160, .int v1] μ x_wim (f0_lentMark v1 μ) := by
  refine mx_enter ok0_lentMark [some (.ref 160), some (.int v1)] rfl (Nat.le_of_ble_eq_true rfl) ?_
  unfold f0_lentMark
  refine wx_blk (pc' := 3) (L' := [some (.ref 160), some (.int v1)]) (st' := [.int (20 : Int32), .ref 160]) [.aload_n 0, .bipush 20] (by decide +kernel) rfl rfl ?_
  refine wx_callV (d1 := 0) (As := [.int (20 : Int32)]) (rest := []) (by omega) is_160 (by decide) rfl cv_0_74 rfl (Nat.le_of_ble_eq_true rfl) (l_f0_leave G 0 (by omega) (20 : Int32) μ) rfl (by decide +kernel) (fun μ1 => ?_)
  refine wx_blk (pc' := 7) (L' := [some (.ref 160), some (.int v1)]) (st' := [.ref 160]) [.aload_n 0] (by decide +kernel) rfl rfl ?_
  refine wx_getr is_160 ff_0_15 rfl rf_160_0 (by decide +kernel) ?_
  refine wx_blk (pc' := 11) (L' := [some (.ref 160), some (.int v1)]) (st' := [.int v1, .ref 16]) [.iload_n 1] (by decide +kernel) rfl rfl ?_
  refine wx_callV (d1 := 0) (As := [.int v1]) (rest := []) (by omega) is_16 (by decide) rfl cv_0_94 rfl (Nat.le_of_ble_eq_true rfl) (l_f4_bodiesOf G 0 (by omega) μ1 v1) rfl (by decide +kernel) (fun x2 => ?_)
  exact wx_iret rfl rfl (by decide +kernel)
/-! WakingLayers$Asker.markOfAsked(I)I -/
def f0_markOfAsked_j28 (s0 : Int32) (s1 : Int32) (μ : xMu) : Option (Int32 × xMu) :=
  (some ((s0 + s1), μ))
set_option maxHeartbeats 4000000 in
set_option maxRecDepth 100000 in
theorem l_f0_markOfAsked_j28 (G : xG) (d : Nat) (hd : 2 ≤ d) (s0 : Int32) (s1 : Int32) (μ : xMu) : Wx G m0_markOfAsked d 28 [none, none] [.int s1, .int s0] μ x_wim (f0_markOfAsked_j28 s0 s1 μ) := by
  unfold f0_markOfAsked_j28
  refine wx_blk (pc' := 29) (L' := [none, none]) (st' := [.int (s0 + s1)]) [.iadd] (by decide +kernel) rfl rfl ?_
  exact wx_iret rfl rfl (by decide +kernel)
def f0_markOfAsked (v1 : Int32) (μ : xMu) : Option (Int32 × xMu) :=
  ((f0_leave (21 : Int32) μ).bind fun μ1 =>
((f0_lentMark v1 μ1).bind fun q2 =>
((f2_isFound q2.2 v1).bind fun x3 =>
(if x3 = 0 then
(f0_markOfAsked_j28 q2.1 (0 : Int32) q2.2)
else
(f0_markOfAsked_j28 q2.1 (100 : Int32) q2.2)))))
set_option maxHeartbeats 4000000 in
set_option maxRecDepth 100000 in
theorem l_f0_markOfAsked (G : xG) (d : Nat) (hd : 2 ≤ d) (v1 : Int32) (μ : xMu) : Mx G m0_markOfAsked d [.ref 160, .int v1] μ x_wim (f0_markOfAsked v1 μ) := by
  refine mx_enter ok0_markOfAsked [some (.ref 160), some (.int v1)] rfl (Nat.le_of_ble_eq_true rfl) ?_
  unfold f0_markOfAsked
  refine wx_blk (pc' := 3) (L' := [some (.ref 160), some (.int v1)]) (st' := [.int (21 : Int32), .ref 160]) [.aload_n 0, .bipush 21] (by decide +kernel) rfl rfl ?_
  refine wx_callV (d1 := 0) (As := [.int (21 : Int32)]) (rest := []) (by omega) is_160 (by decide) rfl cv_0_74 rfl (Nat.le_of_ble_eq_true rfl) (l_f0_leave G 0 (by omega) (21 : Int32) μ) rfl (by decide +kernel) (fun μ1 => ?_)
  refine wx_blk (pc' := 8) (L' := [some (.ref 160), some (.int v1)]) (st' := [.int v1, .ref 160]) [.aload_n 0, .iload_n 1] (by decide +kernel) rfl rfl ?_
  refine wx_callV (d1 := 1) (As := [.int v1]) (rest := []) (by omega) is_160 (by decide) rfl cv_0_71 rfl (Nat.le_of_ble_eq_true rfl) (l_f0_lentMark G 1 (by omega) v1 μ1) rfl (by decide +kernel) (fun q2 => ?_)
  refine wx_blk (pc' := 12) (L' := [some (.ref 160), some (.int v1)]) (st' := [.ref 160, .int q2.1]) [.aload_n 0] (by decide +kernel) rfl rfl ?_
  refine wx_getr is_160 ff_0_19 rfl rf_160_1 (by decide +kernel) ?_
  refine wx_blk (pc' := 16) (L' := [some (.ref 160), some (.int v1)]) (st' := [.int v1, .ref 127, .int q2.1]) [.iload_n 1] (by decide +kernel) rfl rfl ?_
  refine wx_callV (d1 := 0) (As := [.int v1]) (rest := [.int q2.1]) (by omega) is_127 (by decide) rfl cv_0_97 rfl (Nat.le_of_ble_eq_true rfl) (l_f2_isFound G 0 (by omega) q2.2 v1) rfl (by decide +kernel) (fun x3 => ?_)
  refine wx_if_eq 27 (off := 8) (by decide +kernel) (by decide) ?_ ?_
  · refine wx_blk (pc' := 28) (L' := [some (.ref 160), some (.int v1)]) (st' := [.int (0 : Int32), .int q2.1]) [.iconst 0] (by decide +kernel) rfl rfl ?_
    refine wx_weak (L' := [none, none]) trivial ?_
    refine l_f0_markOfAsked_j28 G d hd q2.1 (0 : Int32) q2.2
  · refine wx_blk (pc' := 24) (L' := [some (.ref 160), some (.int v1)]) (st' := [.int (100 : Int32), .int q2.1]) [.bipush 100] (by decide +kernel) rfl rfl ?_
    refine wx_goto 28 (off := 4) (by decide +kernel) (by decide) ?_
    refine wx_weak (L' := [none, none]) trivial ?_
    refine l_f0_markOfAsked_j28 G d hd q2.1 (100 : Int32) q2.2
/-! java/lang/Integer.bitCount(I)I -/
def fJ_bitCount (v0 : Int32) : Option Int32 :=
  (some ((((((((v0 - (((Int32.toUInt32 v0 >>> (Int32.toUInt32 (1 : Int32) &&& Int32.toUInt32 31)).toInt32) &&& (1431655765 : Int32))) &&& (858993459 : Int32)) + (((Int32.toUInt32 (v0 - (((Int32.toUInt32 v0 >>> (Int32.toUInt32 (1 : Int32) &&& Int32.toUInt32 31)).toInt32) &&& (1431655765 : Int32))) >>> (Int32.toUInt32 (2 : Int32) &&& Int32.toUInt32 31)).toInt32) &&& (858993459 : Int32))) + ((Int32.toUInt32 (((v0 - (((Int32.toUInt32 v0 >>> (Int32.toUInt32 (1 : Int32) &&& Int32.toUInt32 31)).toInt32) &&& (1431655765 : Int32))) &&& (858993459 : Int32)) + (((Int32.toUInt32 (v0 - (((Int32.toUInt32 v0 >>> (Int32.toUInt32 (1 : Int32) &&& Int32.toUInt32 31)).toInt32) &&& (1431655765 : Int32))) >>> (Int32.toUInt32 (2 : Int32) &&& Int32.toUInt32 31)).toInt32) &&& (858993459 : Int32))) >>> (Int32.toUInt32 (4 : Int32) &&& Int32.toUInt32 31)).toInt32)) &&& (252645135 : Int32)) + ((Int32.toUInt32 (((((v0 - (((Int32.toUInt32 v0 >>> (Int32.toUInt32 (1 : Int32) &&& Int32.toUInt32 31)).toInt32) &&& (1431655765 : Int32))) &&& (858993459 : Int32)) + (((Int32.toUInt32 (v0 - (((Int32.toUInt32 v0 >>> (Int32.toUInt32 (1 : Int32) &&& Int32.toUInt32 31)).toInt32) &&& (1431655765 : Int32))) >>> (Int32.toUInt32 (2 : Int32) &&& Int32.toUInt32 31)).toInt32) &&& (858993459 : Int32))) + ((Int32.toUInt32 (((v0 - (((Int32.toUInt32 v0 >>> (Int32.toUInt32 (1 : Int32) &&& Int32.toUInt32 31)).toInt32) &&& (1431655765 : Int32))) &&& (858993459 : Int32)) + (((Int32.toUInt32 (v0 - (((Int32.toUInt32 v0 >>> (Int32.toUInt32 (1 : Int32) &&& Int32.toUInt32 31)).toInt32) &&& (1431655765 : Int32))) >>> (Int32.toUInt32 (2 : Int32) &&& Int32.toUInt32 31)).toInt32) &&& (858993459 : Int32))) >>> (Int32.toUInt32 (4 : Int32) &&& Int32.toUInt32 31)).toInt32)) &&& (252645135 : Int32)) >>> (Int32.toUInt32 (8 : Int32) &&& Int32.toUInt32 31)).toInt32)) + ((Int32.toUInt32 ((((((v0 - (((Int32.toUInt32 v0 >>> (Int32.toUInt32 (1 : Int32) &&& Int32.toUInt32 31)).toInt32) &&& (1431655765 : Int32))) &&& (858993459 : Int32)) + (((Int32.toUInt32 (v0 - (((Int32.toUInt32 v0 >>> (Int32.toUInt32 (1 : Int32) &&& Int32.toUInt32 31)).toInt32) &&& (1431655765 : Int32))) >>> (Int32.toUInt32 (2 : Int32) &&& Int32.toUInt32 31)).toInt32) &&& (858993459 : Int32))) + ((Int32.toUInt32 (((v0 - (((Int32.toUInt32 v0 >>> (Int32.toUInt32 (1 : Int32) &&& Int32.toUInt32 31)).toInt32) &&& (1431655765 : Int32))) &&& (858993459 : Int32)) + (((Int32.toUInt32 (v0 - (((Int32.toUInt32 v0 >>> (Int32.toUInt32 (1 : Int32) &&& Int32.toUInt32 31)).toInt32) &&& (1431655765 : Int32))) >>> (Int32.toUInt32 (2 : Int32) &&& Int32.toUInt32 31)).toInt32) &&& (858993459 : Int32))) >>> (Int32.toUInt32 (4 : Int32) &&& Int32.toUInt32 31)).toInt32)) &&& (252645135 : Int32)) + ((Int32.toUInt32 (((((v0 - (((Int32.toUInt32 v0 >>> (Int32.toUInt32 (1 : Int32) &&& Int32.toUInt32 31)).toInt32) &&& (1431655765 : Int32))) &&& (858993459 : Int32)) + (((Int32.toUInt32 (v0 - (((Int32.toUInt32 v0 >>> (Int32.toUInt32 (1 : Int32) &&& Int32.toUInt32 31)).toInt32) &&& (1431655765 : Int32))) >>> (Int32.toUInt32 (2 : Int32) &&& Int32.toUInt32 31)).toInt32) &&& (858993459 : Int32))) + ((Int32.toUInt32 (((v0 - (((Int32.toUInt32 v0 >>> (Int32.toUInt32 (1 : Int32) &&& Int32.toUInt32 31)).toInt32) &&& (1431655765 : Int32))) &&& (858993459 : Int32)) + (((Int32.toUInt32 (v0 - (((Int32.toUInt32 v0 >>> (Int32.toUInt32 (1 : Int32) &&& Int32.toUInt32 31)).toInt32) &&& (1431655765 : Int32))) >>> (Int32.toUInt32 (2 : Int32) &&& Int32.toUInt32 31)).toInt32) &&& (858993459 : Int32))) >>> (Int32.toUInt32 (4 : Int32) &&& Int32.toUInt32 31)).toInt32)) &&& (252645135 : Int32)) >>> (Int32.toUInt32 (8 : Int32) &&& Int32.toUInt32 31)).toInt32)) >>> (Int32.toUInt32 (16 : Int32) &&& Int32.toUInt32 31)).toInt32)) &&& (63 : Int32)))
set_option maxHeartbeats 4000000 in
set_option maxRecDepth 100000 in
theorem l_fJ_bitCount (G : xG) (d : Nat) (hd : 0 ≤ d) (μ : xMu) (v0 : Int32) : Mx G mJ_bitCount d [.int v0] μ (x_wi μ) (fJ_bitCount v0) := by
  refine mx_enter okJ_bitCount [some (.int v0)] rfl (Nat.le_of_ble_eq_true rfl) ?_
  unfold fJ_bitCount
  refine wx_blk (pc' := 4) (L' := [some (.int v0)]) (st' := [.int ((Int32.toUInt32 v0 >>> (Int32.toUInt32 (1 : Int32) &&& Int32.toUInt32 31)).toInt32), .int v0]) [.iload_n 0, .iload_n 0, .iconst 1, .iushr] (by decide +kernel) rfl rfl ?_
  refine wx_ldcw (v := 1431655765) xw_1128 (by decide +kernel) ?_
  refine wx_blk (pc' := 11) (L' := [some (.int (v0 - (((Int32.toUInt32 v0 >>> (Int32.toUInt32 (1 : Int32) &&& Int32.toUInt32 31)).toInt32) &&& (1431655765 : Int32))))]) (st' := [.int (v0 - (((Int32.toUInt32 v0 >>> (Int32.toUInt32 (1 : Int32) &&& Int32.toUInt32 31)).toInt32) &&& (1431655765 : Int32)))]) [.iand, .isub, .istore_n 0, .iload_n 0] (by decide +kernel) rfl rfl ?_
  refine wx_ldcw (v := 858993459) xw_1129 (by decide +kernel) ?_
  refine wx_blk (pc' := 18) (L' := [some (.int (v0 - (((Int32.toUInt32 v0 >>> (Int32.toUInt32 (1 : Int32) &&& Int32.toUInt32 31)).toInt32) &&& (1431655765 : Int32))))]) (st' := [.int ((Int32.toUInt32 (v0 - (((Int32.toUInt32 v0 >>> (Int32.toUInt32 (1 : Int32) &&& Int32.toUInt32 31)).toInt32) &&& (1431655765 : Int32))) >>> (Int32.toUInt32 (2 : Int32) &&& Int32.toUInt32 31)).toInt32), .int ((v0 - (((Int32.toUInt32 v0 >>> (Int32.toUInt32 (1 : Int32) &&& Int32.toUInt32 31)).toInt32) &&& (1431655765 : Int32))) &&& (858993459 : Int32))]) [.iand, .iload_n 0, .iconst 2, .iushr] (by decide +kernel) rfl rfl ?_
  refine wx_ldcw (v := 858993459) xw_1129 (by decide +kernel) ?_
  refine wx_blk (pc' := 29) (L' := [some (.int (((v0 - (((Int32.toUInt32 v0 >>> (Int32.toUInt32 (1 : Int32) &&& Int32.toUInt32 31)).toInt32) &&& (1431655765 : Int32))) &&& (858993459 : Int32)) + (((Int32.toUInt32 (v0 - (((Int32.toUInt32 v0 >>> (Int32.toUInt32 (1 : Int32) &&& Int32.toUInt32 31)).toInt32) &&& (1431655765 : Int32))) >>> (Int32.toUInt32 (2 : Int32) &&& Int32.toUInt32 31)).toInt32) &&& (858993459 : Int32))))]) (st' := [.int ((((v0 - (((Int32.toUInt32 v0 >>> (Int32.toUInt32 (1 : Int32) &&& Int32.toUInt32 31)).toInt32) &&& (1431655765 : Int32))) &&& (858993459 : Int32)) + (((Int32.toUInt32 (v0 - (((Int32.toUInt32 v0 >>> (Int32.toUInt32 (1 : Int32) &&& Int32.toUInt32 31)).toInt32) &&& (1431655765 : Int32))) >>> (Int32.toUInt32 (2 : Int32) &&& Int32.toUInt32 31)).toInt32) &&& (858993459 : Int32))) + ((Int32.toUInt32 (((v0 - (((Int32.toUInt32 v0 >>> (Int32.toUInt32 (1 : Int32) &&& Int32.toUInt32 31)).toInt32) &&& (1431655765 : Int32))) &&& (858993459 : Int32)) + (((Int32.toUInt32 (v0 - (((Int32.toUInt32 v0 >>> (Int32.toUInt32 (1 : Int32) &&& Int32.toUInt32 31)).toInt32) &&& (1431655765 : Int32))) >>> (Int32.toUInt32 (2 : Int32) &&& Int32.toUInt32 31)).toInt32) &&& (858993459 : Int32))) >>> (Int32.toUInt32 (4 : Int32) &&& Int32.toUInt32 31)).toInt32))]) [.iand, .iadd, .istore_n 0, .iload_n 0, .iload_n 0, .iconst 4, .iushr, .iadd] (by decide +kernel) rfl rfl ?_
  refine wx_ldcw (v := 252645135) xw_1130 (by decide +kernel) ?_
  refine wx_blk (pc' := 52) (L' := [some (.int (((((((v0 - (((Int32.toUInt32 v0 >>> (Int32.toUInt32 (1 : Int32) &&& Int32.toUInt32 31)).toInt32) &&& (1431655765 : Int32))) &&& (858993459 : Int32)) + (((Int32.toUInt32 (v0 - (((Int32.toUInt32 v0 >>> (Int32.toUInt32 (1 : Int32) &&& Int32.toUInt32 31)).toInt32) &&& (1431655765 : Int32))) >>> (Int32.toUInt32 (2 : Int32) &&& Int32.toUInt32 31)).toInt32) &&& (858993459 : Int32))) + ((Int32.toUInt32 (((v0 - (((Int32.toUInt32 v0 >>> (Int32.toUInt32 (1 : Int32) &&& Int32.toUInt32 31)).toInt32) &&& (1431655765 : Int32))) &&& (858993459 : Int32)) + (((Int32.toUInt32 (v0 - (((Int32.toUInt32 v0 >>> (Int32.toUInt32 (1 : Int32) &&& Int32.toUInt32 31)).toInt32) &&& (1431655765 : Int32))) >>> (Int32.toUInt32 (2 : Int32) &&& Int32.toUInt32 31)).toInt32) &&& (858993459 : Int32))) >>> (Int32.toUInt32 (4 : Int32) &&& Int32.toUInt32 31)).toInt32)) &&& (252645135 : Int32)) + ((Int32.toUInt32 (((((v0 - (((Int32.toUInt32 v0 >>> (Int32.toUInt32 (1 : Int32) &&& Int32.toUInt32 31)).toInt32) &&& (1431655765 : Int32))) &&& (858993459 : Int32)) + (((Int32.toUInt32 (v0 - (((Int32.toUInt32 v0 >>> (Int32.toUInt32 (1 : Int32) &&& Int32.toUInt32 31)).toInt32) &&& (1431655765 : Int32))) >>> (Int32.toUInt32 (2 : Int32) &&& Int32.toUInt32 31)).toInt32) &&& (858993459 : Int32))) + ((Int32.toUInt32 (((v0 - (((Int32.toUInt32 v0 >>> (Int32.toUInt32 (1 : Int32) &&& Int32.toUInt32 31)).toInt32) &&& (1431655765 : Int32))) &&& (858993459 : Int32)) + (((Int32.toUInt32 (v0 - (((Int32.toUInt32 v0 >>> (Int32.toUInt32 (1 : Int32) &&& Int32.toUInt32 31)).toInt32) &&& (1431655765 : Int32))) >>> (Int32.toUInt32 (2 : Int32) &&& Int32.toUInt32 31)).toInt32) &&& (858993459 : Int32))) >>> (Int32.toUInt32 (4 : Int32) &&& Int32.toUInt32 31)).toInt32)) &&& (252645135 : Int32)) >>> (Int32.toUInt32 (8 : Int32) &&& Int32.toUInt32 31)).toInt32)) + ((Int32.toUInt32 ((((((v0 - (((Int32.toUInt32 v0 >>> (Int32.toUInt32 (1 : Int32) &&& Int32.toUInt32 31)).toInt32) &&& (1431655765 : Int32))) &&& (858993459 : Int32)) + (((Int32.toUInt32 (v0 - (((Int32.toUInt32 v0 >>> (Int32.toUInt32 (1 : Int32) &&& Int32.toUInt32 31)).toInt32) &&& (1431655765 : Int32))) >>> (Int32.toUInt32 (2 : Int32) &&& Int32.toUInt32 31)).toInt32) &&& (858993459 : Int32))) + ((Int32.toUInt32 (((v0 - (((Int32.toUInt32 v0 >>> (Int32.toUInt32 (1 : Int32) &&& Int32.toUInt32 31)).toInt32) &&& (1431655765 : Int32))) &&& (858993459 : Int32)) + (((Int32.toUInt32 (v0 - (((Int32.toUInt32 v0 >>> (Int32.toUInt32 (1 : Int32) &&& Int32.toUInt32 31)).toInt32) &&& (1431655765 : Int32))) >>> (Int32.toUInt32 (2 : Int32) &&& Int32.toUInt32 31)).toInt32) &&& (858993459 : Int32))) >>> (Int32.toUInt32 (4 : Int32) &&& Int32.toUInt32 31)).toInt32)) &&& (252645135 : Int32)) + ((Int32.toUInt32 (((((v0 - (((Int32.toUInt32 v0 >>> (Int32.toUInt32 (1 : Int32) &&& Int32.toUInt32 31)).toInt32) &&& (1431655765 : Int32))) &&& (858993459 : Int32)) + (((Int32.toUInt32 (v0 - (((Int32.toUInt32 v0 >>> (Int32.toUInt32 (1 : Int32) &&& Int32.toUInt32 31)).toInt32) &&& (1431655765 : Int32))) >>> (Int32.toUInt32 (2 : Int32) &&& Int32.toUInt32 31)).toInt32) &&& (858993459 : Int32))) + ((Int32.toUInt32 (((v0 - (((Int32.toUInt32 v0 >>> (Int32.toUInt32 (1 : Int32) &&& Int32.toUInt32 31)).toInt32) &&& (1431655765 : Int32))) &&& (858993459 : Int32)) + (((Int32.toUInt32 (v0 - (((Int32.toUInt32 v0 >>> (Int32.toUInt32 (1 : Int32) &&& Int32.toUInt32 31)).toInt32) &&& (1431655765 : Int32))) >>> (Int32.toUInt32 (2 : Int32) &&& Int32.toUInt32 31)).toInt32) &&& (858993459 : Int32))) >>> (Int32.toUInt32 (4 : Int32) &&& Int32.toUInt32 31)).toInt32)) &&& (252645135 : Int32)) >>> (Int32.toUInt32 (8 : Int32) &&& Int32.toUInt32 31)).toInt32)) >>> (Int32.toUInt32 (16 : Int32) &&& Int32.toUInt32 31)).toInt32)))]) (st' := [.int ((((((((v0 - (((Int32.toUInt32 v0 >>> (Int32.toUInt32 (1 : Int32) &&& Int32.toUInt32 31)).toInt32) &&& (1431655765 : Int32))) &&& (858993459 : Int32)) + (((Int32.toUInt32 (v0 - (((Int32.toUInt32 v0 >>> (Int32.toUInt32 (1 : Int32) &&& Int32.toUInt32 31)).toInt32) &&& (1431655765 : Int32))) >>> (Int32.toUInt32 (2 : Int32) &&& Int32.toUInt32 31)).toInt32) &&& (858993459 : Int32))) + ((Int32.toUInt32 (((v0 - (((Int32.toUInt32 v0 >>> (Int32.toUInt32 (1 : Int32) &&& Int32.toUInt32 31)).toInt32) &&& (1431655765 : Int32))) &&& (858993459 : Int32)) + (((Int32.toUInt32 (v0 - (((Int32.toUInt32 v0 >>> (Int32.toUInt32 (1 : Int32) &&& Int32.toUInt32 31)).toInt32) &&& (1431655765 : Int32))) >>> (Int32.toUInt32 (2 : Int32) &&& Int32.toUInt32 31)).toInt32) &&& (858993459 : Int32))) >>> (Int32.toUInt32 (4 : Int32) &&& Int32.toUInt32 31)).toInt32)) &&& (252645135 : Int32)) + ((Int32.toUInt32 (((((v0 - (((Int32.toUInt32 v0 >>> (Int32.toUInt32 (1 : Int32) &&& Int32.toUInt32 31)).toInt32) &&& (1431655765 : Int32))) &&& (858993459 : Int32)) + (((Int32.toUInt32 (v0 - (((Int32.toUInt32 v0 >>> (Int32.toUInt32 (1 : Int32) &&& Int32.toUInt32 31)).toInt32) &&& (1431655765 : Int32))) >>> (Int32.toUInt32 (2 : Int32) &&& Int32.toUInt32 31)).toInt32) &&& (858993459 : Int32))) + ((Int32.toUInt32 (((v0 - (((Int32.toUInt32 v0 >>> (Int32.toUInt32 (1 : Int32) &&& Int32.toUInt32 31)).toInt32) &&& (1431655765 : Int32))) &&& (858993459 : Int32)) + (((Int32.toUInt32 (v0 - (((Int32.toUInt32 v0 >>> (Int32.toUInt32 (1 : Int32) &&& Int32.toUInt32 31)).toInt32) &&& (1431655765 : Int32))) >>> (Int32.toUInt32 (2 : Int32) &&& Int32.toUInt32 31)).toInt32) &&& (858993459 : Int32))) >>> (Int32.toUInt32 (4 : Int32) &&& Int32.toUInt32 31)).toInt32)) &&& (252645135 : Int32)) >>> (Int32.toUInt32 (8 : Int32) &&& Int32.toUInt32 31)).toInt32)) + ((Int32.toUInt32 ((((((v0 - (((Int32.toUInt32 v0 >>> (Int32.toUInt32 (1 : Int32) &&& Int32.toUInt32 31)).toInt32) &&& (1431655765 : Int32))) &&& (858993459 : Int32)) + (((Int32.toUInt32 (v0 - (((Int32.toUInt32 v0 >>> (Int32.toUInt32 (1 : Int32) &&& Int32.toUInt32 31)).toInt32) &&& (1431655765 : Int32))) >>> (Int32.toUInt32 (2 : Int32) &&& Int32.toUInt32 31)).toInt32) &&& (858993459 : Int32))) + ((Int32.toUInt32 (((v0 - (((Int32.toUInt32 v0 >>> (Int32.toUInt32 (1 : Int32) &&& Int32.toUInt32 31)).toInt32) &&& (1431655765 : Int32))) &&& (858993459 : Int32)) + (((Int32.toUInt32 (v0 - (((Int32.toUInt32 v0 >>> (Int32.toUInt32 (1 : Int32) &&& Int32.toUInt32 31)).toInt32) &&& (1431655765 : Int32))) >>> (Int32.toUInt32 (2 : Int32) &&& Int32.toUInt32 31)).toInt32) &&& (858993459 : Int32))) >>> (Int32.toUInt32 (4 : Int32) &&& Int32.toUInt32 31)).toInt32)) &&& (252645135 : Int32)) + ((Int32.toUInt32 (((((v0 - (((Int32.toUInt32 v0 >>> (Int32.toUInt32 (1 : Int32) &&& Int32.toUInt32 31)).toInt32) &&& (1431655765 : Int32))) &&& (858993459 : Int32)) + (((Int32.toUInt32 (v0 - (((Int32.toUInt32 v0 >>> (Int32.toUInt32 (1 : Int32) &&& Int32.toUInt32 31)).toInt32) &&& (1431655765 : Int32))) >>> (Int32.toUInt32 (2 : Int32) &&& Int32.toUInt32 31)).toInt32) &&& (858993459 : Int32))) + ((Int32.toUInt32 (((v0 - (((Int32.toUInt32 v0 >>> (Int32.toUInt32 (1 : Int32) &&& Int32.toUInt32 31)).toInt32) &&& (1431655765 : Int32))) &&& (858993459 : Int32)) + (((Int32.toUInt32 (v0 - (((Int32.toUInt32 v0 >>> (Int32.toUInt32 (1 : Int32) &&& Int32.toUInt32 31)).toInt32) &&& (1431655765 : Int32))) >>> (Int32.toUInt32 (2 : Int32) &&& Int32.toUInt32 31)).toInt32) &&& (858993459 : Int32))) >>> (Int32.toUInt32 (4 : Int32) &&& Int32.toUInt32 31)).toInt32)) &&& (252645135 : Int32)) >>> (Int32.toUInt32 (8 : Int32) &&& Int32.toUInt32 31)).toInt32)) >>> (Int32.toUInt32 (16 : Int32) &&& Int32.toUInt32 31)).toInt32)) &&& (63 : Int32))]) [.iand, .istore_n 0, .iload_n 0, .iload_n 0, .bipush 8, .iushr, .iadd, .istore_n 0, .iload_n 0, .iload_n 0, .bipush 16, .iushr, .iadd, .istore_n 0, .iload_n 0, .bipush 63, .iand] (by decide +kernel) rfl rfl ?_
  exact wx_iret rfl rfl (by decide +kernel)
/-! WakingLayers$Asker.markOfEver(I)I -/
def f0_markOfEver (rf : Int32 → xMu → Option (Int32 × xMu)) (v1 : Int32) (μ : xMu) : Option (Int32 × xMu) :=
  ((f0_leave (22 : Int32) μ).bind fun μ1 =>
((f0_lentMark v1 μ1).bind fun q2 =>
((rf v1 q2.2).bind fun q3 =>
(some ((q2.1 + q3.1), q3.2)))))
set_option maxHeartbeats 4000000 in
set_option maxRecDepth 100000 in
theorem l_f0_markOfEver (G : xG) (d : Nat) (dr : Nat) (rf : Int32 → xMu → Option (Int32 × xMu)) (hrf : ∀ (v1 : Int32) (μ : xMu), Mx G m0_sizeOf dr [.ref 160, .int v1] μ x_wim (rf v1 μ)) (hd : dr + 2 ≤ d) (v1 : Int32) (μ : xMu) : Mx G m0_markOfEver d [.ref 160, .int v1] μ x_wim (f0_markOfEver rf v1 μ) := by
  refine mx_enter ok0_markOfEver [some (.ref 160), some (.int v1)] rfl (Nat.le_of_ble_eq_true rfl) ?_
  unfold f0_markOfEver
  refine wx_blk (pc' := 3) (L' := [some (.ref 160), some (.int v1)]) (st' := [.int (22 : Int32), .ref 160]) [.aload_n 0, .bipush 22] (by decide +kernel) rfl rfl ?_
  refine wx_callV (d1 := 0) (As := [.int (22 : Int32)]) (rest := []) (by omega) is_160 (by decide) rfl cv_0_74 rfl (Nat.le_of_ble_eq_true rfl) (l_f0_leave G 0 (by omega) (22 : Int32) μ) rfl (by decide +kernel) (fun μ1 => ?_)
  refine wx_blk (pc' := 8) (L' := [some (.ref 160), some (.int v1)]) (st' := [.int v1, .ref 160]) [.aload_n 0, .iload_n 1] (by decide +kernel) rfl rfl ?_
  refine wx_callV (d1 := 1) (As := [.int v1]) (rest := []) (by omega) is_160 (by decide) rfl cv_0_71 rfl (Nat.le_of_ble_eq_true rfl) (l_f0_lentMark G 1 (by omega) v1 μ1) rfl (by decide +kernel) (fun q2 => ?_)
  refine wx_blk (pc' := 13) (L' := [some (.ref 160), some (.int v1)]) (st' := [.int v1, .ref 160, .int q2.1]) [.aload_n 0, .iload_n 1] (by decide +kernel) rfl rfl ?_
  refine wx_callV (d1 := dr) (As := [.int v1]) (rest := [.int q2.1]) (by omega) is_160 (by decide) rfl cv_0_101 rfl (Nat.le_of_ble_eq_true rfl) (hrf v1 q2.2) rfl (by decide +kernel) (fun q3 => ?_)
  refine wx_blk (pc' := 17) (L' := [some (.ref 160), some (.int v1)]) (st' := [.int (q2.1 + q3.1)]) [.iadd] (by decide +kernel) rfl rfl ?_
  exact wx_iret rfl rfl (by decide +kernel)
/-! WakingLayers$Asker.markOf(I)I -/
def f0_markOf (rf : Int32 → xMu → Option (Int32 × xMu)) (v1 : Int32) (μ : xMu) : Option (Int32 × xMu) :=
  (x_rld 20 8 v1 fun r1 =>
((f0_kindOf μ r1).bind fun x2 =>
(x_sw x2 (nI 3) [
((f0_markOfAsked v1 μ).bind fun q3 =>
(some (q3.1, q3.2))),
((f0_markOfAsked v1 μ).bind fun q4 =>
(some (q4.1, q4.2))),
((f0_markOfEver rf v1 μ).bind fun q5 =>
(some (q5.1, q5.2)))] 
((f0_lentMark v1 μ).bind fun q6 =>
(some (q6.1, q6.2))))))
set_option maxHeartbeats 4000000 in
set_option maxRecDepth 100000 in
theorem l_f0_markOf (G : xG) (d : Nat) (dr : Nat) (rf : Int32 → xMu → Option (Int32 × xMu)) (hrf : ∀ (v1 : Int32) (μ : xMu), Mx G m0_sizeOf dr [.ref 160, .int v1] μ x_wim (rf v1 μ)) (hd : dr + 3 ≤ d) (v1 : Int32) (μ : xMu) : Mx G m0_markOf d [.ref 160, .int v1] μ x_wim (f0_markOf rf v1 μ) := by
  refine mx_enter ok0_markOf [some (.ref 160), some (.int v1)] rfl (Nat.le_of_ble_eq_true rfl) ?_
  unfold f0_markOf
  refine wx_blk (pc' := 1) (L' := [some (.ref 160), some (.int v1)]) (st' := [.ref 160]) [.aload_n 0] (by decide +kernel) rfl rfl ?_
  refine wx_getr is_160 ff_0_15 rfl rf_160_0 (by decide +kernel) ?_
  refine wx_getr is_16 ff_0_39 rfl rf_16_3 (by decide +kernel) ?_
  refine wx_blk (pc' := 8) (L' := [some (.ref 160), some (.int v1)]) (st' := [.int v1, .ref 20]) [.iload_n 1] (by decide +kernel) rfl rfl ?_
  refine wx_rld is_20 (by decide) sz_20 (by decide +kernel) (fun r1 => ?_)
  refine wx_callS (d1 := 0) (As := [.ref r1]) (rest := []) (by omega) cs_0_45 rfl (Nat.le_of_ble_eq_true rfl) (l_f0_kindOf G 0 (by omega) μ r1) rfl (by decide +kernel) (fun x2 => ?_)
  refine wx_tsw [40, 40, 46] 52 3 (dflt := 40) (lo := 3) (hi := 5) (offs := #[28, 28, 34]) (len := 28) (by decide +kernel) rfl rfl (by decide) rfl rfl ⟨?_, ?_, ?_, trivial⟩ ?_
  · refine wx_blk (pc' := 42) (L' := [some (.ref 160), some (.int v1)]) (st' := [.int v1, .ref 160]) [.aload_n 0, .iload_n 1] (by decide +kernel) rfl rfl ?_
    refine wx_callV (d1 := 2) (As := [.int v1]) (rest := []) (by omega) is_160 (by decide) rfl cv_0_65 rfl (Nat.le_of_ble_eq_true rfl) (l_f0_markOfAsked G 2 (by omega) v1 μ) rfl (by decide +kernel) (fun q3 => ?_)
    exact wx_iret rfl rfl (by decide +kernel)
  · refine wx_blk (pc' := 42) (L' := [some (.ref 160), some (.int v1)]) (st' := [.int v1, .ref 160]) [.aload_n 0, .iload_n 1] (by decide +kernel) rfl rfl ?_
    refine wx_callV (d1 := 2) (As := [.int v1]) (rest := []) (by omega) is_160 (by decide) rfl cv_0_65 rfl (Nat.le_of_ble_eq_true rfl) (l_f0_markOfAsked G 2 (by omega) v1 μ) rfl (by decide +kernel) (fun q4 => ?_)
    exact wx_iret rfl rfl (by decide +kernel)
  · refine wx_blk (pc' := 48) (L' := [some (.ref 160), some (.int v1)]) (st' := [.int v1, .ref 160]) [.aload_n 0, .iload_n 1] (by decide +kernel) rfl rfl ?_
    refine wx_callV (d1 := dr + 2) (As := [.int v1]) (rest := []) (by omega) is_160 (by decide) rfl cv_0_68 rfl (Nat.le_of_ble_eq_true rfl) (l_f0_markOfEver G (dr + 2) dr rf hrf (by omega) v1 μ) rfl (by decide +kernel) (fun q5 => ?_)
    exact wx_iret rfl rfl (by decide +kernel)
  · refine wx_blk (pc' := 54) (L' := [some (.ref 160), some (.int v1)]) (st' := [.int v1, .ref 160]) [.aload_n 0, .iload_n 1] (by decide +kernel) rfl rfl ?_
    refine wx_callV (d1 := 1) (As := [.int v1]) (rest := []) (by omega) is_160 (by decide) rfl cv_0_71 rfl (Nat.le_of_ble_eq_true rfl) (l_f0_lentMark G 1 (by omega) v1 μ) rfl (by decide +kernel) (fun q6 => ?_)
    exact wx_iret rfl rfl (by decide +kernel)
/-! WakingLayers$Asker.sizeOfAsked(I)I -/
def f0_sizeOfAsked (rf : Int32 → xMu → Option (Int32 × xMu)) (v1 : Int32) (μ : xMu) : Option (Int32 × xMu) :=
  ((f0_leave (13 : Int32) μ).bind fun μ1 =>
((f0_lentSize v1 μ1).bind fun q2 =>
((f0_markOf rf v1 q2.2).bind fun q3 =>
(some ((q2.1 + q3.1), q3.2)))))
set_option maxHeartbeats 4000000 in
set_option maxRecDepth 100000 in
theorem l_f0_sizeOfAsked (G : xG) (d : Nat) (dr : Nat) (rf : Int32 → xMu → Option (Int32 × xMu)) (hrf : ∀ (v1 : Int32) (μ : xMu), Mx G m0_sizeOf dr [.ref 160, .int v1] μ x_wim (rf v1 μ)) (hd : dr + 4 ≤ d) (v1 : Int32) (μ : xMu) : Mx G m0_sizeOfAsked d [.ref 160, .int v1] μ x_wim (f0_sizeOfAsked rf v1 μ) := by
  refine mx_enter ok0_sizeOfAsked [some (.ref 160), some (.int v1)] rfl (Nat.le_of_ble_eq_true rfl) ?_
  unfold f0_sizeOfAsked
  refine wx_blk (pc' := 3) (L' := [some (.ref 160), some (.int v1)]) (st' := [.int (13 : Int32), .ref 160]) [.aload_n 0, .bipush 13] (by decide +kernel) rfl rfl ?_
  refine wx_callV (d1 := 0) (As := [.int (13 : Int32)]) (rest := []) (by omega) is_160 (by decide) rfl cv_0_74 rfl (Nat.le_of_ble_eq_true rfl) (l_f0_leave G 0 (by omega) (13 : Int32) μ) rfl (by decide +kernel) (fun μ1 => ?_)
  refine wx_blk (pc' := 8) (L' := [some (.ref 160), some (.int v1)]) (st' := [.int v1, .ref 160]) [.aload_n 0, .iload_n 1] (by decide +kernel) rfl rfl ?_
  refine wx_callV (d1 := 1) (As := [.int v1]) (rest := []) (by omega) is_160 (by decide) rfl cv_0_62 rfl (Nat.le_of_ble_eq_true rfl) (l_f0_lentSize G 1 (by omega) v1 μ1) rfl (by decide +kernel) (fun q2 => ?_)
  refine wx_blk (pc' := 13) (L' := [some (.ref 160), some (.int v1)]) (st' := [.int v1, .ref 160, .int q2.1]) [.aload_n 0, .iload_n 1] (by decide +kernel) rfl rfl ?_
  refine wx_callV (d1 := dr + 3) (As := [.int v1]) (rest := [.int q2.1]) (by omega) is_160 (by decide) rfl cv_0_86 rfl (Nat.le_of_ble_eq_true rfl) (l_f0_markOf G (dr + 3) dr rf hrf (by omega) v1 q2.2) rfl (by decide +kernel) (fun q3 => ?_)
  refine wx_blk (pc' := 17) (L' := [some (.ref 160), some (.int v1)]) (st' := [.int (q2.1 + q3.1)]) [.iadd] (by decide +kernel) rfl rfl ?_
  exact wx_iret rfl rfl (by decide +kernel)
/-! WakingLayers$Asker.sizeOfNeeding(I)I -/
def f0_sizeOfNeeding (rf : Int32 → xMu → Option (Int32 × xMu)) (v1 : Int32) (μ : xMu) : Option (Int32 × xMu) :=
  ((f0_leave (14 : Int32) μ).bind fun μ1 =>
((f0_sizeOfAsked rf v1 μ1).bind fun q2 =>
(x_rld 20 8 v1 fun r3 =>
(x_chk r3 3 ((fJ_bitCount (q2.2 r3 2)).bind fun x5 =>
(some ((q2.1 + x5), q2.2)))))))
set_option maxHeartbeats 4000000 in
set_option maxRecDepth 100000 in
theorem l_f0_sizeOfNeeding (G : xG) (d : Nat) (dr : Nat) (rf : Int32 → xMu → Option (Int32 × xMu)) (hrf : ∀ (v1 : Int32) (μ : xMu), Mx G m0_sizeOf dr [.ref 160, .int v1] μ x_wim (rf v1 μ)) (hd : dr + 5 ≤ d) (v1 : Int32) (μ : xMu) : Mx G m0_sizeOfNeeding d [.ref 160, .int v1] μ x_wim (f0_sizeOfNeeding rf v1 μ) := by
  refine mx_enter ok0_sizeOfNeeding [some (.ref 160), some (.int v1)] rfl (Nat.le_of_ble_eq_true rfl) ?_
  unfold f0_sizeOfNeeding
  refine wx_blk (pc' := 3) (L' := [some (.ref 160), some (.int v1)]) (st' := [.int (14 : Int32), .ref 160]) [.aload_n 0, .bipush 14] (by decide +kernel) rfl rfl ?_
  refine wx_callV (d1 := 0) (As := [.int (14 : Int32)]) (rest := []) (by omega) is_160 (by decide) rfl cv_0_74 rfl (Nat.le_of_ble_eq_true rfl) (l_f0_leave G 0 (by omega) (14 : Int32) μ) rfl (by decide +kernel) (fun μ1 => ?_)
  refine wx_blk (pc' := 8) (L' := [some (.ref 160), some (.int v1)]) (st' := [.int v1, .ref 160]) [.aload_n 0, .iload_n 1] (by decide +kernel) rfl rfl ?_
  refine wx_callV (d1 := dr + 4) (As := [.int v1]) (rest := []) (by omega) is_160 (by decide) rfl cv_0_56 rfl (Nat.le_of_ble_eq_true rfl) (l_f0_sizeOfAsked G (dr + 4) dr rf hrf (by omega) v1 μ1) rfl (by decide +kernel) (fun q2 => ?_)
  refine wx_blk (pc' := 12) (L' := [some (.ref 160), some (.int v1)]) (st' := [.ref 160, .int q2.1]) [.aload_n 0] (by decide +kernel) rfl rfl ?_
  refine wx_getr is_160 ff_0_15 rfl rf_160_0 (by decide +kernel) ?_
  refine wx_getr is_16 ff_0_39 rfl rf_16_3 (by decide +kernel) ?_
  refine wx_blk (pc' := 19) (L' := [some (.ref 160), some (.int v1)]) (st' := [.int v1, .ref 20, .int q2.1]) [.iload_n 1] (by decide +kernel) rfl rfl ?_
  refine wx_rld is_20 (by decide) sz_20 (by decide +kernel) (fun r3 => ?_)
  refine wx_chk (fun hx4 => ?_)
  refine wx_geti hx4 ff_0_29 rfl (by decide +kernel) ?_
  refine wx_callS (d1 := 0) (As := [.int (q2.2 r3 2)]) (rest := [.int q2.1]) (by omega) cs_0_89 rfl (Nat.le_of_ble_eq_true rfl) (l_fJ_bitCount G 0 (by omega) q2.2 (q2.2 r3 2)) rfl (by decide +kernel) (fun x5 => ?_)
  refine wx_blk (pc' := 27) (L' := [some (.ref 160), some (.int v1)]) (st' := [.int (q2.1 + x5)]) [.iadd] (by decide +kernel) rfl rfl ?_
  exact wx_iret rfl rfl (by decide +kernel)
/-! WakingLayers$Asker.sizeOf(I)I -/
def f0_sizeOf_b (rf : Int32 → xMu → Option (Int32 × xMu)) (v1 : Int32) (μ : xMu) : Option (Int32 × xMu) :=
  (x_rld 20 8 v1 fun r1 =>
((f0_kindOf μ r1).bind fun x2 =>
(x_sw x2 (nI 1) [
((f0_sizeOfSpanned v1 μ).bind fun q3 =>
(some (q3.1, q3.2))),
((f0_sizeOfOwned v1 μ).bind fun q4 =>
(some (q4.1, q4.2))),
((f0_sizeOfAsked rf v1 μ).bind fun q5 =>
(some (q5.1, q5.2))),
((f0_sizeOfNeeding rf v1 μ).bind fun q6 =>
(some (q6.1, q6.2)))] 
((f0_lentSize v1 μ).bind fun q7 =>
(some (q7.1, q7.2))))))
set_option maxHeartbeats 4000000 in
set_option maxRecDepth 100000 in
theorem l_f0_sizeOf_b (G : xG) (d : Nat) (dr : Nat) (rf : Int32 → xMu → Option (Int32 × xMu)) (hrf : ∀ (v1 : Int32) (μ : xMu), Mx G m0_sizeOf dr [.ref 160, .int v1] μ x_wim (rf v1 μ)) (hd : dr + 6 ≤ d) (v1 : Int32) (μ : xMu) : Mx G m0_sizeOf d [.ref 160, .int v1] μ x_wim (f0_sizeOf_b rf v1 μ) := by
  refine mx_enter ok0_sizeOf [some (.ref 160), some (.int v1)] rfl (Nat.le_of_ble_eq_true rfl) ?_
  unfold f0_sizeOf_b
  refine wx_blk (pc' := 1) (L' := [some (.ref 160), some (.int v1)]) (st' := [.ref 160]) [.aload_n 0] (by decide +kernel) rfl rfl ?_
  refine wx_getr is_160 ff_0_15 rfl rf_160_0 (by decide +kernel) ?_
  refine wx_getr is_16 ff_0_39 rfl rf_16_3 (by decide +kernel) ?_
  refine wx_blk (pc' := 8) (L' := [some (.ref 160), some (.int v1)]) (st' := [.int v1, .ref 20]) [.iload_n 1] (by decide +kernel) rfl rfl ?_
  refine wx_rld is_20 (by decide) sz_20 (by decide +kernel) (fun r1 => ?_)
  refine wx_callS (d1 := 0) (As := [.ref r1]) (rest := []) (by omega) cs_0_45 rfl (Nat.le_of_ble_eq_true rfl) (l_f0_kindOf G 0 (by omega) μ r1) rfl (by decide +kernel) (fun x2 => ?_)
  refine wx_tsw [44, 50, 56, 62] 68 1 (dflt := 56) (lo := 1) (hi := 4) (offs := #[32, 38, 44, 50]) (len := 32) (by decide +kernel) rfl rfl (by decide) rfl rfl ⟨?_, ?_, ?_, ?_, trivial⟩ ?_
  · refine wx_blk (pc' := 46) (L' := [some (.ref 160), some (.int v1)]) (st' := [.int v1, .ref 160]) [.aload_n 0, .iload_n 1] (by decide +kernel) rfl rfl ?_
    refine wx_callV (d1 := 2) (As := [.int v1]) (rest := []) (by omega) is_160 (by decide) rfl cv_0_49 rfl (Nat.le_of_ble_eq_true rfl) (l_f0_sizeOfSpanned G 2 (by omega) v1 μ) rfl (by decide +kernel) (fun q3 => ?_)
    exact wx_iret rfl rfl (by decide +kernel)
  · refine wx_blk (pc' := 52) (L' := [some (.ref 160), some (.int v1)]) (st' := [.int v1, .ref 160]) [.aload_n 0, .iload_n 1] (by decide +kernel) rfl rfl ?_
    refine wx_callV (d1 := 3) (As := [.int v1]) (rest := []) (by omega) is_160 (by decide) rfl cv_0_53 rfl (Nat.le_of_ble_eq_true rfl) (l_f0_sizeOfOwned G 3 (by omega) v1 μ) rfl (by decide +kernel) (fun q4 => ?_)
    exact wx_iret rfl rfl (by decide +kernel)
  · refine wx_blk (pc' := 58) (L' := [some (.ref 160), some (.int v1)]) (st' := [.int v1, .ref 160]) [.aload_n 0, .iload_n 1] (by decide +kernel) rfl rfl ?_
    refine wx_callV (d1 := dr + 4) (As := [.int v1]) (rest := []) (by omega) is_160 (by decide) rfl cv_0_56 rfl (Nat.le_of_ble_eq_true rfl) (l_f0_sizeOfAsked G (dr + 4) dr rf hrf (by omega) v1 μ) rfl (by decide +kernel) (fun q5 => ?_)
    exact wx_iret rfl rfl (by decide +kernel)
  · refine wx_blk (pc' := 64) (L' := [some (.ref 160), some (.int v1)]) (st' := [.int v1, .ref 160]) [.aload_n 0, .iload_n 1] (by decide +kernel) rfl rfl ?_
    refine wx_callV (d1 := dr + 5) (As := [.int v1]) (rest := []) (by omega) is_160 (by decide) rfl cv_0_59 rfl (Nat.le_of_ble_eq_true rfl) (l_f0_sizeOfNeeding G (dr + 5) dr rf hrf (by omega) v1 μ) rfl (by decide +kernel) (fun q6 => ?_)
    exact wx_iret rfl rfl (by decide +kernel)
  · refine wx_blk (pc' := 70) (L' := [some (.ref 160), some (.int v1)]) (st' := [.int v1, .ref 160]) [.aload_n 0, .iload_n 1] (by decide +kernel) rfl rfl ?_
    refine wx_callV (d1 := 1) (As := [.int v1]) (rest := []) (by omega) is_160 (by decide) rfl cv_0_62 rfl (Nat.le_of_ble_eq_true rfl) (l_f0_lentSize G 1 (by omega) v1 μ) rfl (by decide +kernel) (fun q7 => ?_)
    exact wx_iret rfl rfl (by decide +kernel)
def f0_sizeOf : Nat → Int32 → xMu → Option (Int32 × xMu)
  | 0 => fun _ _ => none
  | n + 1 => f0_sizeOf_b (f0_sizeOf n)
set_option maxHeartbeats 4000000 in
set_option maxRecDepth 100000 in
theorem l_f0_sizeOf (G : xG) : ∀ (n d : Nat), 6 * n ≤ d → ∀ (v1 : Int32) (μ : xMu), Mx G m0_sizeOf d [.ref 160, .int v1] μ x_wim (f0_sizeOf n v1 μ) := by
  intro n
  induction n with
  | zero => intro d hd v1 μ; intro a ha; cases ha
  | succ n ih =>
    intro d hd v1 μ
    exact l_f0_sizeOf_b G d (6 * n) (f0_sizeOf n) (fun v1 μ => ih (6 * n) (Nat.le_refl _) v1 μ) (by omega) v1 μ
/-! WakingLayers.ask(II)I -/
def f11_ask (v1 : Int32) (v2 : Int32) (μ : xMu) : Option (Int32 × xMu) :=
  ((f4_isLayer μ v1).bind fun x1 =>
(if x1 = 0 then
(some ((-1000001 : Int32), μ))
else
((f0_isAsk v2).bind fun x2 =>
(if x2 = 0 then
(some ((-1000001 : Int32), μ))
else
((f0_clearTrace μ).bind fun μ3 =>
(if v2 = 0 then
((f0_sizeOf 4 v1 μ3).bind fun q5 =>
(some (q5.1, q5.2)))
else
((f0_markOf (f0_sizeOf 4) v1 μ3).bind fun q4 =>
(some (q4.1, q4.2)))))))))
set_option maxHeartbeats 4000000 in
set_option maxRecDepth 100000 in
theorem l_f11_ask (G : xG) (d : Nat) (hd : 28 ≤ d) (v1 : Int32) (v2 : Int32) (μ : xMu) : Mx G m11_ask d [.ref 0, .int v1, .int v2] μ x_wim (f11_ask v1 v2 μ) := by
  refine mx_enter ok11_ask [some (.ref 0), some (.int v1), some (.int v2)] rfl (Nat.le_of_ble_eq_true rfl) ?_
  unfold f11_ask
  refine wx_blk (pc' := 1) (L' := [some (.ref 0), some (.int v1), some (.int v2)]) (st' := [.ref 0]) [.aload_n 0] (by decide +kernel) rfl rfl ?_
  refine wx_getr is_0 ff_11_26 rfl rf_0_2 (by decide +kernel) ?_
  refine wx_blk (pc' := 5) (L' := [some (.ref 0), some (.int v1), some (.int v2)]) (st' := [.int v1, .ref 16]) [.iload_n 1] (by decide +kernel) rfl rfl ?_
  refine wx_callV (d1 := 0) (As := [.int v1]) (rest := []) (by omega) is_16 (by decide) rfl cv_11_147 rfl (Nat.le_of_ble_eq_true rfl) (l_f4_isLayer G 0 (by omega) μ v1) rfl (by decide +kernel) (fun x1 => ?_)
  refine wx_if_eq 18 (off := 10) (by decide +kernel) (by decide) ?_ ?_
  · refine wx_ldc (v := -1000001) xw_513 (by decide +kernel) ?_
    exact wx_iret rfl rfl (by decide +kernel)
  · refine wx_blk (pc' := 12) (L' := [some (.ref 0), some (.int v1), some (.int v2)]) (st' := [.int v2]) [.iload_n 2] (by decide +kernel) rfl rfl ?_
    refine wx_callS (d1 := 0) (As := [.int v2]) (rest := []) (by omega) cs_11_247 rfl (Nat.le_of_ble_eq_true rfl) (l_f0_isAsk G 0 (by omega) μ v2) rfl (by decide +kernel) (fun x2 => ?_)
    refine wx_if_ne 21 (off := 6) (by decide +kernel) (by decide) ?_ ?_
    · refine wx_blk (pc' := 22) (L' := [some (.ref 0), some (.int v1), some (.int v2)]) (st' := [.ref 0]) [.aload_n 0] (by decide +kernel) rfl rfl ?_
      refine wx_getr is_0 ff_11_82 rfl rf_0_9 (by decide +kernel) ?_
      refine wx_callV (d1 := 0) (As := []) (rest := []) (by omega) is_160 (by decide) rfl cv_11_250 rfl (Nat.le_of_ble_eq_true rfl) (l_f0_clearTrace G 0 (by omega) μ) rfl (by decide +kernel) (fun μ3 => ?_)
      refine wx_blk (pc' := 29) (L' := [some (.ref 0), some (.int v1), some (.int v2)]) (st' := [.int v2]) [.iload_n 2] (by decide +kernel) rfl rfl ?_
      refine wx_if_ne 43 (off := 14) (by decide +kernel) (by decide) ?_ ?_
      · refine wx_blk (pc' := 44) (L' := [some (.ref 0), some (.int v1), some (.int v2)]) (st' := [.ref 0]) [.aload_n 0] (by decide +kernel) rfl rfl ?_
        refine wx_getr is_0 ff_11_82 rfl rf_0_9 (by decide +kernel) ?_
        refine wx_blk (pc' := 48) (L' := [some (.ref 0), some (.int v1), some (.int v2)]) (st' := [.int v1, .ref 160]) [.iload_n 1] (by decide +kernel) rfl rfl ?_
        refine wx_callV (d1 := 27) (As := [.int v1]) (rest := []) (by omega) is_160 (by decide) rfl cv_11_256 rfl (Nat.le_of_ble_eq_true rfl) (l_f0_markOf G 27 24 (f0_sizeOf 4) (fun v1 μ => l_f0_sizeOf G 4 24 (by omega) v1 μ) (by omega) v1 μ3) rfl (by decide +kernel) (fun q4 => ?_)
        exact wx_iret rfl rfl (by decide +kernel)
      · refine wx_blk (pc' := 33) (L' := [some (.ref 0), some (.int v1), some (.int v2)]) (st' := [.ref 0]) [.aload_n 0] (by decide +kernel) rfl rfl ?_
        refine wx_getr is_0 ff_11_82 rfl rf_0_9 (by decide +kernel) ?_
        refine wx_blk (pc' := 37) (L' := [some (.ref 0), some (.int v1), some (.int v2)]) (st' := [.int v1, .ref 160]) [.iload_n 1] (by decide +kernel) rfl rfl ?_
        refine wx_callV (d1 := 24) (As := [.int v1]) (rest := []) (by omega) is_160 (by decide) rfl cv_11_253 rfl (Nat.le_of_ble_eq_true rfl) (l_f0_sizeOf G 4 24 (by omega) v1 μ3) rfl (by decide +kernel) (fun q5 => ?_)
        refine wx_goto 51 (off := 11) (by decide +kernel) (by decide) ?_
        exact wx_iret rfl rfl (by decide +kernel)
    · refine wx_ldc (v := -1000001) xw_513 (by decide +kernel) ?_
      exact wx_iret rfl rfl (by decide +kernel)
/-! WakingLayers$Asker.tracedAt(I)I -/
def f0_tracedAt (μ : xMu) (v1 : Int32) : Option Int32 :=
  (if v1 < 0 then
(some (-1000000 : Int32))
else
(if (μ 160 3) ≤ v1 then
(some (-1000000 : Int32))
else
(x_ald μ 161 16 v1 fun x1 =>
(some x1))))
set_option maxHeartbeats 4000000 in
set_option maxRecDepth 100000 in
theorem l_f0_tracedAt (G : xG) (d : Nat) (hd : 0 ≤ d) (μ : xMu) (v1 : Int32) : Mx G m0_tracedAt d [.ref 160, .int v1] μ (x_wi μ) (f0_tracedAt μ v1) := by
  refine mx_enter ok0_tracedAt [some (.ref 160), some (.int v1)] rfl (Nat.le_of_ble_eq_true rfl) ?_
  unfold f0_tracedAt
  refine wx_blk (pc' := 1) (L' := [some (.ref 160), some (.int v1)]) (st' := [.int v1]) [.iload_n 1] (by decide +kernel) rfl rfl ?_
  refine wx_if_lt 21 (off := 20) (by decide +kernel) (by decide) ?_ ?_
  · refine wx_ldc (v := -1000000) xw_1140 (by decide +kernel) ?_
    exact wx_iret rfl rfl (by decide +kernel)
  · refine wx_blk (pc' := 6) (L' := [some (.ref 160), some (.int v1)]) (st' := [.ref 160, .int v1]) [.iload_n 1, .aload_n 0] (by decide +kernel) rfl rfl ?_
    refine wx_geti is_160 ff_0_35 rfl (by decide +kernel) ?_
    refine wx_ic_ge 21 (off := 12) (by decide +kernel) (by decide) ?_ ?_
    · refine wx_ldc (v := -1000000) xw_1140 (by decide +kernel) ?_
      exact wx_iret rfl rfl (by decide +kernel)
    · refine wx_blk (pc' := 13) (L' := [some (.ref 160), some (.int v1)]) (st' := [.ref 160]) [.aload_n 0] (by decide +kernel) rfl rfl ?_
      refine wx_getr is_160 ff_0_11 rfl rf_160_2 (by decide +kernel) ?_
      refine wx_blk (pc' := 17) (L' := [some (.ref 160), some (.int v1)]) (st' := [.int v1, .ref 161]) [.iload_n 1] (by decide +kernel) rfl rfl ?_
      refine wx_ald is_161 sz_161 (by decide +kernel) (fun x1 => ?_)
      refine wx_goto 23 (off := 5) (by decide +kernel) (by decide) ?_
      exact wx_iret rfl rfl (by decide +kernel)
/-! WakingLayers.trace(I)I -/
def f11_trace (μ : xMu) (v1 : Int32) : Option Int32 :=
  ((f0_tracedAt μ v1).bind fun x1 =>
(some x1))
set_option maxHeartbeats 4000000 in
set_option maxRecDepth 100000 in
theorem l_f11_trace (G : xG) (d : Nat) (hd : 1 ≤ d) (μ : xMu) (v1 : Int32) : Mx G m11_trace d [.ref 0, .int v1] μ (x_wi μ) (f11_trace μ v1) := by
  refine mx_enter ok11_trace [some (.ref 0), some (.int v1)] rfl (Nat.le_of_ble_eq_true rfl) ?_
  unfold f11_trace
  refine wx_blk (pc' := 1) (L' := [some (.ref 0), some (.int v1)]) (st' := [.ref 0]) [.aload_n 0] (by decide +kernel) rfl rfl ?_
  refine wx_getr is_0 ff_11_82 rfl rf_0_9 (by decide +kernel) ?_
  refine wx_blk (pc' := 5) (L' := [some (.ref 0), some (.int v1)]) (st' := [.int v1, .ref 160]) [.iload_n 1] (by decide +kernel) rfl rfl ?_
  refine wx_callV (d1 := 0) (As := [.int v1]) (rest := []) (by omega) is_160 (by decide) rfl cv_11_259 rfl (Nat.le_of_ble_eq_true rfl) (l_f0_tracedAt G 0 (by omega) μ v1) rfl (by decide +kernel) (fun x1 => ?_)
  exact wx_iret rfl rfl (by decide +kernel)
/-! WakingLayers$Sheets.laidCount()I -/
def f8_laidCount_j22 (μ : xMu) (k4 : Int32 → Int32 → Option Int32) (v1 : Int32) (v2 : Int32) : Option Int32 :=
  (k4 v1 (v2 + (1 : Int32)))
set_option maxHeartbeats 4000000 in
set_option maxRecDepth 100000 in
theorem l_f8_laidCount_j22 (G : xG) (d : Nat) (hd : 0 ≤ d) (μ : xMu) (k4 : Int32 → Int32 → Option Int32) (h4 : ∀ (v1 : Int32) (v2 : Int32), Wx G m8_laidCount d 4 [some (.ref 1), some (.int v1), some (.int v2)] [] μ (x_wi μ) (k4 v1 v2)) (v1 : Int32) (v2 : Int32) : Wx G m8_laidCount d 22 [some (.ref 1), some (.int v1), some (.int v2)] [] μ (x_wi μ) (f8_laidCount_j22 μ k4 v1 v2) := by
  unfold f8_laidCount_j22
  refine wx_blk (pc' := 25) (L' := [some (.ref 1), some (.int v1), some (.int (v2 + (1 : Int32)))]) (st' := []) [.iinc 2 1] (by decide +kernel) rfl rfl ?_
  refine wx_goto 4 (off := -21) (by decide +kernel) (by decide) ?_
  exact h4 v1 (v2 + (1 : Int32))
def f8_laidCount_l4 (μ : xMu) (k28 : Int32 → Option Int32) : Nat → Int32 → Int32 → Option Int32
  | 0, _, _ => none
  | n + 1, v1, v2 =>
  (if (8 : Int32) ≤ v2 then
(k28 v1)
else
(x_ald μ 2 8 v2 fun x1 =>
(if x1 = 0 then
(f8_laidCount_j22 μ (f8_laidCount_l4 μ k28 n) v1 v2)
else
(f8_laidCount_j22 μ (f8_laidCount_l4 μ k28 n) (v1 + (1 : Int32)) v2))))
set_option maxHeartbeats 4000000 in
set_option maxRecDepth 100000 in
theorem l_f8_laidCount_l4 (G : xG) (d : Nat) (hd : 0 ≤ d) (μ : xMu) (k28 : Int32 → Option Int32) (h28 : ∀ (v1 : Int32), Wx G m8_laidCount d 28 [none, some (.int v1), none] [] μ (x_wi μ) (k28 v1)) : ∀ (n : Nat) (v1 : Int32) (v2 : Int32), Wx G m8_laidCount d 4 [some (.ref 1), some (.int v1), some (.int v2)] [] μ (x_wi μ) (f8_laidCount_l4 μ k28 n v1 v2) := by
  intro n
  induction n with
  | zero => intro v1 v2; exact wx_none
  | succ n h4 =>
    intro v1 v2
    unfold f8_laidCount_l4
    refine wx_blk (pc' := 7) (L' := [some (.ref 1), some (.int v1), some (.int v2)]) (st' := [.int (8 : Int32), .int v2]) [.iload_n 2, .bipush 8] (by decide +kernel) rfl rfl ?_
    refine wx_ic_ge 28 (off := 21) (by decide +kernel) (by decide) ?_ ?_
    · refine wx_weak (L' := [none, some (.int v1), none]) ⟨rfl, trivial⟩ ?_
      exact h28 v1
    · refine wx_blk (pc' := 11) (L' := [some (.ref 1), some (.int v1), some (.int v2)]) (st' := [.ref 1]) [.aload_n 0] (by decide +kernel) rfl rfl ?_
      refine wx_getr is_1 ff_8_9 rfl rf_1_0 (by decide +kernel) ?_
      refine wx_blk (pc' := 15) (L' := [some (.ref 1), some (.int v1), some (.int v2)]) (st' := [.int v2, .ref 2]) [.iload_n 2] (by decide +kernel) rfl rfl ?_
      refine wx_zald is_2 sz_2 (by decide +kernel) (fun x1 => ?_)
      refine wx_if_eq 22 (off := 6) (by decide +kernel) (by decide) ?_ ?_
      · refine l_f8_laidCount_j22 G d hd μ _ h4 v1 v2
      · refine wx_blk (pc' := 22) (L' := [some (.ref 1), some (.int (v1 + (1 : Int32))), some (.int v2)]) (st' := []) [.iinc 1 1] (by decide +kernel) rfl rfl ?_
        refine l_f8_laidCount_j22 G d hd μ _ h4 (v1 + (1 : Int32)) v2
def f8_laidCount (μ : xMu) : Option Int32 :=
  (f8_laidCount_l4 μ (fun (y2 : Int32) => (some y2)) 1000 (0 : Int32) (0 : Int32))
set_option maxHeartbeats 4000000 in
set_option maxRecDepth 100000 in
theorem l_f8_laidCount (G : xG) (d : Nat) (hd : 0 ≤ d) (μ : xMu) : Mx G m8_laidCount d [.ref 1] μ (x_wi μ) (f8_laidCount μ) := by
  refine mx_enter ok8_laidCount [some (.ref 1), none, none] rfl (Nat.le_of_ble_eq_true rfl) ?_
  unfold f8_laidCount
  refine wx_blk (pc' := 4) (L' := [some (.ref 1), some (.int (0 : Int32)), some (.int (0 : Int32))]) (st' := []) [.iconst 0, .istore_n 1, .iconst 0, .istore_n 2] (by decide +kernel) rfl rfl ?_
  refine l_f8_laidCount_l4 G d hd μ _ ?_ 1000 (0 : Int32) (0 : Int32)
  · intro y2
    refine wx_blk (pc' := 29) (L' := [none, some (.int y2), none]) (st' := [.int y2]) [.iload_n 1] (by decide +kernel) rfl rfl ?_
    exact wx_iret rfl rfl (by decide +kernel)
/-! WakingLayers$Tape.length()I -/
def f10_length (μ : xMu) : Option Int32 :=
  (some (μ 14 1))
set_option maxHeartbeats 4000000 in
set_option maxRecDepth 100000 in
theorem l_f10_length (G : xG) (d : Nat) (hd : 0 ≤ d) (μ : xMu) : Mx G m10_length d [.ref 14] μ (x_wi μ) (f10_length μ) := by
  refine mx_enter ok10_length [some (.ref 14)] rfl (Nat.le_of_ble_eq_true rfl) ?_
  unfold f10_length
  refine wx_blk (pc' := 1) (L' := [some (.ref 14)]) (st' := [.ref 14]) [.aload_n 0] (by decide +kernel) rfl rfl ?_
  refine wx_geti is_14 ff_10_13 rfl (by decide +kernel) ?_
  exact wx_iret rfl rfl (by decide +kernel)
/-! WakingLayers.count(I)I -/
def f11_count (μ : xMu) (v1 : Int32) : Option Int32 :=
  (x_sw v1 (nI 0) [
((f8_laidCount μ).bind fun x1 =>
(some x1)),
(some (μ 16 5)),
(some (μ 16 6)),
(some (μ 16 7)),
(some (μ 16 8)),
((f2_openCount μ).bind fun x2 =>
(some x2)),
((f2_awakeSet μ).bind fun x3 =>
((fJ_bitCount x3).bind fun x4 =>
(some x4))),
((f10_length μ).bind fun x5 =>
(some x5))] 
(some (-1000001 : Int32)))
set_option maxHeartbeats 4000000 in
set_option maxRecDepth 100000 in
theorem l_f11_count (G : xG) (d : Nat) (hd : 2 ≤ d) (μ : xMu) (v1 : Int32) : Mx G m11_count d [.ref 0, .int v1] μ (x_wi μ) (f11_count μ v1) := by
  refine mx_enter ok11_count [some (.ref 0), some (.int v1)] rfl (Nat.le_of_ble_eq_true rfl) ?_
  unfold f11_count
  refine wx_blk (pc' := 1) (L' := [some (.ref 0), some (.int v1)]) (st' := [.int v1]) [.iload_n 1] (by decide +kernel) rfl rfl ?_
  refine wx_tsw [48, 56, 64, 72, 80, 88, 96, 107] 115 0 (dflt := 114) (lo := 0) (hi := 7) (offs := #[47, 55, 63, 71, 79, 87, 95, 106]) (len := 47) (by decide +kernel) rfl rfl (by decide) rfl rfl ⟨?_, ?_, ?_, ?_, ?_, ?_, ?_, ?_, trivial⟩ ?_
  · refine wx_blk (pc' := 49) (L' := [some (.ref 0), some (.int v1)]) (st' := [.ref 0]) [.aload_n 0] (by decide +kernel) rfl rfl ?_
    refine wx_getr is_0 ff_11_10 rfl rf_0_0 (by decide +kernel) ?_
    refine wx_callV (d1 := 0) (As := []) (rest := []) (by omega) is_1 (by decide) rfl cv_11_262 rfl (Nat.le_of_ble_eq_true rfl) (l_f8_laidCount G 0 (by omega) μ) rfl (by decide +kernel) (fun x1 => ?_)
    exact wx_iret rfl rfl (by decide +kernel)
  · refine wx_blk (pc' := 57) (L' := [some (.ref 0), some (.int v1)]) (st' := [.ref 0]) [.aload_n 0] (by decide +kernel) rfl rfl ?_
    refine wx_getr is_0 ff_11_26 rfl rf_0_2 (by decide +kernel) ?_
    refine wx_geti is_16 ff_11_265 rfl (by decide +kernel) ?_
    exact wx_iret rfl rfl (by decide +kernel)
  · refine wx_blk (pc' := 65) (L' := [some (.ref 0), some (.int v1)]) (st' := [.ref 0]) [.aload_n 0] (by decide +kernel) rfl rfl ?_
    refine wx_getr is_0 ff_11_26 rfl rf_0_2 (by decide +kernel) ?_
    refine wx_geti is_16 ff_11_268 rfl (by decide +kernel) ?_
    exact wx_iret rfl rfl (by decide +kernel)
  · refine wx_blk (pc' := 73) (L' := [some (.ref 0), some (.int v1)]) (st' := [.ref 0]) [.aload_n 0] (by decide +kernel) rfl rfl ?_
    refine wx_getr is_0 ff_11_26 rfl rf_0_2 (by decide +kernel) ?_
    refine wx_geti is_16 ff_11_271 rfl (by decide +kernel) ?_
    exact wx_iret rfl rfl (by decide +kernel)
  · refine wx_blk (pc' := 81) (L' := [some (.ref 0), some (.int v1)]) (st' := [.ref 0]) [.aload_n 0] (by decide +kernel) rfl rfl ?_
    refine wx_getr is_0 ff_11_26 rfl rf_0_2 (by decide +kernel) ?_
    refine wx_geti is_16 ff_11_139 rfl (by decide +kernel) ?_
    exact wx_iret rfl rfl (by decide +kernel)
  · refine wx_blk (pc' := 89) (L' := [some (.ref 0), some (.int v1)]) (st' := [.ref 0]) [.aload_n 0] (by decide +kernel) rfl rfl ?_
    refine wx_getr is_0 ff_11_44 rfl rf_0_4 (by decide +kernel) ?_
    refine wx_callV (d1 := 0) (As := []) (rest := []) (by omega) is_127 (by decide) rfl cv_11_198 rfl (Nat.le_of_ble_eq_true rfl) (l_f2_openCount G 0 (by omega) μ) rfl (by decide +kernel) (fun x2 => ?_)
    exact wx_iret rfl rfl (by decide +kernel)
  · refine wx_blk (pc' := 97) (L' := [some (.ref 0), some (.int v1)]) (st' := [.ref 0]) [.aload_n 0] (by decide +kernel) rfl rfl ?_
    refine wx_getr is_0 ff_11_44 rfl rf_0_4 (by decide +kernel) ?_
    refine wx_callV (d1 := 1) (As := []) (rest := []) (by omega) is_127 (by decide) rfl cv_11_274 rfl (Nat.le_of_ble_eq_true rfl) (l_f2_awakeSet G 1 (by omega) μ) rfl (by decide +kernel) (fun x3 => ?_)
    refine wx_callS (d1 := 0) (As := [.int x3]) (rest := []) (by omega) cs_11_277 rfl (Nat.le_of_ble_eq_true rfl) (l_fJ_bitCount G 0 (by omega) μ x3) rfl (by decide +kernel) (fun x4 => ?_)
    exact wx_iret rfl rfl (by decide +kernel)
  · refine wx_blk (pc' := 108) (L' := [some (.ref 0), some (.int v1)]) (st' := [.ref 0]) [.aload_n 0] (by decide +kernel) rfl rfl ?_
    refine wx_getr is_0 ff_11_19 rfl rf_0_1 (by decide +kernel) ?_
    refine wx_callV (d1 := 0) (As := []) (rest := []) (by omega) is_14 (by decide) rfl cv_11_282 rfl (Nat.le_of_ble_eq_true rfl) (l_f10_length G 0 (by omega) μ) rfl (by decide +kernel) (fun x5 => ?_)
    exact wx_iret rfl rfl (by decide +kernel)
  · refine wx_ldc (v := -1000001) xw_513 (by decide +kernel) ?_
    exact wx_iret rfl rfl (by decide +kernel)
/-! WakingLayers.status()I -/
def f11_status (μ : xMu) : Option Int32 :=
  (some (μ 0 10))
set_option maxHeartbeats 4000000 in
set_option maxRecDepth 100000 in
theorem l_f11_status (G : xG) (d : Nat) (hd : 0 ≤ d) (μ : xMu) : Mx G m11_status d [.ref 0] μ (x_wi μ) (f11_status μ) := by
  refine mx_enter ok11_status [some (.ref 0)] rfl (Nat.le_of_ble_eq_true rfl) ?_
  unfold f11_status
  refine wx_blk (pc' := 1) (L' := [some (.ref 0)]) (st' := [.ref 0]) [.aload_n 0] (by decide +kernel) rfl rfl ?_
  refine wx_geti is_0 ff_11_285 rfl (by decide +kernel) ?_
  exact wx_iret rfl rfl (by decide +kernel)
/-! WakingLayersModel.in(JJJ)Z -/
def f12_in (v0 : Int64) (v2 : Int64) (v4 : Int64) : Option Int32 :=
  (if (lg_cmp v0 v2) < 0 then
(some (0 : Int32))
else
(if 0 < (lg_cmp v0 v4) then
(some (0 : Int32))
else
(some (1 : Int32))))
set_option maxHeartbeats 4000000 in
set_option maxRecDepth 100000 in
theorem l_f12_in (G : xG) (d : Nat) (hd : 0 ≤ d) (μ : xMu) (v0 : Int64) (v2 : Int64) (v4 : Int64) : Mx G m12_in d [.long v0, .long v2, .long v4] μ (x_wi μ) (f12_in v0 v2 v4) := by
  refine mx_enter ok12_in [some (.long v0), none, some (.long v2), none, some (.long v4), none] rfl (Nat.le_of_ble_eq_true rfl) ?_
  unfold f12_in
  refine wx_blk (pc' := 3) (L' := [some (.long v0), none, some (.long v2), none, some (.long v4), none]) (st' := [.int (lg_cmp v0 v2)]) [.lload_n 0, .lload_n 2, .lcmp] (by decide +kernel) rfl rfl ?_
  refine wx_if_lt 17 (off := 14) (by decide +kernel) (by decide) ?_ ?_
  · refine wx_blk (pc' := 18) (L' := [some (.long v0), none, some (.long v2), none, some (.long v4), none]) (st' := [.int (0 : Int32)]) [.iconst 0] (by decide +kernel) rfl rfl ?_
    exact wx_zret rfl rfl (by decide) (by decide +kernel)
  · refine wx_blk (pc' := 10) (L' := [some (.long v0), none, some (.long v2), none, some (.long v4), none]) (st' := [.int (lg_cmp v0 v4)]) [.lload_n 0, .lload 4, .lcmp] (by decide +kernel) rfl rfl ?_
    refine wx_if_gt 17 (off := 7) (by decide +kernel) (by decide) ?_ ?_
    · refine wx_blk (pc' := 18) (L' := [some (.long v0), none, some (.long v2), none, some (.long v4), none]) (st' := [.int (0 : Int32)]) [.iconst 0] (by decide +kernel) rfl rfl ?_
      exact wx_zret rfl rfl (by decide) (by decide +kernel)
    · refine wx_blk (pc' := 14) (L' := [some (.long v0), none, some (.long v2), none, some (.long v4), none]) (st' := [.int (1 : Int32)]) [.iconst 1] (by decide +kernel) rfl rfl ?_
      refine wx_goto 18 (off := 4) (by decide +kernel) (by decide) ?_
      exact wx_zret rfl rfl (by decide) (by decide +kernel)
/-! WakingLayersModel.finding(I)I -/
def f12_finding (v1 : Int32) (μ : xMu) : Option (Int32 × xMu) :=
  (x_put μ 162 1 v1 fun μ1 =>
(some (((-1000010 : Int32) - v1), μ1)))
set_option maxHeartbeats 4000000 in
set_option maxRecDepth 100000 in
theorem l_f12_finding (G : xG) (d : Nat) (hd : 0 ≤ d) (v1 : Int32) (μ : xMu) : Mx G m12_finding d [.ref 162, .int v1] μ x_wim (f12_finding v1 μ) := by
  refine mx_enter ok12_finding [some (.ref 162), some (.int v1)] rfl (Nat.le_of_ble_eq_true rfl) ?_
  unfold f12_finding
  refine wx_blk (pc' := 2) (L' := [some (.ref 162), some (.int v1)]) (st' := [.int v1, .ref 162]) [.aload_n 0, .iload_n 1] (by decide +kernel) rfl rfl ?_
  refine wx_put is_162 ff_12_135 fp_12_1 ⟨rfl, rfl⟩ (by decide +kernel) (fun μ1 => ?_)
  refine wx_ldc (v := -1000010) xw_1399 (by decide +kernel) ?_
  refine wx_blk (pc' := 9) (L' := [some (.ref 162), some (.int v1)]) (st' := [.int ((-1000010 : Int32) - v1)]) [.iload_n 1, .isub] (by decide +kernel) rfl rfl ?_
  exact wx_iret rfl rfl (by decide +kernel)
/-! WakingLayersModel.isSheet(I)Z -/
def f12_isSheet (v0 : Int32) : Option Int32 :=
  ((f12_in (Int32.toInt64 v0) (0 : Int64) (7 : Int64)).bind fun x1 =>
(x_tst (x_zok x1) (some x1)))
set_option maxHeartbeats 4000000 in
set_option maxRecDepth 100000 in
theorem l_f12_isSheet (G : xG) (d : Nat) (hd : 1 ≤ d) (μ : xMu) (v0 : Int32) : Mx G m12_isSheet d [.int v0] μ (x_wi μ) (f12_isSheet v0) := by
  refine mx_enter ok12_isSheet [some (.int v0)] rfl (Nat.le_of_ble_eq_true rfl) ?_
  unfold f12_isSheet
  refine wx_blk (pc' := 3) (L' := [some (.int v0)]) (st' := [.long (0 : Int64), .long (Int32.toInt64 v0)]) [.iload_n 0, .i2l, .lconst 0] (by decide +kernel) rfl rfl ?_
  refine wx_ldc2 (v := 7) xw_1389 (by decide +kernel) ?_
  refine wx_callS (d1 := 0) (As := [.long (Int32.toInt64 v0), .long (0 : Int64), .long (7 : Int64)]) (rest := []) (by omega) cs_12_141 rfl (Nat.le_of_ble_eq_true rfl) (l_f12_in G 0 (by omega) μ (Int32.toInt64 v0) (0 : Int64) (7 : Int64)) rfl (by decide +kernel) (fun x1 => ?_)
  exact wx_tst (fun hx2 => wx_zret rfl rfl hx2 (by decide +kernel))
/-! WakingLayersModel.sheet(III)I -/
def f12_sheet_l65 (k91 : Int32 → xMu → Option (Int32 × xMu)) : Nat → Int32 → Int32 → Int32 → xMu → Option (Int32 × xMu)
  | 0, _, _, _, _ => none
  | n + 1, v1, v3, v4, μ =>
  (if (40 : Int32) ≤ v4 then
(k91 v3 μ)
else
(x_ast μ 165 320 (((40 : Int32) * v1) + v4) (0 : Int32) fun μ7 =>
((f12_sheet_l65 k91 n) v1 v3 (v4 + (1 : Int32)) μ7)))
set_option maxHeartbeats 4000000 in
set_option maxRecDepth 100000 in
theorem l_f12_sheet_l65 (G : xG) (d : Nat) (hd : 2 ≤ d) (k91 : Int32 → xMu → Option (Int32 × xMu)) (h91 : ∀ (v3 : Int32) (μ1 : xMu), Wx G m12_sheet d 91 [none, none, none, some (.int v3), none] [] μ1 x_wim (k91 v3 μ1)) : ∀ (n : Nat) (v1 : Int32) (v3 : Int32) (v4 : Int32) (μ : xMu), Wx G m12_sheet d 65 [some (.ref 162), some (.int v1), none, some (.int v3), some (.int v4)] [] μ x_wim (f12_sheet_l65 k91 n v1 v3 v4 μ) := by
  intro n
  induction n with
  | zero => intro v1 v3 v4 μ; exact wx_none
  | succ n h65 =>
    intro v1 v3 v4 μ
    unfold f12_sheet_l65
    refine wx_blk (pc' := 69) (L' := [some (.ref 162), some (.int v1), none, some (.int v3), some (.int v4)]) (st' := [.int (40 : Int32), .int v4]) [.iload 4, .bipush 40] (by decide +kernel) rfl rfl ?_
    refine wx_ic_ge 91 (off := 22) (by decide +kernel) (by decide) ?_ ?_
    · refine wx_weak (L' := [none, none, none, some (.int v3), none]) ⟨rfl, trivial⟩ ?_
      exact h91 v3 μ
    · refine wx_blk (pc' := 73) (L' := [some (.ref 162), some (.int v1), none, some (.int v3), some (.int v4)]) (st' := [.ref 162]) [.aload_n 0] (by decide +kernel) rfl rfl ?_
      refine wx_getr is_162 ff_12_16 rfl rf_162_4 (by decide +kernel) ?_
      refine wx_blk (pc' := 84) (L' := [some (.ref 162), some (.int v1), none, some (.int v3), some (.int v4)]) (st' := [.int (0 : Int32), .int (((40 : Int32) * v1) + v4), .ref 165]) [.bipush 40, .iload_n 1, .imul, .iload 4, .iadd, .iconst 0] (by decide +kernel) rfl rfl ?_
      refine wx_ast is_165 sz_165 (by decide +kernel) (fun μ7 => ?_)
      refine wx_blk (pc' := 88) (L' := [some (.ref 162), some (.int v1), none, some (.int v3), some (.int (v4 + (1 : Int32)))]) (st' := []) [.iinc 4 1] (by decide +kernel) rfl rfl ?_
      refine wx_goto 65 (off := -23) (by decide +kernel) (by decide) ?_
      exact h65 v1 v3 (v4 + (1 : Int32)) μ7
def f12_sheet (v1 : Int32) (v2 : Int32) (v3 : Int32) (μ : xMu) : Option (Int32 × xMu) :=
  (x_put μ 162 0 (0 : Int32) fun μ1 =>
((f12_isSheet v1).bind fun x2 =>
(if x2 = 0 then
(some ((-1000001 : Int32), μ1))
else
((f12_in (Int32.toInt64 v2) (0 : Int64) (2 : Int64)).bind fun x3 =>
(if x3 = 0 then
(some ((-1000001 : Int32), μ1))
else
(if v3 ≤ (40 : Int32) then
(x_put μ1 162 1 (0 : Int32) fun μ4 =>
(if 0 ≤ v3 then
(x_ast μ4 163 8 v1 v2 fun μ5 =>
(x_ast μ5 164 8 v1 v3 fun μ6 =>
(f12_sheet_l65 (fun (y8 : Int32) (μ9 : xMu) => (some (y8, μ9))) 1000 v1 v3 (0 : Int32) μ6)))
else
((f12_finding (4 : Int32) μ4).bind fun q10 =>
(some (q10.1, q10.2)))))
else
(some ((-1000001 : Int32), μ1))))))))
set_option maxHeartbeats 4000000 in
set_option maxRecDepth 100000 in
theorem l_f12_sheet (G : xG) (d : Nat) (hd : 2 ≤ d) (v1 : Int32) (v2 : Int32) (v3 : Int32) (μ : xMu) : Mx G m12_sheet d [.ref 162, .int v1, .int v2, .int v3] μ x_wim (f12_sheet v1 v2 v3 μ) := by
  refine mx_enter ok12_sheet [some (.ref 162), some (.int v1), some (.int v2), some (.int v3), none] rfl (Nat.le_of_ble_eq_true rfl) ?_
  unfold f12_sheet
  refine wx_blk (pc' := 2) (L' := [some (.ref 162), some (.int v1), some (.int v2), some (.int v3), none]) (st' := [.int (0 : Int32), .ref 162]) [.aload_n 0, .iconst 0] (by decide +kernel) rfl rfl ?_
  refine wx_put is_162 ff_12_131 fp_12_0 ⟨rfl, rfl⟩ (by decide +kernel) (fun μ1 => ?_)
  refine wx_blk (pc' := 6) (L' := [some (.ref 162), some (.int v1), some (.int v2), some (.int v3), none]) (st' := [.int v1]) [.iload_n 1] (by decide +kernel) rfl rfl ?_
  refine wx_callS (d1 := 1) (As := [.int v1]) (rest := []) (by omega) cs_12_145 rfl (Nat.le_of_ble_eq_true rfl) (l_f12_isSheet G 1 (by omega) μ1 v1) rfl (by decide +kernel) (fun x2 => ?_)
  refine wx_if_eq 30 (off := 21) (by decide +kernel) (by decide) ?_ ?_
  · refine wx_ldc (v := -1000001) xw_1394 (by decide +kernel) ?_
    exact wx_iret rfl rfl (by decide +kernel)
  · refine wx_blk (pc' := 15) (L' := [some (.ref 162), some (.int v1), some (.int v2), some (.int v3), none]) (st' := [.long (0 : Int64), .long (Int32.toInt64 v2)]) [.iload_n 2, .i2l, .lconst 0] (by decide +kernel) rfl rfl ?_
    refine wx_ldc2 (v := 2) xw_1393 (by decide +kernel) ?_
    refine wx_callS (d1 := 0) (As := [.long (Int32.toInt64 v2), .long (0 : Int64), .long (2 : Int64)]) (rest := []) (by omega) cs_12_141 rfl (Nat.le_of_ble_eq_true rfl) (l_f12_in G 0 (by omega) μ1 (Int32.toInt64 v2) (0 : Int64) (2 : Int64)) rfl (by decide +kernel) (fun x3 => ?_)
    refine wx_if_eq 30 (off := 9) (by decide +kernel) (by decide) ?_ ?_
    · refine wx_ldc (v := -1000001) xw_1394 (by decide +kernel) ?_
      exact wx_iret rfl rfl (by decide +kernel)
    · refine wx_blk (pc' := 27) (L' := [some (.ref 162), some (.int v1), some (.int v2), some (.int v3), none]) (st' := [.int (40 : Int32), .int v3]) [.iload_n 3, .bipush 40] (by decide +kernel) rfl rfl ?_
      refine wx_ic_le 33 (off := 6) (by decide +kernel) (by decide) ?_ ?_
      · refine wx_blk (pc' := 35) (L' := [some (.ref 162), some (.int v1), some (.int v2), some (.int v3), none]) (st' := [.int (0 : Int32), .ref 162]) [.aload_n 0, .iconst 0] (by decide +kernel) rfl rfl ?_
        refine wx_put is_162 ff_12_135 fp_12_1 ⟨rfl, rfl⟩ (by decide +kernel) (fun μ4 => ?_)
        refine wx_blk (pc' := 39) (L' := [some (.ref 162), some (.int v1), some (.int v2), some (.int v3), none]) (st' := [.int v3]) [.iload_n 3] (by decide +kernel) rfl rfl ?_
        refine wx_if_ge 48 (off := 9) (by decide +kernel) (by decide) ?_ ?_
        · refine wx_blk (pc' := 49) (L' := [some (.ref 162), some (.int v1), some (.int v2), some (.int v3), none]) (st' := [.ref 162]) [.aload_n 0] (by decide +kernel) rfl rfl ?_
          refine wx_getr is_162 ff_12_7 rfl rf_162_2 (by decide +kernel) ?_
          refine wx_blk (pc' := 54) (L' := [some (.ref 162), some (.int v1), some (.int v2), some (.int v3), none]) (st' := [.int v2, .int v1, .ref 163]) [.iload_n 1, .iload_n 2] (by decide +kernel) rfl rfl ?_
          refine wx_ast is_163 sz_163 (by decide +kernel) (fun μ5 => ?_)
          refine wx_blk (pc' := 56) (L' := [some (.ref 162), some (.int v1), some (.int v2), some (.int v3), none]) (st' := [.ref 162]) [.aload_n 0] (by decide +kernel) rfl rfl ?_
          refine wx_getr is_162 ff_12_13 rfl rf_162_3 (by decide +kernel) ?_
          refine wx_blk (pc' := 61) (L' := [some (.ref 162), some (.int v1), some (.int v2), some (.int v3), none]) (st' := [.int v3, .int v1, .ref 164]) [.iload_n 1, .iload_n 3] (by decide +kernel) rfl rfl ?_
          refine wx_ast is_164 sz_164 (by decide +kernel) (fun μ6 => ?_)
          refine wx_blk (pc' := 65) (L' := [some (.ref 162), some (.int v1), some (.int v2), some (.int v3), some (.int (0 : Int32))]) (st' := []) [.iconst 0, .istore 4] (by decide +kernel) rfl rfl ?_
          refine wx_weak (L' := [some (.ref 162), some (.int v1), none, some (.int v3), some (.int (0 : Int32))]) ⟨rfl, ⟨rfl, ⟨rfl, ⟨rfl, trivial⟩⟩⟩⟩ ?_
          refine l_f12_sheet_l65 G d hd _ ?_ 1000 v1 v3 (0 : Int32) μ6
          · intro y8 μ9
            refine wx_blk (pc' := 92) (L' := [none, none, none, some (.int y8), none]) (st' := [.int y8]) [.iload_n 3] (by decide +kernel) rfl rfl ?_
            exact wx_iret rfl rfl (by decide +kernel)
        · refine wx_blk (pc' := 44) (L' := [some (.ref 162), some (.int v1), some (.int v2), some (.int v3), none]) (st' := [.int (4 : Int32), .ref 162]) [.aload_n 0, .iconst 4] (by decide +kernel) rfl rfl ?_
          refine wx_callV (d1 := 0) (As := [.int (4 : Int32)]) (rest := []) (by omega) is_162 (by decide) rfl cv_12_152 rfl (Nat.le_of_ble_eq_true rfl) (l_f12_finding G 0 (by omega) (4 : Int32) μ4) rfl (by decide +kernel) (fun q10 => ?_)
          exact wx_iret rfl rfl (by decide +kernel)
      · refine wx_ldc (v := -1000001) xw_1394 (by decide +kernel) ?_
        exact wx_iret rfl rfl (by decide +kernel)
