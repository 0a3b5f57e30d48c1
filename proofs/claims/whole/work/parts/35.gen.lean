/-! WakingLayersModel.outermost(III)I -/
def f12_outermost_j90 (k47 : xMu → Option (Int32 × xMu)) (μ : xMu) : Option (Int32 × xMu) :=
  (k47 μ)
set_option maxHeartbeats 4000000 in
set_option maxRecDepth 100000 in
theorem l_f12_outermost_j90 (G : xG) (d : Nat) (hd : 7 ≤ d) (k47 : xMu → Option (Int32 × xMu)) (h47 : ∀ (μ1 : xMu), Wx G m12_outermost d 47 [some (.ref 162), none, none, none, none] [] μ1 x_wim (k47 μ1)) (μ : xMu) : Wx G m12_outermost d 90 [some (.ref 162), none, none, none, none] [] μ x_wim (f12_outermost_j90 k47 μ) := by
  unfold f12_outermost_j90
  refine wx_goto 47 (off := -43) (by decide +kernel) (by decide) ?_
  exact h47 μ
def f12_outermost_j79 (k47 : xMu → Option (Int32 × xMu)) (s0 : Int32) (μ : xMu) : Option (Int32 × xMu) :=
  (if s0 = 0 then
(f12_outermost_j90 k47 μ)
else
((f12_doActs μ).bind fun μ11 =>
(f12_outermost_j90 k47 μ11)))
set_option maxHeartbeats 4000000 in
set_option maxRecDepth 100000 in
theorem l_f12_outermost_j79 (G : xG) (d : Nat) (hd : 7 ≤ d) (k47 : xMu → Option (Int32 × xMu)) (h47 : ∀ (μ1 : xMu), Wx G m12_outermost d 47 [some (.ref 162), none, none, none, none] [] μ1 x_wim (k47 μ1)) (s0 : Int32) (μ : xMu) : Wx G m12_outermost d 79 [some (.ref 162), none, none, none, none] [.int s0] μ x_wim (f12_outermost_j79 k47 s0 μ) := by
  unfold f12_outermost_j79
  refine wx_blk (pc' := 83) (L' := [some (.ref 162), none, none, none, some (.int s0)]) (st' := [.int s0]) [.istore 4, .iload 4] (by decide +kernel) rfl rfl ?_
  refine wx_if_eq 90 (off := 7) (by decide +kernel) (by decide) ?_ ?_
  · refine wx_weak (L' := [some (.ref 162), none, none, none, none]) ⟨rfl, trivial⟩ ?_
    refine l_f12_outermost_j90 G d hd _ h47 μ
  · refine wx_blk (pc' := 87) (L' := [some (.ref 162), none, none, none, some (.int s0)]) (st' := [.ref 162]) [.aload_n 0] (by decide +kernel) rfl rfl ?_
    refine wx_callV (d1 := 6) (As := []) (rest := []) (by omega) is_162 (by decide) rfl cv_12_420 rfl (Nat.le_of_ble_eq_true rfl) (l_f12_doActs G 6 (by omega) μ) rfl (by decide +kernel) (fun μ11 => ?_)
    refine wx_weak (L' := [some (.ref 162), none, none, none, none]) ⟨rfl, trivial⟩ ?_
    refine l_f12_outermost_j90 G d hd _ h47 μ11
def f12_outermost_j61 (k47 : xMu → Option (Int32 × xMu)) (μ : xMu) : Option (Int32 × xMu) :=
  (if (μ 162 60) = 0 then
((f12_begin μ).bind fun q10 =>
(f12_outermost_j79 k47 q10.1 q10.2))
else
((f12_comeBack μ).bind fun q12 =>
(f12_outermost_j79 k47 q12.1 q12.2)))
set_option maxHeartbeats 4000000 in
set_option maxRecDepth 100000 in
theorem l_f12_outermost_j61 (G : xG) (d : Nat) (hd : 7 ≤ d) (k47 : xMu → Option (Int32 × xMu)) (h47 : ∀ (μ1 : xMu), Wx G m12_outermost d 47 [some (.ref 162), none, none, none, none] [] μ1 x_wim (k47 μ1)) (μ : xMu) : Wx G m12_outermost d 61 [some (.ref 162), none, none, none, none] [] μ x_wim (f12_outermost_j61 k47 μ) := by
  unfold f12_outermost_j61
  refine wx_blk (pc' := 62) (L' := [some (.ref 162), none, none, none, none]) (st' := [.ref 162]) [.aload_n 0] (by decide +kernel) rfl rfl ?_
  refine wx_geti is_162 ff_12_388 rfl (by decide +kernel) ?_
  refine wx_if_eq 75 (off := 10) (by decide +kernel) (by decide) ?_ ?_
  · refine wx_blk (pc' := 76) (L' := [some (.ref 162), none, none, none, none]) (st' := [.ref 162]) [.aload_n 0] (by decide +kernel) rfl rfl ?_
    refine wx_callV (d1 := 1) (As := []) (rest := []) (by omega) is_162 (by decide) rfl cv_12_417 rfl (Nat.le_of_ble_eq_true rfl) (l_f12_begin G 1 (by omega) μ) rfl (by decide +kernel) (fun q10 => ?_)
    refine l_f12_outermost_j79 G d hd _ h47 q10.1 q10.2
  · refine wx_blk (pc' := 69) (L' := [some (.ref 162), none, none, none, none]) (st' := [.ref 162]) [.aload_n 0] (by decide +kernel) rfl rfl ?_
    refine wx_callV (d1 := 6) (As := []) (rest := []) (by omega) is_162 (by decide) rfl cv_12_413 rfl (Nat.le_of_ble_eq_true rfl) (l_f12_comeBack G 6 (by omega) μ) rfl (by decide +kernel) (fun q12 => ?_)
    refine wx_goto 79 (off := 7) (by decide +kernel) (by decide) ?_
    refine l_f12_outermost_j79 G d hd _ h47 q12.1 q12.2
def f12_outermost_l47 (k93 : xMu → Option (Int32 × xMu)) : Nat → xMu → Option (Int32 × xMu)
  | 0, _ => none
  | n + 1, μ =>
  (if (μ 162 60) = 0 then
(f12_outermost_j61 (f12_outermost_l47 k93 n) μ)
else
(if (μ 162 48) ≤ 0 then
(k93 μ)
else
(f12_outermost_j61 (f12_outermost_l47 k93 n) μ)))
set_option maxHeartbeats 4000000 in
set_option maxRecDepth 100000 in
theorem l_f12_outermost_l47 (G : xG) (d : Nat) (hd : 7 ≤ d) (k93 : xMu → Option (Int32 × xMu)) (h93 : ∀ (μ1 : xMu), Wx G m12_outermost d 93 [some (.ref 162), none, none, none, none] [] μ1 x_wim (k93 μ1)) : ∀ (n : Nat) (μ : xMu), Wx G m12_outermost d 47 [some (.ref 162), none, none, none, none] [] μ x_wim (f12_outermost_l47 k93 n μ) := by
  intro n
  induction n with
  | zero => intro μ; exact wx_none
  | succ n h47 =>
    intro μ
    unfold f12_outermost_l47
    refine wx_blk (pc' := 48) (L' := [some (.ref 162), none, none, none, none]) (st' := [.ref 162]) [.aload_n 0] (by decide +kernel) rfl rfl ?_
    refine wx_geti is_162 ff_12_388 rfl (by decide +kernel) ?_
    refine wx_if_eq 61 (off := 10) (by decide +kernel) (by decide) ?_ ?_
    · refine l_f12_outermost_j61 G d hd _ h47 μ
    · refine wx_blk (pc' := 55) (L' := [some (.ref 162), none, none, none, none]) (st' := [.ref 162]) [.aload_n 0] (by decide +kernel) rfl rfl ?_
      refine wx_geti is_162 ff_12_378 rfl (by decide +kernel) ?_
      refine wx_if_le 93 (off := 35) (by decide +kernel) (by decide) ?_ ?_
      · exact h93 μ
      · refine l_f12_outermost_j61 G d hd _ h47 μ
def f12_outermost (v1 : Int32) (v2 : Int32) (v3 : Int32) (μ : xMu) : Option (Int32 × xMu) :=
  (x_put μ 162 48 (0 : Int32) fun μ1 =>
(x_put μ1 162 57 (0 : Int32) fun μ2 =>
(x_put μ2 162 59 (0 : Int32) fun μ3 =>
(x_put μ3 162 60 (0 : Int32) fun μ4 =>
(x_put μ4 162 61 (0 : Int32) fun μ5 =>
(x_put μ5 162 62 v3 fun μ6 =>
(x_put μ6 162 63 (1 : Int32) fun μ7 =>
(x_put μ7 162 64 (0 : Int32) fun μ8 =>
((f12_layRow (1 : Int32) v1 v2 μ8).bind fun μ9 =>
(f12_outermost_l47 (fun (μ13 : xMu) => (if (μ13 162 61) = 0 then
(some ((μ13 162 62), μ13))
else
(some ((-1000004 : Int32), μ13)))) 1000 μ9))))))))))
set_option maxHeartbeats 4000000 in
set_option maxRecDepth 100000 in
theorem l_f12_outermost (G : xG) (d : Nat) (hd : 7 ≤ d) (v1 : Int32) (v2 : Int32) (v3 : Int32) (μ : xMu) : Mx G m12_outermost d [.ref 162, .int v1, .int v2, .int v3] μ x_wim (f12_outermost v1 v2 v3 μ) := by
  refine mx_enter ok12_outermost [some (.ref 162), some (.int v1), some (.int v2), some (.int v3), none] rfl (Nat.le_of_ble_eq_true rfl) ?_
  unfold f12_outermost
  refine wx_blk (pc' := 2) (L' := [some (.ref 162), some (.int v1), some (.int v2), some (.int v3), none]) (st' := [.int (0 : Int32), .ref 162]) [.aload_n 0, .iconst 0] (by decide +kernel) rfl rfl ?_
  refine wx_put is_162 ff_12_378 fp_12_48 ⟨rfl, rfl⟩ (by decide +kernel) (fun μ1 => ?_)
  refine wx_blk (pc' := 7) (L' := [some (.ref 162), some (.int v1), some (.int v2), some (.int v3), none]) (st' := [.int (0 : Int32), .ref 162]) [.aload_n 0, .iconst 0] (by decide +kernel) rfl rfl ?_
  refine wx_put is_162 ff_12_397 fp_12_57 ⟨rfl, rfl⟩ (by decide +kernel) (fun μ2 => ?_)
  refine wx_blk (pc' := 12) (L' := [some (.ref 162), some (.int v1), some (.int v2), some (.int v3), none]) (st' := [.int (0 : Int32), .ref 162]) [.aload_n 0, .iconst 0] (by decide +kernel) rfl rfl ?_
  refine wx_put is_162 ff_12_400 fp_12_59 ⟨by decide, by decide⟩ (by decide +kernel) (fun μ3 => ?_)
  refine wx_blk (pc' := 17) (L' := [some (.ref 162), some (.int v1), some (.int v2), some (.int v3), none]) (st' := [.int (0 : Int32), .ref 162]) [.aload_n 0, .iconst 0] (by decide +kernel) rfl rfl ?_
  refine wx_put is_162 ff_12_388 fp_12_60 ⟨by decide, by decide⟩ (by decide +kernel) (fun μ4 => ?_)
  refine wx_blk (pc' := 22) (L' := [some (.ref 162), some (.int v1), some (.int v2), some (.int v3), none]) (st' := [.int (0 : Int32), .ref 162]) [.aload_n 0, .iconst 0] (by decide +kernel) rfl rfl ?_
  refine wx_put is_162 ff_12_384 fp_12_61 ⟨by decide, by decide⟩ (by decide +kernel) (fun μ5 => ?_)
  refine wx_blk (pc' := 27) (L' := [some (.ref 162), some (.int v1), some (.int v2), some (.int v3), none]) (st' := [.int v3, .ref 162]) [.aload_n 0, .iload_n 3] (by decide +kernel) rfl rfl ?_
  refine wx_put is_162 ff_12_381 fp_12_62 ⟨rfl, rfl⟩ (by decide +kernel) (fun μ6 => ?_)
  refine wx_blk (pc' := 32) (L' := [some (.ref 162), some (.int v1), some (.int v2), some (.int v3), none]) (st' := [.int (1 : Int32), .ref 162]) [.aload_n 0, .iconst 1] (by decide +kernel) rfl rfl ?_
  refine wx_put is_162 ff_12_391 fp_12_63 ⟨rfl, rfl⟩ (by decide +kernel) (fun μ7 => ?_)
  refine wx_blk (pc' := 37) (L' := [some (.ref 162), some (.int v1), some (.int v2), some (.int v3), none]) (st' := [.int (0 : Int32), .ref 162]) [.aload_n 0, .iconst 0] (by decide +kernel) rfl rfl ?_
  refine wx_put is_162 ff_12_394 fp_12_64 ⟨rfl, rfl⟩ (by decide +kernel) (fun μ8 => ?_)
  refine wx_blk (pc' := 44) (L' := [some (.ref 162), some (.int v1), some (.int v2), some (.int v3), none]) (st' := [.int v2, .int v1, .int (1 : Int32), .ref 162]) [.aload_n 0, .iconst 1, .iload_n 1, .iload_n 2] (by decide +kernel) rfl rfl ?_
  refine wx_callV (d1 := 3) (As := [.int (1 : Int32), .int v1, .int v2]) (rest := []) (by omega) is_162 (by decide) rfl cv_12_374 rfl (Nat.le_of_ble_eq_true rfl) (l_f12_layRow G 3 (by omega) (1 : Int32) v1 v2 μ8) rfl (by decide +kernel) (fun μ9 => ?_)
  refine wx_weak (L' := [some (.ref 162), none, none, none, none]) ⟨rfl, trivial⟩ ?_
  refine l_f12_outermost_l47 G d hd _ ?_ 1000 μ9
  · intro μ13
    refine wx_blk (pc' := 94) (L' := [some (.ref 162), none, none, none, none]) (st' := [.ref 162]) [.aload_n 0] (by decide +kernel) rfl rfl ?_
    refine wx_geti is_162 ff_12_384 rfl (by decide +kernel) ?_
    refine wx_if_eq 106 (off := 9) (by decide +kernel) (by decide) ?_ ?_
    · refine wx_blk (pc' := 107) (L' := [some (.ref 162), none, none, none, none]) (st' := [.ref 162]) [.aload_n 0] (by decide +kernel) rfl rfl ?_
      refine wx_geti is_162 ff_12_381 rfl (by decide +kernel) ?_
      exact wx_iret rfl rfl (by decide +kernel)
    · refine wx_ldcw (v := -1000004) xw_1647 (by decide +kernel) ?_
      refine wx_goto 110 (off := 7) (by decide +kernel) (by decide) ?_
      exact wx_iret rfl rfl (by decide +kernel)
/-! WakingLayersModel.isNumber(I)Z -/
def f12_isNumber (v1 : Int32) : Option Int32 :=
  ((f12_in (Int32.toInt64 v1) (0 : Int64) (1000002 : Int64)).bind fun x1 =>
(x_tst (x_zok x1) (some x1)))
set_option maxHeartbeats 4000000 in
set_option maxRecDepth 100000 in
theorem l_f12_isNumber (G : xG) (d : Nat) (hd : 1 ≤ d) (μ : xMu) (v1 : Int32) : Mx G m12_isNumber d [.ref 162, .int v1] μ (x_wi μ) (f12_isNumber v1) := by
  refine mx_enter ok12_isNumber [some (.ref 162), some (.int v1)] rfl (Nat.le_of_ble_eq_true rfl) ?_
  unfold f12_isNumber
  refine wx_blk (pc' := 3) (L' := [some (.ref 162), some (.int v1)]) (st' := [.long (0 : Int64), .long (Int32.toInt64 v1)]) [.iload_n 1, .i2l, .lconst 0] (by decide +kernel) rfl rfl ?_
  refine wx_ldc2 (v := 1000002) xw_1617 (by decide +kernel) ?_
  refine wx_callS (d1 := 0) (As := [.long (Int32.toInt64 v1), .long (0 : Int64), .long (1000002 : Int64)]) (rest := []) (by omega) cs_12_141 rfl (Nat.le_of_ble_eq_true rfl) (l_f12_in G 0 (by omega) μ (Int32.toInt64 v1) (0 : Int64) (1000002 : Int64)) rfl (by decide +kernel) (fun x1 => ?_)
  exact wx_tst (fun hx2 => wx_zret rfl rfl hx2 (by decide +kernel))
/-! WakingLayersModel.call(III)I -/
def f12_call_l56 (k83 : Int32 → xMu → Option (Int32 × xMu)) : Nat → Int32 → Int32 → xMu → Option (Int32 × xMu)
  | 0, _, _, _ => none
  | n + 1, v4, v5, μ =>
  (if (40 : Int32) ≤ v5 then
(k83 v4 μ)
else
(x_ald μ 198 40 v5 fun x7 =>
(x_ast μ 199 40 v5 x7 fun μ8 =>
((f12_call_l56 k83 n) v4 (v5 + (1 : Int32)) μ8))))
set_option maxHeartbeats 4000000 in
set_option maxRecDepth 100000 in
theorem l_f12_call_l56 (G : xG) (d : Nat) (hd : 8 ≤ d) (k83 : Int32 → xMu → Option (Int32 × xMu)) (h83 : ∀ (v4 : Int32) (μ1 : xMu), Wx G m12_call d 83 [none, none, none, none, some (.int v4), none] [] μ1 x_wim (k83 v4 μ1)) : ∀ (n : Nat) (v4 : Int32) (v5 : Int32) (μ : xMu), Wx G m12_call d 56 [some (.ref 162), none, none, none, some (.int v4), some (.int v5)] [] μ x_wim (f12_call_l56 k83 n v4 v5 μ) := by
  intro n
  induction n with
  | zero => intro v4 v5 μ; exact wx_none
  | succ n h56 =>
    intro v4 v5 μ
    unfold f12_call_l56
    refine wx_blk (pc' := 60) (L' := [some (.ref 162), none, none, none, some (.int v4), some (.int v5)]) (st' := [.int (40 : Int32), .int v5]) [.iload 5, .bipush 40] (by decide +kernel) rfl rfl ?_
    refine wx_ic_ge 83 (off := 23) (by decide +kernel) (by decide) ?_ ?_
    · refine wx_weak (L' := [none, none, none, none, some (.int v4), none]) ⟨rfl, trivial⟩ ?_
      exact h83 v4 μ
    · refine wx_blk (pc' := 64) (L' := [some (.ref 162), none, none, none, some (.int v4), some (.int v5)]) (st' := [.ref 162]) [.aload_n 0] (by decide +kernel) rfl rfl ?_
      refine wx_getr is_162 ff_12_119 rfl rf_162_66 (by decide +kernel) ?_
      refine wx_blk (pc' := 70) (L' := [some (.ref 162), none, none, none, some (.int v4), some (.int v5)]) (st' := [.ref 162, .int v5, .ref 199]) [.iload 5, .aload_n 0] (by decide +kernel) rfl rfl ?_
      refine wx_getr is_162 ff_12_116 rfl rf_162_58 (by decide +kernel) ?_
      refine wx_blk (pc' := 75) (L' := [some (.ref 162), none, none, none, some (.int v4), some (.int v5)]) (st' := [.int v5, .ref 198, .int v5, .ref 199]) [.iload 5] (by decide +kernel) rfl rfl ?_
      refine wx_ald is_198 sz_198 (by decide +kernel) (fun x7 => ?_)
      refine wx_ast is_199 sz_199 (by decide +kernel) (fun μ8 => ?_)
      refine wx_blk (pc' := 80) (L' := [some (.ref 162), none, none, none, some (.int v4), some (.int (v5 + (1 : Int32)))]) (st' := []) [.iinc 5 1] (by decide +kernel) rfl rfl ?_
      refine wx_goto 56 (off := -24) (by decide +kernel) (by decide) ?_
      exact h56 v4 (v5 + (1 : Int32)) μ8
def f12_call (v1 : Int32) (v2 : Int32) (v3 : Int32) (μ : xMu) : Option (Int32 × xMu) :=
  (x_put μ 162 0 (0 : Int32) fun μ1 =>
((f12_isThing μ1 v1).bind fun x2 =>
(if x2 = 0 then
(some ((-1000001 : Int32), μ1))
else
((f12_in (Int32.toInt64 v2) (0 : Int64) (3 : Int64)).bind fun x3 =>
(if x3 = 0 then
(some ((-1000001 : Int32), μ1))
else
((f12_isNumber v3).bind fun x4 =>
(if x4 = 0 then
(some ((-1000001 : Int32), μ1))
else
((f12_outermost v1 v2 v3 μ1).bind fun q5 =>
(x_put q5.2 162 65 (q5.2 162 57) fun μ6 =>
(f12_call_l56 (fun (y9 : Int32) (μ10 : xMu) => (some (y9, μ10))) 1000 q5.1 (0 : Int32) μ6))))))))))
set_option maxHeartbeats 4000000 in
set_option maxRecDepth 100000 in
theorem l_f12_call (G : xG) (d : Nat) (hd : 8 ≤ d) (v1 : Int32) (v2 : Int32) (v3 : Int32) (μ : xMu) : Mx G m12_call d [.ref 162, .int v1, .int v2, .int v3] μ x_wim (f12_call v1 v2 v3 μ) := by
  refine mx_enter ok12_call [some (.ref 162), some (.int v1), some (.int v2), some (.int v3), none, none] rfl (Nat.le_of_ble_eq_true rfl) ?_
  unfold f12_call
  refine wx_blk (pc' := 2) (L' := [some (.ref 162), some (.int v1), some (.int v2), some (.int v3), none, none]) (st' := [.int (0 : Int32), .ref 162]) [.aload_n 0, .iconst 0] (by decide +kernel) rfl rfl ?_
  refine wx_put is_162 ff_12_131 fp_12_0 ⟨rfl, rfl⟩ (by decide +kernel) (fun μ1 => ?_)
  refine wx_blk (pc' := 7) (L' := [some (.ref 162), some (.int v1), some (.int v2), some (.int v3), none, none]) (st' := [.int v1, .ref 162]) [.aload_n 0, .iload_n 1] (by decide +kernel) rfl rfl ?_
  refine wx_callV (d1 := 1) (As := [.int v1]) (rest := []) (by omega) is_162 (by decide) rfl cv_12_351 rfl (Nat.le_of_ble_eq_true rfl) (l_f12_isThing G 1 (by omega) μ1 v1) rfl (by decide +kernel) (fun x2 => ?_)
  refine wx_if_eq 33 (off := 23) (by decide +kernel) (by decide) ?_ ?_
  · refine wx_ldc (v := -1000001) xw_1394 (by decide +kernel) ?_
    exact wx_iret rfl rfl (by decide +kernel)
  · refine wx_blk (pc' := 16) (L' := [some (.ref 162), some (.int v1), some (.int v2), some (.int v3), none, none]) (st' := [.long (0 : Int64), .long (Int32.toInt64 v2)]) [.iload_n 2, .i2l, .lconst 0] (by decide +kernel) rfl rfl ?_
    refine wx_ldc2 (v := 3) xw_1541 (by decide +kernel) ?_
    refine wx_callS (d1 := 0) (As := [.long (Int32.toInt64 v2), .long (0 : Int64), .long (3 : Int64)]) (rest := []) (by omega) cs_12_141 rfl (Nat.le_of_ble_eq_true rfl) (l_f12_in G 0 (by omega) μ1 (Int32.toInt64 v2) (0 : Int64) (3 : Int64)) rfl (by decide +kernel) (fun x3 => ?_)
    refine wx_if_eq 33 (off := 11) (by decide +kernel) (by decide) ?_ ?_
    · refine wx_ldc (v := -1000001) xw_1394 (by decide +kernel) ?_
      exact wx_iret rfl rfl (by decide +kernel)
    · refine wx_blk (pc' := 27) (L' := [some (.ref 162), some (.int v1), some (.int v2), some (.int v3), none, none]) (st' := [.int v3, .ref 162]) [.aload_n 0, .iload_n 3] (by decide +kernel) rfl rfl ?_
      refine wx_callV (d1 := 1) (As := [.int v3]) (rest := []) (by omega) is_162 (by decide) rfl cv_12_426 rfl (Nat.le_of_ble_eq_true rfl) (l_f12_isNumber G 1 (by omega) μ1 v3) rfl (by decide +kernel) (fun x4 => ?_)
      refine wx_if_ne 36 (off := 6) (by decide +kernel) (by decide) ?_ ?_
      · refine wx_blk (pc' := 40) (L' := [some (.ref 162), some (.int v1), some (.int v2), some (.int v3), none, none]) (st' := [.int v3, .int v2, .int v1, .ref 162]) [.aload_n 0, .iload_n 1, .iload_n 2, .iload_n 3] (by decide +kernel) rfl rfl ?_
        refine wx_callV (d1 := 7) (As := [.int v1, .int v2, .int v3]) (rest := []) (by omega) is_162 (by decide) rfl cv_12_429 rfl (Nat.le_of_ble_eq_true rfl) (l_f12_outermost G 7 (by omega) v1 v2 v3 μ1) rfl (by decide +kernel) (fun q5 => ?_)
        refine wx_blk (pc' := 47) (L' := [some (.ref 162), some (.int v1), some (.int v2), some (.int v3), some (.int q5.1), none]) (st' := [.ref 162, .ref 162]) [.istore 4, .aload_n 0, .aload_n 0] (by decide +kernel) rfl rfl ?_
        refine wx_geti is_162 ff_12_397 rfl (by decide +kernel) ?_
        refine wx_put is_162 ff_12_433 fp_12_65 ⟨rfl, rfl⟩ (by decide +kernel) (fun μ6 => ?_)
        refine wx_blk (pc' := 56) (L' := [some (.ref 162), some (.int v1), some (.int v2), some (.int v3), some (.int q5.1), some (.int (0 : Int32))]) (st' := []) [.iconst 0, .istore 5] (by decide +kernel) rfl rfl ?_
        refine wx_weak (L' := [some (.ref 162), none, none, none, some (.int q5.1), some (.int (0 : Int32))]) ⟨rfl, ⟨rfl, ⟨rfl, trivial⟩⟩⟩ ?_
        refine l_f12_call_l56 G d hd _ ?_ 1000 q5.1 (0 : Int32) μ6
        · intro y9 μ10
          refine wx_blk (pc' := 85) (L' := [none, none, none, none, some (.int y9), none]) (st' := [.int y9]) [.iload 4] (by decide +kernel) rfl rfl ?_
          exact wx_iret rfl rfl (by decide +kernel)
      · refine wx_ldc (v := -1000001) xw_1394 (by decide +kernel) ?_
        exact wx_iret rfl rfl (by decide +kernel)
/-! WakingLayersModel.ran(I)I -/
def f12_ran (v1 : Int32) (μ : xMu) : Option (Int32 × xMu) :=
  (x_put μ 162 0 (0 : Int32) fun μ1 =>
(if v1 = (-1 : Int32) then
(some ((μ1 162 65), μ1))
else
((f12_in (Int32.toInt64 v1) (0 : Int64) (39 : Int64)).bind fun x2 =>
(if x2 = 0 then
(some ((-1000000 : Int32), μ1))
else
(if (μ1 162 65) ≤ v1 then
(some ((-1000000 : Int32), μ1))
else
(x_ald μ1 199 40 v1 fun x3 =>
(some (x3, μ1))))))))
set_option maxHeartbeats 4000000 in
set_option maxRecDepth 100000 in
theorem l_f12_ran (G : xG) (d : Nat) (hd : 1 ≤ d) (v1 : Int32) (μ : xMu) : Mx G m12_ran d [.ref 162, .int v1] μ x_wim (f12_ran v1 μ) := by
  refine mx_enter ok12_ran [some (.ref 162), some (.int v1)] rfl (Nat.le_of_ble_eq_true rfl) ?_
  unfold f12_ran
  refine wx_blk (pc' := 2) (L' := [some (.ref 162), some (.int v1)]) (st' := [.int (0 : Int32), .ref 162]) [.aload_n 0, .iconst 0] (by decide +kernel) rfl rfl ?_
  refine wx_put is_162 ff_12_131 fp_12_0 ⟨rfl, rfl⟩ (by decide +kernel) (fun μ1 => ?_)
  refine wx_blk (pc' := 7) (L' := [some (.ref 162), some (.int v1)]) (st' := [.int (-1 : Int32), .int v1]) [.iload_n 1, .iconst (-1)] (by decide +kernel) rfl rfl ?_
  refine wx_ic_ne 17 (off := 10) (by decide +kernel) (by decide) ?_ ?_
  · refine wx_blk (pc' := 20) (L' := [some (.ref 162), some (.int v1)]) (st' := [.long (0 : Int64), .long (Int32.toInt64 v1)]) [.iload_n 1, .i2l, .lconst 0] (by decide +kernel) rfl rfl ?_
    refine wx_ldc2 (v := 39) xw_1652 (by decide +kernel) ?_
    refine wx_callS (d1 := 0) (As := [.long (Int32.toInt64 v1), .long (0 : Int64), .long (39 : Int64)]) (rest := []) (by omega) cs_12_141 rfl (Nat.le_of_ble_eq_true rfl) (l_f12_in G 0 (by omega) μ1 (Int32.toInt64 v1) (0 : Int64) (39 : Int64)) rfl (by decide +kernel) (fun x2 => ?_)
    refine wx_if_eq 46 (off := 20) (by decide +kernel) (by decide) ?_ ?_
    · refine wx_ldc (v := -1000000) xw_1431 (by decide +kernel) ?_
      exact wx_iret rfl rfl (by decide +kernel)
    · refine wx_blk (pc' := 31) (L' := [some (.ref 162), some (.int v1)]) (st' := [.ref 162, .int v1]) [.iload_n 1, .aload_n 0] (by decide +kernel) rfl rfl ?_
      refine wx_geti is_162 ff_12_433 rfl (by decide +kernel) ?_
      refine wx_ic_ge 46 (off := 12) (by decide +kernel) (by decide) ?_ ?_
      · refine wx_ldc (v := -1000000) xw_1431 (by decide +kernel) ?_
        exact wx_iret rfl rfl (by decide +kernel)
      · refine wx_blk (pc' := 38) (L' := [some (.ref 162), some (.int v1)]) (st' := [.ref 162]) [.aload_n 0] (by decide +kernel) rfl rfl ?_
        refine wx_getr is_162 ff_12_119 rfl rf_162_66 (by decide +kernel) ?_
        refine wx_blk (pc' := 42) (L' := [some (.ref 162), some (.int v1)]) (st' := [.int v1, .ref 199]) [.iload_n 1] (by decide +kernel) rfl rfl ?_
        refine wx_ald is_199 sz_199 (by decide +kernel) (fun x3 => ?_)
        refine wx_goto 48 (off := 5) (by decide +kernel) (by decide) ?_
        exact wx_iret rfl rfl (by decide +kernel)
  · refine wx_blk (pc' := 11) (L' := [some (.ref 162), some (.int v1)]) (st' := [.ref 162]) [.aload_n 0] (by decide +kernel) rfl rfl ?_
    refine wx_geti is_162 ff_12_433 rfl (by decide +kernel) ?_
    refine wx_goto 48 (off := 34) (by decide +kernel) (by decide) ?_
    exact wx_iret rfl rfl (by decide +kernel)
/-! WakingLayersModel.keep()V -/
def f12_keep_l10 (k33 : xMu → Option xMu) : Nat → Int32 → xMu → Option xMu
  | 0, _, _ => none
  | n + 1, v1, μ =>
  (if (4 : Int32) ≤ v1 then
(k33 μ)
else
(x_ald μ 184 4 v1 fun x2 =>
(x_ast μ 200 4 v1 x2 fun μ3 =>
((f12_keep_l10 k33 n) (v1 + (1 : Int32)) μ3))))
set_option maxHeartbeats 4000000 in
set_option maxRecDepth 100000 in
theorem l_f12_keep_l10 (G : xG) (d : Nat) (hd : 0 ≤ d) (k33 : xMu → Option xMu) (h33 : ∀ (μ1 : xMu), Wx G m12_keep d 33 [none, none] [] μ1 x_wv (k33 μ1)) : ∀ (n : Nat) (v1 : Int32) (μ : xMu), Wx G m12_keep d 10 [some (.ref 162), some (.int v1)] [] μ x_wv (f12_keep_l10 k33 n v1 μ) := by
  intro n
  induction n with
  | zero => intro v1 μ; exact wx_none
  | succ n h10 =>
    intro v1 μ
    unfold f12_keep_l10
    refine wx_blk (pc' := 12) (L' := [some (.ref 162), some (.int v1)]) (st' := [.int (4 : Int32), .int v1]) [.iload_n 1, .iconst 4] (by decide +kernel) rfl rfl ?_
    refine wx_ic_ge 33 (off := 21) (by decide +kernel) (by decide) ?_ ?_
    · refine wx_weak (L' := [none, none]) trivial ?_
      exact h33 μ
    · refine wx_blk (pc' := 16) (L' := [some (.ref 162), some (.int v1)]) (st' := [.ref 162]) [.aload_n 0] (by decide +kernel) rfl rfl ?_
      refine wx_getr is_162 ff_12_122 rfl rf_162_67 (by decide +kernel) ?_
      refine wx_blk (pc' := 21) (L' := [some (.ref 162), some (.int v1)]) (st' := [.ref 162, .int v1, .ref 200]) [.iload_n 1, .aload_n 0] (by decide +kernel) rfl rfl ?_
      refine wx_getr is_162 ff_12_73 rfl rf_162_40 (by decide +kernel) ?_
      refine wx_blk (pc' := 25) (L' := [some (.ref 162), some (.int v1)]) (st' := [.int v1, .ref 184, .int v1, .ref 200]) [.iload_n 1] (by decide +kernel) rfl rfl ?_
      refine wx_ald is_184 sz_184 (by decide +kernel) (fun x2 => ?_)
      refine wx_ast is_200 sz_200 (by decide +kernel) (fun μ3 => ?_)
      refine wx_blk (pc' := 30) (L' := [some (.ref 162), some (.int (v1 + (1 : Int32)))]) (st' := []) [.iinc 1 1] (by decide +kernel) rfl rfl ?_
      refine wx_goto 10 (off := -20) (by decide +kernel) (by decide) ?_
      exact h10 (v1 + (1 : Int32)) μ3
def f12_keep (μ : xMu) : Option xMu :=
  (x_put μ 162 68 (μ 162 44) fun μ1 =>
(f12_keep_l10 (fun (μ4 : xMu) => (some μ4)) 1000 (0 : Int32) μ1))
set_option maxHeartbeats 4000000 in
set_option maxRecDepth 100000 in
theorem l_f12_keep (G : xG) (d : Nat) (hd : 0 ≤ d) (μ : xMu) : Mx G m12_keep d [.ref 162] μ x_wv (f12_keep μ) := by
  refine mx_enter ok12_keep [some (.ref 162), none] rfl (Nat.le_of_ble_eq_true rfl) ?_
  unfold f12_keep
  refine wx_blk (pc' := 2) (L' := [some (.ref 162), none]) (st' := [.ref 162, .ref 162]) [.aload_n 0, .aload_n 0] (by decide +kernel) rfl rfl ?_
  refine wx_geti is_162 ff_12_319 rfl (by decide +kernel) ?_
  refine wx_put is_162 ff_12_438 fp_12_68 ⟨rfl, rfl⟩ (by decide +kernel) (fun μ1 => ?_)
  refine wx_blk (pc' := 10) (L' := [some (.ref 162), some (.int (0 : Int32))]) (st' := []) [.iconst 0, .istore_n 1] (by decide +kernel) rfl rfl ?_
  refine l_f12_keep_l10 G d hd _ ?_ 1000 (0 : Int32) μ1
  · intro μ4
    exact wx_vret rfl rfl (by decide +kernel)
/-! WakingLayersModel.bringBack()V -/
def f12_bringBack_l10 (k33 : xMu → Option xMu) : Nat → Int32 → xMu → Option xMu
  | 0, _, _ => none
  | n + 1, v1, μ =>
  (if (4 : Int32) ≤ v1 then
(k33 μ)
else
(x_ald μ 200 4 v1 fun x2 =>
(x_ast μ 184 4 v1 x2 fun μ3 =>
((f12_bringBack_l10 k33 n) (v1 + (1 : Int32)) μ3))))
set_option maxHeartbeats 4000000 in
set_option maxRecDepth 100000 in
theorem l_f12_bringBack_l10 (G : xG) (d : Nat) (hd : 0 ≤ d) (k33 : xMu → Option xMu) (h33 : ∀ (μ1 : xMu), Wx G m12_bringBack d 33 [none, none] [] μ1 x_wv (k33 μ1)) : ∀ (n : Nat) (v1 : Int32) (μ : xMu), Wx G m12_bringBack d 10 [some (.ref 162), some (.int v1)] [] μ x_wv (f12_bringBack_l10 k33 n v1 μ) := by
  intro n
  induction n with
  | zero => intro v1 μ; exact wx_none
  | succ n h10 =>
    intro v1 μ
    unfold f12_bringBack_l10
    refine wx_blk (pc' := 12) (L' := [some (.ref 162), some (.int v1)]) (st' := [.int (4 : Int32), .int v1]) [.iload_n 1, .iconst 4] (by decide +kernel) rfl rfl ?_
    refine wx_ic_ge 33 (off := 21) (by decide +kernel) (by decide) ?_ ?_
    · refine wx_weak (L' := [none, none]) trivial ?_
      exact h33 μ
    · refine wx_blk (pc' := 16) (L' := [some (.ref 162), some (.int v1)]) (st' := [.ref 162]) [.aload_n 0] (by decide +kernel) rfl rfl ?_
      refine wx_getr is_162 ff_12_73 rfl rf_162_40 (by decide +kernel) ?_
      refine wx_blk (pc' := 21) (L' := [some (.ref 162), some (.int v1)]) (st' := [.ref 162, .int v1, .ref 184]) [.iload_n 1, .aload_n 0] (by decide +kernel) rfl rfl ?_
      refine wx_getr is_162 ff_12_122 rfl rf_162_67 (by decide +kernel) ?_
      refine wx_blk (pc' := 25) (L' := [some (.ref 162), some (.int v1)]) (st' := [.int v1, .ref 200, .int v1, .ref 184]) [.iload_n 1] (by decide +kernel) rfl rfl ?_
      refine wx_ald is_200 sz_200 (by decide +kernel) (fun x2 => ?_)
      refine wx_ast is_184 sz_184 (by decide +kernel) (fun μ3 => ?_)
      refine wx_blk (pc' := 30) (L' := [some (.ref 162), some (.int (v1 + (1 : Int32)))]) (st' := []) [.iinc 1 1] (by decide +kernel) rfl rfl ?_
      refine wx_goto 10 (off := -20) (by decide +kernel) (by decide) ?_
      exact h10 (v1 + (1 : Int32)) μ3
def f12_bringBack (μ : xMu) : Option xMu :=
  (x_put μ 162 44 (μ 162 68) fun μ1 =>
(f12_bringBack_l10 (fun (μ4 : xMu) => (some μ4)) 1000 (0 : Int32) μ1))
set_option maxHeartbeats 4000000 in
set_option maxRecDepth 100000 in
theorem l_f12_bringBack (G : xG) (d : Nat) (hd : 0 ≤ d) (μ : xMu) : Mx G m12_bringBack d [.ref 162] μ x_wv (f12_bringBack μ) := by
  refine mx_enter ok12_bringBack [some (.ref 162), none] rfl (Nat.le_of_ble_eq_true rfl) ?_
  unfold f12_bringBack
  refine wx_blk (pc' := 2) (L' := [some (.ref 162), none]) (st' := [.ref 162, .ref 162]) [.aload_n 0, .aload_n 0] (by decide +kernel) rfl rfl ?_
  refine wx_geti is_162 ff_12_438 rfl (by decide +kernel) ?_
  refine wx_put is_162 ff_12_319 fp_12_44 ⟨rfl, rfl⟩ (by decide +kernel) (fun μ1 => ?_)
  refine wx_blk (pc' := 10) (L' := [some (.ref 162), some (.int (0 : Int32))]) (st' := []) [.iconst 0, .istore_n 1] (by decide +kernel) rfl rfl ?_
  refine l_f12_bringBack_l10 G d hd _ ?_ 1000 (0 : Int32) μ1
  · intro μ4
    exact wx_vret rfl rfl (by decide +kernel)
/-! WakingLayersModel.makeWorld(II)V -/
def f12_makeWorld_l5 (k35 : xMu → Option xMu) : Nat → Int32 → Int32 → Int32 → xMu → Option xMu
  | 0, _, _, _, _ => none
  | n + 1, v2, v3, v4, μ =>
  (if (4 : Int32) ≤ v4 then
(k35 μ)
else
(x_tst (!((v2 + (1 : Int32)) == 0)) (x_ast μ 184 4 v4 (v3 - v3 / (v2 + (1 : Int32)) * (v2 + (1 : Int32))) fun μ1 =>
(x_tst (!((v2 + (1 : Int32)) == 0)) ((f12_makeWorld_l5 k35 n) v2 (v3 / (v2 + (1 : Int32))) (v4 + (1 : Int32)) μ1)))))
set_option maxHeartbeats 4000000 in
set_option maxRecDepth 100000 in
theorem l_f12_makeWorld_l5 (G : xG) (d : Nat) (hd : 5 ≤ d) (k35 : xMu → Option xMu) (h35 : ∀ (μ1 : xMu), Wx G m12_makeWorld d 35 [some (.ref 162), none, none, none, none] [] μ1 x_wv (k35 μ1)) : ∀ (n : Nat) (v2 : Int32) (v3 : Int32) (v4 : Int32) (μ : xMu), Wx G m12_makeWorld d 5 [some (.ref 162), none, some (.int v2), some (.int v3), some (.int v4)] [] μ x_wv (f12_makeWorld_l5 k35 n v2 v3 v4 μ) := by
  intro n
  induction n with
  | zero => intro v2 v3 v4 μ; exact wx_none
  | succ n h5 =>
    intro v2 v3 v4 μ
    unfold f12_makeWorld_l5
    refine wx_blk (pc' := 8) (L' := [some (.ref 162), none, some (.int v2), some (.int v3), some (.int v4)]) (st' := [.int (4 : Int32), .int v4]) [.iload 4, .iconst 4] (by decide +kernel) rfl rfl ?_
    refine wx_ic_ge 35 (off := 27) (by decide +kernel) (by decide) ?_ ?_
    · refine wx_weak (L' := [some (.ref 162), none, none, none, none]) ⟨rfl, trivial⟩ ?_
      exact h35 μ
    · refine wx_blk (pc' := 12) (L' := [some (.ref 162), none, some (.int v2), some (.int v3), some (.int v4)]) (st' := [.ref 162]) [.aload_n 0] (by decide +kernel) rfl rfl ?_
      refine wx_getr is_162 ff_12_73 rfl rf_162_40 (by decide +kernel) ?_
      refine wx_blk (pc' := 21) (L' := [some (.ref 162), none, some (.int v2), some (.int v3), some (.int v4)]) (st' := [.int (v2 + (1 : Int32)), .int v3, .int v4, .ref 184]) [.iload 4, .iload_n 3, .iload_n 2, .iconst 1, .iadd] (by decide +kernel) rfl rfl ?_
      refine wx_tst (fun hx3 => ?_)
      refine wx_irem (by decide +kernel) (x_nz hx3) ?_
      refine wx_ast is_184 sz_184 (by decide +kernel) (fun μ1 => ?_)
      refine wx_blk (pc' := 27) (L' := [some (.ref 162), none, some (.int v2), some (.int v3), some (.int v4)]) (st' := [.int (v2 + (1 : Int32)), .int v3]) [.iload_n 3, .iload_n 2, .iconst 1, .iadd] (by decide +kernel) rfl rfl ?_
      refine wx_tst (fun hx2 => ?_)
      refine wx_idiv (by decide +kernel) (x_nz hx2) ?_
      refine wx_blk (pc' := 32) (L' := [some (.ref 162), none, some (.int v2), some (.int (v3 / (v2 + (1 : Int32)))), some (.int (v4 + (1 : Int32)))]) (st' := []) [.istore_n 3, .iinc 4 1] (by decide +kernel) rfl rfl ?_
      refine wx_goto 5 (off := -27) (by decide +kernel) (by decide) ?_
      exact h5 v2 (v3 / (v2 + (1 : Int32))) (v4 + (1 : Int32)) μ1
def f12_makeWorld (v1 : Int32) (v2 : Int32) (μ : xMu) : Option xMu :=
  (f12_makeWorld_l5 (fun (μ4 : xMu) => ((f12_find μ4).bind fun μ5 =>
(some μ5))) 1000 v2 v1 (0 : Int32) μ)
set_option maxHeartbeats 4000000 in
set_option maxRecDepth 100000 in
theorem l_f12_makeWorld (G : xG) (d : Nat) (hd : 5 ≤ d) (v1 : Int32) (v2 : Int32) (μ : xMu) : Mx G m12_makeWorld d [.ref 162, .int v1, .int v2] μ x_wv (f12_makeWorld v1 v2 μ) := by
  refine mx_enter ok12_makeWorld [some (.ref 162), some (.int v1), some (.int v2), none, none] rfl (Nat.le_of_ble_eq_true rfl) ?_
  unfold f12_makeWorld
  refine wx_blk (pc' := 5) (L' := [some (.ref 162), some (.int v1), some (.int v2), some (.int v1), some (.int (0 : Int32))]) (st' := []) [.iload_n 1, .istore_n 3, .iconst 0, .istore 4] (by decide +kernel) rfl rfl ?_
  refine wx_weak (L' := [some (.ref 162), none, some (.int v2), some (.int v1), some (.int (0 : Int32))]) ⟨rfl, ⟨rfl, ⟨rfl, ⟨rfl, trivial⟩⟩⟩⟩ ?_
  refine l_f12_makeWorld_l5 G d hd _ ?_ 1000 v2 v1 (0 : Int32) μ
  · intro μ4
    refine wx_blk (pc' := 36) (L' := [some (.ref 162), none, none, none, none]) (st' := [.ref 162]) [.aload_n 0] (by decide +kernel) rfl rfl ?_
    refine wx_callV (d1 := 4) (As := []) (rest := []) (by omega) is_162 (by decide) rfl cv_12_348 rfl (Nat.le_of_ble_eq_true rfl) (l_f12_find G 4 (by omega) μ4) rfl (by decide +kernel) (fun μ5 => ?_)
    exact wx_vret rfl rfl (by decide +kernel)
/-! WakingLayersModel.worlds(I)I -/
def f12_worlds (v0 : Int32) : Option Int32 :=
  (some ((((v0 + (1 : Int32)) * (v0 + (1 : Int32))) * (v0 + (1 : Int32))) * (v0 + (1 : Int32))))
set_option maxHeartbeats 4000000 in
set_option maxRecDepth 100000 in
theorem l_f12_worlds (G : xG) (d : Nat) (hd : 0 ≤ d) (μ : xMu) (v0 : Int32) : Mx G m12_worlds d [.int v0] μ (x_wi μ) (f12_worlds v0) := by
  refine mx_enter ok12_worlds [some (.int v0)] rfl (Nat.le_of_ble_eq_true rfl) ?_
  unfold f12_worlds
  refine wx_blk (pc' := 15) (L' := [some (.int v0)]) (st' := [.int ((((v0 + (1 : Int32)) * (v0 + (1 : Int32))) * (v0 + (1 : Int32))) * (v0 + (1 : Int32)))]) [.iload_n 0, .iconst 1, .iadd, .iload_n 0, .iconst 1, .iadd, .imul, .iload_n 0, .iconst 1, .iadd, .imul, .iload_n 0, .iconst 1, .iadd, .imul] (by decide +kernel) rfl rfl ?_
  exact wx_iret rfl rfl (by decide +kernel)
/-! WakingLayersModel.together(II)I -/
def f12_together_l31 (k51 : Int32 → Int32 → xMu → Option (Int32 × xMu)) : Nat → Int32 → Int32 → Int32 → xMu → Option (Int32 × xMu)
  | 0, _, _, _, _ => none
  | n + 1, v1, v2, v3, μ =>
  (if (256 : Int32) ≤ v3 then
(k51 v1 v2 μ)
else
(x_ast μ 201 256 v3 (0 : Int32) fun μ4 =>
((f12_together_l31 k51 n) v1 v2 (v3 + (1 : Int32)) μ4)))
set_option maxHeartbeats 4000000 in
set_option maxRecDepth 100000 in
theorem l_f12_together_l31 (G : xG) (d : Nat) (hd : 6 ≤ d) (k51 : Int32 → Int32 → xMu → Option (Int32 × xMu)) (h51 : ∀ (v1 : Int32) (v2 : Int32) (μ1 : xMu), Wx G m12_together d 51 [some (.ref 162), some (.int v1), some (.int v2), none, none] [] μ1 x_wim (k51 v1 v2 μ1)) : ∀ (n : Nat) (v1 : Int32) (v2 : Int32) (v3 : Int32) (μ : xMu), Wx G m12_together d 31 [some (.ref 162), some (.int v1), some (.int v2), some (.int v3), none] [] μ x_wim (f12_together_l31 k51 n v1 v2 v3 μ) := by
  intro n
  induction n with
  | zero => intro v1 v2 v3 μ; exact wx_none
  | succ n h31 =>
    intro v1 v2 v3 μ
    unfold f12_together_l31
    refine wx_blk (pc' := 35) (L' := [some (.ref 162), some (.int v1), some (.int v2), some (.int v3), none]) (st' := [.int (256 : Int32), .int v3]) [.iload_n 3, .sipush 256] (by decide +kernel) rfl rfl ?_
    refine wx_ic_ge 51 (off := 16) (by decide +kernel) (by decide) ?_ ?_
    · refine wx_weak (L' := [some (.ref 162), some (.int v1), some (.int v2), none, none]) ⟨rfl, ⟨rfl, ⟨rfl, trivial⟩⟩⟩ ?_
      exact h51 v1 v2 μ
    · refine wx_blk (pc' := 39) (L' := [some (.ref 162), some (.int v1), some (.int v2), some (.int v3), none]) (st' := [.ref 162]) [.aload_n 0] (by decide +kernel) rfl rfl ?_
      refine wx_getr is_162 ff_12_125 rfl rf_162_69 (by decide +kernel) ?_
      refine wx_blk (pc' := 44) (L' := [some (.ref 162), some (.int v1), some (.int v2), some (.int v3), none]) (st' := [.int (0 : Int32), .int v3, .ref 201]) [.iload_n 3, .iconst 0] (by decide +kernel) rfl rfl ?_
      refine wx_zast is_201 sz_201 (by decide) (by decide +kernel) (fun μ4 => ?_)
      refine wx_blk (pc' := 48) (L' := [some (.ref 162), some (.int v1), some (.int v2), some (.int (v3 + (1 : Int32))), none]) (st' := []) [.iinc 3 1] (by decide +kernel) rfl rfl ?_
      refine wx_goto 31 (off := -17) (by decide +kernel) (by decide) ?_
      exact h31 v1 v2 (v3 + (1 : Int32)) μ4
def f12_together_l53 (k83 : Int32 → xMu → Option (Int32 × xMu)) : Nat → Int32 → Int32 → Int32 → xMu → Option (Int32 × xMu)
  | 0, _, _, _, _ => none
  | n + 1, v1, v2, v3, μ =>
  ((f12_worlds v1).bind fun x8 =>
(if x8 ≤ v3 then
(k83 v2 μ)
else
((f12_makeWorld v3 v1 μ).bind fun μ9 =>
(x_ast μ9 201 256 (μ9 162 44) (1 : Int32) fun μ10 =>
((f12_together_l53 k83 n) v1 v2 (v3 + (1 : Int32)) μ10)))))
set_option maxHeartbeats 4000000 in
set_option maxRecDepth 100000 in
theorem l_f12_together_l53 (G : xG) (d : Nat) (hd : 6 ≤ d) (k83 : Int32 → xMu → Option (Int32 × xMu)) (h83 : ∀ (v2 : Int32) (μ1 : xMu), Wx G m12_together d 83 [some (.ref 162), none, some (.int v2), none, none] [] μ1 x_wim (k83 v2 μ1)) : ∀ (n : Nat) (v1 : Int32) (v2 : Int32) (v3 : Int32) (μ : xMu), Wx G m12_together d 53 [some (.ref 162), some (.int v1), some (.int v2), some (.int v3), none] [] μ x_wim (f12_together_l53 k83 n v1 v2 v3 μ) := by
  intro n
  induction n with
  | zero => intro v1 v2 v3 μ; exact wx_none
  | succ n h53 =>
    intro v1 v2 v3 μ
    unfold f12_together_l53
    refine wx_blk (pc' := 55) (L' := [some (.ref 162), some (.int v1), some (.int v2), some (.int v3), none]) (st' := [.int v1, .int v3]) [.iload_n 3, .iload_n 1] (by decide +kernel) rfl rfl ?_
    refine wx_callS (d1 := 0) (As := [.int v1]) (rest := [.int v3]) (by omega) cs_12_444 rfl (Nat.le_of_ble_eq_true rfl) (l_f12_worlds G 0 (by omega) μ v1) rfl (by decide +kernel) (fun x8 => ?_)
    refine wx_ic_ge 83 (off := 25) (by decide +kernel) (by decide) ?_ ?_
    · refine wx_weak (L' := [some (.ref 162), none, some (.int v2), none, none]) ⟨rfl, ⟨rfl, trivial⟩⟩ ?_
      exact h83 v2 μ
    · refine wx_blk (pc' := 64) (L' := [some (.ref 162), some (.int v1), some (.int v2), some (.int v3), none]) (st' := [.int v1, .int v3, .ref 162]) [.aload_n 0, .iload_n 3, .iload_n 1] (by decide +kernel) rfl rfl ?_
      refine wx_callV (d1 := 5) (As := [.int v3, .int v1]) (rest := []) (by omega) is_162 (by decide) rfl cv_12_447 rfl (Nat.le_of_ble_eq_true rfl) (l_f12_makeWorld G 5 (by omega) v3 v1 μ) rfl (by decide +kernel) (fun μ9 => ?_)
      refine wx_blk (pc' := 68) (L' := [some (.ref 162), some (.int v1), some (.int v2), some (.int v3), none]) (st' := [.ref 162]) [.aload_n 0] (by decide +kernel) rfl rfl ?_
      refine wx_getr is_162 ff_12_125 rfl rf_162_69 (by decide +kernel) ?_
      refine wx_blk (pc' := 72) (L' := [some (.ref 162), some (.int v1), some (.int v2), some (.int v3), none]) (st' := [.ref 162, .ref 201]) [.aload_n 0] (by decide +kernel) rfl rfl ?_
      refine wx_geti is_162 ff_12_319 rfl (by decide +kernel) ?_
      refine wx_blk (pc' := 76) (L' := [some (.ref 162), some (.int v1), some (.int v2), some (.int v3), none]) (st' := [.int (1 : Int32), .int (μ9 162 44), .ref 201]) [.iconst 1] (by decide +kernel) rfl rfl ?_
      refine wx_zast is_201 sz_201 (by decide) (by decide +kernel) (fun μ10 => ?_)
      refine wx_blk (pc' := 80) (L' := [some (.ref 162), some (.int v1), some (.int v2), some (.int (v3 + (1 : Int32))), none]) (st' := []) [.iinc 3 1] (by decide +kernel) rfl rfl ?_
      refine wx_goto 53 (off := -27) (by decide +kernel) (by decide) ?_
      exact h53 v1 v2 (v3 + (1 : Int32)) μ10
def f12_together_j134 (k92 : Int32 → Int32 → Int32 → xMu → Option (Int32 × xMu)) (v2 : Int32) (v4 : Int32) (s0 : Int32) (s1 : Int32) (μ : xMu) : Option (Int32 × xMu) :=
  (k92 v2 (s0 + s1) (v4 + (1 : Int32)) μ)
set_option maxHeartbeats 4000000 in
set_option maxRecDepth 100000 in
theorem l_f12_together_j134 (G : xG) (d : Nat) (hd : 6 ≤ d) (k92 : Int32 → Int32 → Int32 → xMu → Option (Int32 × xMu)) (h92 : ∀ (v2 : Int32) (v3 : Int32) (v4 : Int32) (μ1 : xMu), Wx G m12_together d 92 [some (.ref 162), none, some (.int v2), some (.int v3), some (.int v4)] [] μ1 x_wim (k92 v2 v3 v4 μ1)) (v2 : Int32) (v4 : Int32) (s0 : Int32) (s1 : Int32) (μ : xMu) : Wx G m12_together d 134 [some (.ref 162), none, some (.int v2), none, some (.int v4)] [.int s1, .int s0] μ x_wim (f12_together_j134 k92 v2 v4 s0 s1 μ) := by
  unfold f12_together_j134
  refine wx_blk (pc' := 139) (L' := [some (.ref 162), none, some (.int v2), some (.int (s0 + s1)), some (.int (v4 + (1 : Int32)))]) (st' := []) [.iadd, .istore_n 3, .iinc 4 1] (by decide +kernel) rfl rfl ?_
  refine wx_goto 92 (off := -47) (by decide +kernel) (by decide) ?_
  exact h92 v2 (s0 + s1) (v4 + (1 : Int32)) μ
def f12_together_j118 (k92 : Int32 → Int32 → Int32 → xMu → Option (Int32 × xMu)) (v2 : Int32) (v3 : Int32) (v4 : Int32) (μ : xMu) : Option (Int32 × xMu) :=
  (x_ald μ 201 256 v4 fun x15 =>
(if x15 = 0 then
(f12_together_j134 k92 v2 v4 v3 (0 : Int32) μ)
else
(f12_together_j134 k92 v2 v4 v3 (1 : Int32) μ)))
set_option maxHeartbeats 4000000 in
set_option maxRecDepth 100000 in
theorem l_f12_together_j118 (G : xG) (d : Nat) (hd : 6 ≤ d) (k92 : Int32 → Int32 → Int32 → xMu → Option (Int32 × xMu)) (h92 : ∀ (v2 : Int32) (v3 : Int32) (v4 : Int32) (μ1 : xMu), Wx G m12_together d 92 [some (.ref 162), none, some (.int v2), some (.int v3), some (.int v4)] [] μ1 x_wim (k92 v2 v3 v4 μ1)) (v2 : Int32) (v3 : Int32) (v4 : Int32) (μ : xMu) : Wx G m12_together d 118 [some (.ref 162), none, some (.int v2), some (.int v3), some (.int v4)] [] μ x_wim (f12_together_j118 k92 v2 v3 v4 μ) := by
  unfold f12_together_j118
  refine wx_blk (pc' := 120) (L' := [some (.ref 162), none, some (.int v2), some (.int v3), some (.int v4)]) (st' := [.ref 162, .int v3]) [.iload_n 3, .aload_n 0] (by decide +kernel) rfl rfl ?_
  refine wx_getr is_162 ff_12_125 rfl rf_162_69 (by decide +kernel) ?_
  refine wx_blk (pc' := 125) (L' := [some (.ref 162), none, some (.int v2), some (.int v3), some (.int v4)]) (st' := [.int v4, .ref 201, .int v3]) [.iload 4] (by decide +kernel) rfl rfl ?_
  refine wx_zald is_201 sz_201 (by decide +kernel) (fun x15 => ?_)
  refine wx_if_eq 133 (off := 7) (by decide +kernel) (by decide) ?_ ?_
  · refine wx_blk (pc' := 134) (L' := [some (.ref 162), none, some (.int v2), some (.int v3), some (.int v4)]) (st' := [.int (0 : Int32), .int v3]) [.iconst 0] (by decide +kernel) rfl rfl ?_
    refine wx_weak (L' := [some (.ref 162), none, some (.int v2), none, some (.int v4)]) ⟨rfl, ⟨rfl, ⟨rfl, trivial⟩⟩⟩ ?_
    refine l_f12_together_j134 G d hd _ h92 v2 v4 v3 (0 : Int32) μ
  · refine wx_blk (pc' := 130) (L' := [some (.ref 162), none, some (.int v2), some (.int v3), some (.int v4)]) (st' := [.int (1 : Int32), .int v3]) [.iconst 1] (by decide +kernel) rfl rfl ?_
    refine wx_goto 134 (off := 4) (by decide +kernel) (by decide) ?_
    refine wx_weak (L' := [some (.ref 162), none, some (.int v2), none, some (.int v4)]) ⟨rfl, ⟨rfl, ⟨rfl, trivial⟩⟩⟩ ?_
    refine l_f12_together_j134 G d hd _ h92 v2 v4 v3 (1 : Int32) μ
def f12_together_l92 (k142 : Int32 → Int32 → xMu → Option (Int32 × xMu)) : Nat → Int32 → Int32 → Int32 → xMu → Option (Int32 × xMu)
  | 0, _, _, _, _ => none
  | n + 1, v2, v3, v4, μ =>
  (if (256 : Int32) ≤ v4 then
(k142 v2 v3 μ)
else
(x_ald μ 201 256 v4 fun x14 =>
(if x14 = 0 then
(f12_together_j118 (f12_together_l92 k142 n) v2 v3 v4 μ)
else
(if v3 = v2 then
(some (v4, μ))
else
(f12_together_j118 (f12_together_l92 k142 n) v2 v3 v4 μ)))))
set_option maxHeartbeats 4000000 in
set_option maxRecDepth 100000 in
theorem l_f12_together_l92 (G : xG) (d : Nat) (hd : 6 ≤ d) (k142 : Int32 → Int32 → xMu → Option (Int32 × xMu)) (h142 : ∀ (v2 : Int32) (v3 : Int32) (μ1 : xMu), Wx G m12_together d 142 [none, none, some (.int v2), some (.int v3), none] [] μ1 x_wim (k142 v2 v3 μ1)) : ∀ (n : Nat) (v2 : Int32) (v3 : Int32) (v4 : Int32) (μ : xMu), Wx G m12_together d 92 [some (.ref 162), none, some (.int v2), some (.int v3), some (.int v4)] [] μ x_wim (f12_together_l92 k142 n v2 v3 v4 μ) := by
  intro n
  induction n with
  | zero => intro v2 v3 v4 μ; exact wx_none
  | succ n h92 =>
    intro v2 v3 v4 μ
    unfold f12_together_l92
    refine wx_blk (pc' := 97) (L' := [some (.ref 162), none, some (.int v2), some (.int v3), some (.int v4)]) (st' := [.int (256 : Int32), .int v4]) [.iload 4, .sipush 256] (by decide +kernel) rfl rfl ?_
    refine wx_ic_ge 142 (off := 45) (by decide +kernel) (by decide) ?_ ?_
    · refine wx_weak (L' := [none, none, some (.int v2), some (.int v3), none]) ⟨rfl, ⟨rfl, trivial⟩⟩ ?_
      exact h142 v2 v3 μ
    · refine wx_blk (pc' := 101) (L' := [some (.ref 162), none, some (.int v2), some (.int v3), some (.int v4)]) (st' := [.ref 162]) [.aload_n 0] (by decide +kernel) rfl rfl ?_
      refine wx_getr is_162 ff_12_125 rfl rf_162_69 (by decide +kernel) ?_
      refine wx_blk (pc' := 106) (L' := [some (.ref 162), none, some (.int v2), some (.int v3), some (.int v4)]) (st' := [.int v4, .ref 201]) [.iload 4] (by decide +kernel) rfl rfl ?_
      refine wx_zald is_201 sz_201 (by decide +kernel) (fun x14 => ?_)
      refine wx_if_eq 118 (off := 11) (by decide +kernel) (by decide) ?_ ?_
      · refine l_f12_together_j118 G d hd _ h92 v2 v3 v4 μ
      · refine wx_blk (pc' := 112) (L' := [some (.ref 162), none, some (.int v2), some (.int v3), some (.int v4)]) (st' := [.int v2, .int v3]) [.iload_n 3, .iload_n 2] (by decide +kernel) rfl rfl ?_
        refine wx_ic_ne 118 (off := 6) (by decide +kernel) (by decide) ?_ ?_
        · refine l_f12_together_j118 G d hd _ h92 v2 v3 v4 μ
        · refine wx_blk (pc' := 117) (L' := [some (.ref 162), none, some (.int v2), some (.int v3), some (.int v4)]) (st' := [.int v4]) [.iload 4] (by decide +kernel) rfl rfl ?_
          exact wx_iret rfl rfl (by decide +kernel)
def f12_together (v1 : Int32) (v2 : Int32) (μ : xMu) : Option (Int32 × xMu) :=
  (x_put μ 162 0 (0 : Int32) fun μ1 =>
((f12_in (Int32.toInt64 v1) (1 : Int64) (3 : Int64)).bind fun x2 =>
(if x2 = 0 then
(some ((-1000001 : Int32), μ1))
else
(if (-1 : Int32) ≤ v2 then
((f12_keep μ1).bind fun μ3 =>
(f12_together_l31 (fun (y5 : Int32) (y6 : Int32) (μ7 : xMu) => (f12_together_l53 (fun (y11 : Int32) (μ12 : xMu) => ((f12_bringBack μ12).bind fun μ13 =>
(f12_together_l92 (fun (y16 : Int32) (y17 : Int32) (μ18 : xMu) => (if y16 = (-1 : Int32) then
(some (y17, μ18))
else
(some ((-1000000 : Int32), μ18)))) 1000 y11 (0 : Int32) (0 : Int32) μ13))) 1000 y5 y6 (0 : Int32) μ7)) 1000 v1 v2 (0 : Int32) μ3))
else
(some ((-1000001 : Int32), μ1))))))
set_option maxHeartbeats 4000000 in
set_option maxRecDepth 100000 in
theorem l_f12_together (G : xG) (d : Nat) (hd : 6 ≤ d) (v1 : Int32) (v2 : Int32) (μ : xMu) : Mx G m12_together d [.ref 162, .int v1, .int v2] μ x_wim (f12_together v1 v2 μ) := by
  refine mx_enter ok12_together [some (.ref 162), some (.int v1), some (.int v2), none, none] rfl (Nat.le_of_ble_eq_true rfl) ?_
  unfold f12_together
  refine wx_blk (pc' := 2) (L' := [some (.ref 162), some (.int v1), some (.int v2), none, none]) (st' := [.int (0 : Int32), .ref 162]) [.aload_n 0, .iconst 0] (by decide +kernel) rfl rfl ?_
  refine wx_put is_162 ff_12_131 fp_12_0 ⟨rfl, rfl⟩ (by decide +kernel) (fun μ1 => ?_)
  refine wx_blk (pc' := 8) (L' := [some (.ref 162), some (.int v1), some (.int v2), none, none]) (st' := [.long (1 : Int64), .long (Int32.toInt64 v1)]) [.iload_n 1, .i2l, .lconst 1] (by decide +kernel) rfl rfl ?_
  refine wx_ldc2 (v := 3) xw_1541 (by decide +kernel) ?_
  refine wx_callS (d1 := 0) (As := [.long (Int32.toInt64 v1), .long (1 : Int64), .long (3 : Int64)]) (rest := []) (by omega) cs_12_141 rfl (Nat.le_of_ble_eq_true rfl) (l_f12_in G 0 (by omega) μ1 (Int32.toInt64 v1) (1 : Int64) (3 : Int64)) rfl (by decide +kernel) (fun x2 => ?_)
  refine wx_if_eq 22 (off := 8) (by decide +kernel) (by decide) ?_ ?_
  · refine wx_ldc (v := -1000001) xw_1394 (by decide +kernel) ?_
    exact wx_iret rfl rfl (by decide +kernel)
  · refine wx_blk (pc' := 19) (L' := [some (.ref 162), some (.int v1), some (.int v2), none, none]) (st' := [.int (-1 : Int32), .int v2]) [.iload_n 2, .iconst (-1)] (by decide +kernel) rfl rfl ?_
    refine wx_ic_ge 25 (off := 6) (by decide +kernel) (by decide) ?_ ?_
    · refine wx_blk (pc' := 26) (L' := [some (.ref 162), some (.int v1), some (.int v2), none, none]) (st' := [.ref 162]) [.aload_n 0] (by decide +kernel) rfl rfl ?_
      refine wx_callV (d1 := 0) (As := []) (rest := []) (by omega) is_162 (by decide) rfl cv_12_441 rfl (Nat.le_of_ble_eq_true rfl) (l_f12_keep G 0 (by omega) μ1) rfl (by decide +kernel) (fun μ3 => ?_)
      refine wx_blk (pc' := 31) (L' := [some (.ref 162), some (.int v1), some (.int v2), some (.int (0 : Int32)), none]) (st' := []) [.iconst 0, .istore_n 3] (by decide +kernel) rfl rfl ?_
      refine l_f12_together_l31 G d hd _ ?_ 1000 v1 v2 (0 : Int32) μ3
      · intro y5 y6 μ7
        refine wx_blk (pc' := 53) (L' := [some (.ref 162), some (.int y5), some (.int y6), some (.int (0 : Int32)), none]) (st' := []) [.iconst 0, .istore_n 3] (by decide +kernel) rfl rfl ?_
        refine l_f12_together_l53 G d hd _ ?_ 1000 y5 y6 (0 : Int32) μ7
        · intro y11 μ12
          refine wx_blk (pc' := 84) (L' := [some (.ref 162), none, some (.int y11), none, none]) (st' := [.ref 162]) [.aload_n 0] (by decide +kernel) rfl rfl ?_
          refine wx_callV (d1 := 0) (As := []) (rest := []) (by omega) is_162 (by decide) rfl cv_12_451 rfl (Nat.le_of_ble_eq_true rfl) (l_f12_bringBack G 0 (by omega) μ12) rfl (by decide +kernel) (fun μ13 => ?_)
          refine wx_blk (pc' := 92) (L' := [some (.ref 162), none, some (.int y11), some (.int (0 : Int32)), some (.int (0 : Int32))]) (st' := []) [.iconst 0, .istore_n 3, .iconst 0, .istore 4] (by decide +kernel) rfl rfl ?_
          refine l_f12_together_l92 G d hd _ ?_ 1000 y11 (0 : Int32) (0 : Int32) μ13
          · intro y16 y17 μ18
            refine wx_blk (pc' := 144) (L' := [none, none, some (.int y16), some (.int y17), none]) (st' := [.int (-1 : Int32), .int y16]) [.iload_n 2, .iconst (-1)] (by decide +kernel) rfl rfl ?_
            refine wx_ic_ne 151 (off := 7) (by decide +kernel) (by decide) ?_ ?_
            · refine wx_ldc (v := -1000000) xw_1431 (by decide +kernel) ?_
              exact wx_iret rfl rfl (by decide +kernel)
            · refine wx_blk (pc' := 148) (L' := [none, none, some (.int y16), some (.int y17), none]) (st' := [.int y17]) [.iload_n 3] (by decide +kernel) rfl rfl ?_
              refine wx_goto 153 (off := 5) (by decide +kernel) (by decide) ?_
              exact wx_iret rfl rfl (by decide +kernel)
    · refine wx_ldc (v := -1000001) xw_1394 (by decide +kernel) ?_
      exact wx_iret rfl rfl (by decide +kernel)
/-! WakingLayersModel.same(IIIII)I -/
def f12_same_j165 (k78 : Int32 → Int32 → Int32 → Int32 → Int32 → Int32 → Int32 → xMu → Option (Int32 × xMu)) (v1 : Int32) (v2 : Int32) (v3 : Int32) (v4 : Int32) (v5 : Int32) (v6 : Int32) (v7 : Int32) (μ : xMu) : Option (Int32 × xMu) :=
  (k78 v1 v2 v3 v4 v5 v6 (v7 + (1 : Int32)) μ)
set_option maxHeartbeats 4000000 in
set_option maxRecDepth 100000 in
theorem l_f12_same_j165 (G : xG) (d : Nat) (hd : 8 ≤ d) (k78 : Int32 → Int32 → Int32 → Int32 → Int32 → Int32 → Int32 → xMu → Option (Int32 × xMu)) (h78 : ∀ (v1 : Int32) (v2 : Int32) (v3 : Int32) (v4 : Int32) (v5 : Int32) (v6 : Int32) (v7 : Int32) (μ1 : xMu), Wx G m12_same d 78 [some (.ref 162), some (.int v1), some (.int v2), some (.int v3), some (.int v4), some (.int v5), some (.int v6), some (.int v7), none, none] [] μ1 x_wim (k78 v1 v2 v3 v4 v5 v6 v7 μ1)) (v1 : Int32) (v2 : Int32) (v3 : Int32) (v4 : Int32) (v5 : Int32) (v6 : Int32) (v7 : Int32) (μ : xMu) : Wx G m12_same d 165 [some (.ref 162), some (.int v1), some (.int v2), some (.int v3), some (.int v4), some (.int v5), some (.int v6), some (.int v7), none, none] [] μ x_wim (f12_same_j165 k78 v1 v2 v3 v4 v5 v6 v7 μ) := by
  unfold f12_same_j165
  refine wx_blk (pc' := 168) (L' := [some (.ref 162), some (.int v1), some (.int v2), some (.int v3), some (.int v4), some (.int v5), some (.int v6), some (.int (v7 + (1 : Int32))), none, none]) (st' := []) [.iinc 7 1] (by decide +kernel) rfl rfl ?_
  refine wx_goto 78 (off := -90) (by decide +kernel) (by decide) ?_
  exact h78 v1 v2 v3 v4 v5 v6 (v7 + (1 : Int32)) μ
def f12_same_j163 (k78 : Int32 → Int32 → Int32 → Int32 → Int32 → Int32 → Int32 → xMu → Option (Int32 × xMu)) (v1 : Int32) (v2 : Int32) (v3 : Int32) (v4 : Int32) (v5 : Int32) (v7 : Int32) (s0 : Int32) (μ : xMu) : Option (Int32 × xMu) :=
  (f12_same_j165 k78 v1 v2 v3 v4 v5 s0 v7 μ)
set_option maxHeartbeats 4000000 in
set_option maxRecDepth 100000 in
theorem l_f12_same_j163 (G : xG) (d : Nat) (hd : 8 ≤ d) (k78 : Int32 → Int32 → Int32 → Int32 → Int32 → Int32 → Int32 → xMu → Option (Int32 × xMu)) (h78 : ∀ (v1 : Int32) (v2 : Int32) (v3 : Int32) (v4 : Int32) (v5 : Int32) (v6 : Int32) (v7 : Int32) (μ1 : xMu), Wx G m12_same d 78 [some (.ref 162), some (.int v1), some (.int v2), some (.int v3), some (.int v4), some (.int v5), some (.int v6), some (.int v7), none, none] [] μ1 x_wim (k78 v1 v2 v3 v4 v5 v6 v7 μ1)) (v1 : Int32) (v2 : Int32) (v3 : Int32) (v4 : Int32) (v5 : Int32) (v7 : Int32) (s0 : Int32) (μ : xMu) : Wx G m12_same d 163 [some (.ref 162), some (.int v1), some (.int v2), some (.int v3), some (.int v4), some (.int v5), none, some (.int v7), none, none] [.int s0] μ x_wim (f12_same_j163 k78 v1 v2 v3 v4 v5 v7 s0 μ) := by
  unfold f12_same_j163
  refine wx_blk (pc' := 165) (L' := [some (.ref 162), some (.int v1), some (.int v2), some (.int v3), some (.int v4), some (.int v5), some (.int s0), some (.int v7), none, none]) (st' := []) [.istore 6] (by decide +kernel) rfl rfl ?_
  refine l_f12_same_j165 G d hd _ h78 v1 v2 v3 v4 v5 s0 v7 μ
def f12_same_l78 (k171 : Int32 → xMu → Option (Int32 × xMu)) : Nat → Int32 → Int32 → Int32 → Int32 → Int32 → Int32 → Int32 → xMu → Option (Int32 × xMu)
  | 0, _, _, _, _, _, _, _, _ => none
  | n + 1, v1, v2, v3, v4, v5, v6, v7, μ =>
  ((f12_worlds v5).bind fun x9 =>
(if x9 ≤ v7 then
(k171 v6 μ)
else
(if v6 = 0 then
(k171 v6 μ)
else
((f12_makeWorld v7 v5 μ).bind fun μ10 =>
(if (((μ10 162 44) >>> (v1 &&& 31)) &&& (1 : Int32)) = (1 : Int32) then
((f12_outermost v2 v3 v4 μ10).bind fun q11 =>
(x_put q11.2 162 44 ((μ10 162 44) &&& (((1 : Int32) <<< (v1 &&& 31)) ^^^ (-1 : Int32))) fun μ12 =>
((f12_lose μ12).bind fun μ13 =>
((f12_outermost v2 v3 v4 μ13).bind fun q14 =>
(if q14.1 = q11.1 then
(f12_same_j163 (f12_same_l78 k171 n) v1 v2 v3 v4 v5 v7 (1 : Int32) q14.2)
else
(f12_same_j163 (f12_same_l78 k171 n) v1 v2 v3 v4 v5 v7 (0 : Int32) q14.2))))))
else
(f12_same_j165 (f12_same_l78 k171 n) v1 v2 v3 v4 v5 v6 v7 μ10))))))
set_option maxHeartbeats 4000000 in
set_option maxRecDepth 100000 in
theorem l_f12_same_l78 (G : xG) (d : Nat) (hd : 8 ≤ d) (k171 : Int32 → xMu → Option (Int32 × xMu)) (h171 : ∀ (v6 : Int32) (μ1 : xMu), Wx G m12_same d 171 [some (.ref 162), none, none, none, none, none, some (.int v6), none, none, none] [] μ1 x_wim (k171 v6 μ1)) : ∀ (n : Nat) (v1 : Int32) (v2 : Int32) (v3 : Int32) (v4 : Int32) (v5 : Int32) (v6 : Int32) (v7 : Int32) (μ : xMu), Wx G m12_same d 78 [some (.ref 162), some (.int v1), some (.int v2), some (.int v3), some (.int v4), some (.int v5), some (.int v6), some (.int v7), none, none] [] μ x_wim (f12_same_l78 k171 n v1 v2 v3 v4 v5 v6 v7 μ) := by
  intro n
  induction n with
  | zero => intro v1 v2 v3 v4 v5 v6 v7 μ; exact wx_none
  | succ n h78 =>
    intro v1 v2 v3 v4 v5 v6 v7 μ
    unfold f12_same_l78
    refine wx_blk (pc' := 82) (L' := [some (.ref 162), some (.int v1), some (.int v2), some (.int v3), some (.int v4), some (.int v5), some (.int v6), some (.int v7), none, none]) (st' := [.int v5, .int v7]) [.iload 7, .iload 5] (by decide +kernel) rfl rfl ?_
    refine wx_callS (d1 := 0) (As := [.int v5]) (rest := [.int v7]) (by omega) cs_12_444 rfl (Nat.le_of_ble_eq_true rfl) (l_f12_worlds G 0 (by omega) μ v5) rfl (by decide +kernel) (fun x9 => ?_)
    refine wx_ic_ge 171 (off := 86) (by decide +kernel) (by decide) ?_ ?_
    · refine wx_weak (L' := [some (.ref 162), none, none, none, none, none, some (.int v6), none, none, none]) ⟨rfl, ⟨rfl, trivial⟩⟩ ?_
      exact h171 v6 μ
    · refine wx_blk (pc' := 90) (L' := [some (.ref 162), some (.int v1), some (.int v2), some (.int v3), some (.int v4), some (.int v5), some (.int v6), some (.int v7), none, none]) (st' := [.int v6]) [.iload 6] (by decide +kernel) rfl rfl ?_
      refine wx_if_eq 171 (off := 81) (by decide +kernel) (by decide) ?_ ?_
      · refine wx_weak (L' := [some (.ref 162), none, none, none, none, none, some (.int v6), none, none, none]) ⟨rfl, ⟨rfl, trivial⟩⟩ ?_
        exact h171 v6 μ
      · refine wx_blk (pc' := 98) (L' := [some (.ref 162), some (.int v1), some (.int v2), some (.int v3), some (.int v4), some (.int v5), some (.int v6), some (.int v7), none, none]) (st' := [.int v5, .int v7, .ref 162]) [.aload_n 0, .iload 7, .iload 5] (by decide +kernel) rfl rfl ?_
        refine wx_callV (d1 := 5) (As := [.int v7, .int v5]) (rest := []) (by omega) is_162 (by decide) rfl cv_12_447 rfl (Nat.le_of_ble_eq_true rfl) (l_f12_makeWorld G 5 (by omega) v7 v5 μ) rfl (by decide +kernel) (fun μ10 => ?_)
        refine wx_blk (pc' := 102) (L' := [some (.ref 162), some (.int v1), some (.int v2), some (.int v3), some (.int v4), some (.int v5), some (.int v6), some (.int v7), none, none]) (st' := [.ref 162]) [.aload_n 0] (by decide +kernel) rfl rfl ?_
        refine wx_geti is_162 ff_12_319 rfl (by decide +kernel) ?_
        refine wx_blk (pc' := 110) (L' := [some (.ref 162), some (.int v1), some (.int v2), some (.int v3), some (.int v4), some (.int v5), some (.int v6), some (.int v7), none, none]) (st' := [.int (1 : Int32), .int (((μ10 162 44) >>> (v1 &&& 31)) &&& (1 : Int32))]) [.iload_n 1, .ishr, .iconst 1, .iand, .iconst 1] (by decide +kernel) rfl rfl ?_
        refine wx_ic_ne 165 (off := 55) (by decide +kernel) (by decide) ?_ ?_
        · refine l_f12_same_j165 G d hd _ h78 v1 v2 v3 v4 v5 v6 v7 μ10
        · refine wx_blk (pc' := 114) (L' := [some (.ref 162), some (.int v1), some (.int v2), some (.int v3), some (.int v4), some (.int v5), some (.int v6), some (.int v7), none, none]) (st' := [.ref 162]) [.aload_n 0] (by decide +kernel) rfl rfl ?_
          refine wx_geti is_162 ff_12_319 rfl (by decide +kernel) ?_
          refine wx_blk (pc' := 124) (L' := [some (.ref 162), some (.int v1), some (.int v2), some (.int v3), some (.int v4), some (.int v5), some (.int v6), some (.int v7), some (.int (μ10 162 44)), none]) (st' := [.int v4, .int v3, .int v2, .ref 162]) [.istore 8, .aload_n 0, .iload_n 2, .iload_n 3, .iload 4] (by decide +kernel) rfl rfl ?_
          refine wx_callV (d1 := 7) (As := [.int v2, .int v3, .int v4]) (rest := []) (by omega) is_162 (by decide) rfl cv_12_429 rfl (Nat.le_of_ble_eq_true rfl) (l_f12_outermost G 7 (by omega) v2 v3 v4 μ10) rfl (by decide +kernel) (fun q11 => ?_)
          refine wx_blk (pc' := 138) (L' := [some (.ref 162), some (.int v1), some (.int v2), some (.int v3), some (.int v4), some (.int v5), some (.int v6), some (.int v7), some (.int (μ10 162 44)), some (.int q11.1)]) (st' := [.int ((μ10 162 44) &&& (((1 : Int32) <<< (v1 &&& 31)) ^^^ (-1 : Int32))), .ref 162]) [.istore 9, .aload_n 0, .iload 8, .iconst 1, .iload_n 1, .ishl, .iconst (-1), .ixor, .iand] (by decide +kernel) rfl rfl ?_
          refine wx_put is_162 ff_12_319 fp_12_44 ⟨rfl, rfl⟩ (by decide +kernel) (fun μ12 => ?_)
          refine wx_blk (pc' := 142) (L' := [some (.ref 162), some (.int v1), some (.int v2), some (.int v3), some (.int v4), some (.int v5), some (.int v6), some (.int v7), some (.int (μ10 162 44)), some (.int q11.1)]) (st' := [.ref 162]) [.aload_n 0] (by decide +kernel) rfl rfl ?_
          refine wx_callV (d1 := 3) (As := []) (rest := []) (by omega) is_162 (by decide) rfl cv_12_334 rfl (Nat.le_of_ble_eq_true rfl) (l_f12_lose G 3 (by omega) μ12) rfl (by decide +kernel) (fun μ13 => ?_)
          refine wx_blk (pc' := 150) (L' := [some (.ref 162), some (.int v1), some (.int v2), some (.int v3), some (.int v4), some (.int v5), some (.int v6), some (.int v7), some (.int (μ10 162 44)), some (.int q11.1)]) (st' := [.int v4, .int v3, .int v2, .ref 162]) [.aload_n 0, .iload_n 2, .iload_n 3, .iload 4] (by decide +kernel) rfl rfl ?_
          refine wx_callV (d1 := 7) (As := [.int v2, .int v3, .int v4]) (rest := []) (by omega) is_162 (by decide) rfl cv_12_429 rfl (Nat.le_of_ble_eq_true rfl) (l_f12_outermost G 7 (by omega) v2 v3 v4 μ13) rfl (by decide +kernel) (fun q14 => ?_)
          refine wx_blk (pc' := 155) (L' := [some (.ref 162), some (.int v1), some (.int v2), some (.int v3), some (.int v4), some (.int v5), some (.int v6), some (.int v7), some (.int (μ10 162 44)), some (.int q11.1)]) (st' := [.int q11.1, .int q14.1]) [.iload 9] (by decide +kernel) rfl rfl ?_
          refine wx_ic_ne 162 (off := 7) (by decide +kernel) (by decide) ?_ ?_
          · refine wx_blk (pc' := 163) (L' := [some (.ref 162), some (.int v1), some (.int v2), some (.int v3), some (.int v4), some (.int v5), some (.int v6), some (.int v7), some (.int (μ10 162 44)), some (.int q11.1)]) (st' := [.int (0 : Int32)]) [.iconst 0] (by decide +kernel) rfl rfl ?_
            refine wx_weak (L' := [some (.ref 162), some (.int v1), some (.int v2), some (.int v3), some (.int v4), some (.int v5), none, some (.int v7), none, none]) ⟨rfl, ⟨rfl, ⟨rfl, ⟨rfl, ⟨rfl, ⟨rfl, ⟨rfl, trivial⟩⟩⟩⟩⟩⟩⟩ ?_
            refine l_f12_same_j163 G d hd _ h78 v1 v2 v3 v4 v5 v7 (0 : Int32) q14.2
          · refine wx_blk (pc' := 159) (L' := [some (.ref 162), some (.int v1), some (.int v2), some (.int v3), some (.int v4), some (.int v5), some (.int v6), some (.int v7), some (.int (μ10 162 44)), some (.int q11.1)]) (st' := [.int (1 : Int32)]) [.iconst 1] (by decide +kernel) rfl rfl ?_
            refine wx_goto 163 (off := 4) (by decide +kernel) (by decide) ?_
            refine wx_weak (L' := [some (.ref 162), some (.int v1), some (.int v2), some (.int v3), some (.int v4), some (.int v5), none, some (.int v7), none, none]) ⟨rfl, ⟨rfl, ⟨rfl, ⟨rfl, ⟨rfl, ⟨rfl, ⟨rfl, trivial⟩⟩⟩⟩⟩⟩⟩ ?_
            refine l_f12_same_j163 G d hd _ h78 v1 v2 v3 v4 v5 v7 (1 : Int32) q14.2
def f12_same_j171 (v6 : Int32) (μ : xMu) : Option (Int32 × xMu) :=
  ((f12_bringBack μ).bind fun μ17 =>
(if v6 = 0 then
(some ((0 : Int32), μ17))
else
(some ((1 : Int32), μ17))))
set_option maxHeartbeats 4000000 in
set_option maxRecDepth 100000 in
theorem l_f12_same_j171 (G : xG) (d : Nat) (hd : 8 ≤ d) (v6 : Int32) (μ : xMu) : Wx G m12_same d 171 [some (.ref 162), none, none, none, none, none, some (.int v6), none, none, none] [] μ x_wim (f12_same_j171 v6 μ) := by
  unfold f12_same_j171
  refine wx_blk (pc' := 172) (L' := [some (.ref 162), none, none, none, none, none, some (.int v6), none, none, none]) (st' := [.ref 162]) [.aload_n 0] (by decide +kernel) rfl rfl ?_
  refine wx_callV (d1 := 0) (As := []) (rest := []) (by omega) is_162 (by decide) rfl cv_12_451 rfl (Nat.le_of_ble_eq_true rfl) (l_f12_bringBack G 0 (by omega) μ) rfl (by decide +kernel) (fun μ17 => ?_)
  refine wx_blk (pc' := 177) (L' := [some (.ref 162), none, none, none, none, none, some (.int v6), none, none, none]) (st' := [.int v6]) [.iload 6] (by decide +kernel) rfl rfl ?_
  refine wx_if_eq 184 (off := 7) (by decide +kernel) (by decide) ?_ ?_
  · refine wx_blk (pc' := 185) (L' := [some (.ref 162), none, none, none, none, none, some (.int v6), none, none, none]) (st' := [.int (0 : Int32)]) [.iconst 0] (by decide +kernel) rfl rfl ?_
    exact wx_iret rfl rfl (by decide +kernel)
  · refine wx_blk (pc' := 181) (L' := [some (.ref 162), none, none, none, none, none, some (.int v6), none, none, none]) (st' := [.int (1 : Int32)]) [.iconst 1] (by decide +kernel) rfl rfl ?_
    refine wx_goto 185 (off := 4) (by decide +kernel) (by decide) ?_
    exact wx_iret rfl rfl (by decide +kernel)
def f12_same (v1 : Int32) (v2 : Int32) (v3 : Int32) (v4 : Int32) (v5 : Int32) (μ : xMu) : Option (Int32 × xMu) :=
  (x_put μ 162 0 (0 : Int32) fun μ1 =>
((f12_isLayer μ1 v1).bind fun x2 =>
(if x2 = 0 then
(some ((-1000001 : Int32), μ1))
else
(x_ald μ1 169 8 v1 fun x3 =>
(if x3 = (2 : Int32) then
((f12_isThing μ1 v2).bind fun x4 =>
(if x4 = 0 then
(some ((-1000001 : Int32), μ1))
else
((f12_in (Int32.toInt64 v3) (0 : Int64) (3 : Int64)).bind fun x5 =>
(if x5 = 0 then
(some ((-1000001 : Int32), μ1))
else
((f12_isNumber v4).bind fun x6 =>
(if x6 = 0 then
(some ((-1000001 : Int32), μ1))
else
((f12_in (Int32.toInt64 v5) (1 : Int64) (3 : Int64)).bind fun x7 =>
(if x7 = 0 then
(some ((-1000001 : Int32), μ1))
else
((f12_keep μ1).bind fun μ8 =>
(f12_same_l78 (fun (y15 : Int32) (μ16 : xMu) => (f12_same_j171 y15 μ16)) 1000 v1 v2 v3 v4 v5 (1 : Int32) (0 : Int32) μ8))))))))))
else
(some ((-1000001 : Int32), μ1)))))))
set_option maxHeartbeats 4000000 in
set_option maxRecDepth 100000 in
theorem l_f12_same (G : xG) (d : Nat) (hd : 8 ≤ d) (v1 : Int32) (v2 : Int32) (v3 : Int32) (v4 : Int32) (v5 : Int32) (μ : xMu) : Mx G m12_same d [.ref 162, .int v1, .int v2, .int v3, .int v4, .int v5] μ x_wim (f12_same v1 v2 v3 v4 v5 μ) := by
  refine mx_enter ok12_same [some (.ref 162), some (.int v1), some (.int v2), some (.int v3), some (.int v4), some (.int v5), none, none, none, none] rfl (Nat.le_of_ble_eq_true rfl) ?_
  unfold f12_same
  refine wx_blk (pc' := 2) (L' := [some (.ref 162), some (.int v1), some (.int v2), some (.int v3), some (.int v4), some (.int v5), none, none, none, none]) (st' := [.int (0 : Int32), .ref 162]) [.aload_n 0, .iconst 0] (by decide +kernel) rfl rfl ?_
  refine wx_put is_162 ff_12_131 fp_12_0 ⟨rfl, rfl⟩ (by decide +kernel) (fun μ1 => ?_)
  refine wx_blk (pc' := 7) (L' := [some (.ref 162), some (.int v1), some (.int v2), some (.int v3), some (.int v4), some (.int v5), none, none, none, none]) (st' := [.int v1, .ref 162]) [.aload_n 0, .iload_n 1] (by decide +kernel) rfl rfl ?_
  refine wx_callV (d1 := 1) (As := [.int v1]) (rest := []) (by omega) is_162 (by decide) rfl cv_12_337 rfl (Nat.le_of_ble_eq_true rfl) (l_f12_isLayer G 1 (by omega) μ1 v1) rfl (by decide +kernel) (fun x2 => ?_)
  refine wx_if_eq 65 (off := 55) (by decide +kernel) (by decide) ?_ ?_
  · refine wx_ldc (v := -1000001) xw_1394 (by decide +kernel) ?_
    exact wx_iret rfl rfl (by decide +kernel)
  · refine wx_blk (pc' := 14) (L' := [some (.ref 162), some (.int v1), some (.int v2), some (.int v3), some (.int v4), some (.int v5), none, none, none, none]) (st' := [.ref 162]) [.aload_n 0] (by decide +kernel) rfl rfl ?_
    refine wx_getr is_162 ff_12_28 rfl rf_162_11 (by decide +kernel) ?_
    refine wx_blk (pc' := 18) (L' := [some (.ref 162), some (.int v1), some (.int v2), some (.int v3), some (.int v4), some (.int v5), none, none, none, none]) (st' := [.int v1, .ref 169]) [.iload_n 1] (by decide +kernel) rfl rfl ?_
    refine wx_ald is_169 sz_169 (by decide +kernel) (fun x3 => ?_)
    refine wx_blk (pc' := 20) (L' := [some (.ref 162), some (.int v1), some (.int v2), some (.int v3), some (.int v4), some (.int v5), none, none, none, none]) (st' := [.int (2 : Int32), .int x3]) [.iconst 2] (by decide +kernel) rfl rfl ?_
    refine wx_ic_ne 65 (off := 45) (by decide +kernel) (by decide) ?_ ?_
    · refine wx_ldc (v := -1000001) xw_1394 (by decide +kernel) ?_
      exact wx_iret rfl rfl (by decide +kernel)
    · refine wx_blk (pc' := 25) (L' := [some (.ref 162), some (.int v1), some (.int v2), some (.int v3), some (.int v4), some (.int v5), none, none, none, none]) (st' := [.int v2, .ref 162]) [.aload_n 0, .iload_n 2] (by decide +kernel) rfl rfl ?_
      refine wx_callV (d1 := 1) (As := [.int v2]) (rest := []) (by omega) is_162 (by decide) rfl cv_12_351 rfl (Nat.le_of_ble_eq_true rfl) (l_f12_isThing G 1 (by omega) μ1 v2) rfl (by decide +kernel) (fun x4 => ?_)
      refine wx_if_eq 65 (off := 37) (by decide +kernel) (by decide) ?_ ?_
      · refine wx_ldc (v := -1000001) xw_1394 (by decide +kernel) ?_
        exact wx_iret rfl rfl (by decide +kernel)
      · refine wx_blk (pc' := 34) (L' := [some (.ref 162), some (.int v1), some (.int v2), some (.int v3), some (.int v4), some (.int v5), none, none, none, none]) (st' := [.long (0 : Int64), .long (Int32.toInt64 v3)]) [.iload_n 3, .i2l, .lconst 0] (by decide +kernel) rfl rfl ?_
        refine wx_ldc2 (v := 3) xw_1541 (by decide +kernel) ?_
        refine wx_callS (d1 := 0) (As := [.long (Int32.toInt64 v3), .long (0 : Int64), .long (3 : Int64)]) (rest := []) (by omega) cs_12_141 rfl (Nat.le_of_ble_eq_true rfl) (l_f12_in G 0 (by omega) μ1 (Int32.toInt64 v3) (0 : Int64) (3 : Int64)) rfl (by decide +kernel) (fun x5 => ?_)
        refine wx_if_eq 65 (off := 25) (by decide +kernel) (by decide) ?_ ?_
        · refine wx_ldc (v := -1000001) xw_1394 (by decide +kernel) ?_
          exact wx_iret rfl rfl (by decide +kernel)
        · refine wx_blk (pc' := 46) (L' := [some (.ref 162), some (.int v1), some (.int v2), some (.int v3), some (.int v4), some (.int v5), none, none, none, none]) (st' := [.int v4, .ref 162]) [.aload_n 0, .iload 4] (by decide +kernel) rfl rfl ?_
          refine wx_callV (d1 := 1) (As := [.int v4]) (rest := []) (by omega) is_162 (by decide) rfl cv_12_426 rfl (Nat.le_of_ble_eq_true rfl) (l_f12_isNumber G 1 (by omega) μ1 v4) rfl (by decide +kernel) (fun x6 => ?_)
          refine wx_if_eq 65 (off := 16) (by decide +kernel) (by decide) ?_ ?_
          · refine wx_ldc (v := -1000001) xw_1394 (by decide +kernel) ?_
            exact wx_iret rfl rfl (by decide +kernel)
          · refine wx_blk (pc' := 56) (L' := [some (.ref 162), some (.int v1), some (.int v2), some (.int v3), some (.int v4), some (.int v5), none, none, none, none]) (st' := [.long (1 : Int64), .long (Int32.toInt64 v5)]) [.iload 5, .i2l, .lconst 1] (by decide +kernel) rfl rfl ?_
            refine wx_ldc2 (v := 3) xw_1541 (by decide +kernel) ?_
            refine wx_callS (d1 := 0) (As := [.long (Int32.toInt64 v5), .long (1 : Int64), .long (3 : Int64)]) (rest := []) (by omega) cs_12_141 rfl (Nat.le_of_ble_eq_true rfl) (l_f12_in G 0 (by omega) μ1 (Int32.toInt64 v5) (1 : Int64) (3 : Int64)) rfl (by decide +kernel) (fun x7 => ?_)
            refine wx_if_ne 68 (off := 6) (by decide +kernel) (by decide) ?_ ?_
            · refine wx_blk (pc' := 69) (L' := [some (.ref 162), some (.int v1), some (.int v2), some (.int v3), some (.int v4), some (.int v5), none, none, none, none]) (st' := [.ref 162]) [.aload_n 0] (by decide +kernel) rfl rfl ?_
              refine wx_callV (d1 := 0) (As := []) (rest := []) (by omega) is_162 (by decide) rfl cv_12_441 rfl (Nat.le_of_ble_eq_true rfl) (l_f12_keep G 0 (by omega) μ1) rfl (by decide +kernel) (fun μ8 => ?_)
              refine wx_blk (pc' := 78) (L' := [some (.ref 162), some (.int v1), some (.int v2), some (.int v3), some (.int v4), some (.int v5), some (.int (1 : Int32)), some (.int (0 : Int32)), none, none]) (st' := []) [.iconst 1, .istore 6, .iconst 0, .istore 7] (by decide +kernel) rfl rfl ?_
              refine l_f12_same_l78 G d hd _ ?_ 1000 v1 v2 v3 v4 v5 (1 : Int32) (0 : Int32) μ8
              · intro y15 μ16
                refine l_f12_same_j171 G d hd y15 μ16
            · refine wx_ldc (v := -1000001) xw_1394 (by decide +kernel) ?_
              exact wx_iret rfl rfl (by decide +kernel)
