/-! WakingLayersModel.kindOf(I)I -/
def f12_kindOf (μ : xMu) (v1 : Int32) : Option Int32 :=
  (x_ald μ 169 8 v1 fun x1 =>
(if x1 = 0 then
(some (1 : Int32))
else
(x_ald μ 169 8 v1 fun x2 =>
(if x2 = (1 : Int32) then
(some (2 : Int32))
else
(x_ald μ 169 8 v1 fun x3 =>
(if x3 = (3 : Int32) then
(some (5 : Int32))
else
(x_ald μ 174 8 v1 fun x4 =>
(if x4 = 0 then
(some (3 : Int32))
else
(some (4 : Int32))))))))))
set_option maxHeartbeats 4000000 in
set_option maxRecDepth 100000 in
theorem l_f12_kindOf (G : xG) (d : Nat) (hd : 0 ≤ d) (μ : xMu) (v1 : Int32) : Mx G m12_kindOf d [.ref 162, .int v1] μ (x_wi μ) (f12_kindOf μ v1) := by
  refine mx_enter ok12_kindOf [some (.ref 162), some (.int v1)] rfl (Nat.le_of_ble_eq_true rfl) ?_
  unfold f12_kindOf
  refine wx_blk (pc' := 1) (L' := [some (.ref 162), some (.int v1)]) (st' := [.ref 162]) [.aload_n 0] (by decide +kernel) rfl rfl ?_
  refine wx_getr is_162 ff_12_28 rfl rf_162_11 (by decide +kernel) ?_
  refine wx_blk (pc' := 5) (L' := [some (.ref 162), some (.int v1)]) (st' := [.int v1, .ref 169]) [.iload_n 1] (by decide +kernel) rfl rfl ?_
  refine wx_ald is_169 sz_169 (by decide +kernel) (fun x1 => ?_)
  refine wx_if_ne 13 (off := 7) (by decide +kernel) (by decide) ?_ ?_
  · refine wx_blk (pc' := 14) (L' := [some (.ref 162), some (.int v1)]) (st' := [.ref 162]) [.aload_n 0] (by decide +kernel) rfl rfl ?_
    refine wx_getr is_162 ff_12_28 rfl rf_162_11 (by decide +kernel) ?_
    refine wx_blk (pc' := 18) (L' := [some (.ref 162), some (.int v1)]) (st' := [.int v1, .ref 169]) [.iload_n 1] (by decide +kernel) rfl rfl ?_
    refine wx_ald is_169 sz_169 (by decide +kernel) (fun x2 => ?_)
    refine wx_blk (pc' := 20) (L' := [some (.ref 162), some (.int v1)]) (st' := [.int (1 : Int32), .int x2]) [.iconst 1] (by decide +kernel) rfl rfl ?_
    refine wx_ic_ne 27 (off := 7) (by decide +kernel) (by decide) ?_ ?_
    · refine wx_blk (pc' := 28) (L' := [some (.ref 162), some (.int v1)]) (st' := [.ref 162]) [.aload_n 0] (by decide +kernel) rfl rfl ?_
      refine wx_getr is_162 ff_12_28 rfl rf_162_11 (by decide +kernel) ?_
      refine wx_blk (pc' := 32) (L' := [some (.ref 162), some (.int v1)]) (st' := [.int v1, .ref 169]) [.iload_n 1] (by decide +kernel) rfl rfl ?_
      refine wx_ald is_169 sz_169 (by decide +kernel) (fun x3 => ?_)
      refine wx_blk (pc' := 34) (L' := [some (.ref 162), some (.int v1)]) (st' := [.int (3 : Int32), .int x3]) [.iconst 3] (by decide +kernel) rfl rfl ?_
      refine wx_ic_ne 41 (off := 7) (by decide +kernel) (by decide) ?_ ?_
      · refine wx_blk (pc' := 42) (L' := [some (.ref 162), some (.int v1)]) (st' := [.ref 162]) [.aload_n 0] (by decide +kernel) rfl rfl ?_
        refine wx_getr is_162 ff_12_43 rfl rf_162_16 (by decide +kernel) ?_
        refine wx_blk (pc' := 46) (L' := [some (.ref 162), some (.int v1)]) (st' := [.int v1, .ref 174]) [.iload_n 1] (by decide +kernel) rfl rfl ?_
        refine wx_ald is_174 sz_174 (by decide +kernel) (fun x4 => ?_)
        refine wx_if_ne 54 (off := 7) (by decide +kernel) (by decide) ?_ ?_
        · refine wx_blk (pc' := 55) (L' := [some (.ref 162), some (.int v1)]) (st' := [.int (4 : Int32)]) [.iconst 4] (by decide +kernel) rfl rfl ?_
          exact wx_iret rfl rfl (by decide +kernel)
        · refine wx_blk (pc' := 51) (L' := [some (.ref 162), some (.int v1)]) (st' := [.int (3 : Int32)]) [.iconst 3] (by decide +kernel) rfl rfl ?_
          refine wx_goto 55 (off := 4) (by decide +kernel) (by decide) ?_
          exact wx_iret rfl rfl (by decide +kernel)
      · refine wx_blk (pc' := 38) (L' := [some (.ref 162), some (.int v1)]) (st' := [.int (5 : Int32)]) [.iconst 5] (by decide +kernel) rfl rfl ?_
        refine wx_goto 55 (off := 17) (by decide +kernel) (by decide) ?_
        exact wx_iret rfl rfl (by decide +kernel)
    · refine wx_blk (pc' := 24) (L' := [some (.ref 162), some (.int v1)]) (st' := [.int (2 : Int32)]) [.iconst 2] (by decide +kernel) rfl rfl ?_
      refine wx_goto 55 (off := 31) (by decide +kernel) (by decide) ?_
      exact wx_iret rfl rfl (by decide +kernel)
  · refine wx_blk (pc' := 10) (L' := [some (.ref 162), some (.int v1)]) (st' := [.int (1 : Int32)]) [.iconst 1] (by decide +kernel) rfl rfl ?_
    refine wx_goto 55 (off := 45) (by decide +kernel) (by decide) ?_
    exact wx_iret rfl rfl (by decide +kernel)
/-! WakingLayersModel.isOf(II)Z -/
def f12_isOf_j29 : Option Int32 :=
  (some (1 : Int32))
set_option maxHeartbeats 4000000 in
set_option maxRecDepth 100000 in
theorem l_f12_isOf_j29 (G : xG) (d : Nat) (hd : 0 ≤ d) (μ : xMu) : Wx G m12_isOf d 29 [none, none] [] μ (x_wi μ) (f12_isOf_j29) := by
  unfold f12_isOf_j29
  refine wx_blk (pc' := 30) (L' := [none, none]) (st' := [.int (1 : Int32)]) [.iconst 1] (by decide +kernel) rfl rfl ?_
  refine wx_goto 34 (off := 4) (by decide +kernel) (by decide) ?_
  exact wx_zret rfl rfl (by decide) (by decide +kernel)
def f12_isOf_j19 (v0 : Int32) (v1 : Int32) : Option Int32 :=
  (if v1 = (3 : Int32) then
(if v0 = (4 : Int32) then
(f12_isOf_j29)
else
(some (0 : Int32)))
else
(some (0 : Int32)))
set_option maxHeartbeats 4000000 in
set_option maxRecDepth 100000 in
theorem l_f12_isOf_j19 (G : xG) (d : Nat) (hd : 0 ≤ d) (μ : xMu) (v0 : Int32) (v1 : Int32) : Wx G m12_isOf d 19 [some (.int v0), some (.int v1)] [] μ (x_wi μ) (f12_isOf_j19 v0 v1) := by
  unfold f12_isOf_j19
  refine wx_blk (pc' := 21) (L' := [some (.int v0), some (.int v1)]) (st' := [.int (3 : Int32), .int v1]) [.iload_n 1, .iconst 3] (by decide +kernel) rfl rfl ?_
  refine wx_ic_ne 33 (off := 12) (by decide +kernel) (by decide) ?_ ?_
  · refine wx_blk (pc' := 34) (L' := [some (.int v0), some (.int v1)]) (st' := [.int (0 : Int32)]) [.iconst 0] (by decide +kernel) rfl rfl ?_
    exact wx_zret rfl rfl (by decide) (by decide +kernel)
  · refine wx_blk (pc' := 26) (L' := [some (.int v0), some (.int v1)]) (st' := [.int (4 : Int32), .int v0]) [.iload_n 0, .iconst 4] (by decide +kernel) rfl rfl ?_
    refine wx_ic_ne 33 (off := 7) (by decide +kernel) (by decide) ?_ ?_
    · refine wx_blk (pc' := 34) (L' := [some (.int v0), some (.int v1)]) (st' := [.int (0 : Int32)]) [.iconst 0] (by decide +kernel) rfl rfl ?_
      exact wx_zret rfl rfl (by decide) (by decide +kernel)
    · refine wx_weak (L' := [none, none]) trivial ?_
      refine l_f12_isOf_j29 G d hd μ
def f12_isOf (v0 : Int32) (v1 : Int32) : Option Int32 :=
  (if v1 = 0 then
(f12_isOf_j29)
else
(if v0 = v1 then
(f12_isOf_j29)
else
(if v1 = (1 : Int32) then
(if v0 = (2 : Int32) then
(f12_isOf_j29)
else
(f12_isOf_j19 v0 v1))
else
(f12_isOf_j19 v0 v1))))
set_option maxHeartbeats 4000000 in
set_option maxRecDepth 100000 in
theorem l_f12_isOf (G : xG) (d : Nat) (hd : 0 ≤ d) (μ : xMu) (v0 : Int32) (v1 : Int32) : Mx G m12_isOf d [.int v0, .int v1] μ (x_wi μ) (f12_isOf v0 v1) := by
  refine mx_enter ok12_isOf [some (.int v0), some (.int v1)] rfl (Nat.le_of_ble_eq_true rfl) ?_
  unfold f12_isOf
  refine wx_blk (pc' := 1) (L' := [some (.int v0), some (.int v1)]) (st' := [.int v1]) [.iload_n 1] (by decide +kernel) rfl rfl ?_
  refine wx_if_eq 29 (off := 28) (by decide +kernel) (by decide) ?_ ?_
  · refine wx_weak (L' := [none, none]) trivial ?_
    refine l_f12_isOf_j29 G d hd μ
  · refine wx_blk (pc' := 6) (L' := [some (.int v0), some (.int v1)]) (st' := [.int v1, .int v0]) [.iload_n 0, .iload_n 1] (by decide +kernel) rfl rfl ?_
    refine wx_ic_eq 29 (off := 23) (by decide +kernel) (by decide) ?_ ?_
    · refine wx_weak (L' := [none, none]) trivial ?_
      refine l_f12_isOf_j29 G d hd μ
    · refine wx_blk (pc' := 11) (L' := [some (.int v0), some (.int v1)]) (st' := [.int (1 : Int32), .int v1]) [.iload_n 1, .iconst 1] (by decide +kernel) rfl rfl ?_
      refine wx_ic_ne 19 (off := 8) (by decide +kernel) (by decide) ?_ ?_
      · refine l_f12_isOf_j19 G d hd μ v0 v1
      · refine wx_blk (pc' := 16) (L' := [some (.int v0), some (.int v1)]) (st' := [.int (2 : Int32), .int v0]) [.iload_n 0, .iconst 2] (by decide +kernel) rfl rfl ?_
        refine wx_ic_eq 29 (off := 13) (by decide +kernel) (by decide) ?_ ?_
        · refine wx_weak (L' := [none, none]) trivial ?_
          refine l_f12_isOf_j29 G d hd μ
        · refine l_f12_isOf_j19 G d hd μ v0 v1
/-! WakingLayersModel.kind(I)I -/
def f12_kind (v1 : Int32) (μ : xMu) : Option (Int32 × xMu) :=
  (x_put μ 162 0 (0 : Int32) fun μ1 =>
((f12_isLayer μ1 v1).bind fun x2 =>
(if x2 = 0 then
(some ((-1000001 : Int32), μ1))
else
((f12_kindOf μ1 v1).bind fun x3 =>
(some (x3, μ1))))))
set_option maxHeartbeats 4000000 in
set_option maxRecDepth 100000 in
theorem l_f12_kind (G : xG) (d : Nat) (hd : 2 ≤ d) (v1 : Int32) (μ : xMu) : Mx G m12_kind d [.ref 162, .int v1] μ x_wim (f12_kind v1 μ) := by
  refine mx_enter ok12_kind [some (.ref 162), some (.int v1)] rfl (Nat.le_of_ble_eq_true rfl) ?_
  unfold f12_kind
  refine wx_blk (pc' := 2) (L' := [some (.ref 162), some (.int v1)]) (st' := [.int (0 : Int32), .ref 162]) [.aload_n 0, .iconst 0] (by decide +kernel) rfl rfl ?_
  refine wx_put is_162 ff_12_131 fp_12_0 ⟨rfl, rfl⟩ (by decide +kernel) (fun μ1 => ?_)
  refine wx_blk (pc' := 7) (L' := [some (.ref 162), some (.int v1)]) (st' := [.int v1, .ref 162]) [.aload_n 0, .iload_n 1] (by decide +kernel) rfl rfl ?_
  refine wx_callV (d1 := 1) (As := [.int v1]) (rest := []) (by omega) is_162 (by decide) rfl cv_12_337 rfl (Nat.le_of_ble_eq_true rfl) (l_f12_isLayer G 1 (by omega) μ1 v1) rfl (by decide +kernel) (fun x2 => ?_)
  refine wx_if_eq 21 (off := 11) (by decide +kernel) (by decide) ?_ ?_
  · refine wx_ldc (v := -1000001) xw_1394 (by decide +kernel) ?_
    exact wx_iret rfl rfl (by decide +kernel)
  · refine wx_blk (pc' := 15) (L' := [some (.ref 162), some (.int v1)]) (st' := [.int v1, .ref 162]) [.aload_n 0, .iload_n 1] (by decide +kernel) rfl rfl ?_
    refine wx_callV (d1 := 0) (As := [.int v1]) (rest := []) (by omega) is_162 (by decide) rfl cv_12_454 rfl (Nat.le_of_ble_eq_true rfl) (l_f12_kindOf G 0 (by omega) μ1 v1) rfl (by decide +kernel) (fun x3 => ?_)
    refine wx_goto 23 (off := 5) (by decide +kernel) (by decide) ?_
    exact wx_iret rfl rfl (by decide +kernel)
/-! WakingLayersModel.as(II)I -/
def f12_as (v1 : Int32) (v2 : Int32) (μ : xMu) : Option (Int32 × xMu) :=
  (x_put μ 162 0 (0 : Int32) fun μ1 =>
((f12_isLayer μ1 v1).bind fun x2 =>
(if x2 = 0 then
(some ((-1000001 : Int32), μ1))
else
((f12_in (Int32.toInt64 v2) (0 : Int64) (5 : Int64)).bind fun x3 =>
(if x3 = 0 then
(some ((-1000001 : Int32), μ1))
else
(x_put μ1 162 1 (0 : Int32) fun μ4 =>
((f12_kindOf μ4 v1).bind fun x5 =>
((f12_isOf x5 v2).bind fun x6 =>
(if x6 = 0 then
((f12_finding (3 : Int32) μ4).bind fun q7 =>
(some (q7.1, q7.2)))
else
(x_ald μ4 170 8 v1 fun x8 =>
(some (x8, μ4))))))))))))
set_option maxHeartbeats 4000000 in
set_option maxRecDepth 100000 in
theorem l_f12_as (G : xG) (d : Nat) (hd : 2 ≤ d) (v1 : Int32) (v2 : Int32) (μ : xMu) : Mx G m12_as d [.ref 162, .int v1, .int v2] μ x_wim (f12_as v1 v2 μ) := by
  refine mx_enter ok12_as [some (.ref 162), some (.int v1), some (.int v2)] rfl (Nat.le_of_ble_eq_true rfl) ?_
  unfold f12_as
  refine wx_blk (pc' := 2) (L' := [some (.ref 162), some (.int v1), some (.int v2)]) (st' := [.int (0 : Int32), .ref 162]) [.aload_n 0, .iconst 0] (by decide +kernel) rfl rfl ?_
  refine wx_put is_162 ff_12_131 fp_12_0 ⟨rfl, rfl⟩ (by decide +kernel) (fun μ1 => ?_)
  refine wx_blk (pc' := 7) (L' := [some (.ref 162), some (.int v1), some (.int v2)]) (st' := [.int v1, .ref 162]) [.aload_n 0, .iload_n 1] (by decide +kernel) rfl rfl ?_
  refine wx_callV (d1 := 1) (As := [.int v1]) (rest := []) (by omega) is_162 (by decide) rfl cv_12_337 rfl (Nat.le_of_ble_eq_true rfl) (l_f12_isLayer G 1 (by omega) μ1 v1) rfl (by decide +kernel) (fun x2 => ?_)
  refine wx_if_eq 25 (off := 15) (by decide +kernel) (by decide) ?_ ?_
  · refine wx_ldc (v := -1000001) xw_1394 (by decide +kernel) ?_
    exact wx_iret rfl rfl (by decide +kernel)
  · refine wx_blk (pc' := 16) (L' := [some (.ref 162), some (.int v1), some (.int v2)]) (st' := [.long (0 : Int64), .long (Int32.toInt64 v2)]) [.iload_n 2, .i2l, .lconst 0] (by decide +kernel) rfl rfl ?_
    refine wx_ldc2 (v := 5) xw_1528 (by decide +kernel) ?_
    refine wx_callS (d1 := 0) (As := [.long (Int32.toInt64 v2), .long (0 : Int64), .long (5 : Int64)]) (rest := []) (by omega) cs_12_141 rfl (Nat.le_of_ble_eq_true rfl) (l_f12_in G 0 (by omega) μ1 (Int32.toInt64 v2) (0 : Int64) (5 : Int64)) rfl (by decide +kernel) (fun x3 => ?_)
    refine wx_if_ne 28 (off := 6) (by decide +kernel) (by decide) ?_ ?_
    · refine wx_blk (pc' := 30) (L' := [some (.ref 162), some (.int v1), some (.int v2)]) (st' := [.int (0 : Int32), .ref 162]) [.aload_n 0, .iconst 0] (by decide +kernel) rfl rfl ?_
      refine wx_put is_162 ff_12_135 fp_12_1 ⟨rfl, rfl⟩ (by decide +kernel) (fun μ4 => ?_)
      refine wx_blk (pc' := 35) (L' := [some (.ref 162), some (.int v1), some (.int v2)]) (st' := [.int v1, .ref 162]) [.aload_n 0, .iload_n 1] (by decide +kernel) rfl rfl ?_
      refine wx_callV (d1 := 0) (As := [.int v1]) (rest := []) (by omega) is_162 (by decide) rfl cv_12_454 rfl (Nat.le_of_ble_eq_true rfl) (l_f12_kindOf G 0 (by omega) μ4 v1) rfl (by decide +kernel) (fun x5 => ?_)
      refine wx_blk (pc' := 39) (L' := [some (.ref 162), some (.int v1), some (.int v2)]) (st' := [.int v2, .int x5]) [.iload_n 2] (by decide +kernel) rfl rfl ?_
      refine wx_callS (d1 := 0) (As := [.int x5, .int v2]) (rest := []) (by omega) cs_12_457 rfl (Nat.le_of_ble_eq_true rfl) (l_f12_isOf G 0 (by omega) μ4 x5 v2) rfl (by decide +kernel) (fun x6 => ?_)
      refine wx_if_eq 54 (off := 12) (by decide +kernel) (by decide) ?_ ?_
      · refine wx_blk (pc' := 56) (L' := [some (.ref 162), some (.int v1), some (.int v2)]) (st' := [.int (3 : Int32), .ref 162]) [.aload_n 0, .iconst 3] (by decide +kernel) rfl rfl ?_
        refine wx_callV (d1 := 0) (As := [.int (3 : Int32)]) (rest := []) (by omega) is_162 (by decide) rfl cv_12_152 rfl (Nat.le_of_ble_eq_true rfl) (l_f12_finding G 0 (by omega) (3 : Int32) μ4) rfl (by decide +kernel) (fun q7 => ?_)
        exact wx_iret rfl rfl (by decide +kernel)
      · refine wx_blk (pc' := 46) (L' := [some (.ref 162), some (.int v1), some (.int v2)]) (st' := [.ref 162]) [.aload_n 0] (by decide +kernel) rfl rfl ?_
        refine wx_getr is_162 ff_12_31 rfl rf_162_12 (by decide +kernel) ?_
        refine wx_blk (pc' := 50) (L' := [some (.ref 162), some (.int v1), some (.int v2)]) (st' := [.int v1, .ref 170]) [.iload_n 1] (by decide +kernel) rfl rfl ?_
        refine wx_ald is_170 sz_170 (by decide +kernel) (fun x8 => ?_)
        refine wx_goto 59 (off := 8) (by decide +kernel) (by decide) ?_
        exact wx_iret rfl rfl (by decide +kernel)
    · refine wx_ldc (v := -1000001) xw_1394 (by decide +kernel) ?_
      exact wx_iret rfl rfl (by decide +kernel)
/-! WakingLayersModel.leaves(I)V -/
def f12_leaves (v1 : Int32) (μ : xMu) : Option xMu :=
  (if (16 : Int32) ≤ (μ 162 71) then
(some μ)
else
(x_ast μ 202 16 (μ 162 71) v1 fun μ1 =>
(x_put μ1 162 71 ((μ1 162 71) + (1 : Int32)) fun μ2 =>
(some μ2))))
set_option maxHeartbeats 4000000 in
set_option maxRecDepth 100000 in
theorem l_f12_leaves (G : xG) (d : Nat) (hd : 0 ≤ d) (v1 : Int32) (μ : xMu) : Mx G m12_leaves d [.ref 162, .int v1] μ x_wv (f12_leaves v1 μ) := by
  refine mx_enter ok12_leaves [some (.ref 162), some (.int v1)] rfl (Nat.le_of_ble_eq_true rfl) ?_
  unfold f12_leaves
  refine wx_blk (pc' := 1) (L' := [some (.ref 162), some (.int v1)]) (st' := [.ref 162]) [.aload_n 0] (by decide +kernel) rfl rfl ?_
  refine wx_geti is_162 ff_12_460 rfl (by decide +kernel) ?_
  refine wx_blk (pc' := 6) (L' := [some (.ref 162), some (.int v1)]) (st' := [.int (16 : Int32), .int (μ 162 71)]) [.bipush 16] (by decide +kernel) rfl rfl ?_
  refine wx_ic_ge 29 (off := 23) (by decide +kernel) (by decide) ?_ ?_
  · exact wx_vret rfl rfl (by decide +kernel)
  · refine wx_blk (pc' := 10) (L' := [some (.ref 162), some (.int v1)]) (st' := [.ref 162]) [.aload_n 0] (by decide +kernel) rfl rfl ?_
    refine wx_getr is_162 ff_12_128 rfl rf_162_70 (by decide +kernel) ?_
    refine wx_blk (pc' := 14) (L' := [some (.ref 162), some (.int v1)]) (st' := [.ref 162, .ref 202]) [.aload_n 0] (by decide +kernel) rfl rfl ?_
    refine wx_geti is_162 ff_12_460 rfl (by decide +kernel) ?_
    refine wx_blk (pc' := 18) (L' := [some (.ref 162), some (.int v1)]) (st' := [.int v1, .int (μ 162 71), .ref 202]) [.iload_n 1] (by decide +kernel) rfl rfl ?_
    refine wx_ast is_202 sz_202 (by decide +kernel) (fun μ1 => ?_)
    refine wx_blk (pc' := 21) (L' := [some (.ref 162), some (.int v1)]) (st' := [.ref 162, .ref 162]) [.aload_n 0, .dup] (by decide +kernel) rfl rfl ?_
    refine wx_geti is_162 ff_12_460 rfl (by decide +kernel) ?_
    refine wx_blk (pc' := 26) (L' := [some (.ref 162), some (.int v1)]) (st' := [.int ((μ1 162 71) + (1 : Int32)), .ref 162]) [.iconst 1, .iadd] (by decide +kernel) rfl rfl ?_
    refine wx_put is_162 ff_12_460 fp_12_71 ⟨rfl, rfl⟩ (by decide +kernel) (fun μ2 => ?_)
    exact wx_vret rfl rfl (by decide +kernel)
/-! WakingLayersModel.sizeOf(II)I -/
def f12_sizeOf_j56 (v2 : Int32) (s0 : Int32) (s1 : Int32) (μ : xMu) : Option (Int32 × xMu) :=
  (if v2 = (2 : Int32) then
(some (((2 : Int32) * (s0 + s1)), μ))
else
(some ((s0 + s1), μ)))
set_option maxHeartbeats 4000000 in
set_option maxRecDepth 100000 in
theorem l_f12_sizeOf_j56 (G : xG) (d : Nat) (hd : 1 ≤ d) (v2 : Int32) (s0 : Int32) (s1 : Int32) (μ : xMu) : Wx G m12_sizeOf d 56 [none, none, some (.int v2), none] [.int s1, .int s0] μ x_wim (f12_sizeOf_j56 v2 s0 s1 μ) := by
  unfold f12_sizeOf_j56
  refine wx_blk (pc' := 60) (L' := [none, none, some (.int v2), some (.int (s0 + s1))]) (st' := [.int (2 : Int32), .int v2]) [.iadd, .istore_n 3, .iload_n 2, .iconst 2] (by decide +kernel) rfl rfl ?_
  refine wx_ic_ne 69 (off := 9) (by decide +kernel) (by decide) ?_ ?_
  · refine wx_blk (pc' := 70) (L' := [none, none, some (.int v2), some (.int (s0 + s1))]) (st' := [.int (s0 + s1)]) [.iload_n 3] (by decide +kernel) rfl rfl ?_
    exact wx_iret rfl rfl (by decide +kernel)
  · refine wx_blk (pc' := 66) (L' := [none, none, some (.int v2), some (.int (s0 + s1))]) (st' := [.int ((2 : Int32) * (s0 + s1))]) [.iconst 2, .iload_n 3, .imul] (by decide +kernel) rfl rfl ?_
    refine wx_goto 70 (off := 4) (by decide +kernel) (by decide) ?_
    exact wx_iret rfl rfl (by decide +kernel)
def f12_sizeOf_j25 (v1 : Int32) (v2 : Int32) (μ : xMu) : Option (Int32 × xMu) :=
  ((f12_leaves (10 : Int32) μ).bind fun μ2 =>
(x_ald μ2 170 8 v1 fun x3 =>
((f12_isOf v2 (1 : Int32)).bind fun x4 =>
(if x4 = 0 then
(f12_sizeOf_j56 v2 x3 (0 : Int32) μ2)
else
((f12_openOf μ2 v1).bind fun x5 =>
(f12_sizeOf_j56 v2 x3 x5 μ2))))))
set_option maxHeartbeats 4000000 in
set_option maxRecDepth 100000 in
theorem l_f12_sizeOf_j25 (G : xG) (d : Nat) (hd : 1 ≤ d) (v1 : Int32) (v2 : Int32) (μ : xMu) : Wx G m12_sizeOf d 25 [some (.ref 162), some (.int v1), some (.int v2), none] [] μ x_wim (f12_sizeOf_j25 v1 v2 μ) := by
  unfold f12_sizeOf_j25
  refine wx_blk (pc' := 28) (L' := [some (.ref 162), some (.int v1), some (.int v2), none]) (st' := [.int (10 : Int32), .ref 162]) [.aload_n 0, .bipush 10] (by decide +kernel) rfl rfl ?_
  refine wx_callV (d1 := 0) (As := [.int (10 : Int32)]) (rest := []) (by omega) is_162 (by decide) rfl cv_12_463 rfl (Nat.le_of_ble_eq_true rfl) (l_f12_leaves G 0 (by omega) (10 : Int32) μ) rfl (by decide +kernel) (fun μ2 => ?_)
  refine wx_blk (pc' := 32) (L' := [some (.ref 162), some (.int v1), some (.int v2), none]) (st' := [.ref 162]) [.aload_n 0] (by decide +kernel) rfl rfl ?_
  refine wx_getr is_162 ff_12_31 rfl rf_162_12 (by decide +kernel) ?_
  refine wx_blk (pc' := 36) (L' := [some (.ref 162), some (.int v1), some (.int v2), none]) (st' := [.int v1, .ref 170]) [.iload_n 1] (by decide +kernel) rfl rfl ?_
  refine wx_ald is_170 sz_170 (by decide +kernel) (fun x3 => ?_)
  refine wx_blk (pc' := 41) (L' := [some (.ref 162), some (.int v1), some (.int v2), some (.int x3)]) (st' := [.int (1 : Int32), .int v2, .int x3]) [.istore_n 3, .iload_n 3, .iload_n 2, .iconst 1] (by decide +kernel) rfl rfl ?_
  refine wx_callS (d1 := 0) (As := [.int v2, .int (1 : Int32)]) (rest := [.int x3]) (by omega) cs_12_457 rfl (Nat.le_of_ble_eq_true rfl) (l_f12_isOf G 0 (by omega) μ2 v2 (1 : Int32)) rfl (by decide +kernel) (fun x4 => ?_)
  refine wx_if_eq 55 (off := 11) (by decide +kernel) (by decide) ?_ ?_
  · refine wx_blk (pc' := 56) (L' := [some (.ref 162), some (.int v1), some (.int v2), some (.int x3)]) (st' := [.int (0 : Int32), .int x3]) [.iconst 0] (by decide +kernel) rfl rfl ?_
    refine wx_weak (L' := [none, none, some (.int v2), none]) ⟨rfl, trivial⟩ ?_
    refine l_f12_sizeOf_j56 G d hd v2 x3 (0 : Int32) μ2
  · refine wx_blk (pc' := 49) (L' := [some (.ref 162), some (.int v1), some (.int v2), some (.int x3)]) (st' := [.int v1, .ref 162, .int x3]) [.aload_n 0, .iload_n 1] (by decide +kernel) rfl rfl ?_
    refine wx_callV (d1 := 0) (As := [.int v1]) (rest := [.int x3]) (by omega) is_162 (by decide) rfl cv_12_322 rfl (Nat.le_of_ble_eq_true rfl) (l_f12_openOf G 0 (by omega) μ2 v1) rfl (by decide +kernel) (fun x5 => ?_)
    refine wx_goto 56 (off := 4) (by decide +kernel) (by decide) ?_
    refine wx_weak (L' := [none, none, some (.int v2), none]) ⟨rfl, trivial⟩ ?_
    refine l_f12_sizeOf_j56 G d hd v2 x3 x5 μ2
def f12_sizeOf_j11 (v1 : Int32) (v2 : Int32) (μ : xMu) : Option (Int32 × xMu) :=
  ((f12_isOf v2 (1 : Int32)).bind fun x1 =>
(if x1 = 0 then
(f12_sizeOf_j25 v1 v2 μ)
else
((f12_leaves (11 : Int32) μ).bind fun μ6 =>
(f12_sizeOf_j25 v1 v2 μ6))))
set_option maxHeartbeats 4000000 in
set_option maxRecDepth 100000 in
theorem l_f12_sizeOf_j11 (G : xG) (d : Nat) (hd : 1 ≤ d) (v1 : Int32) (v2 : Int32) (μ : xMu) : Wx G m12_sizeOf d 11 [some (.ref 162), some (.int v1), some (.int v2), none] [] μ x_wim (f12_sizeOf_j11 v1 v2 μ) := by
  unfold f12_sizeOf_j11
  refine wx_blk (pc' := 13) (L' := [some (.ref 162), some (.int v1), some (.int v2), none]) (st' := [.int (1 : Int32), .int v2]) [.iload_n 2, .iconst 1] (by decide +kernel) rfl rfl ?_
  refine wx_callS (d1 := 0) (As := [.int v2, .int (1 : Int32)]) (rest := []) (by omega) cs_12_457 rfl (Nat.le_of_ble_eq_true rfl) (l_f12_isOf G 0 (by omega) μ v2 (1 : Int32)) rfl (by decide +kernel) (fun x1 => ?_)
  refine wx_if_eq 25 (off := 9) (by decide +kernel) (by decide) ?_ ?_
  · refine l_f12_sizeOf_j25 G d hd v1 v2 μ
  · refine wx_blk (pc' := 22) (L' := [some (.ref 162), some (.int v1), some (.int v2), none]) (st' := [.int (11 : Int32), .ref 162]) [.aload_n 0, .bipush 11] (by decide +kernel) rfl rfl ?_
    refine wx_callV (d1 := 0) (As := [.int (11 : Int32)]) (rest := []) (by omega) is_162 (by decide) rfl cv_12_463 rfl (Nat.le_of_ble_eq_true rfl) (l_f12_leaves G 0 (by omega) (11 : Int32) μ) rfl (by decide +kernel) (fun μ6 => ?_)
    refine l_f12_sizeOf_j25 G d hd v1 v2 μ6
def f12_sizeOf (v1 : Int32) (v2 : Int32) (μ : xMu) : Option (Int32 × xMu) :=
  (if v2 = (2 : Int32) then
((f12_leaves (12 : Int32) μ).bind fun μ7 =>
(f12_sizeOf_j11 v1 v2 μ7))
else
(f12_sizeOf_j11 v1 v2 μ))
set_option maxHeartbeats 4000000 in
set_option maxRecDepth 100000 in
theorem l_f12_sizeOf (G : xG) (d : Nat) (hd : 1 ≤ d) (v1 : Int32) (v2 : Int32) (μ : xMu) : Mx G m12_sizeOf d [.ref 162, .int v1, .int v2] μ x_wim (f12_sizeOf v1 v2 μ) := by
  refine mx_enter ok12_sizeOf [some (.ref 162), some (.int v1), some (.int v2), none] rfl (Nat.le_of_ble_eq_true rfl) ?_
  unfold f12_sizeOf
  refine wx_blk (pc' := 2) (L' := [some (.ref 162), some (.int v1), some (.int v2), none]) (st' := [.int (2 : Int32), .int v2]) [.iload_n 2, .iconst 2] (by decide +kernel) rfl rfl ?_
  refine wx_ic_ne 11 (off := 9) (by decide +kernel) (by decide) ?_ ?_
  · refine l_f12_sizeOf_j11 G d hd v1 v2 μ
  · refine wx_blk (pc' := 8) (L' := [some (.ref 162), some (.int v1), some (.int v2), none]) (st' := [.int (12 : Int32), .ref 162]) [.aload_n 0, .bipush 12] (by decide +kernel) rfl rfl ?_
    refine wx_callV (d1 := 0) (As := [.int (12 : Int32)]) (rest := []) (by omega) is_162 (by decide) rfl cv_12_463 rfl (Nat.le_of_ble_eq_true rfl) (l_f12_leaves G 0 (by omega) (12 : Int32) μ) rfl (by decide +kernel) (fun μ7 => ?_)
    refine l_f12_sizeOf_j11 G d hd v1 v2 μ7
/-! WakingLayersModel.markOf(II)I -/
def f12_markOf_j62 (k36 : Int32 → Int32 → Int32 → Int32 → xMu → Option (Int32 × xMu)) (v1 : Int32) (v2 : Int32) (v4 : Int32) (s0 : Int32) (s1 : Int32) (μ : xMu) : Option (Int32 × xMu) :=
  (k36 v1 v2 (s0 + s1) (v4 + (1 : Int32)) μ)
set_option maxHeartbeats 4000000 in
set_option maxRecDepth 100000 in
theorem l_f12_markOf_j62 (G : xG) (d : Nat) (hd : 2 ≤ d) (k36 : Int32 → Int32 → Int32 → Int32 → xMu → Option (Int32 × xMu)) (h36 : ∀ (v1 : Int32) (v2 : Int32) (v3 : Int32) (v4 : Int32) (μ1 : xMu), Wx G m12_markOf d 36 [some (.ref 162), some (.int v1), some (.int v2), some (.int v3), some (.int v4)] [] μ1 x_wim (k36 v1 v2 v3 v4 μ1)) (v1 : Int32) (v2 : Int32) (v4 : Int32) (s0 : Int32) (s1 : Int32) (μ : xMu) : Wx G m12_markOf d 62 [some (.ref 162), some (.int v1), some (.int v2), none, some (.int v4)] [.int s1, .int s0] μ x_wim (f12_markOf_j62 k36 v1 v2 v4 s0 s1 μ) := by
  unfold f12_markOf_j62
  refine wx_blk (pc' := 67) (L' := [some (.ref 162), some (.int v1), some (.int v2), some (.int (s0 + s1)), some (.int (v4 + (1 : Int32)))]) (st' := []) [.iadd, .istore_n 3, .iinc 4 1] (by decide +kernel) rfl rfl ?_
  refine wx_goto 36 (off := -31) (by decide +kernel) (by decide) ?_
  exact h36 v1 v2 (s0 + s1) (v4 + (1 : Int32)) μ
def f12_markOf_l36 (k70 : Int32 → Int32 → Int32 → xMu → Option (Int32 × xMu)) : Nat → Int32 → Int32 → Int32 → Int32 → xMu → Option (Int32 × xMu)
  | 0, _, _, _, _, _ => none
  | n + 1, v1, v2, v3, v4, μ =>
  (if (μ 162 18) ≤ v4 then
(k70 v1 v2 v3 μ)
else
(x_ald μ 176 24 v4 fun x3 =>
(if x3 = v1 then
(f12_markOf_j62 (f12_markOf_l36 k70 n) v1 v2 v4 v3 (1 : Int32) μ)
else
(f12_markOf_j62 (f12_markOf_l36 k70 n) v1 v2 v4 v3 (0 : Int32) μ))))
set_option maxHeartbeats 4000000 in
set_option maxRecDepth 100000 in
theorem l_f12_markOf_l36 (G : xG) (d : Nat) (hd : 2 ≤ d) (k70 : Int32 → Int32 → Int32 → xMu → Option (Int32 × xMu)) (h70 : ∀ (v1 : Int32) (v2 : Int32) (v3 : Int32) (μ1 : xMu), Wx G m12_markOf d 70 [some (.ref 162), some (.int v1), some (.int v2), some (.int v3), none] [] μ1 x_wim (k70 v1 v2 v3 μ1)) : ∀ (n : Nat) (v1 : Int32) (v2 : Int32) (v3 : Int32) (v4 : Int32) (μ : xMu), Wx G m12_markOf d 36 [some (.ref 162), some (.int v1), some (.int v2), some (.int v3), some (.int v4)] [] μ x_wim (f12_markOf_l36 k70 n v1 v2 v3 v4 μ) := by
  intro n
  induction n with
  | zero => intro v1 v2 v3 v4 μ; exact wx_none
  | succ n h36 =>
    intro v1 v2 v3 v4 μ
    unfold f12_markOf_l36
    refine wx_blk (pc' := 39) (L' := [some (.ref 162), some (.int v1), some (.int v2), some (.int v3), some (.int v4)]) (st' := [.ref 162, .int v4]) [.iload 4, .aload_n 0] (by decide +kernel) rfl rfl ?_
    refine wx_geti is_162 ff_12_291 rfl (by decide +kernel) ?_
    refine wx_ic_ge 70 (off := 28) (by decide +kernel) (by decide) ?_ ?_
    · refine wx_weak (L' := [some (.ref 162), some (.int v1), some (.int v2), some (.int v3), none]) ⟨rfl, ⟨rfl, ⟨rfl, ⟨rfl, trivial⟩⟩⟩⟩ ?_
      exact h70 v1 v2 v3 μ
    · refine wx_blk (pc' := 47) (L' := [some (.ref 162), some (.int v1), some (.int v2), some (.int v3), some (.int v4)]) (st' := [.ref 162, .int v3]) [.iload_n 3, .aload_n 0] (by decide +kernel) rfl rfl ?_
      refine wx_getr is_162 ff_12_49 rfl rf_162_19 (by decide +kernel) ?_
      refine wx_blk (pc' := 52) (L' := [some (.ref 162), some (.int v1), some (.int v2), some (.int v3), some (.int v4)]) (st' := [.int v4, .ref 176, .int v3]) [.iload 4] (by decide +kernel) rfl rfl ?_
      refine wx_ald is_176 sz_176 (by decide +kernel) (fun x3 => ?_)
      refine wx_blk (pc' := 54) (L' := [some (.ref 162), some (.int v1), some (.int v2), some (.int v3), some (.int v4)]) (st' := [.int v1, .int x3, .int v3]) [.iload_n 1] (by decide +kernel) rfl rfl ?_
      refine wx_ic_ne 61 (off := 7) (by decide +kernel) (by decide) ?_ ?_
      · refine wx_blk (pc' := 62) (L' := [some (.ref 162), some (.int v1), some (.int v2), some (.int v3), some (.int v4)]) (st' := [.int (0 : Int32), .int v3]) [.iconst 0] (by decide +kernel) rfl rfl ?_
        refine wx_weak (L' := [some (.ref 162), some (.int v1), some (.int v2), none, some (.int v4)]) ⟨rfl, ⟨rfl, ⟨rfl, ⟨rfl, trivial⟩⟩⟩⟩ ?_
        refine l_f12_markOf_j62 G d hd _ h36 v1 v2 v4 v3 (0 : Int32) μ
      · refine wx_blk (pc' := 58) (L' := [some (.ref 162), some (.int v1), some (.int v2), some (.int v3), some (.int v4)]) (st' := [.int (1 : Int32), .int v3]) [.iconst 1] (by decide +kernel) rfl rfl ?_
        refine wx_goto 62 (off := 4) (by decide +kernel) (by decide) ?_
        refine wx_weak (L' := [some (.ref 162), some (.int v1), some (.int v2), none, some (.int v4)]) ⟨rfl, ⟨rfl, ⟨rfl, ⟨rfl, trivial⟩⟩⟩⟩ ?_
        refine l_f12_markOf_j62 G d hd _ h36 v1 v2 v4 v3 (1 : Int32) μ
def f12_markOf_j25 (v1 : Int32) (v2 : Int32) (μ : xMu) : Option (Int32 × xMu) :=
  ((f12_leaves (20 : Int32) μ).bind fun μ2 =>
(f12_markOf_l36 (fun (y4 : Int32) (y5 : Int32) (y6 : Int32) (μ7 : xMu) => ((f12_isOf y5 (3 : Int32)).bind fun x8 =>
(if x8 = 0 then
(if y5 = (5 : Int32) then
((f12_sizeOf y4 y5 μ7).bind fun q9 =>
(some ((y6 + q9.1), q9.2)))
else
(some (y6, μ7)))
else
((f12_isAwake μ7 y4).bind fun x10 =>
(if x10 = 0 then
(some (y6, μ7))
else
(some ((y6 + (100 : Int32)), μ7))))))) 1000 v1 v2 (0 : Int32) (0 : Int32) μ2))
set_option maxHeartbeats 4000000 in
set_option maxRecDepth 100000 in
theorem l_f12_markOf_j25 (G : xG) (d : Nat) (hd : 2 ≤ d) (v1 : Int32) (v2 : Int32) (μ : xMu) : Wx G m12_markOf d 25 [some (.ref 162), some (.int v1), some (.int v2), none, none] [] μ x_wim (f12_markOf_j25 v1 v2 μ) := by
  unfold f12_markOf_j25
  refine wx_blk (pc' := 28) (L' := [some (.ref 162), some (.int v1), some (.int v2), none, none]) (st' := [.int (20 : Int32), .ref 162]) [.aload_n 0, .bipush 20] (by decide +kernel) rfl rfl ?_
  refine wx_callV (d1 := 0) (As := [.int (20 : Int32)]) (rest := []) (by omega) is_162 (by decide) rfl cv_12_463 rfl (Nat.le_of_ble_eq_true rfl) (l_f12_leaves G 0 (by omega) (20 : Int32) μ) rfl (by decide +kernel) (fun μ2 => ?_)
  refine wx_blk (pc' := 36) (L' := [some (.ref 162), some (.int v1), some (.int v2), some (.int (0 : Int32)), some (.int (0 : Int32))]) (st' := []) [.iconst 0, .istore_n 3, .iconst 0, .istore 4] (by decide +kernel) rfl rfl ?_
  refine l_f12_markOf_l36 G d hd _ ?_ 1000 v1 v2 (0 : Int32) (0 : Int32) μ2
  · intro y4 y5 y6 μ7
    refine wx_blk (pc' := 72) (L' := [some (.ref 162), some (.int y4), some (.int y5), some (.int y6), none]) (st' := [.int (3 : Int32), .int y5]) [.iload_n 2, .iconst 3] (by decide +kernel) rfl rfl ?_
    refine wx_callS (d1 := 0) (As := [.int y5, .int (3 : Int32)]) (rest := []) (by omega) cs_12_457 rfl (Nat.le_of_ble_eq_true rfl) (l_f12_isOf G 0 (by omega) μ7 y5 (3 : Int32)) rfl (by decide +kernel) (fun x8 => ?_)
    refine wx_if_eq 97 (off := 22) (by decide +kernel) (by decide) ?_ ?_
    · refine wx_blk (pc' := 99) (L' := [some (.ref 162), some (.int y4), some (.int y5), some (.int y6), none]) (st' := [.int (5 : Int32), .int y5]) [.iload_n 2, .iconst 5] (by decide +kernel) rfl rfl ?_
      refine wx_ic_ne 113 (off := 14) (by decide +kernel) (by decide) ?_ ?_
      · refine wx_blk (pc' := 114) (L' := [some (.ref 162), some (.int y4), some (.int y5), some (.int y6), none]) (st' := [.int y6]) [.iload_n 3] (by decide +kernel) rfl rfl ?_
        exact wx_iret rfl rfl (by decide +kernel)
      · refine wx_blk (pc' := 106) (L' := [some (.ref 162), some (.int y4), some (.int y5), some (.int y6), none]) (st' := [.int y5, .int y4, .ref 162, .int y6]) [.iload_n 3, .aload_n 0, .iload_n 1, .iload_n 2] (by decide +kernel) rfl rfl ?_
        refine wx_callV (d1 := 1) (As := [.int y4, .int y5]) (rest := [.int y6]) (by omega) is_162 (by decide) rfl cv_12_466 rfl (Nat.le_of_ble_eq_true rfl) (l_f12_sizeOf G 1 (by omega) y4 y5 μ7) rfl (by decide +kernel) (fun q9 => ?_)
        refine wx_blk (pc' := 110) (L' := [some (.ref 162), some (.int y4), some (.int y5), some (.int y6), none]) (st' := [.int (y6 + q9.1)]) [.iadd] (by decide +kernel) rfl rfl ?_
        refine wx_goto 114 (off := 4) (by decide +kernel) (by decide) ?_
        exact wx_iret rfl rfl (by decide +kernel)
    · refine wx_blk (pc' := 80) (L' := [some (.ref 162), some (.int y4), some (.int y5), some (.int y6), none]) (st' := [.int y4, .ref 162]) [.aload_n 0, .iload_n 1] (by decide +kernel) rfl rfl ?_
      refine wx_callV (d1 := 1) (As := [.int y4]) (rest := []) (by omega) is_162 (by decide) rfl cv_12_325 rfl (Nat.le_of_ble_eq_true rfl) (l_f12_isAwake G 1 (by omega) μ7 y4) rfl (by decide +kernel) (fun x10 => ?_)
      refine wx_if_eq 93 (off := 10) (by decide +kernel) (by decide) ?_ ?_
      · refine wx_blk (pc' := 94) (L' := [some (.ref 162), some (.int y4), some (.int y5), some (.int y6), none]) (st' := [.int y6]) [.iload_n 3] (by decide +kernel) rfl rfl ?_
        refine wx_goto 114 (off := 20) (by decide +kernel) (by decide) ?_
        exact wx_iret rfl rfl (by decide +kernel)
      · refine wx_blk (pc' := 90) (L' := [some (.ref 162), some (.int y4), some (.int y5), some (.int y6), none]) (st' := [.int (y6 + (100 : Int32))]) [.iload_n 3, .bipush 100, .iadd] (by decide +kernel) rfl rfl ?_
        refine wx_goto 114 (off := 24) (by decide +kernel) (by decide) ?_
        exact wx_iret rfl rfl (by decide +kernel)
def f12_markOf_j14 (v1 : Int32) (v2 : Int32) (μ : xMu) : Option (Int32 × xMu) :=
  (if v2 = (5 : Int32) then
((f12_leaves (22 : Int32) μ).bind fun μ11 =>
(f12_markOf_j25 v1 v2 μ11))
else
(f12_markOf_j25 v1 v2 μ))
set_option maxHeartbeats 4000000 in
set_option maxRecDepth 100000 in
theorem l_f12_markOf_j14 (G : xG) (d : Nat) (hd : 2 ≤ d) (v1 : Int32) (v2 : Int32) (μ : xMu) : Wx G m12_markOf d 14 [some (.ref 162), some (.int v1), some (.int v2), none, none] [] μ x_wim (f12_markOf_j14 v1 v2 μ) := by
  unfold f12_markOf_j14
  refine wx_blk (pc' := 16) (L' := [some (.ref 162), some (.int v1), some (.int v2), none, none]) (st' := [.int (5 : Int32), .int v2]) [.iload_n 2, .iconst 5] (by decide +kernel) rfl rfl ?_
  refine wx_ic_ne 25 (off := 9) (by decide +kernel) (by decide) ?_ ?_
  · refine l_f12_markOf_j25 G d hd v1 v2 μ
  · refine wx_blk (pc' := 22) (L' := [some (.ref 162), some (.int v1), some (.int v2), none, none]) (st' := [.int (22 : Int32), .ref 162]) [.aload_n 0, .bipush 22] (by decide +kernel) rfl rfl ?_
    refine wx_callV (d1 := 0) (As := [.int (22 : Int32)]) (rest := []) (by omega) is_162 (by decide) rfl cv_12_463 rfl (Nat.le_of_ble_eq_true rfl) (l_f12_leaves G 0 (by omega) (22 : Int32) μ) rfl (by decide +kernel) (fun μ11 => ?_)
    refine l_f12_markOf_j25 G d hd v1 v2 μ11
def f12_markOf (v1 : Int32) (v2 : Int32) (μ : xMu) : Option (Int32 × xMu) :=
  ((f12_isOf v2 (3 : Int32)).bind fun x1 =>
(if x1 = 0 then
(f12_markOf_j14 v1 v2 μ)
else
((f12_leaves (21 : Int32) μ).bind fun μ12 =>
(f12_markOf_j14 v1 v2 μ12))))
set_option maxHeartbeats 4000000 in
set_option maxRecDepth 100000 in
theorem l_f12_markOf (G : xG) (d : Nat) (hd : 2 ≤ d) (v1 : Int32) (v2 : Int32) (μ : xMu) : Mx G m12_markOf d [.ref 162, .int v1, .int v2] μ x_wim (f12_markOf v1 v2 μ) := by
  refine mx_enter ok12_markOf [some (.ref 162), some (.int v1), some (.int v2), none, none] rfl (Nat.le_of_ble_eq_true rfl) ?_
  unfold f12_markOf
  refine wx_blk (pc' := 2) (L' := [some (.ref 162), some (.int v1), some (.int v2), none, none]) (st' := [.int (3 : Int32), .int v2]) [.iload_n 2, .iconst 3] (by decide +kernel) rfl rfl ?_
  refine wx_callS (d1 := 0) (As := [.int v2, .int (3 : Int32)]) (rest := []) (by omega) cs_12_457 rfl (Nat.le_of_ble_eq_true rfl) (l_f12_isOf G 0 (by omega) μ v2 (3 : Int32)) rfl (by decide +kernel) (fun x1 => ?_)
  refine wx_if_eq 14 (off := 9) (by decide +kernel) (by decide) ?_ ?_
  · refine l_f12_markOf_j14 G d hd v1 v2 μ
  · refine wx_blk (pc' := 11) (L' := [some (.ref 162), some (.int v1), some (.int v2), none, none]) (st' := [.int (21 : Int32), .ref 162]) [.aload_n 0, .bipush 21] (by decide +kernel) rfl rfl ?_
    refine wx_callV (d1 := 0) (As := [.int (21 : Int32)]) (rest := []) (by omega) is_162 (by decide) rfl cv_12_463 rfl (Nat.le_of_ble_eq_true rfl) (l_f12_leaves G 0 (by omega) (21 : Int32) μ) rfl (by decide +kernel) (fun μ12 => ?_)
    refine l_f12_markOf_j14 G d hd v1 v2 μ12
/-! WakingLayersModel.bits(I)I -/
def f12_bits_l4 (k24 : Int32 → Option Int32) : Nat → Int32 → Int32 → Int32 → Option Int32
  | 0, _, _, _ => none
  | n + 1, v0, v1, v2 =>
  (if (8 : Int32) ≤ v2 then
(k24 v1)
else
((f12_bits_l4 k24 n) v0 (v1 + ((v0 >>> (v2 &&& 31)) &&& (1 : Int32))) (v2 + (1 : Int32))))
set_option maxHeartbeats 4000000 in
set_option maxRecDepth 100000 in
theorem l_f12_bits_l4 (G : xG) (d : Nat) (hd : 0 ≤ d) (μ : xMu) (k24 : Int32 → Option Int32) (h24 : ∀ (v1 : Int32), Wx G m12_bits d 24 [none, some (.int v1), none] [] μ (x_wi μ) (k24 v1)) : ∀ (n : Nat) (v0 : Int32) (v1 : Int32) (v2 : Int32), Wx G m12_bits d 4 [some (.int v0), some (.int v1), some (.int v2)] [] μ (x_wi μ) (f12_bits_l4 k24 n v0 v1 v2) := by
  intro n
  induction n with
  | zero => intro v0 v1 v2; exact wx_none
  | succ n h4 =>
    intro v0 v1 v2
    unfold f12_bits_l4
    refine wx_blk (pc' := 7) (L' := [some (.int v0), some (.int v1), some (.int v2)]) (st' := [.int (8 : Int32), .int v2]) [.iload_n 2, .bipush 8] (by decide +kernel) rfl rfl ?_
    refine wx_ic_ge 24 (off := 17) (by decide +kernel) (by decide) ?_ ?_
    · refine wx_weak (L' := [none, some (.int v1), none]) ⟨rfl, trivial⟩ ?_
      exact h24 v1
    · refine wx_blk (pc' := 21) (L' := [some (.int v0), some (.int (v1 + ((v0 >>> (v2 &&& 31)) &&& (1 : Int32)))), some (.int (v2 + (1 : Int32)))]) (st' := []) [.iload_n 1, .iload_n 0, .iload_n 2, .ishr, .iconst 1, .iand, .iadd, .istore_n 1, .iinc 2 1] (by decide +kernel) rfl rfl ?_
      refine wx_goto 4 (off := -17) (by decide +kernel) (by decide) ?_
      exact h4 v0 (v1 + ((v0 >>> (v2 &&& 31)) &&& (1 : Int32))) (v2 + (1 : Int32))
def f12_bits (v0 : Int32) : Option Int32 :=
  (f12_bits_l4 (fun (y1 : Int32) => (some y1)) 1000 v0 (0 : Int32) (0 : Int32))
set_option maxHeartbeats 4000000 in
set_option maxRecDepth 100000 in
theorem l_f12_bits (G : xG) (d : Nat) (hd : 0 ≤ d) (μ : xMu) (v0 : Int32) : Mx G m12_bits d [.int v0] μ (x_wi μ) (f12_bits v0) := by
  refine mx_enter ok12_bits [some (.int v0), none, none] rfl (Nat.le_of_ble_eq_true rfl) ?_
  unfold f12_bits
  refine wx_blk (pc' := 4) (L' := [some (.int v0), some (.int (0 : Int32)), some (.int (0 : Int32))]) (st' := []) [.iconst 0, .istore_n 1, .iconst 0, .istore_n 2] (by decide +kernel) rfl rfl ?_
  refine l_f12_bits_l4 G d hd μ _ ?_ 1000 v0 (0 : Int32) (0 : Int32)
  · intro y1
    refine wx_blk (pc' := 25) (L' := [none, some (.int y1), none]) (st' := [.int y1]) [.iload_n 1] (by decide +kernel) rfl rfl ?_
    exact wx_iret rfl rfl (by decide +kernel)
/-! WakingLayersModel.askedSize(II)I -/
def f12_askedSize_j11 (v1 : Int32) (v2 : Int32) (μ : xMu) : Option (Int32 × xMu) :=
  ((f12_leaves (13 : Int32) μ).bind fun μ1 =>
((f12_leaves (10 : Int32) μ1).bind fun μ2 =>
(x_ald μ2 170 8 v1 fun x3 =>
((f12_markOf v1 v2 μ2).bind fun q4 =>
(x_ald q4.2 174 8 v1 fun x5 =>
((f12_bits x5).bind fun x6 =>
(some (((x3 + q4.1) + x6), q4.2))))))))
set_option maxHeartbeats 4000000 in
set_option maxRecDepth 100000 in
theorem l_f12_askedSize_j11 (G : xG) (d : Nat) (hd : 3 ≤ d) (v1 : Int32) (v2 : Int32) (μ : xMu) : Wx G m12_askedSize d 11 [some (.ref 162), some (.int v1), some (.int v2)] [] μ x_wim (f12_askedSize_j11 v1 v2 μ) := by
  unfold f12_askedSize_j11
  refine wx_blk (pc' := 14) (L' := [some (.ref 162), some (.int v1), some (.int v2)]) (st' := [.int (13 : Int32), .ref 162]) [.aload_n 0, .bipush 13] (by decide +kernel) rfl rfl ?_
  refine wx_callV (d1 := 0) (As := [.int (13 : Int32)]) (rest := []) (by omega) is_162 (by decide) rfl cv_12_463 rfl (Nat.le_of_ble_eq_true rfl) (l_f12_leaves G 0 (by omega) (13 : Int32) μ) rfl (by decide +kernel) (fun μ1 => ?_)
  refine wx_blk (pc' := 20) (L' := [some (.ref 162), some (.int v1), some (.int v2)]) (st' := [.int (10 : Int32), .ref 162]) [.aload_n 0, .bipush 10] (by decide +kernel) rfl rfl ?_
  refine wx_callV (d1 := 0) (As := [.int (10 : Int32)]) (rest := []) (by omega) is_162 (by decide) rfl cv_12_463 rfl (Nat.le_of_ble_eq_true rfl) (l_f12_leaves G 0 (by omega) (10 : Int32) μ1) rfl (by decide +kernel) (fun μ2 => ?_)
  refine wx_blk (pc' := 24) (L' := [some (.ref 162), some (.int v1), some (.int v2)]) (st' := [.ref 162]) [.aload_n 0] (by decide +kernel) rfl rfl ?_
  refine wx_getr is_162 ff_12_31 rfl rf_162_12 (by decide +kernel) ?_
  refine wx_blk (pc' := 28) (L' := [some (.ref 162), some (.int v1), some (.int v2)]) (st' := [.int v1, .ref 170]) [.iload_n 1] (by decide +kernel) rfl rfl ?_
  refine wx_ald is_170 sz_170 (by decide +kernel) (fun x3 => ?_)
  refine wx_blk (pc' := 32) (L' := [some (.ref 162), some (.int v1), some (.int v2)]) (st' := [.int v2, .int v1, .ref 162, .int x3]) [.aload_n 0, .iload_n 1, .iload_n 2] (by decide +kernel) rfl rfl ?_
  refine wx_callV (d1 := 2) (As := [.int v1, .int v2]) (rest := [.int x3]) (by omega) is_162 (by decide) rfl cv_12_469 rfl (Nat.le_of_ble_eq_true rfl) (l_f12_markOf G 2 (by omega) v1 v2 μ2) rfl (by decide +kernel) (fun q4 => ?_)
  refine wx_blk (pc' := 37) (L' := [some (.ref 162), some (.int v1), some (.int v2)]) (st' := [.ref 162, .int (x3 + q4.1)]) [.iadd, .aload_n 0] (by decide +kernel) rfl rfl ?_
  refine wx_getr is_162 ff_12_43 rfl rf_162_16 (by decide +kernel) ?_
  refine wx_blk (pc' := 41) (L' := [some (.ref 162), some (.int v1), some (.int v2)]) (st' := [.int v1, .ref 174, .int (x3 + q4.1)]) [.iload_n 1] (by decide +kernel) rfl rfl ?_
  refine wx_ald is_174 sz_174 (by decide +kernel) (fun x5 => ?_)
  refine wx_callS (d1 := 0) (As := [.int x5]) (rest := [.int (x3 + q4.1)]) (by omega) cs_12_472 rfl (Nat.le_of_ble_eq_true rfl) (l_f12_bits G 0 (by omega) q4.2 x5) rfl (by decide +kernel) (fun x6 => ?_)
  refine wx_blk (pc' := 46) (L' := [some (.ref 162), some (.int v1), some (.int v2)]) (st' := [.int ((x3 + q4.1) + x6)]) [.iadd] (by decide +kernel) rfl rfl ?_
  exact wx_iret rfl rfl (by decide +kernel)
def f12_askedSize (v1 : Int32) (v2 : Int32) (μ : xMu) : Option (Int32 × xMu) :=
  (if v2 = (4 : Int32) then
((f12_leaves (14 : Int32) μ).bind fun μ7 =>
(f12_askedSize_j11 v1 v2 μ7))
else
(f12_askedSize_j11 v1 v2 μ))
set_option maxHeartbeats 4000000 in
set_option maxRecDepth 100000 in
theorem l_f12_askedSize (G : xG) (d : Nat) (hd : 3 ≤ d) (v1 : Int32) (v2 : Int32) (μ : xMu) : Mx G m12_askedSize d [.ref 162, .int v1, .int v2] μ x_wim (f12_askedSize v1 v2 μ) := by
  refine mx_enter ok12_askedSize [some (.ref 162), some (.int v1), some (.int v2)] rfl (Nat.le_of_ble_eq_true rfl) ?_
  unfold f12_askedSize
  refine wx_blk (pc' := 2) (L' := [some (.ref 162), some (.int v1), some (.int v2)]) (st' := [.int (4 : Int32), .int v2]) [.iload_n 2, .iconst 4] (by decide +kernel) rfl rfl ?_
  refine wx_ic_ne 11 (off := 9) (by decide +kernel) (by decide) ?_ ?_
  · refine l_f12_askedSize_j11 G d hd v1 v2 μ
  · refine wx_blk (pc' := 8) (L' := [some (.ref 162), some (.int v1), some (.int v2)]) (st' := [.int (14 : Int32), .ref 162]) [.aload_n 0, .bipush 14] (by decide +kernel) rfl rfl ?_
    refine wx_callV (d1 := 0) (As := [.int (14 : Int32)]) (rest := []) (by omega) is_162 (by decide) rfl cv_12_463 rfl (Nat.le_of_ble_eq_true rfl) (l_f12_leaves G 0 (by omega) (14 : Int32) μ) rfl (by decide +kernel) (fun μ7 => ?_)
    refine l_f12_askedSize_j11 G d hd v1 v2 μ7
/-! WakingLayersModel.ask(II)I -/
def f12_ask (v1 : Int32) (v2 : Int32) (μ : xMu) : Option (Int32 × xMu) :=
  (x_put μ 162 0 (0 : Int32) fun μ1 =>
((f12_isLayer μ1 v1).bind fun x2 =>
(if x2 = 0 then
(some ((-1000001 : Int32), μ1))
else
((f12_in (Int32.toInt64 v2) (0 : Int64) (1 : Int64)).bind fun x3 =>
(if x3 = 0 then
(some ((-1000001 : Int32), μ1))
else
(x_put μ1 162 71 (0 : Int32) fun μ4 =>
((f12_kindOf μ4 v1).bind fun x5 =>
(if v2 = (1 : Int32) then
((f12_markOf v1 x5 μ4).bind fun q9 =>
(some (q9.1, q9.2)))
else
((f12_isOf x5 (3 : Int32)).bind fun x6 =>
(if x6 = 0 then
((f12_sizeOf v1 x5 μ4).bind fun q7 =>
(some (q7.1, q7.2)))
else
((f12_askedSize v1 x5 μ4).bind fun q8 =>
(some (q8.1, q8.2)))))))))))))
set_option maxHeartbeats 4000000 in
set_option maxRecDepth 100000 in
theorem l_f12_ask (G : xG) (d : Nat) (hd : 4 ≤ d) (v1 : Int32) (v2 : Int32) (μ : xMu) : Mx G m12_ask d [.ref 162, .int v1, .int v2] μ x_wim (f12_ask v1 v2 μ) := by
  refine mx_enter ok12_ask [some (.ref 162), some (.int v1), some (.int v2), none] rfl (Nat.le_of_ble_eq_true rfl) ?_
  unfold f12_ask
  refine wx_blk (pc' := 2) (L' := [some (.ref 162), some (.int v1), some (.int v2), none]) (st' := [.int (0 : Int32), .ref 162]) [.aload_n 0, .iconst 0] (by decide +kernel) rfl rfl ?_
  refine wx_put is_162 ff_12_131 fp_12_0 ⟨rfl, rfl⟩ (by decide +kernel) (fun μ1 => ?_)
  refine wx_blk (pc' := 7) (L' := [some (.ref 162), some (.int v1), some (.int v2), none]) (st' := [.int v1, .ref 162]) [.aload_n 0, .iload_n 1] (by decide +kernel) rfl rfl ?_
  refine wx_callV (d1 := 1) (As := [.int v1]) (rest := []) (by omega) is_162 (by decide) rfl cv_12_337 rfl (Nat.le_of_ble_eq_true rfl) (l_f12_isLayer G 1 (by omega) μ1 v1) rfl (by decide +kernel) (fun x2 => ?_)
  refine wx_if_eq 23 (off := 13) (by decide +kernel) (by decide) ?_ ?_
  · refine wx_ldc (v := -1000001) xw_1394 (by decide +kernel) ?_
    exact wx_iret rfl rfl (by decide +kernel)
  · refine wx_blk (pc' := 17) (L' := [some (.ref 162), some (.int v1), some (.int v2), none]) (st' := [.long (1 : Int64), .long (0 : Int64), .long (Int32.toInt64 v2)]) [.iload_n 2, .i2l, .lconst 0, .lconst 1] (by decide +kernel) rfl rfl ?_
    refine wx_callS (d1 := 0) (As := [.long (Int32.toInt64 v2), .long (0 : Int64), .long (1 : Int64)]) (rest := []) (by omega) cs_12_141 rfl (Nat.le_of_ble_eq_true rfl) (l_f12_in G 0 (by omega) μ1 (Int32.toInt64 v2) (0 : Int64) (1 : Int64)) rfl (by decide +kernel) (fun x3 => ?_)
    refine wx_if_ne 26 (off := 6) (by decide +kernel) (by decide) ?_ ?_
    · refine wx_blk (pc' := 28) (L' := [some (.ref 162), some (.int v1), some (.int v2), none]) (st' := [.int (0 : Int32), .ref 162]) [.aload_n 0, .iconst 0] (by decide +kernel) rfl rfl ?_
      refine wx_put is_162 ff_12_460 fp_12_71 ⟨rfl, rfl⟩ (by decide +kernel) (fun μ4 => ?_)
      refine wx_blk (pc' := 33) (L' := [some (.ref 162), some (.int v1), some (.int v2), none]) (st' := [.int v1, .ref 162]) [.aload_n 0, .iload_n 1] (by decide +kernel) rfl rfl ?_
      refine wx_callV (d1 := 0) (As := [.int v1]) (rest := []) (by omega) is_162 (by decide) rfl cv_12_454 rfl (Nat.le_of_ble_eq_true rfl) (l_f12_kindOf G 0 (by omega) μ4 v1) rfl (by decide +kernel) (fun x5 => ?_)
      refine wx_blk (pc' := 39) (L' := [some (.ref 162), some (.int v1), some (.int v2), some (.int x5)]) (st' := [.int (1 : Int32), .int v2]) [.istore_n 3, .iload_n 2, .iconst 1] (by decide +kernel) rfl rfl ?_
      refine wx_ic_ne 51 (off := 12) (by decide +kernel) (by decide) ?_ ?_
      · refine wx_blk (pc' := 53) (L' := [some (.ref 162), some (.int v1), some (.int v2), some (.int x5)]) (st' := [.int (3 : Int32), .int x5]) [.iload_n 3, .iconst 3] (by decide +kernel) rfl rfl ?_
        refine wx_callS (d1 := 0) (As := [.int x5, .int (3 : Int32)]) (rest := []) (by omega) cs_12_457 rfl (Nat.le_of_ble_eq_true rfl) (l_f12_isOf G 0 (by omega) μ4 x5 (3 : Int32)) rfl (by decide +kernel) (fun x6 => ?_)
        refine wx_if_eq 68 (off := 12) (by decide +kernel) (by decide) ?_ ?_
        · refine wx_blk (pc' := 71) (L' := [some (.ref 162), some (.int v1), some (.int v2), some (.int x5)]) (st' := [.int x5, .int v1, .ref 162]) [.aload_n 0, .iload_n 1, .iload_n 3] (by decide +kernel) rfl rfl ?_
          refine wx_callV (d1 := 1) (As := [.int v1, .int x5]) (rest := []) (by omega) is_162 (by decide) rfl cv_12_466 rfl (Nat.le_of_ble_eq_true rfl) (l_f12_sizeOf G 1 (by omega) v1 x5 μ4) rfl (by decide +kernel) (fun q7 => ?_)
          exact wx_iret rfl rfl (by decide +kernel)
        · refine wx_blk (pc' := 62) (L' := [some (.ref 162), some (.int v1), some (.int v2), some (.int x5)]) (st' := [.int x5, .int v1, .ref 162]) [.aload_n 0, .iload_n 1, .iload_n 3] (by decide +kernel) rfl rfl ?_
          refine wx_callV (d1 := 3) (As := [.int v1, .int x5]) (rest := []) (by omega) is_162 (by decide) rfl cv_12_475 rfl (Nat.le_of_ble_eq_true rfl) (l_f12_askedSize G 3 (by omega) v1 x5 μ4) rfl (by decide +kernel) (fun q8 => ?_)
          refine wx_goto 74 (off := 9) (by decide +kernel) (by decide) ?_
          exact wx_iret rfl rfl (by decide +kernel)
      · refine wx_blk (pc' := 45) (L' := [some (.ref 162), some (.int v1), some (.int v2), some (.int x5)]) (st' := [.int x5, .int v1, .ref 162]) [.aload_n 0, .iload_n 1, .iload_n 3] (by decide +kernel) rfl rfl ?_
        refine wx_callV (d1 := 2) (As := [.int v1, .int x5]) (rest := []) (by omega) is_162 (by decide) rfl cv_12_469 rfl (Nat.le_of_ble_eq_true rfl) (l_f12_markOf G 2 (by omega) v1 x5 μ4) rfl (by decide +kernel) (fun q9 => ?_)
        refine wx_goto 74 (off := 26) (by decide +kernel) (by decide) ?_
        exact wx_iret rfl rfl (by decide +kernel)
    · refine wx_ldc (v := -1000001) xw_1394 (by decide +kernel) ?_
      exact wx_iret rfl rfl (by decide +kernel)
/-! WakingLayersModel.trace(I)I -/
def f12_trace (v1 : Int32) (μ : xMu) : Option (Int32 × xMu) :=
  (x_put μ 162 0 (0 : Int32) fun μ1 =>
((f12_in (Int32.toInt64 v1) (0 : Int64) (Int32.toInt64 ((μ1 162 71) - (1 : Int32)))).bind fun x2 =>
(if x2 = 0 then
(some ((-1000000 : Int32), μ1))
else
(x_ald μ1 202 16 v1 fun x3 =>
(some (x3, μ1))))))
set_option maxHeartbeats 4000000 in
set_option maxRecDepth 100000 in
theorem l_f12_trace (G : xG) (d : Nat) (hd : 1 ≤ d) (v1 : Int32) (μ : xMu) : Mx G m12_trace d [.ref 162, .int v1] μ x_wim (f12_trace v1 μ) := by
  refine mx_enter ok12_trace [some (.ref 162), some (.int v1)] rfl (Nat.le_of_ble_eq_true rfl) ?_
  unfold f12_trace
  refine wx_blk (pc' := 2) (L' := [some (.ref 162), some (.int v1)]) (st' := [.int (0 : Int32), .ref 162]) [.aload_n 0, .iconst 0] (by decide +kernel) rfl rfl ?_
  refine wx_put is_162 ff_12_131 fp_12_0 ⟨rfl, rfl⟩ (by decide +kernel) (fun μ1 => ?_)
  refine wx_blk (pc' := 9) (L' := [some (.ref 162), some (.int v1)]) (st' := [.ref 162, .long (0 : Int64), .long (Int32.toInt64 v1)]) [.iload_n 1, .i2l, .lconst 0, .aload_n 0] (by decide +kernel) rfl rfl ?_
  refine wx_geti is_162 ff_12_460 rfl (by decide +kernel) ?_
  refine wx_blk (pc' := 15) (L' := [some (.ref 162), some (.int v1)]) (st' := [.long (Int32.toInt64 ((μ1 162 71) - (1 : Int32))), .long (0 : Int64), .long (Int32.toInt64 v1)]) [.iconst 1, .isub, .i2l] (by decide +kernel) rfl rfl ?_
  refine wx_callS (d1 := 0) (As := [.long (Int32.toInt64 v1), .long (0 : Int64), .long (Int32.toInt64 ((μ1 162 71) - (1 : Int32)))]) (rest := []) (by omega) cs_12_141 rfl (Nat.le_of_ble_eq_true rfl) (l_f12_in G 0 (by omega) μ1 (Int32.toInt64 v1) (0 : Int64) (Int32.toInt64 ((μ1 162 71) - (1 : Int32)))) rfl (by decide +kernel) (fun x2 => ?_)
  refine wx_if_eq 30 (off := 12) (by decide +kernel) (by decide) ?_ ?_
  · refine wx_ldc (v := -1000000) xw_1431 (by decide +kernel) ?_
    exact wx_iret rfl rfl (by decide +kernel)
  · refine wx_blk (pc' := 22) (L' := [some (.ref 162), some (.int v1)]) (st' := [.ref 162]) [.aload_n 0] (by decide +kernel) rfl rfl ?_
    refine wx_getr is_162 ff_12_128 rfl rf_162_70 (by decide +kernel) ?_
    refine wx_blk (pc' := 26) (L' := [some (.ref 162), some (.int v1)]) (st' := [.int v1, .ref 202]) [.iload_n 1] (by decide +kernel) rfl rfl ?_
    refine wx_ald is_202 sz_202 (by decide +kernel) (fun x3 => ?_)
    refine wx_goto 32 (off := 5) (by decide +kernel) (by decide) ?_
    exact wx_iret rfl rfl (by decide +kernel)
/-! WakingLayersModel.count(I)I -/
def f12_count_j79 (k58 : Int32 → Int32 → xMu → Option (Int32 × xMu)) (v3 : Int32) (s0 : Int32) (s1 : Int32) (μ : xMu) : Option (Int32 × xMu) :=
  (k58 (s0 + s1) (v3 + (1 : Int32)) μ)
set_option maxHeartbeats 4000000 in
set_option maxRecDepth 100000 in
theorem l_f12_count_j79 (G : xG) (d : Nat) (hd : 2 ≤ d) (k58 : Int32 → Int32 → xMu → Option (Int32 × xMu)) (h58 : ∀ (v2 : Int32) (v3 : Int32) (μ1 : xMu), Wx G m12_count d 58 [some (.ref 162), none, some (.int v2), some (.int v3)] [] μ1 x_wim (k58 v2 v3 μ1)) (v3 : Int32) (s0 : Int32) (s1 : Int32) (μ : xMu) : Wx G m12_count d 79 [some (.ref 162), none, none, some (.int v3)] [.int s1, .int s0] μ x_wim (f12_count_j79 k58 v3 s0 s1 μ) := by
  unfold f12_count_j79
  refine wx_blk (pc' := 84) (L' := [some (.ref 162), none, some (.int (s0 + s1)), some (.int (v3 + (1 : Int32)))]) (st' := []) [.iadd, .istore_n 2, .iinc 3 1] (by decide +kernel) rfl rfl ?_
  refine wx_goto 58 (off := -26) (by decide +kernel) (by decide) ?_
  exact h58 (s0 + s1) (v3 + (1 : Int32)) μ
def f12_count_l58 (k87 : Int32 → xMu → Option (Int32 × xMu)) : Nat → Int32 → Int32 → xMu → Option (Int32 × xMu)
  | 0, _, _, _ => none
  | n + 1, v2, v3, μ =>
  (if (8 : Int32) ≤ v3 then
(k87 v2 μ)
else
(x_ald μ 163 8 v3 fun x2 =>
(if x2 < 0 then
(f12_count_j79 (f12_count_l58 k87 n) v3 v2 (0 : Int32) μ)
else
(f12_count_j79 (f12_count_l58 k87 n) v3 v2 (1 : Int32) μ))))
set_option maxHeartbeats 4000000 in
set_option maxRecDepth 100000 in
theorem l_f12_count_l58 (G : xG) (d : Nat) (hd : 2 ≤ d) (k87 : Int32 → xMu → Option (Int32 × xMu)) (h87 : ∀ (v2 : Int32) (μ1 : xMu), Wx G m12_count d 87 [none, none, some (.int v2), none] [] μ1 x_wim (k87 v2 μ1)) : ∀ (n : Nat) (v2 : Int32) (v3 : Int32) (μ : xMu), Wx G m12_count d 58 [some (.ref 162), none, some (.int v2), some (.int v3)] [] μ x_wim (f12_count_l58 k87 n v2 v3 μ) := by
  intro n
  induction n with
  | zero => intro v2 v3 μ; exact wx_none
  | succ n h58 =>
    intro v2 v3 μ
    unfold f12_count_l58
    refine wx_blk (pc' := 61) (L' := [some (.ref 162), none, some (.int v2), some (.int v3)]) (st' := [.int (8 : Int32), .int v3]) [.iload_n 3, .bipush 8] (by decide +kernel) rfl rfl ?_
    refine wx_ic_ge 87 (off := 26) (by decide +kernel) (by decide) ?_ ?_
    · refine wx_weak (L' := [none, none, some (.int v2), none]) ⟨rfl, trivial⟩ ?_
      exact h87 v2 μ
    · refine wx_blk (pc' := 66) (L' := [some (.ref 162), none, some (.int v2), some (.int v3)]) (st' := [.ref 162, .int v2]) [.iload_n 2, .aload_n 0] (by decide +kernel) rfl rfl ?_
      refine wx_getr is_162 ff_12_7 rfl rf_162_2 (by decide +kernel) ?_
      refine wx_blk (pc' := 70) (L' := [some (.ref 162), none, some (.int v2), some (.int v3)]) (st' := [.int v3, .ref 163, .int v2]) [.iload_n 3] (by decide +kernel) rfl rfl ?_
      refine wx_ald is_163 sz_163 (by decide +kernel) (fun x2 => ?_)
      refine wx_if_lt 78 (off := 7) (by decide +kernel) (by decide) ?_ ?_
      · refine wx_blk (pc' := 79) (L' := [some (.ref 162), none, some (.int v2), some (.int v3)]) (st' := [.int (0 : Int32), .int v2]) [.iconst 0] (by decide +kernel) rfl rfl ?_
        refine wx_weak (L' := [some (.ref 162), none, none, some (.int v3)]) ⟨rfl, ⟨rfl, trivial⟩⟩ ?_
        refine l_f12_count_j79 G d hd _ h58 v3 v2 (0 : Int32) μ
      · refine wx_blk (pc' := 75) (L' := [some (.ref 162), none, some (.int v2), some (.int v3)]) (st' := [.int (1 : Int32), .int v2]) [.iconst 1] (by decide +kernel) rfl rfl ?_
        refine wx_goto 79 (off := 4) (by decide +kernel) (by decide) ?_
        refine wx_weak (L' := [some (.ref 162), none, none, some (.int v3)]) ⟨rfl, ⟨rfl, trivial⟩⟩ ?_
        refine l_f12_count_j79 G d hd _ h58 v3 v2 (1 : Int32) μ
def f12_count_j138 (k116 : Int32 → Int32 → xMu → Option (Int32 × xMu)) (v3 : Int32) (s0 : Int32) (s1 : Int32) (μ : xMu) : Option (Int32 × xMu) :=
  (k116 (s0 + s1) (v3 + (1 : Int32)) μ)
set_option maxHeartbeats 4000000 in
set_option maxRecDepth 100000 in
theorem l_f12_count_j138 (G : xG) (d : Nat) (hd : 2 ≤ d) (k116 : Int32 → Int32 → xMu → Option (Int32 × xMu)) (h116 : ∀ (v2 : Int32) (v3 : Int32) (μ1 : xMu), Wx G m12_count d 116 [some (.ref 162), none, some (.int v2), some (.int v3)] [] μ1 x_wim (k116 v2 v3 μ1)) (v3 : Int32) (s0 : Int32) (s1 : Int32) (μ : xMu) : Wx G m12_count d 138 [some (.ref 162), none, none, some (.int v3)] [.int s1, .int s0] μ x_wim (f12_count_j138 k116 v3 s0 s1 μ) := by
  unfold f12_count_j138
  refine wx_blk (pc' := 143) (L' := [some (.ref 162), none, some (.int (s0 + s1)), some (.int (v3 + (1 : Int32)))]) (st' := []) [.iadd, .istore_n 2, .iinc 3 1] (by decide +kernel) rfl rfl ?_
  refine wx_goto 116 (off := -27) (by decide +kernel) (by decide) ?_
  exact h116 (s0 + s1) (v3 + (1 : Int32)) μ
def f12_count_l116 (k146 : Int32 → xMu → Option (Int32 × xMu)) : Nat → Int32 → Int32 → xMu → Option (Int32 × xMu)
  | 0, _, _, _ => none
  | n + 1, v2, v3, μ =>
  (if (μ 162 10) ≤ v3 then
(k146 v2 μ)
else
((f12_isAwake μ v3).bind fun x5 =>
(if x5 = 0 then
(f12_count_j138 (f12_count_l116 k146 n) v3 v2 (0 : Int32) μ)
else
(f12_count_j138 (f12_count_l116 k146 n) v3 v2 (1 : Int32) μ))))
set_option maxHeartbeats 4000000 in
set_option maxRecDepth 100000 in
theorem l_f12_count_l116 (G : xG) (d : Nat) (hd : 2 ≤ d) (k146 : Int32 → xMu → Option (Int32 × xMu)) (h146 : ∀ (v2 : Int32) (μ1 : xMu), Wx G m12_count d 146 [none, none, some (.int v2), none] [] μ1 x_wim (k146 v2 μ1)) : ∀ (n : Nat) (v2 : Int32) (v3 : Int32) (μ : xMu), Wx G m12_count d 116 [some (.ref 162), none, some (.int v2), some (.int v3)] [] μ x_wim (f12_count_l116 k146 n v2 v3 μ) := by
  intro n
  induction n with
  | zero => intro v2 v3 μ; exact wx_none
  | succ n h116 =>
    intro v2 v3 μ
    unfold f12_count_l116
    refine wx_blk (pc' := 118) (L' := [some (.ref 162), none, some (.int v2), some (.int v3)]) (st' := [.ref 162, .int v3]) [.iload_n 3, .aload_n 0] (by decide +kernel) rfl rfl ?_
    refine wx_geti is_162 ff_12_288 rfl (by decide +kernel) ?_
    refine wx_ic_ge 146 (off := 25) (by decide +kernel) (by decide) ?_ ?_
    · refine wx_weak (L' := [none, none, some (.int v2), none]) ⟨rfl, trivial⟩ ?_
      exact h146 v2 μ
    · refine wx_blk (pc' := 127) (L' := [some (.ref 162), none, some (.int v2), some (.int v3)]) (st' := [.int v3, .ref 162, .int v2]) [.iload_n 2, .aload_n 0, .iload_n 3] (by decide +kernel) rfl rfl ?_
      refine wx_callV (d1 := 1) (As := [.int v3]) (rest := [.int v2]) (by omega) is_162 (by decide) rfl cv_12_325 rfl (Nat.le_of_ble_eq_true rfl) (l_f12_isAwake G 1 (by omega) μ v3) rfl (by decide +kernel) (fun x5 => ?_)
      refine wx_if_eq 137 (off := 7) (by decide +kernel) (by decide) ?_ ?_
      · refine wx_blk (pc' := 138) (L' := [some (.ref 162), none, some (.int v2), some (.int v3)]) (st' := [.int (0 : Int32), .int v2]) [.iconst 0] (by decide +kernel) rfl rfl ?_
        refine wx_weak (L' := [some (.ref 162), none, none, some (.int v3)]) ⟨rfl, ⟨rfl, trivial⟩⟩ ?_
        refine l_f12_count_j138 G d hd _ h116 v3 v2 (0 : Int32) μ
      · refine wx_blk (pc' := 134) (L' := [some (.ref 162), none, some (.int v2), some (.int v3)]) (st' := [.int (1 : Int32), .int v2]) [.iconst 1] (by decide +kernel) rfl rfl ?_
        refine wx_goto 138 (off := 4) (by decide +kernel) (by decide) ?_
        refine wx_weak (L' := [some (.ref 162), none, none, some (.int v3)]) ⟨rfl, ⟨rfl, trivial⟩⟩ ?_
        refine l_f12_count_j138 G d hd _ h116 v3 v2 (1 : Int32) μ
def f12_count (v1 : Int32) (μ : xMu) : Option (Int32 × xMu) :=
  (x_put μ 162 0 (0 : Int32) fun μ1 =>
(x_sw v1 (nI 0) [
(f12_count_l58 (fun (y3 : Int32) (μ4 : xMu) => (some (y3, μ4))) 1000 (0 : Int32) (0 : Int32) μ1),
(some ((μ1 162 5), μ1)),
(some ((μ1 162 7), μ1)),
(some ((μ1 162 10), μ1)),
(some ((μ1 162 18), μ1)),
(some ((μ1 162 41), μ1)),
(f12_count_l116 (fun (y6 : Int32) (μ7 : xMu) => (some (y6, μ7))) 1000 (0 : Int32) (0 : Int32) μ1),
(some ((μ1 162 26), μ1))] 
(some ((-1000001 : Int32), μ1))))
set_option maxHeartbeats 4000000 in
set_option maxRecDepth 100000 in
theorem l_f12_count (G : xG) (d : Nat) (hd : 2 ≤ d) (v1 : Int32) (μ : xMu) : Mx G m12_count d [.ref 162, .int v1] μ x_wim (f12_count v1 μ) := by
  refine mx_enter ok12_count [some (.ref 162), some (.int v1), none, none] rfl (Nat.le_of_ble_eq_true rfl) ?_
  unfold f12_count
  refine wx_blk (pc' := 2) (L' := [some (.ref 162), some (.int v1), none, none]) (st' := [.int (0 : Int32), .ref 162]) [.aload_n 0, .iconst 0] (by decide +kernel) rfl rfl ?_
  refine wx_put is_162 ff_12_131 fp_12_0 ⟨rfl, rfl⟩ (by decide +kernel) (fun μ1 => ?_)
  refine wx_blk (pc' := 8) (L' := [some (.ref 162), some (.int v1), some (.int (0 : Int32)), none]) (st' := [.int v1]) [.iconst 0, .istore_n 2, .iload_n 1] (by decide +kernel) rfl rfl ?_
  refine wx_tsw [56, 89, 94, 99, 104, 109, 114, 148] 153 0 (dflt := 145) (lo := 0) (hi := 7) (offs := #[48, 81, 86, 91, 96, 101, 106, 140]) (len := 48) (by decide +kernel) rfl rfl (by decide) rfl rfl ⟨?_, ?_, ?_, ?_, ?_, ?_, ?_, ?_, trivial⟩ ?_
  · refine wx_blk (pc' := 58) (L' := [some (.ref 162), some (.int v1), some (.int (0 : Int32)), some (.int (0 : Int32))]) (st' := []) [.iconst 0, .istore_n 3] (by decide +kernel) rfl rfl ?_
    refine wx_weak (L' := [some (.ref 162), none, some (.int (0 : Int32)), some (.int (0 : Int32))]) ⟨rfl, ⟨rfl, ⟨rfl, trivial⟩⟩⟩ ?_
    refine l_f12_count_l58 G d hd _ ?_ 1000 (0 : Int32) (0 : Int32) μ1
    · intro y3 μ4
      refine wx_blk (pc' := 88) (L' := [none, none, some (.int y3), none]) (st' := [.int y3]) [.iload_n 2] (by decide +kernel) rfl rfl ?_
      exact wx_iret rfl rfl (by decide +kernel)
  · refine wx_blk (pc' := 90) (L' := [some (.ref 162), some (.int v1), some (.int (0 : Int32)), none]) (st' := [.ref 162]) [.aload_n 0] (by decide +kernel) rfl rfl ?_
    refine wx_geti is_162 ff_12_282 rfl (by decide +kernel) ?_
    exact wx_iret rfl rfl (by decide +kernel)
  · refine wx_blk (pc' := 95) (L' := [some (.ref 162), some (.int v1), some (.int (0 : Int32)), none]) (st' := [.ref 162]) [.aload_n 0] (by decide +kernel) rfl rfl ?_
    refine wx_geti is_162 ff_12_285 rfl (by decide +kernel) ?_
    exact wx_iret rfl rfl (by decide +kernel)
  · refine wx_blk (pc' := 100) (L' := [some (.ref 162), some (.int v1), some (.int (0 : Int32)), none]) (st' := [.ref 162]) [.aload_n 0] (by decide +kernel) rfl rfl ?_
    refine wx_geti is_162 ff_12_288 rfl (by decide +kernel) ?_
    exact wx_iret rfl rfl (by decide +kernel)
  · refine wx_blk (pc' := 105) (L' := [some (.ref 162), some (.int v1), some (.int (0 : Int32)), none]) (st' := [.ref 162]) [.aload_n 0] (by decide +kernel) rfl rfl ?_
    refine wx_geti is_162 ff_12_291 rfl (by decide +kernel) ?_
    exact wx_iret rfl rfl (by decide +kernel)
  · refine wx_blk (pc' := 110) (L' := [some (.ref 162), some (.int v1), some (.int (0 : Int32)), none]) (st' := [.ref 162]) [.aload_n 0] (by decide +kernel) rfl rfl ?_
    refine wx_geti is_162 ff_12_316 rfl (by decide +kernel) ?_
    exact wx_iret rfl rfl (by decide +kernel)
  · refine wx_blk (pc' := 116) (L' := [some (.ref 162), some (.int v1), some (.int (0 : Int32)), some (.int (0 : Int32))]) (st' := []) [.iconst 0, .istore_n 3] (by decide +kernel) rfl rfl ?_
    refine wx_weak (L' := [some (.ref 162), none, some (.int (0 : Int32)), some (.int (0 : Int32))]) ⟨rfl, ⟨rfl, ⟨rfl, trivial⟩⟩⟩ ?_
    refine l_f12_count_l116 G d hd _ ?_ 1000 (0 : Int32) (0 : Int32) μ1
    · intro y6 μ7
      refine wx_blk (pc' := 147) (L' := [none, none, some (.int y6), none]) (st' := [.int y6]) [.iload_n 2] (by decide +kernel) rfl rfl ?_
      exact wx_iret rfl rfl (by decide +kernel)
  · refine wx_blk (pc' := 149) (L' := [some (.ref 162), some (.int v1), some (.int (0 : Int32)), none]) (st' := [.ref 162]) [.aload_n 0] (by decide +kernel) rfl rfl ?_
    refine wx_geti is_162 ff_12_158 rfl (by decide +kernel) ?_
    exact wx_iret rfl rfl (by decide +kernel)
  · refine wx_ldc (v := -1000001) xw_1394 (by decide +kernel) ?_
    exact wx_iret rfl rfl (by decide +kernel)
