/-! WakingLayersModel.set(III)I -/
def f12_set_j99 (v1 : Int32) (v2 : Int32) (s1 : Int32) (s2 : Int32) (μ : xMu) : Option (Int32 × xMu) :=
  (x_ast μ 165 320 s1 s2 fun μ9 =>
(x_ald μ9 165 320 (((40 : Int32) * v1) + v2) fun x10 =>
(some (x10, μ9))))
set_option maxHeartbeats 4000000 in
set_option maxRecDepth 100000 in
theorem l_f12_set_j99 (G : xG) (d : Nat) (hd : 2 ≤ d) (v1 : Int32) (v2 : Int32) (s1 : Int32) (s2 : Int32) (μ : xMu) : Wx G m12_set d 99 [some (.ref 162), some (.int v1), some (.int v2), none] [.int s2, .int s1, .ref 165] μ x_wim (f12_set_j99 v1 v2 s1 s2 μ) := by
  unfold f12_set_j99
  refine wx_ast is_165 sz_165 (by decide +kernel) (fun μ9 => ?_)
  refine wx_blk (pc' := 101) (L' := [some (.ref 162), some (.int v1), some (.int v2), none]) (st' := [.ref 162]) [.aload_n 0] (by decide +kernel) rfl rfl ?_
  refine wx_getr is_162 ff_12_16 rfl rf_162_4 (by decide +kernel) ?_
  refine wx_blk (pc' := 110) (L' := [some (.ref 162), some (.int v1), some (.int v2), none]) (st' := [.int (((40 : Int32) * v1) + v2), .ref 165]) [.bipush 40, .iload_n 1, .imul, .iload_n 2, .iadd] (by decide +kernel) rfl rfl ?_
  refine wx_ald is_165 sz_165 (by decide +kernel) (fun x10 => ?_)
  exact wx_iret rfl rfl (by decide +kernel)
def f12_set (v1 : Int32) (v2 : Int32) (v3 : Int32) (μ : xMu) : Option (Int32 × xMu) :=
  (x_put μ 162 0 (0 : Int32) fun μ1 =>
((f12_isSheet v1).bind fun x2 =>
(if x2 = 0 then
(some ((-1000001 : Int32), μ1))
else
(x_put μ1 162 1 (0 : Int32) fun μ3 =>
(x_ald μ3 163 8 v1 fun x4 =>
(if 0 ≤ x4 then
(x_ald μ3 164 8 v1 fun x5 =>
((f12_in (Int32.toInt64 v2) (0 : Int64) (Int32.toInt64 (x5 - (1 : Int32)))).bind fun x6 =>
(if x6 = 0 then
((f12_finding (2 : Int32) μ3).bind fun q11 =>
(some (q11.1, q11.2)))
else
(x_ald μ3 163 8 v1 fun x7 =>
(if x7 = 0 then
(f12_set_j99 v1 v2 (((40 : Int32) * v1) + v2) ((Int32.toInt8 v3).toInt32) μ3)
else
(x_ald μ3 163 8 v1 fun x8 =>
(if x8 = (1 : Int32) then
(f12_set_j99 v1 v2 (((40 : Int32) * v1) + v2) ((Int32.toInt16 v3).toInt32) μ3)
else
(f12_set_j99 v1 v2 (((40 : Int32) * v1) + v2) v3 μ3))))))))
else
((f12_finding (1 : Int32) μ3).bind fun q12 =>
(some (q12.1, q12.2)))))))))
set_option maxHeartbeats 4000000 in
set_option maxRecDepth 100000 in
theorem l_f12_set (G : xG) (d : Nat) (hd : 2 ≤ d) (v1 : Int32) (v2 : Int32) (v3 : Int32) (μ : xMu) : Mx G m12_set d [.ref 162, .int v1, .int v2, .int v3] μ x_wim (f12_set v1 v2 v3 μ) := by
  refine mx_enter ok12_set [some (.ref 162), some (.int v1), some (.int v2), some (.int v3)] rfl (Nat.le_of_ble_eq_true rfl) ?_
  unfold f12_set
  refine wx_blk (pc' := 2) (L' := [some (.ref 162), some (.int v1), some (.int v2), some (.int v3)]) (st' := [.int (0 : Int32), .ref 162]) [.aload_n 0, .iconst 0] (by decide +kernel) rfl rfl ?_
  refine wx_put is_162 ff_12_131 fp_12_0 ⟨rfl, rfl⟩ (by decide +kernel) (fun μ1 => ?_)
  refine wx_blk (pc' := 6) (L' := [some (.ref 162), some (.int v1), some (.int v2), some (.int v3)]) (st' := [.int v1]) [.iload_n 1] (by decide +kernel) rfl rfl ?_
  refine wx_callS (d1 := 1) (As := [.int v1]) (rest := []) (by omega) cs_12_145 rfl (Nat.le_of_ble_eq_true rfl) (l_f12_isSheet G 1 (by omega) μ1 v1) rfl (by decide +kernel) (fun x2 => ?_)
  refine wx_if_ne 15 (off := 6) (by decide +kernel) (by decide) ?_ ?_
  · refine wx_blk (pc' := 17) (L' := [some (.ref 162), some (.int v1), some (.int v2), some (.int v3)]) (st' := [.int (0 : Int32), .ref 162]) [.aload_n 0, .iconst 0] (by decide +kernel) rfl rfl ?_
    refine wx_put is_162 ff_12_135 fp_12_1 ⟨rfl, rfl⟩ (by decide +kernel) (fun μ3 => ?_)
    refine wx_blk (pc' := 21) (L' := [some (.ref 162), some (.int v1), some (.int v2), some (.int v3)]) (st' := [.ref 162]) [.aload_n 0] (by decide +kernel) rfl rfl ?_
    refine wx_getr is_162 ff_12_7 rfl rf_162_2 (by decide +kernel) ?_
    refine wx_blk (pc' := 25) (L' := [some (.ref 162), some (.int v1), some (.int v2), some (.int v3)]) (st' := [.int v1, .ref 163]) [.iload_n 1] (by decide +kernel) rfl rfl ?_
    refine wx_ald is_163 sz_163 (by decide +kernel) (fun x4 => ?_)
    refine wx_if_ge 35 (off := 9) (by decide +kernel) (by decide) ?_ ?_
    · refine wx_blk (pc' := 39) (L' := [some (.ref 162), some (.int v1), some (.int v2), some (.int v3)]) (st' := [.ref 162, .long (0 : Int64), .long (Int32.toInt64 v2)]) [.iload_n 2, .i2l, .lconst 0, .aload_n 0] (by decide +kernel) rfl rfl ?_
      refine wx_getr is_162 ff_12_13 rfl rf_162_3 (by decide +kernel) ?_
      refine wx_blk (pc' := 43) (L' := [some (.ref 162), some (.int v1), some (.int v2), some (.int v3)]) (st' := [.int v1, .ref 164, .long (0 : Int64), .long (Int32.toInt64 v2)]) [.iload_n 1] (by decide +kernel) rfl rfl ?_
      refine wx_ald is_164 sz_164 (by decide +kernel) (fun x5 => ?_)
      refine wx_blk (pc' := 47) (L' := [some (.ref 162), some (.int v1), some (.int v2), some (.int v3)]) (st' := [.long (Int32.toInt64 (x5 - (1 : Int32))), .long (0 : Int64), .long (Int32.toInt64 v2)]) [.iconst 1, .isub, .i2l] (by decide +kernel) rfl rfl ?_
      refine wx_callS (d1 := 0) (As := [.long (Int32.toInt64 v2), .long (0 : Int64), .long (Int32.toInt64 (x5 - (1 : Int32)))]) (rest := []) (by omega) cs_12_141 rfl (Nat.le_of_ble_eq_true rfl) (l_f12_in G 0 (by omega) μ3 (Int32.toInt64 v2) (0 : Int64) (Int32.toInt64 (x5 - (1 : Int32)))) rfl (by decide +kernel) (fun x6 => ?_)
      refine wx_if_ne 59 (off := 9) (by decide +kernel) (by decide) ?_ ?_
      · refine wx_blk (pc' := 60) (L' := [some (.ref 162), some (.int v1), some (.int v2), some (.int v3)]) (st' := [.ref 162]) [.aload_n 0] (by decide +kernel) rfl rfl ?_
        refine wx_getr is_162 ff_12_16 rfl rf_162_4 (by decide +kernel) ?_
        refine wx_blk (pc' := 70) (L' := [some (.ref 162), some (.int v1), some (.int v2), some (.int v3)]) (st' := [.ref 162, .int (((40 : Int32) * v1) + v2), .ref 165]) [.bipush 40, .iload_n 1, .imul, .iload_n 2, .iadd, .aload_n 0] (by decide +kernel) rfl rfl ?_
        refine wx_getr is_162 ff_12_7 rfl rf_162_2 (by decide +kernel) ?_
        refine wx_blk (pc' := 74) (L' := [some (.ref 162), some (.int v1), some (.int v2), some (.int v3)]) (st' := [.int v1, .ref 163, .int (((40 : Int32) * v1) + v2), .ref 165]) [.iload_n 1] (by decide +kernel) rfl rfl ?_
        refine wx_ald is_163 sz_163 (by decide +kernel) (fun x7 => ?_)
        refine wx_if_ne 83 (off := 8) (by decide +kernel) (by decide) ?_ ?_
        · refine wx_blk (pc' := 84) (L' := [some (.ref 162), some (.int v1), some (.int v2), some (.int v3)]) (st' := [.ref 162, .int (((40 : Int32) * v1) + v2), .ref 165]) [.aload_n 0] (by decide +kernel) rfl rfl ?_
          refine wx_getr is_162 ff_12_7 rfl rf_162_2 (by decide +kernel) ?_
          refine wx_blk (pc' := 88) (L' := [some (.ref 162), some (.int v1), some (.int v2), some (.int v3)]) (st' := [.int v1, .ref 163, .int (((40 : Int32) * v1) + v2), .ref 165]) [.iload_n 1] (by decide +kernel) rfl rfl ?_
          refine wx_ald is_163 sz_163 (by decide +kernel) (fun x8 => ?_)
          refine wx_blk (pc' := 90) (L' := [some (.ref 162), some (.int v1), some (.int v2), some (.int v3)]) (st' := [.int (1 : Int32), .int x8, .int (((40 : Int32) * v1) + v2), .ref 165]) [.iconst 1] (by decide +kernel) rfl rfl ?_
          refine wx_ic_ne 98 (off := 8) (by decide +kernel) (by decide) ?_ ?_
          · refine wx_blk (pc' := 99) (L' := [some (.ref 162), some (.int v1), some (.int v2), some (.int v3)]) (st' := [.int v3, .int (((40 : Int32) * v1) + v2), .ref 165]) [.iload_n 3] (by decide +kernel) rfl rfl ?_
            refine wx_weak (L' := [some (.ref 162), some (.int v1), some (.int v2), none]) ⟨rfl, ⟨rfl, ⟨rfl, trivial⟩⟩⟩ ?_
            refine l_f12_set_j99 G d hd v1 v2 (((40 : Int32) * v1) + v2) v3 μ3
          · refine wx_blk (pc' := 95) (L' := [some (.ref 162), some (.int v1), some (.int v2), some (.int v3)]) (st' := [.int ((Int32.toInt16 v3).toInt32), .int (((40 : Int32) * v1) + v2), .ref 165]) [.iload_n 3, .i2s] (by decide +kernel) rfl rfl ?_
            refine wx_goto 99 (off := 4) (by decide +kernel) (by decide) ?_
            refine wx_weak (L' := [some (.ref 162), some (.int v1), some (.int v2), none]) ⟨rfl, ⟨rfl, ⟨rfl, trivial⟩⟩⟩ ?_
            refine l_f12_set_j99 G d hd v1 v2 (((40 : Int32) * v1) + v2) ((Int32.toInt16 v3).toInt32) μ3
        · refine wx_blk (pc' := 80) (L' := [some (.ref 162), some (.int v1), some (.int v2), some (.int v3)]) (st' := [.int ((Int32.toInt8 v3).toInt32), .int (((40 : Int32) * v1) + v2), .ref 165]) [.iload_n 3, .i2b] (by decide +kernel) rfl rfl ?_
          refine wx_goto 99 (off := 19) (by decide +kernel) (by decide) ?_
          refine wx_weak (L' := [some (.ref 162), some (.int v1), some (.int v2), none]) ⟨rfl, ⟨rfl, ⟨rfl, trivial⟩⟩⟩ ?_
          refine l_f12_set_j99 G d hd v1 v2 (((40 : Int32) * v1) + v2) ((Int32.toInt8 v3).toInt32) μ3
      · refine wx_blk (pc' := 55) (L' := [some (.ref 162), some (.int v1), some (.int v2), some (.int v3)]) (st' := [.int (2 : Int32), .ref 162]) [.aload_n 0, .iconst 2] (by decide +kernel) rfl rfl ?_
        refine wx_callV (d1 := 0) (As := [.int (2 : Int32)]) (rest := []) (by omega) is_162 (by decide) rfl cv_12_152 rfl (Nat.le_of_ble_eq_true rfl) (l_f12_finding G 0 (by omega) (2 : Int32) μ3) rfl (by decide +kernel) (fun q11 => ?_)
        exact wx_iret rfl rfl (by decide +kernel)
    · refine wx_blk (pc' := 31) (L' := [some (.ref 162), some (.int v1), some (.int v2), some (.int v3)]) (st' := [.int (1 : Int32), .ref 162]) [.aload_n 0, .iconst 1] (by decide +kernel) rfl rfl ?_
      refine wx_callV (d1 := 0) (As := [.int (1 : Int32)]) (rest := []) (by omega) is_162 (by decide) rfl cv_12_152 rfl (Nat.le_of_ble_eq_true rfl) (l_f12_finding G 0 (by omega) (1 : Int32) μ3) rfl (by decide +kernel) (fun q12 => ?_)
      exact wx_iret rfl rfl (by decide +kernel)
  · refine wx_ldc (v := -1000001) xw_1394 (by decide +kernel) ?_
    exact wx_iret rfl rfl (by decide +kernel)
/-! WakingLayersModel.copy(IIIII)I -/
def f12_copy_j45 (μ : xMu) : Option (Int32 × xMu) :=
  ((f12_finding (1 : Int32) μ).bind fun q6 =>
(some (q6.1, q6.2)))
set_option maxHeartbeats 4000000 in
set_option maxRecDepth 100000 in
theorem l_f12_copy_j45 (G : xG) (d : Nat) (hd : 2 ≤ d) (μ : xMu) : Wx G m12_copy d 45 [some (.ref 162), none, none, none, none, none, none, none, none] [] μ x_wim (f12_copy_j45 μ) := by
  unfold f12_copy_j45
  refine wx_blk (pc' := 47) (L' := [some (.ref 162), none, none, none, none, none, none, none, none]) (st' := [.int (1 : Int32), .ref 162]) [.aload_n 0, .iconst 1] (by decide +kernel) rfl rfl ?_
  refine wx_callV (d1 := 0) (As := [.int (1 : Int32)]) (rest := []) (by omega) is_162 (by decide) rfl cv_12_152 rfl (Nat.le_of_ble_eq_true rfl) (l_f12_finding G 0 (by omega) (1 : Int32) μ) rfl (by decide +kernel) (fun q6 => ?_)
  exact wx_iret rfl rfl (by decide +kernel)
def f12_copy_j121 (μ : xMu) : Option (Int32 × xMu) :=
  ((f12_finding (2 : Int32) μ).bind fun q10 =>
(some (q10.1, q10.2)))
set_option maxHeartbeats 4000000 in
set_option maxRecDepth 100000 in
theorem l_f12_copy_j121 (G : xG) (d : Nat) (hd : 2 ≤ d) (μ : xMu) : Wx G m12_copy d 121 [some (.ref 162), none, none, none, none, none, none, none, none] [] μ x_wim (f12_copy_j121 μ) := by
  unfold f12_copy_j121
  refine wx_blk (pc' := 123) (L' := [some (.ref 162), none, none, none, none, none, none, none, none]) (st' := [.int (2 : Int32), .ref 162]) [.aload_n 0, .iconst 2] (by decide +kernel) rfl rfl ?_
  refine wx_callV (d1 := 0) (As := [.int (2 : Int32)]) (rest := []) (by omega) is_162 (by decide) rfl cv_12_152 rfl (Nat.le_of_ble_eq_true rfl) (l_f12_finding G 0 (by omega) (2 : Int32) μ) rfl (by decide +kernel) (fun q10 => ?_)
  exact wx_iret rfl rfl (by decide +kernel)
def f12_copy_j167 (k143 : Int32 → Int32 → Int32 → Int32 → Int32 → Int32 → Int32 → xMu → Option (Int32 × xMu)) (v1 : Int32) (v2 : Int32) (v3 : Int32) (v4 : Int32) (v5 : Int32) (v6 : Int32) (v7 : Int32) (s0 : Int32) (μ : xMu) : Option (Int32 × xMu) :=
  (x_ald μ 165 320 ((((40 : Int32) * v1) + v2) + s0) fun x13 =>
(x_ast μ 165 320 ((((40 : Int32) * v3) + v4) + s0) x13 fun μ14 =>
(k143 v1 v2 v3 v4 v5 v6 (v7 + (1 : Int32)) μ14)))
set_option maxHeartbeats 4000000 in
set_option maxRecDepth 100000 in
theorem l_f12_copy_j167 (G : xG) (d : Nat) (hd : 2 ≤ d) (k143 : Int32 → Int32 → Int32 → Int32 → Int32 → Int32 → Int32 → xMu → Option (Int32 × xMu)) (h143 : ∀ (v1 : Int32) (v2 : Int32) (v3 : Int32) (v4 : Int32) (v5 : Int32) (v6 : Int32) (v7 : Int32) (μ1 : xMu), Wx G m12_copy d 143 [some (.ref 162), some (.int v1), some (.int v2), some (.int v3), some (.int v4), some (.int v5), some (.int v6), some (.int v7), none] [] μ1 x_wim (k143 v1 v2 v3 v4 v5 v6 v7 μ1)) (v1 : Int32) (v2 : Int32) (v3 : Int32) (v4 : Int32) (v5 : Int32) (v6 : Int32) (v7 : Int32) (s0 : Int32) (μ : xMu) : Wx G m12_copy d 167 [some (.ref 162), some (.int v1), some (.int v2), some (.int v3), some (.int v4), some (.int v5), some (.int v6), some (.int v7), none] [.int s0] μ x_wim (f12_copy_j167 k143 v1 v2 v3 v4 v5 v6 v7 s0 μ) := by
  unfold f12_copy_j167
  refine wx_blk (pc' := 170) (L' := [some (.ref 162), some (.int v1), some (.int v2), some (.int v3), some (.int v4), some (.int v5), some (.int v6), some (.int v7), some (.int s0)]) (st' := [.ref 162]) [.istore 8, .aload_n 0] (by decide +kernel) rfl rfl ?_
  refine wx_getr is_162 ff_12_16 rfl rf_162_4 (by decide +kernel) ?_
  refine wx_blk (pc' := 184) (L' := [some (.ref 162), some (.int v1), some (.int v2), some (.int v3), some (.int v4), some (.int v5), some (.int v6), some (.int v7), some (.int s0)]) (st' := [.ref 162, .int ((((40 : Int32) * v3) + v4) + s0), .ref 165]) [.bipush 40, .iload_n 3, .imul, .iload 4, .iadd, .iload 8, .iadd, .aload_n 0] (by decide +kernel) rfl rfl ?_
  refine wx_getr is_162 ff_12_16 rfl rf_162_4 (by decide +kernel) ?_
  refine wx_blk (pc' := 196) (L' := [some (.ref 162), some (.int v1), some (.int v2), some (.int v3), some (.int v4), some (.int v5), some (.int v6), some (.int v7), some (.int s0)]) (st' := [.int ((((40 : Int32) * v1) + v2) + s0), .ref 165, .int ((((40 : Int32) * v3) + v4) + s0), .ref 165]) [.bipush 40, .iload_n 1, .imul, .iload_n 2, .iadd, .iload 8, .iadd] (by decide +kernel) rfl rfl ?_
  refine wx_ald is_165 sz_165 (by decide +kernel) (fun x13 => ?_)
  refine wx_ast is_165 sz_165 (by decide +kernel) (fun μ14 => ?_)
  refine wx_blk (pc' := 201) (L' := [some (.ref 162), some (.int v1), some (.int v2), some (.int v3), some (.int v4), some (.int v5), some (.int v6), some (.int (v7 + (1 : Int32))), some (.int s0)]) (st' := []) [.iinc 7 1] (by decide +kernel) rfl rfl ?_
  refine wx_goto 143 (off := -58) (by decide +kernel) (by decide) ?_
  refine wx_weak (L' := [some (.ref 162), some (.int v1), some (.int v2), some (.int v3), some (.int v4), some (.int v5), some (.int v6), some (.int (v7 + (1 : Int32))), none]) ⟨rfl, ⟨rfl, ⟨rfl, ⟨rfl, ⟨rfl, ⟨rfl, ⟨rfl, ⟨rfl, trivial⟩⟩⟩⟩⟩⟩⟩⟩ ?_
  exact h143 v1 v2 v3 v4 v5 v6 (v7 + (1 : Int32)) μ14
def f12_copy_l143 (k204 : Int32 → xMu → Option (Int32 × xMu)) : Nat → Int32 → Int32 → Int32 → Int32 → Int32 → Int32 → Int32 → xMu → Option (Int32 × xMu)
  | 0, _, _, _, _, _, _, _, _ => none
  | n + 1, v1, v2, v3, v4, v5, v6, v7, μ =>
  (if v5 ≤ v7 then
(k204 v5 μ)
else
(if v6 = 0 then
(f12_copy_j167 (f12_copy_l143 k204 n) v1 v2 v3 v4 v5 v6 v7 ((v5 - (1 : Int32)) - v7) μ)
else
(f12_copy_j167 (f12_copy_l143 k204 n) v1 v2 v3 v4 v5 v6 v7 v7 μ)))
set_option maxHeartbeats 4000000 in
set_option maxRecDepth 100000 in
theorem l_f12_copy_l143 (G : xG) (d : Nat) (hd : 2 ≤ d) (k204 : Int32 → xMu → Option (Int32 × xMu)) (h204 : ∀ (v5 : Int32) (μ1 : xMu), Wx G m12_copy d 204 [none, none, none, none, none, some (.int v5), none, none, none] [] μ1 x_wim (k204 v5 μ1)) : ∀ (n : Nat) (v1 : Int32) (v2 : Int32) (v3 : Int32) (v4 : Int32) (v5 : Int32) (v6 : Int32) (v7 : Int32) (μ : xMu), Wx G m12_copy d 143 [some (.ref 162), some (.int v1), some (.int v2), some (.int v3), some (.int v4), some (.int v5), some (.int v6), some (.int v7), none] [] μ x_wim (f12_copy_l143 k204 n v1 v2 v3 v4 v5 v6 v7 μ) := by
  intro n
  induction n with
  | zero => intro v1 v2 v3 v4 v5 v6 v7 μ; exact wx_none
  | succ n h143 =>
    intro v1 v2 v3 v4 v5 v6 v7 μ
    unfold f12_copy_l143
    refine wx_blk (pc' := 147) (L' := [some (.ref 162), some (.int v1), some (.int v2), some (.int v3), some (.int v4), some (.int v5), some (.int v6), some (.int v7), none]) (st' := [.int v5, .int v7]) [.iload 7, .iload 5] (by decide +kernel) rfl rfl ?_
    refine wx_ic_ge 204 (off := 57) (by decide +kernel) (by decide) ?_ ?_
    · refine wx_weak (L' := [none, none, none, none, none, some (.int v5), none, none, none]) ⟨rfl, trivial⟩ ?_
      exact h204 v5 μ
    · refine wx_blk (pc' := 152) (L' := [some (.ref 162), some (.int v1), some (.int v2), some (.int v3), some (.int v4), some (.int v5), some (.int v6), some (.int v7), none]) (st' := [.int v6]) [.iload 6] (by decide +kernel) rfl rfl ?_
      refine wx_if_eq 160 (off := 8) (by decide +kernel) (by decide) ?_ ?_
      · refine wx_blk (pc' := 167) (L' := [some (.ref 162), some (.int v1), some (.int v2), some (.int v3), some (.int v4), some (.int v5), some (.int v6), some (.int v7), none]) (st' := [.int ((v5 - (1 : Int32)) - v7)]) [.iload 5, .iconst 1, .isub, .iload 7, .isub] (by decide +kernel) rfl rfl ?_
        refine l_f12_copy_j167 G d hd _ h143 v1 v2 v3 v4 v5 v6 v7 ((v5 - (1 : Int32)) - v7) μ
      · refine wx_blk (pc' := 157) (L' := [some (.ref 162), some (.int v1), some (.int v2), some (.int v3), some (.int v4), some (.int v5), some (.int v6), some (.int v7), none]) (st' := [.int v7]) [.iload 7] (by decide +kernel) rfl rfl ?_
        refine wx_goto 167 (off := 10) (by decide +kernel) (by decide) ?_
        refine l_f12_copy_j167 G d hd _ h143 v1 v2 v3 v4 v5 v6 v7 v7 μ
def f12_copy_j138 (v1 : Int32) (v2 : Int32) (v3 : Int32) (v4 : Int32) (v5 : Int32) (s0 : Int32) (μ : xMu) : Option (Int32 × xMu) :=
  (f12_copy_l143 (fun (y15 : Int32) (μ16 : xMu) => (some (y15, μ16))) 1000 v1 v2 v3 v4 v5 s0 (0 : Int32) μ)
set_option maxHeartbeats 4000000 in
set_option maxRecDepth 100000 in
theorem l_f12_copy_j138 (G : xG) (d : Nat) (hd : 2 ≤ d) (v1 : Int32) (v2 : Int32) (v3 : Int32) (v4 : Int32) (v5 : Int32) (s0 : Int32) (μ : xMu) : Wx G m12_copy d 138 [some (.ref 162), some (.int v1), some (.int v2), some (.int v3), some (.int v4), some (.int v5), none, none, none] [.int s0] μ x_wim (f12_copy_j138 v1 v2 v3 v4 v5 s0 μ) := by
  unfold f12_copy_j138
  refine wx_blk (pc' := 143) (L' := [some (.ref 162), some (.int v1), some (.int v2), some (.int v3), some (.int v4), some (.int v5), some (.int s0), some (.int (0 : Int32)), none]) (st' := []) [.istore 6, .iconst 0, .istore 7] (by decide +kernel) rfl rfl ?_
  refine l_f12_copy_l143 G d hd _ ?_ 1000 v1 v2 v3 v4 v5 s0 (0 : Int32) μ
  · intro y15 μ16
    refine wx_blk (pc' := 206) (L' := [none, none, none, none, none, some (.int y15), none, none, none]) (st' := [.int y15]) [.iload 5] (by decide +kernel) rfl rfl ?_
    exact wx_iret rfl rfl (by decide +kernel)
def f12_copy (v1 : Int32) (v2 : Int32) (v3 : Int32) (v4 : Int32) (v5 : Int32) (μ : xMu) : Option (Int32 × xMu) :=
  (x_put μ 162 0 (0 : Int32) fun μ1 =>
((f12_isSheet v1).bind fun x2 =>
(if x2 = 0 then
(some ((-1000001 : Int32), μ1))
else
((f12_isSheet v3).bind fun x3 =>
(if x3 = 0 then
(some ((-1000001 : Int32), μ1))
else
(x_put μ1 162 1 (0 : Int32) fun μ4 =>
(x_ald μ4 163 8 v1 fun x5 =>
(if x5 < 0 then
(f12_copy_j45 μ4)
else
(x_ald μ4 163 8 v3 fun x7 =>
(if 0 ≤ x7 then
(x_ald μ4 163 8 v1 fun x8 =>
(x_ald μ4 163 8 v3 fun x9 =>
(if x8 = x9 then
(if v2 < 0 then
(f12_copy_j121 μ4)
else
(if v4 < 0 then
(f12_copy_j121 μ4)
else
(if v5 < 0 then
(f12_copy_j121 μ4)
else
(x_ald μ4 164 8 v1 fun x11 =>
(if 0 < (lg_cmp ((Int32.toInt64 v2) + (Int32.toInt64 v5)) (Int32.toInt64 x11)) then
(f12_copy_j121 μ4)
else
(x_ald μ4 164 8 v3 fun x12 =>
(if (lg_cmp ((Int32.toInt64 v4) + (Int32.toInt64 v5)) (Int32.toInt64 x12)) ≤ 0 then
(if v2 < v4 then
(f12_copy_j138 v1 v2 v3 v4 v5 (0 : Int32) μ4)
else
(f12_copy_j138 v1 v2 v3 v4 v5 (1 : Int32) μ4))
else
(f12_copy_j121 μ4))))))))
else
((f12_finding (5 : Int32) μ4).bind fun q17 =>
(some (q17.1, q17.2))))))
else
(f12_copy_j45 μ4)))))))))))
set_option maxHeartbeats 4000000 in
set_option maxRecDepth 100000 in
theorem l_f12_copy (G : xG) (d : Nat) (hd : 2 ≤ d) (v1 : Int32) (v2 : Int32) (v3 : Int32) (v4 : Int32) (v5 : Int32) (μ : xMu) : Mx G m12_copy d [.ref 162, .int v1, .int v2, .int v3, .int v4, .int v5] μ x_wim (f12_copy v1 v2 v3 v4 v5 μ) := by
  refine mx_enter ok12_copy [some (.ref 162), some (.int v1), some (.int v2), some (.int v3), some (.int v4), some (.int v5), none, none, none] rfl (Nat.le_of_ble_eq_true rfl) ?_
  unfold f12_copy
  refine wx_blk (pc' := 2) (L' := [some (.ref 162), some (.int v1), some (.int v2), some (.int v3), some (.int v4), some (.int v5), none, none, none]) (st' := [.int (0 : Int32), .ref 162]) [.aload_n 0, .iconst 0] (by decide +kernel) rfl rfl ?_
  refine wx_put is_162 ff_12_131 fp_12_0 ⟨rfl, rfl⟩ (by decide +kernel) (fun μ1 => ?_)
  refine wx_blk (pc' := 6) (L' := [some (.ref 162), some (.int v1), some (.int v2), some (.int v3), some (.int v4), some (.int v5), none, none, none]) (st' := [.int v1]) [.iload_n 1] (by decide +kernel) rfl rfl ?_
  refine wx_callS (d1 := 1) (As := [.int v1]) (rest := []) (by omega) cs_12_145 rfl (Nat.le_of_ble_eq_true rfl) (l_f12_isSheet G 1 (by omega) μ1 v1) rfl (by decide +kernel) (fun x2 => ?_)
  refine wx_if_eq 19 (off := 10) (by decide +kernel) (by decide) ?_ ?_
  · refine wx_ldc (v := -1000001) xw_1394 (by decide +kernel) ?_
    exact wx_iret rfl rfl (by decide +kernel)
  · refine wx_blk (pc' := 13) (L' := [some (.ref 162), some (.int v1), some (.int v2), some (.int v3), some (.int v4), some (.int v5), none, none, none]) (st' := [.int v3]) [.iload_n 3] (by decide +kernel) rfl rfl ?_
    refine wx_callS (d1 := 1) (As := [.int v3]) (rest := []) (by omega) cs_12_145 rfl (Nat.le_of_ble_eq_true rfl) (l_f12_isSheet G 1 (by omega) μ1 v3) rfl (by decide +kernel) (fun x3 => ?_)
    refine wx_if_ne 22 (off := 6) (by decide +kernel) (by decide) ?_ ?_
    · refine wx_blk (pc' := 24) (L' := [some (.ref 162), some (.int v1), some (.int v2), some (.int v3), some (.int v4), some (.int v5), none, none, none]) (st' := [.int (0 : Int32), .ref 162]) [.aload_n 0, .iconst 0] (by decide +kernel) rfl rfl ?_
      refine wx_put is_162 ff_12_135 fp_12_1 ⟨rfl, rfl⟩ (by decide +kernel) (fun μ4 => ?_)
      refine wx_blk (pc' := 28) (L' := [some (.ref 162), some (.int v1), some (.int v2), some (.int v3), some (.int v4), some (.int v5), none, none, none]) (st' := [.ref 162]) [.aload_n 0] (by decide +kernel) rfl rfl ?_
      refine wx_getr is_162 ff_12_7 rfl rf_162_2 (by decide +kernel) ?_
      refine wx_blk (pc' := 32) (L' := [some (.ref 162), some (.int v1), some (.int v2), some (.int v3), some (.int v4), some (.int v5), none, none, none]) (st' := [.int v1, .ref 163]) [.iload_n 1] (by decide +kernel) rfl rfl ?_
      refine wx_ald is_163 sz_163 (by decide +kernel) (fun x5 => ?_)
      refine wx_if_lt 45 (off := 12) (by decide +kernel) (by decide) ?_ ?_
      · refine wx_weak (L' := [some (.ref 162), none, none, none, none, none, none, none, none]) ⟨rfl, trivial⟩ ?_
        refine l_f12_copy_j45 G d hd μ4
      · refine wx_blk (pc' := 37) (L' := [some (.ref 162), some (.int v1), some (.int v2), some (.int v3), some (.int v4), some (.int v5), none, none, none]) (st' := [.ref 162]) [.aload_n 0] (by decide +kernel) rfl rfl ?_
        refine wx_getr is_162 ff_12_7 rfl rf_162_2 (by decide +kernel) ?_
        refine wx_blk (pc' := 41) (L' := [some (.ref 162), some (.int v1), some (.int v2), some (.int v3), some (.int v4), some (.int v5), none, none, none]) (st' := [.int v3, .ref 163]) [.iload_n 3] (by decide +kernel) rfl rfl ?_
        refine wx_ald is_163 sz_163 (by decide +kernel) (fun x7 => ?_)
        refine wx_if_ge 51 (off := 9) (by decide +kernel) (by decide) ?_ ?_
        · refine wx_blk (pc' := 52) (L' := [some (.ref 162), some (.int v1), some (.int v2), some (.int v3), some (.int v4), some (.int v5), none, none, none]) (st' := [.ref 162]) [.aload_n 0] (by decide +kernel) rfl rfl ?_
          refine wx_getr is_162 ff_12_7 rfl rf_162_2 (by decide +kernel) ?_
          refine wx_blk (pc' := 56) (L' := [some (.ref 162), some (.int v1), some (.int v2), some (.int v3), some (.int v4), some (.int v5), none, none, none]) (st' := [.int v1, .ref 163]) [.iload_n 1] (by decide +kernel) rfl rfl ?_
          refine wx_ald is_163 sz_163 (by decide +kernel) (fun x8 => ?_)
          refine wx_blk (pc' := 58) (L' := [some (.ref 162), some (.int v1), some (.int v2), some (.int v3), some (.int v4), some (.int v5), none, none, none]) (st' := [.ref 162, .int x8]) [.aload_n 0] (by decide +kernel) rfl rfl ?_
          refine wx_getr is_162 ff_12_7 rfl rf_162_2 (by decide +kernel) ?_
          refine wx_blk (pc' := 62) (L' := [some (.ref 162), some (.int v1), some (.int v2), some (.int v3), some (.int v4), some (.int v5), none, none, none]) (st' := [.int v3, .ref 163, .int x8]) [.iload_n 3] (by decide +kernel) rfl rfl ?_
          refine wx_ald is_163 sz_163 (by decide +kernel) (fun x9 => ?_)
          refine wx_ic_eq 72 (off := 9) (by decide +kernel) (by decide) ?_ ?_
          · refine wx_blk (pc' := 73) (L' := [some (.ref 162), some (.int v1), some (.int v2), some (.int v3), some (.int v4), some (.int v5), none, none, none]) (st' := [.int v2]) [.iload_n 2] (by decide +kernel) rfl rfl ?_
            refine wx_if_lt 121 (off := 48) (by decide +kernel) (by decide) ?_ ?_
            · refine wx_weak (L' := [some (.ref 162), none, none, none, none, none, none, none, none]) ⟨rfl, trivial⟩ ?_
              refine l_f12_copy_j121 G d hd μ4
            · refine wx_blk (pc' := 78) (L' := [some (.ref 162), some (.int v1), some (.int v2), some (.int v3), some (.int v4), some (.int v5), none, none, none]) (st' := [.int v4]) [.iload 4] (by decide +kernel) rfl rfl ?_
              refine wx_if_lt 121 (off := 43) (by decide +kernel) (by decide) ?_ ?_
              · refine wx_weak (L' := [some (.ref 162), none, none, none, none, none, none, none, none]) ⟨rfl, trivial⟩ ?_
                refine l_f12_copy_j121 G d hd μ4
              · refine wx_blk (pc' := 83) (L' := [some (.ref 162), some (.int v1), some (.int v2), some (.int v3), some (.int v4), some (.int v5), none, none, none]) (st' := [.int v5]) [.iload 5] (by decide +kernel) rfl rfl ?_
                refine wx_if_lt 121 (off := 38) (by decide +kernel) (by decide) ?_ ?_
                · refine wx_weak (L' := [some (.ref 162), none, none, none, none, none, none, none, none]) ⟨rfl, trivial⟩ ?_
                  refine l_f12_copy_j121 G d hd μ4
                · refine wx_blk (pc' := 93) (L' := [some (.ref 162), some (.int v1), some (.int v2), some (.int v3), some (.int v4), some (.int v5), none, none, none]) (st' := [.ref 162, .long ((Int32.toInt64 v2) + (Int32.toInt64 v5))]) [.iload_n 2, .i2l, .iload 5, .i2l, .ladd, .aload_n 0] (by decide +kernel) rfl rfl ?_
                  refine wx_getr is_162 ff_12_13 rfl rf_162_3 (by decide +kernel) ?_
                  refine wx_blk (pc' := 97) (L' := [some (.ref 162), some (.int v1), some (.int v2), some (.int v3), some (.int v4), some (.int v5), none, none, none]) (st' := [.int v1, .ref 164, .long ((Int32.toInt64 v2) + (Int32.toInt64 v5))]) [.iload_n 1] (by decide +kernel) rfl rfl ?_
                  refine wx_ald is_164 sz_164 (by decide +kernel) (fun x11 => ?_)
                  refine wx_blk (pc' := 100) (L' := [some (.ref 162), some (.int v1), some (.int v2), some (.int v3), some (.int v4), some (.int v5), none, none, none]) (st' := [.int (lg_cmp ((Int32.toInt64 v2) + (Int32.toInt64 v5)) (Int32.toInt64 x11))]) [.i2l, .lcmp] (by decide +kernel) rfl rfl ?_
                  refine wx_if_gt 121 (off := 21) (by decide +kernel) (by decide) ?_ ?_
                  · refine wx_weak (L' := [some (.ref 162), none, none, none, none, none, none, none, none]) ⟨rfl, trivial⟩ ?_
                    refine l_f12_copy_j121 G d hd μ4
                  · refine wx_blk (pc' := 111) (L' := [some (.ref 162), some (.int v1), some (.int v2), some (.int v3), some (.int v4), some (.int v5), none, none, none]) (st' := [.ref 162, .long ((Int32.toInt64 v4) + (Int32.toInt64 v5))]) [.iload 4, .i2l, .iload 5, .i2l, .ladd, .aload_n 0] (by decide +kernel) rfl rfl ?_
                    refine wx_getr is_162 ff_12_13 rfl rf_162_3 (by decide +kernel) ?_
                    refine wx_blk (pc' := 115) (L' := [some (.ref 162), some (.int v1), some (.int v2), some (.int v3), some (.int v4), some (.int v5), none, none, none]) (st' := [.int v3, .ref 164, .long ((Int32.toInt64 v4) + (Int32.toInt64 v5))]) [.iload_n 3] (by decide +kernel) rfl rfl ?_
                    refine wx_ald is_164 sz_164 (by decide +kernel) (fun x12 => ?_)
                    refine wx_blk (pc' := 118) (L' := [some (.ref 162), some (.int v1), some (.int v2), some (.int v3), some (.int v4), some (.int v5), none, none, none]) (st' := [.int (lg_cmp ((Int32.toInt64 v4) + (Int32.toInt64 v5)) (Int32.toInt64 x12))]) [.i2l, .lcmp] (by decide +kernel) rfl rfl ?_
                    refine wx_if_le 127 (off := 9) (by decide +kernel) (by decide) ?_ ?_
                    · refine wx_blk (pc' := 130) (L' := [some (.ref 162), some (.int v1), some (.int v2), some (.int v3), some (.int v4), some (.int v5), none, none, none]) (st' := [.int v4, .int v2]) [.iload_n 2, .iload 4] (by decide +kernel) rfl rfl ?_
                      refine wx_ic_lt 137 (off := 7) (by decide +kernel) (by decide) ?_ ?_
                      · refine wx_blk (pc' := 138) (L' := [some (.ref 162), some (.int v1), some (.int v2), some (.int v3), some (.int v4), some (.int v5), none, none, none]) (st' := [.int (0 : Int32)]) [.iconst 0] (by decide +kernel) rfl rfl ?_
                        refine l_f12_copy_j138 G d hd v1 v2 v3 v4 v5 (0 : Int32) μ4
                      · refine wx_blk (pc' := 134) (L' := [some (.ref 162), some (.int v1), some (.int v2), some (.int v3), some (.int v4), some (.int v5), none, none, none]) (st' := [.int (1 : Int32)]) [.iconst 1] (by decide +kernel) rfl rfl ?_
                        refine wx_goto 138 (off := 4) (by decide +kernel) (by decide) ?_
                        refine l_f12_copy_j138 G d hd v1 v2 v3 v4 v5 (1 : Int32) μ4
                    · refine wx_weak (L' := [some (.ref 162), none, none, none, none, none, none, none, none]) ⟨rfl, trivial⟩ ?_
                      refine l_f12_copy_j121 G d hd μ4
          · refine wx_blk (pc' := 68) (L' := [some (.ref 162), some (.int v1), some (.int v2), some (.int v3), some (.int v4), some (.int v5), none, none, none]) (st' := [.int (5 : Int32), .ref 162]) [.aload_n 0, .iconst 5] (by decide +kernel) rfl rfl ?_
            refine wx_callV (d1 := 0) (As := [.int (5 : Int32)]) (rest := []) (by omega) is_162 (by decide) rfl cv_12_152 rfl (Nat.le_of_ble_eq_true rfl) (l_f12_finding G 0 (by omega) (5 : Int32) μ4) rfl (by decide +kernel) (fun q17 => ?_)
            exact wx_iret rfl rfl (by decide +kernel)
        · refine wx_weak (L' := [some (.ref 162), none, none, none, none, none, none, none, none]) ⟨rfl, trivial⟩ ?_
          refine l_f12_copy_j45 G d hd μ4
    · refine wx_ldc (v := -1000001) xw_1394 (by decide +kernel) ?_
      exact wx_iret rfl rfl (by decide +kernel)
/-! WakingLayersModel.drop(I)I -/
def f12_drop (v1 : Int32) (μ : xMu) : Option (Int32 × xMu) :=
  (x_put μ 162 0 (0 : Int32) fun μ1 =>
((f12_isSheet v1).bind fun x2 =>
(if x2 = 0 then
(some ((-1000001 : Int32), μ1))
else
(x_put μ1 162 1 (0 : Int32) fun μ3 =>
(x_ald μ3 163 8 v1 fun x4 =>
(if 0 ≤ x4 then
(x_ast μ3 163 8 v1 (-1 : Int32) fun μ5 =>
(x_ald μ5 164 8 v1 fun x6 =>
(some (x6, μ5))))
else
((f12_finding (1 : Int32) μ3).bind fun q7 =>
(some (q7.1, q7.2)))))))))
set_option maxHeartbeats 4000000 in
set_option maxRecDepth 100000 in
theorem l_f12_drop (G : xG) (d : Nat) (hd : 2 ≤ d) (v1 : Int32) (μ : xMu) : Mx G m12_drop d [.ref 162, .int v1] μ x_wim (f12_drop v1 μ) := by
  refine mx_enter ok12_drop [some (.ref 162), some (.int v1)] rfl (Nat.le_of_ble_eq_true rfl) ?_
  unfold f12_drop
  refine wx_blk (pc' := 2) (L' := [some (.ref 162), some (.int v1)]) (st' := [.int (0 : Int32), .ref 162]) [.aload_n 0, .iconst 0] (by decide +kernel) rfl rfl ?_
  refine wx_put is_162 ff_12_131 fp_12_0 ⟨rfl, rfl⟩ (by decide +kernel) (fun μ1 => ?_)
  refine wx_blk (pc' := 6) (L' := [some (.ref 162), some (.int v1)]) (st' := [.int v1]) [.iload_n 1] (by decide +kernel) rfl rfl ?_
  refine wx_callS (d1 := 1) (As := [.int v1]) (rest := []) (by omega) cs_12_145 rfl (Nat.le_of_ble_eq_true rfl) (l_f12_isSheet G 1 (by omega) μ1 v1) rfl (by decide +kernel) (fun x2 => ?_)
  refine wx_if_ne 15 (off := 6) (by decide +kernel) (by decide) ?_ ?_
  · refine wx_blk (pc' := 17) (L' := [some (.ref 162), some (.int v1)]) (st' := [.int (0 : Int32), .ref 162]) [.aload_n 0, .iconst 0] (by decide +kernel) rfl rfl ?_
    refine wx_put is_162 ff_12_135 fp_12_1 ⟨rfl, rfl⟩ (by decide +kernel) (fun μ3 => ?_)
    refine wx_blk (pc' := 21) (L' := [some (.ref 162), some (.int v1)]) (st' := [.ref 162]) [.aload_n 0] (by decide +kernel) rfl rfl ?_
    refine wx_getr is_162 ff_12_7 rfl rf_162_2 (by decide +kernel) ?_
    refine wx_blk (pc' := 25) (L' := [some (.ref 162), some (.int v1)]) (st' := [.int v1, .ref 163]) [.iload_n 1] (by decide +kernel) rfl rfl ?_
    refine wx_ald is_163 sz_163 (by decide +kernel) (fun x4 => ?_)
    refine wx_if_ge 35 (off := 9) (by decide +kernel) (by decide) ?_ ?_
    · refine wx_blk (pc' := 36) (L' := [some (.ref 162), some (.int v1)]) (st' := [.ref 162]) [.aload_n 0] (by decide +kernel) rfl rfl ?_
      refine wx_getr is_162 ff_12_7 rfl rf_162_2 (by decide +kernel) ?_
      refine wx_blk (pc' := 41) (L' := [some (.ref 162), some (.int v1)]) (st' := [.int (-1 : Int32), .int v1, .ref 163]) [.iload_n 1, .iconst (-1)] (by decide +kernel) rfl rfl ?_
      refine wx_ast is_163 sz_163 (by decide +kernel) (fun μ5 => ?_)
      refine wx_blk (pc' := 43) (L' := [some (.ref 162), some (.int v1)]) (st' := [.ref 162]) [.aload_n 0] (by decide +kernel) rfl rfl ?_
      refine wx_getr is_162 ff_12_13 rfl rf_162_3 (by decide +kernel) ?_
      refine wx_blk (pc' := 47) (L' := [some (.ref 162), some (.int v1)]) (st' := [.int v1, .ref 164]) [.iload_n 1] (by decide +kernel) rfl rfl ?_
      refine wx_ald is_164 sz_164 (by decide +kernel) (fun x6 => ?_)
      exact wx_iret rfl rfl (by decide +kernel)
    · refine wx_blk (pc' := 31) (L' := [some (.ref 162), some (.int v1)]) (st' := [.int (1 : Int32), .ref 162]) [.aload_n 0, .iconst 1] (by decide +kernel) rfl rfl ?_
      refine wx_callV (d1 := 0) (As := [.int (1 : Int32)]) (rest := []) (by omega) is_162 (by decide) rfl cv_12_152 rfl (Nat.le_of_ble_eq_true rfl) (l_f12_finding G 0 (by omega) (1 : Int32) μ3) rfl (by decide +kernel) (fun q7 => ?_)
      exact wx_iret rfl rfl (by decide +kernel)
  · refine wx_ldc (v := -1000001) xw_1394 (by decide +kernel) ?_
    exact wx_iret rfl rfl (by decide +kernel)
/-! WakingLayersModel.feed(JI)I -/
def f12_feed_l40 (k82 : xMu → Option (Int32 × xMu)) : Nat → Int64 → Int32 → xMu → Option (Int32 × xMu)
  | 0, _, _, _ => none
  | n + 1, v1, v4, μ =>
  (if v4 < 0 then
(k82 μ)
else
(x_ast μ 182 600 (μ 162 26) (Int64.toInt32 ((v1 >>> (Int32.toInt64 ((8 : Int32) * v4) &&& 63)) &&& (255 : Int64))) fun μ3 =>
(x_put μ3 162 26 ((μ3 162 26) + (1 : Int32)) fun μ4 =>
((f12_feed_l40 k82 n) v1 (v4 + (-1 : Int32)) μ4))))
set_option maxHeartbeats 4000000 in
set_option maxRecDepth 100000 in
theorem l_f12_feed_l40 (G : xG) (d : Nat) (hd : 1 ≤ d) (k82 : xMu → Option (Int32 × xMu)) (h82 : ∀ (μ1 : xMu), Wx G m12_feed d 82 [some (.ref 162), none, none, none, none] [] μ1 x_wim (k82 μ1)) : ∀ (n : Nat) (v1 : Int64) (v4 : Int32) (μ : xMu), Wx G m12_feed d 40 [some (.ref 162), some (.long v1), none, none, some (.int v4)] [] μ x_wim (f12_feed_l40 k82 n v1 v4 μ) := by
  intro n
  induction n with
  | zero => intro v1 v4 μ; exact wx_none
  | succ n h40 =>
    intro v1 v4 μ
    unfold f12_feed_l40
    refine wx_blk (pc' := 42) (L' := [some (.ref 162), some (.long v1), none, none, some (.int v4)]) (st' := [.int v4]) [.iload 4] (by decide +kernel) rfl rfl ?_
    refine wx_if_lt 82 (off := 40) (by decide +kernel) (by decide) ?_ ?_
    · refine wx_weak (L' := [some (.ref 162), none, none, none, none]) ⟨rfl, trivial⟩ ?_
      exact h82 μ
    · refine wx_blk (pc' := 46) (L' := [some (.ref 162), some (.long v1), none, none, some (.int v4)]) (st' := [.ref 162]) [.aload_n 0] (by decide +kernel) rfl rfl ?_
      refine wx_getr is_162 ff_12_67 rfl rf_162_25 (by decide +kernel) ?_
      refine wx_blk (pc' := 50) (L' := [some (.ref 162), some (.long v1), none, none, some (.int v4)]) (st' := [.ref 162, .ref 182]) [.aload_n 0] (by decide +kernel) rfl rfl ?_
      refine wx_geti is_162 ff_12_158 rfl (by decide +kernel) ?_
      refine wx_blk (pc' := 60) (L' := [some (.ref 162), some (.long v1), none, none, some (.int v4)]) (st' := [.long (v1 >>> (Int32.toInt64 ((8 : Int32) * v4) &&& 63)), .int (μ 162 26), .ref 182]) [.lload_n 1, .bipush 8, .iload 4, .imul, .lshr] (by decide +kernel) rfl rfl ?_
      refine wx_ldc2 (v := 255) xw_1418 (by decide +kernel) ?_
      refine wx_blk (pc' := 65) (L' := [some (.ref 162), some (.long v1), none, none, some (.int v4)]) (st' := [.int (Int64.toInt32 ((v1 >>> (Int32.toInt64 ((8 : Int32) * v4) &&& 63)) &&& (255 : Int64))), .int (μ 162 26), .ref 182]) [.land, .l2i] (by decide +kernel) rfl rfl ?_
      refine wx_ast is_182 sz_182 (by decide +kernel) (fun μ3 => ?_)
      refine wx_blk (pc' := 68) (L' := [some (.ref 162), some (.long v1), none, none, some (.int v4)]) (st' := [.ref 162, .ref 162]) [.aload_n 0, .dup] (by decide +kernel) rfl rfl ?_
      refine wx_geti is_162 ff_12_158 rfl (by decide +kernel) ?_
      refine wx_blk (pc' := 73) (L' := [some (.ref 162), some (.long v1), none, none, some (.int v4)]) (st' := [.int ((μ3 162 26) + (1 : Int32)), .ref 162]) [.iconst 1, .iadd] (by decide +kernel) rfl rfl ?_
      refine wx_put is_162 ff_12_158 fp_12_26 ⟨rfl, rfl⟩ (by decide +kernel) (fun μ4 => ?_)
      refine wx_blk (pc' := 79) (L' := [some (.ref 162), some (.long v1), none, none, some (.int (v4 + (-1 : Int32)))]) (st' := []) [.iinc 4 (-1)] (by decide +kernel) rfl rfl ?_
      refine wx_goto 40 (off := -39) (by decide +kernel) (by decide) ?_
      exact h40 v1 (v4 + (-1 : Int32)) μ4
def f12_feed (v1 : Int64) (v3 : Int32) (μ : xMu) : Option (Int32 × xMu) :=
  (x_put μ 162 0 (0 : Int32) fun μ1 =>
((f12_in (Int32.toInt64 v3) (1 : Int64) (8 : Int64)).bind fun x2 =>
(if x2 = 0 then
(some ((-1000001 : Int32), μ1))
else
(if ((μ1 162 26) + v3) ≤ (600 : Int32) then
(f12_feed_l40 (fun (μ5 : xMu) => (some ((μ5 162 26), μ5))) 1000 v1 (v3 - (1 : Int32)) μ1)
else
(some ((-1000003 : Int32), μ1))))))
set_option maxHeartbeats 4000000 in
set_option maxRecDepth 100000 in
theorem l_f12_feed (G : xG) (d : Nat) (hd : 1 ≤ d) (v1 : Int64) (v3 : Int32) (μ : xMu) : Mx G m12_feed d [.ref 162, .long v1, .int v3] μ x_wim (f12_feed v1 v3 μ) := by
  refine mx_enter ok12_feed [some (.ref 162), some (.long v1), none, some (.int v3), none] rfl (Nat.le_of_ble_eq_true rfl) ?_
  unfold f12_feed
  refine wx_blk (pc' := 2) (L' := [some (.ref 162), some (.long v1), none, some (.int v3), none]) (st' := [.int (0 : Int32), .ref 162]) [.aload_n 0, .iconst 0] (by decide +kernel) rfl rfl ?_
  refine wx_put is_162 ff_12_131 fp_12_0 ⟨rfl, rfl⟩ (by decide +kernel) (fun μ1 => ?_)
  refine wx_blk (pc' := 8) (L' := [some (.ref 162), some (.long v1), none, some (.int v3), none]) (st' := [.long (1 : Int64), .long (Int32.toInt64 v3)]) [.iload_n 3, .i2l, .lconst 1] (by decide +kernel) rfl rfl ?_
  refine wx_ldc2 (v := 8) xw_1416 (by decide +kernel) ?_
  refine wx_callS (d1 := 0) (As := [.long (Int32.toInt64 v3), .long (1 : Int64), .long (8 : Int64)]) (rest := []) (by omega) cs_12_141 rfl (Nat.le_of_ble_eq_true rfl) (l_f12_in G 0 (by omega) μ1 (Int32.toInt64 v3) (1 : Int64) (8 : Int64)) rfl (by decide +kernel) (fun x2 => ?_)
  refine wx_if_ne 20 (off := 6) (by decide +kernel) (by decide) ?_ ?_
  · refine wx_blk (pc' := 21) (L' := [some (.ref 162), some (.long v1), none, some (.int v3), none]) (st' := [.ref 162]) [.aload_n 0] (by decide +kernel) rfl rfl ?_
    refine wx_geti is_162 ff_12_158 rfl (by decide +kernel) ?_
    refine wx_blk (pc' := 29) (L' := [some (.ref 162), some (.long v1), none, some (.int v3), none]) (st' := [.int (600 : Int32), .int ((μ1 162 26) + v3)]) [.iload_n 3, .iadd, .sipush 600] (by decide +kernel) rfl rfl ?_
    refine wx_ic_le 35 (off := 6) (by decide +kernel) (by decide) ?_ ?_
    · refine wx_blk (pc' := 40) (L' := [some (.ref 162), some (.long v1), none, some (.int v3), some (.int (v3 - (1 : Int32)))]) (st' := []) [.iload_n 3, .iconst 1, .isub, .istore 4] (by decide +kernel) rfl rfl ?_
      refine wx_weak (L' := [some (.ref 162), some (.long v1), none, none, some (.int (v3 - (1 : Int32)))]) ⟨rfl, ⟨rfl, ⟨rfl, trivial⟩⟩⟩ ?_
      refine l_f12_feed_l40 G d hd _ ?_ 1000 v1 (v3 - (1 : Int32)) μ1
      · intro μ5
        refine wx_blk (pc' := 83) (L' := [some (.ref 162), none, none, none, none]) (st' := [.ref 162]) [.aload_n 0] (by decide +kernel) rfl rfl ?_
        refine wx_geti is_162 ff_12_158 rfl (by decide +kernel) ?_
        exact wx_iret rfl rfl (by decide +kernel)
    · refine wx_ldc (v := -1000003) xw_1417 (by decide +kernel) ?_
      exact wx_iret rfl rfl (by decide +kernel)
  · refine wx_ldc (v := -1000001) xw_1394 (by decide +kernel) ?_
    exact wx_iret rfl rfl (by decide +kernel)
/-! WakingLayersModel.byteAt(I)I -/
def f12_byteAt (μ : xMu) (v1 : Int32) : Option Int32 :=
  (if (μ 162 28) ≤ v1 then
(some (-1000000 : Int32))
else
(x_ald μ 182 600 v1 fun x1 =>
(some x1)))
set_option maxHeartbeats 4000000 in
set_option maxRecDepth 100000 in
theorem l_f12_byteAt (G : xG) (d : Nat) (hd : 0 ≤ d) (μ : xMu) (v1 : Int32) : Mx G m12_byteAt d [.ref 162, .int v1] μ (x_wi μ) (f12_byteAt μ v1) := by
  refine mx_enter ok12_byteAt [some (.ref 162), some (.int v1)] rfl (Nat.le_of_ble_eq_true rfl) ?_
  unfold f12_byteAt
  refine wx_blk (pc' := 2) (L' := [some (.ref 162), some (.int v1)]) (st' := [.ref 162, .int v1]) [.iload_n 1, .aload_n 0] (by decide +kernel) rfl rfl ?_
  refine wx_geti is_162 ff_12_164 rfl (by decide +kernel) ?_
  refine wx_ic_ge 17 (off := 12) (by decide +kernel) (by decide) ?_ ?_
  · refine wx_ldc (v := -1000000) xw_1431 (by decide +kernel) ?_
    exact wx_iret rfl rfl (by decide +kernel)
  · refine wx_blk (pc' := 9) (L' := [some (.ref 162), some (.int v1)]) (st' := [.ref 162]) [.aload_n 0] (by decide +kernel) rfl rfl ?_
    refine wx_getr is_162 ff_12_67 rfl rf_162_25 (by decide +kernel) ?_
    refine wx_blk (pc' := 13) (L' := [some (.ref 162), some (.int v1)]) (st' := [.int v1, .ref 182]) [.iload_n 1] (by decide +kernel) rfl rfl ?_
    refine wx_ald is_182 sz_182 (by decide +kernel) (fun x1 => ?_)
    refine wx_goto 19 (off := 5) (by decide +kernel) (by decide) ?_
    exact wx_iret rfl rfl (by decide +kernel)
/-! WakingLayersModel.isLetter(I)Z -/
def f12_isLetter (v0 : Int32) : Option Int32 :=
  (if v0 < (97 : Int32) then
(some (0 : Int32))
else
(if (122 : Int32) < v0 then
(some (0 : Int32))
else
(some (1 : Int32))))
set_option maxHeartbeats 4000000 in
set_option maxRecDepth 100000 in
theorem l_f12_isLetter (G : xG) (d : Nat) (hd : 0 ≤ d) (μ : xMu) (v0 : Int32) : Mx G m12_isLetter d [.int v0] μ (x_wi μ) (f12_isLetter v0) := by
  refine mx_enter ok12_isLetter [some (.int v0)] rfl (Nat.le_of_ble_eq_true rfl) ?_
  unfold f12_isLetter
  refine wx_blk (pc' := 3) (L' := [some (.int v0)]) (st' := [.int (97 : Int32), .int v0]) [.iload_n 0, .bipush 97] (by decide +kernel) rfl rfl ?_
  refine wx_ic_lt 16 (off := 13) (by decide +kernel) (by decide) ?_ ?_
  · refine wx_blk (pc' := 17) (L' := [some (.int v0)]) (st' := [.int (0 : Int32)]) [.iconst 0] (by decide +kernel) rfl rfl ?_
    exact wx_zret rfl rfl (by decide) (by decide +kernel)
  · refine wx_blk (pc' := 9) (L' := [some (.int v0)]) (st' := [.int (122 : Int32), .int v0]) [.iload_n 0, .bipush 122] (by decide +kernel) rfl rfl ?_
    refine wx_ic_gt 16 (off := 7) (by decide +kernel) (by decide) ?_ ?_
    · refine wx_blk (pc' := 17) (L' := [some (.int v0)]) (st' := [.int (0 : Int32)]) [.iconst 0] (by decide +kernel) rfl rfl ?_
      exact wx_zret rfl rfl (by decide) (by decide +kernel)
    · refine wx_blk (pc' := 13) (L' := [some (.int v0)]) (st' := [.int (1 : Int32)]) [.iconst 1] (by decide +kernel) rfl rfl ?_
      refine wx_goto 17 (off := 4) (by decide +kernel) (by decide) ?_
      exact wx_zret rfl rfl (by decide) (by decide +kernel)
/-! WakingLayersModel.isFigure(I)Z -/
def f12_isFigure (v0 : Int32) : Option Int32 :=
  (if v0 < (48 : Int32) then
(some (0 : Int32))
else
(if (57 : Int32) < v0 then
(some (0 : Int32))
else
(some (1 : Int32))))
set_option maxHeartbeats 4000000 in
set_option maxRecDepth 100000 in
theorem l_f12_isFigure (G : xG) (d : Nat) (hd : 0 ≤ d) (μ : xMu) (v0 : Int32) : Mx G m12_isFigure d [.int v0] μ (x_wi μ) (f12_isFigure v0) := by
  refine mx_enter ok12_isFigure [some (.int v0)] rfl (Nat.le_of_ble_eq_true rfl) ?_
  unfold f12_isFigure
  refine wx_blk (pc' := 3) (L' := [some (.int v0)]) (st' := [.int (48 : Int32), .int v0]) [.iload_n 0, .bipush 48] (by decide +kernel) rfl rfl ?_
  refine wx_ic_lt 16 (off := 13) (by decide +kernel) (by decide) ?_ ?_
  · refine wx_blk (pc' := 17) (L' := [some (.int v0)]) (st' := [.int (0 : Int32)]) [.iconst 0] (by decide +kernel) rfl rfl ?_
    exact wx_zret rfl rfl (by decide) (by decide +kernel)
  · refine wx_blk (pc' := 9) (L' := [some (.int v0)]) (st' := [.int (57 : Int32), .int v0]) [.iload_n 0, .bipush 57] (by decide +kernel) rfl rfl ?_
    refine wx_ic_gt 16 (off := 7) (by decide +kernel) (by decide) ?_ ?_
    · refine wx_blk (pc' := 17) (L' := [some (.int v0)]) (st' := [.int (0 : Int32)]) [.iconst 0] (by decide +kernel) rfl rfl ?_
      exact wx_zret rfl rfl (by decide) (by decide +kernel)
    · refine wx_blk (pc' := 13) (L' := [some (.int v0)]) (st' := [.int (1 : Int32)]) [.iconst 1] (by decide +kernel) rfl rfl ?_
      refine wx_goto 17 (off := 4) (by decide +kernel) (by decide) ?_
      exact wx_zret rfl rfl (by decide) (by decide +kernel)
/-! WakingLayersModel.isSign(I)Z -/
def f12_isSign_j24 : Option Int32 :=
  (some (1 : Int32))
set_option maxHeartbeats 4000000 in
set_option maxRecDepth 100000 in
theorem l_f12_isSign_j24 (G : xG) (d : Nat) (hd : 0 ≤ d) (μ : xMu) : Wx G m12_isSign d 24 [none] [] μ (x_wi μ) (f12_isSign_j24) := by
  unfold f12_isSign_j24
  refine wx_blk (pc' := 25) (L' := [none]) (st' := [.int (1 : Int32)]) [.iconst 1] (by decide +kernel) rfl rfl ?_
  refine wx_goto 29 (off := 4) (by decide +kernel) (by decide) ?_
  exact wx_zret rfl rfl (by decide) (by decide +kernel)
def f12_isSign (v0 : Int32) : Option Int32 :=
  (if v0 = (59 : Int32) then
(f12_isSign_j24)
else
(if v0 = (60 : Int32) then
(f12_isSign_j24)
else
(if v0 = (62 : Int32) then
(f12_isSign_j24)
else
(if v0 = (61 : Int32) then
(f12_isSign_j24)
else
(some (0 : Int32))))))
set_option maxHeartbeats 4000000 in
set_option maxRecDepth 100000 in
theorem l_f12_isSign (G : xG) (d : Nat) (hd : 0 ≤ d) (μ : xMu) (v0 : Int32) : Mx G m12_isSign d [.int v0] μ (x_wi μ) (f12_isSign v0) := by
  refine mx_enter ok12_isSign [some (.int v0)] rfl (Nat.le_of_ble_eq_true rfl) ?_
  unfold f12_isSign
  refine wx_blk (pc' := 3) (L' := [some (.int v0)]) (st' := [.int (59 : Int32), .int v0]) [.iload_n 0, .bipush 59] (by decide +kernel) rfl rfl ?_
  refine wx_ic_eq 24 (off := 21) (by decide +kernel) (by decide) ?_ ?_
  · refine wx_weak (L' := [none]) trivial ?_
    refine l_f12_isSign_j24 G d hd μ
  · refine wx_blk (pc' := 9) (L' := [some (.int v0)]) (st' := [.int (60 : Int32), .int v0]) [.iload_n 0, .bipush 60] (by decide +kernel) rfl rfl ?_
    refine wx_ic_eq 24 (off := 15) (by decide +kernel) (by decide) ?_ ?_
    · refine wx_weak (L' := [none]) trivial ?_
      refine l_f12_isSign_j24 G d hd μ
    · refine wx_blk (pc' := 15) (L' := [some (.int v0)]) (st' := [.int (62 : Int32), .int v0]) [.iload_n 0, .bipush 62] (by decide +kernel) rfl rfl ?_
      refine wx_ic_eq 24 (off := 9) (by decide +kernel) (by decide) ?_ ?_
      · refine wx_weak (L' := [none]) trivial ?_
        refine l_f12_isSign_j24 G d hd μ
      · refine wx_blk (pc' := 21) (L' := [some (.int v0)]) (st' := [.int (61 : Int32), .int v0]) [.iload_n 0, .bipush 61] (by decide +kernel) rfl rfl ?_
        refine wx_ic_ne 28 (off := 7) (by decide +kernel) (by decide) ?_ ?_
        · refine wx_blk (pc' := 29) (L' := [some (.int v0)]) (st' := [.int (0 : Int32)]) [.iconst 0] (by decide +kernel) rfl rfl ?_
          exact wx_zret rfl rfl (by decide) (by decide +kernel)
        · refine wx_weak (L' := [none]) trivial ?_
          refine l_f12_isSign_j24 G d hd μ
/-! WakingLayersModel.step()V -/
def f12_step_j26 (k0 : xMu → Option xMu) (μ : xMu) : Option xMu :=
  (x_put μ 162 29 ((μ 162 29) + (1 : Int32)) fun μ2 =>
(k0 μ2))
set_option maxHeartbeats 4000000 in
set_option maxRecDepth 100000 in
theorem l_f12_step_j26 (G : xG) (d : Nat) (hd : 1 ≤ d) (k0 : xMu → Option xMu) (h0 : ∀ (μ1 : xMu), Wx G m12_step d 0 [some (.ref 162), none] [] μ1 x_wv (k0 μ1)) (μ : xMu) : Wx G m12_step d 26 [some (.ref 162), none] [] μ x_wv (f12_step_j26 k0 μ) := by
  unfold f12_step_j26
  refine wx_blk (pc' := 28) (L' := [some (.ref 162), none]) (st' := [.ref 162, .ref 162]) [.aload_n 0, .dup] (by decide +kernel) rfl rfl ?_
  refine wx_geti is_162 ff_12_168 rfl (by decide +kernel) ?_
  refine wx_blk (pc' := 33) (L' := [some (.ref 162), none]) (st' := [.int ((μ 162 29) + (1 : Int32)), .ref 162]) [.iconst 1, .iadd] (by decide +kernel) rfl rfl ?_
  refine wx_put is_162 ff_12_168 fp_12_29 ⟨rfl, rfl⟩ (by decide +kernel) (fun μ2 => ?_)
  refine wx_goto 0 (off := -36) (by decide +kernel) (by decide) ?_
  exact h0 μ2
def f12_step_l0 (k39 : xMu → Option xMu) : Nat → xMu → Option xMu
  | 0, _ => none
  | n + 1, μ =>
  ((f12_byteAt μ (μ 162 29)).bind fun x1 =>
(if x1 = (32 : Int32) then
(f12_step_j26 (f12_step_l0 k39 n) μ)
else
((f12_byteAt μ (μ 162 29)).bind fun x3 =>
(if x3 = (10 : Int32) then
(f12_step_j26 (f12_step_l0 k39 n) μ)
else
(k39 μ)))))
set_option maxHeartbeats 4000000 in
set_option maxRecDepth 100000 in
theorem l_f12_step_l0 (G : xG) (d : Nat) (hd : 1 ≤ d) (k39 : xMu → Option xMu) (h39 : ∀ (μ1 : xMu), Wx G m12_step d 39 [some (.ref 162), none] [] μ1 x_wv (k39 μ1)) : ∀ (n : Nat) (μ : xMu), Wx G m12_step d 0 [some (.ref 162), none] [] μ x_wv (f12_step_l0 k39 n μ) := by
  intro n
  induction n with
  | zero => intro μ; exact wx_none
  | succ n h0 =>
    intro μ
    unfold f12_step_l0
    refine wx_blk (pc' := 2) (L' := [some (.ref 162), none]) (st' := [.ref 162, .ref 162]) [.aload_n 0, .aload_n 0] (by decide +kernel) rfl rfl ?_
    refine wx_geti is_162 ff_12_168 rfl (by decide +kernel) ?_
    refine wx_callV (d1 := 0) (As := [.int (μ 162 29)]) (rest := []) (by omega) is_162 (by decide) rfl cv_12_171 rfl (Nat.le_of_ble_eq_true rfl) (l_f12_byteAt G 0 (by omega) μ (μ 162 29)) rfl (by decide +kernel) (fun x1 => ?_)
    refine wx_blk (pc' := 10) (L' := [some (.ref 162), none]) (st' := [.int (32 : Int32), .int x1]) [.bipush 32] (by decide +kernel) rfl rfl ?_
    refine wx_ic_eq 26 (off := 16) (by decide +kernel) (by decide) ?_ ?_
    · refine l_f12_step_j26 G d hd _ h0 μ
    · refine wx_blk (pc' := 15) (L' := [some (.ref 162), none]) (st' := [.ref 162, .ref 162]) [.aload_n 0, .aload_n 0] (by decide +kernel) rfl rfl ?_
      refine wx_geti is_162 ff_12_168 rfl (by decide +kernel) ?_
      refine wx_callV (d1 := 0) (As := [.int (μ 162 29)]) (rest := []) (by omega) is_162 (by decide) rfl cv_12_171 rfl (Nat.le_of_ble_eq_true rfl) (l_f12_byteAt G 0 (by omega) μ (μ 162 29)) rfl (by decide +kernel) (fun x3 => ?_)
      refine wx_blk (pc' := 23) (L' := [some (.ref 162), none]) (st' := [.int (10 : Int32), .int x3]) [.bipush 10] (by decide +kernel) rfl rfl ?_
      refine wx_ic_ne 39 (off := 16) (by decide +kernel) (by decide) ?_ ?_
      · exact h39 μ
      · refine l_f12_step_j26 G d hd _ h0 μ
def f12_step_j197 (μ : xMu) : Option xMu :=
  (x_put μ 162 32 (μ 162 29) fun μ12 =>
(some μ12))
set_option maxHeartbeats 4000000 in
set_option maxRecDepth 100000 in
theorem l_f12_step_j197 (G : xG) (d : Nat) (hd : 1 ≤ d) (μ : xMu) : Wx G m12_step d 197 [some (.ref 162), none] [] μ x_wv (f12_step_j197 μ) := by
  unfold f12_step_j197
  refine wx_blk (pc' := 199) (L' := [some (.ref 162), none]) (st' := [.ref 162, .ref 162]) [.aload_n 0, .aload_n 0] (by decide +kernel) rfl rfl ?_
  refine wx_geti is_162 ff_12_168 rfl (by decide +kernel) ?_
  refine wx_put is_162 ff_12_189 fp_12_32 ⟨rfl, rfl⟩ (by decide +kernel) (fun μ12 => ?_)
  exact wx_vret rfl rfl (by decide +kernel)
def f12_step_j194 (s1 : Int32) (μ : xMu) : Option xMu :=
  (x_put μ 162 30 s1 fun μ11 =>
(f12_step_j197 μ11))
set_option maxHeartbeats 4000000 in
set_option maxRecDepth 100000 in
theorem l_f12_step_j194 (G : xG) (d : Nat) (hd : 1 ≤ d) (s1 : Int32) (μ : xMu) : Wx G m12_step d 194 [some (.ref 162), none] [.int s1, .ref 162] μ x_wv (f12_step_j194 s1 μ) := by
  unfold f12_step_j194
  refine wx_put is_162 ff_12_177 fp_12_30 ⟨rfl, rfl⟩ (by decide +kernel) (fun μ11 => ?_)
  refine l_f12_step_j197 G d hd μ11
def f12_step_l119 (k146 : xMu → Option xMu) : Nat → xMu → Option xMu
  | 0, _ => none
  | n + 1, μ =>
  ((f12_byteAt μ (μ 162 29)).bind fun x13 =>
((f12_isFigure x13).bind fun x14 =>
(if x14 = 0 then
(k146 μ)
else
(x_put μ 162 29 ((μ 162 29) + (1 : Int32)) fun μ15 =>
((f12_step_l119 k146 n) μ15)))))
set_option maxHeartbeats 4000000 in
set_option maxRecDepth 100000 in
theorem l_f12_step_l119 (G : xG) (d : Nat) (hd : 1 ≤ d) (k146 : xMu → Option xMu) (h146 : ∀ (μ1 : xMu), Wx G m12_step d 146 [some (.ref 162), none] [] μ1 x_wv (k146 μ1)) : ∀ (n : Nat) (μ : xMu), Wx G m12_step d 119 [some (.ref 162), none] [] μ x_wv (f12_step_l119 k146 n μ) := by
  intro n
  induction n with
  | zero => intro μ; exact wx_none
  | succ n h119 =>
    intro μ
    unfold f12_step_l119
    refine wx_blk (pc' := 121) (L' := [some (.ref 162), none]) (st' := [.ref 162, .ref 162]) [.aload_n 0, .aload_n 0] (by decide +kernel) rfl rfl ?_
    refine wx_geti is_162 ff_12_168 rfl (by decide +kernel) ?_
    refine wx_callV (d1 := 0) (As := [.int (μ 162 29)]) (rest := []) (by omega) is_162 (by decide) rfl cv_12_171 rfl (Nat.le_of_ble_eq_true rfl) (l_f12_byteAt G 0 (by omega) μ (μ 162 29)) rfl (by decide +kernel) (fun x13 => ?_)
    refine wx_callS (d1 := 0) (As := [.int x13]) (rest := []) (by omega) cs_12_183 rfl (Nat.le_of_ble_eq_true rfl) (l_f12_isFigure G 0 (by omega) μ x13) rfl (by decide +kernel) (fun x14 => ?_)
    refine wx_if_eq 146 (off := 16) (by decide +kernel) (by decide) ?_ ?_
    · exact h146 μ
    · refine wx_blk (pc' := 135) (L' := [some (.ref 162), none]) (st' := [.ref 162, .ref 162]) [.aload_n 0, .dup] (by decide +kernel) rfl rfl ?_
      refine wx_geti is_162 ff_12_168 rfl (by decide +kernel) ?_
      refine wx_blk (pc' := 140) (L' := [some (.ref 162), none]) (st' := [.int ((μ 162 29) + (1 : Int32)), .ref 162]) [.iconst 1, .iadd] (by decide +kernel) rfl rfl ?_
      refine wx_put is_162 ff_12_168 fp_12_29 ⟨rfl, rfl⟩ (by decide +kernel) (fun μ15 => ?_)
      refine wx_goto 119 (off := -24) (by decide +kernel) (by decide) ?_
      exact h119 μ15
def f12_step_j165 (s1 : Int32) (μ : xMu) : Option xMu :=
  (x_put μ 162 30 s1 fun μ17 =>
(f12_step_j197 μ17))
set_option maxHeartbeats 4000000 in
set_option maxRecDepth 100000 in
theorem l_f12_step_j165 (G : xG) (d : Nat) (hd : 1 ≤ d) (s1 : Int32) (μ : xMu) : Wx G m12_step d 165 [some (.ref 162), none] [.int s1, .ref 162] μ x_wv (f12_step_j165 s1 μ) := by
  unfold f12_step_j165
  refine wx_put is_162 ff_12_177 fp_12_30 ⟨rfl, rfl⟩ (by decide +kernel) (fun μ17 => ?_)
  refine wx_goto 197 (off := 29) (by decide +kernel) (by decide) ?_
  refine l_f12_step_j197 G d hd μ17
def f12_step_l77 (k104 : xMu → Option xMu) : Nat → xMu → Option xMu
  | 0, _ => none
  | n + 1, μ =>
  ((f12_byteAt μ (μ 162 29)).bind fun x18 =>
((f12_isLetter x18).bind fun x19 =>
(if x19 = 0 then
(k104 μ)
else
(x_put μ 162 29 ((μ 162 29) + (1 : Int32)) fun μ20 =>
((f12_step_l77 k104 n) μ20)))))
set_option maxHeartbeats 4000000 in
set_option maxRecDepth 100000 in
theorem l_f12_step_l77 (G : xG) (d : Nat) (hd : 1 ≤ d) (k104 : xMu → Option xMu) (h104 : ∀ (μ1 : xMu), Wx G m12_step d 104 [some (.ref 162), none] [] μ1 x_wv (k104 μ1)) : ∀ (n : Nat) (μ : xMu), Wx G m12_step d 77 [some (.ref 162), none] [] μ x_wv (f12_step_l77 k104 n μ) := by
  intro n
  induction n with
  | zero => intro μ; exact wx_none
  | succ n h77 =>
    intro μ
    unfold f12_step_l77
    refine wx_blk (pc' := 79) (L' := [some (.ref 162), none]) (st' := [.ref 162, .ref 162]) [.aload_n 0, .aload_n 0] (by decide +kernel) rfl rfl ?_
    refine wx_geti is_162 ff_12_168 rfl (by decide +kernel) ?_
    refine wx_callV (d1 := 0) (As := [.int (μ 162 29)]) (rest := []) (by omega) is_162 (by decide) rfl cv_12_171 rfl (Nat.le_of_ble_eq_true rfl) (l_f12_byteAt G 0 (by omega) μ (μ 162 29)) rfl (by decide +kernel) (fun x18 => ?_)
    refine wx_callS (d1 := 0) (As := [.int x18]) (rest := []) (by omega) cs_12_180 rfl (Nat.le_of_ble_eq_true rfl) (l_f12_isLetter G 0 (by omega) μ x18) rfl (by decide +kernel) (fun x19 => ?_)
    refine wx_if_eq 104 (off := 16) (by decide +kernel) (by decide) ?_ ?_
    · exact h104 μ
    · refine wx_blk (pc' := 93) (L' := [some (.ref 162), none]) (st' := [.ref 162, .ref 162]) [.aload_n 0, .dup] (by decide +kernel) rfl rfl ?_
      refine wx_geti is_162 ff_12_168 rfl (by decide +kernel) ?_
      refine wx_blk (pc' := 98) (L' := [some (.ref 162), none]) (st' := [.int ((μ 162 29) + (1 : Int32)), .ref 162]) [.iconst 1, .iadd] (by decide +kernel) rfl rfl ?_
      refine wx_put is_162 ff_12_168 fp_12_29 ⟨rfl, rfl⟩ (by decide +kernel) (fun μ20 => ?_)
      refine wx_goto 77 (off := -24) (by decide +kernel) (by decide) ?_
      exact h77 μ20
def f12_step (μ : xMu) : Option xMu :=
  (f12_step_l0 (fun (μ4 : xMu) => (x_put μ4 162 31 (μ4 162 29) fun μ5 =>
((f12_byteAt μ5 (μ5 162 29)).bind fun x6 =>
(if x6 = (-1000000 : Int32) then
(x_put μ5 162 30 (1 : Int32) fun μ23 =>
(f12_step_j197 μ23))
else
((f12_isLetter x6).bind fun x7 =>
(if x7 = 0 then
((f12_isFigure x6).bind fun x8 =>
(if x8 = 0 then
(x_put μ5 162 29 ((μ5 162 29) + (1 : Int32)) fun μ9 =>
((f12_isSign x6).bind fun x10 =>
(if x10 = 0 then
(f12_step_j194 (0 : Int32) μ9)
else
(f12_step_j194 (4 : Int32) μ9))))
else
(f12_step_l119 (fun (μ16 : xMu) => (if ((μ16 162 29) - (μ16 162 31)) ≤ (3 : Int32) then
(f12_step_j165 (3 : Int32) μ16)
else
(f12_step_j165 (0 : Int32) μ16))) 1000 μ5)))
else
(f12_step_l77 (fun (μ21 : xMu) => (x_put μ21 162 30 (2 : Int32) fun μ22 =>
(f12_step_j197 μ22))) 1000 μ5))))))) 1000 μ)
set_option maxHeartbeats 4000000 in
set_option maxRecDepth 100000 in
theorem l_f12_step (G : xG) (d : Nat) (hd : 1 ≤ d) (μ : xMu) : Mx G m12_step d [.ref 162] μ x_wv (f12_step μ) := by
  refine mx_enter ok12_step [some (.ref 162), none] rfl (Nat.le_of_ble_eq_true rfl) ?_
  unfold f12_step
  refine l_f12_step_l0 G d hd _ ?_ 1000 μ
  · intro μ4
    refine wx_blk (pc' := 41) (L' := [some (.ref 162), none]) (st' := [.ref 162, .ref 162]) [.aload_n 0, .aload_n 0] (by decide +kernel) rfl rfl ?_
    refine wx_geti is_162 ff_12_168 rfl (by decide +kernel) ?_
    refine wx_put is_162 ff_12_174 fp_12_31 ⟨rfl, rfl⟩ (by decide +kernel) (fun μ5 => ?_)
    refine wx_blk (pc' := 49) (L' := [some (.ref 162), none]) (st' := [.ref 162, .ref 162]) [.aload_n 0, .aload_n 0] (by decide +kernel) rfl rfl ?_
    refine wx_geti is_162 ff_12_168 rfl (by decide +kernel) ?_
    refine wx_callV (d1 := 0) (As := [.int (μ5 162 29)]) (rest := []) (by omega) is_162 (by decide) rfl cv_12_171 rfl (Nat.le_of_ble_eq_true rfl) (l_f12_byteAt G 0 (by omega) μ5 (μ5 162 29)) rfl (by decide +kernel) (fun x6 => ?_)
    refine wx_blk (pc' := 57) (L' := [some (.ref 162), some (.int x6)]) (st' := [.int x6]) [.istore_n 1, .iload_n 1] (by decide +kernel) rfl rfl ?_
    refine wx_ldc (v := -1000000) xw_1431 (by decide +kernel) ?_
    refine wx_ic_ne 70 (off := 11) (by decide +kernel) (by decide) ?_ ?_
    · refine wx_blk (pc' := 71) (L' := [some (.ref 162), some (.int x6)]) (st' := [.int x6]) [.iload_n 1] (by decide +kernel) rfl rfl ?_
      refine wx_callS (d1 := 0) (As := [.int x6]) (rest := []) (by omega) cs_12_180 rfl (Nat.le_of_ble_eq_true rfl) (l_f12_isLetter G 0 (by omega) μ5 x6) rfl (by decide +kernel) (fun x7 => ?_)
      refine wx_if_eq 112 (off := 38) (by decide +kernel) (by decide) ?_ ?_
      · refine wx_blk (pc' := 113) (L' := [some (.ref 162), some (.int x6)]) (st' := [.int x6]) [.iload_n 1] (by decide +kernel) rfl rfl ?_
        refine wx_callS (d1 := 0) (As := [.int x6]) (rest := []) (by omega) cs_12_183 rfl (Nat.le_of_ble_eq_true rfl) (l_f12_isFigure G 0 (by omega) μ5 x6) rfl (by decide +kernel) (fun x8 => ?_)
        refine wx_if_eq 171 (off := 55) (by decide +kernel) (by decide) ?_ ?_
        · refine wx_blk (pc' := 173) (L' := [some (.ref 162), some (.int x6)]) (st' := [.ref 162, .ref 162]) [.aload_n 0, .dup] (by decide +kernel) rfl rfl ?_
          refine wx_geti is_162 ff_12_168 rfl (by decide +kernel) ?_
          refine wx_blk (pc' := 178) (L' := [some (.ref 162), some (.int x6)]) (st' := [.int ((μ5 162 29) + (1 : Int32)), .ref 162]) [.iconst 1, .iadd] (by decide +kernel) rfl rfl ?_
          refine wx_put is_162 ff_12_168 fp_12_29 ⟨rfl, rfl⟩ (by decide +kernel) (fun μ9 => ?_)
          refine wx_blk (pc' := 183) (L' := [some (.ref 162), some (.int x6)]) (st' := [.int x6, .ref 162]) [.aload_n 0, .iload_n 1] (by decide +kernel) rfl rfl ?_
          refine wx_callS (d1 := 0) (As := [.int x6]) (rest := [.ref 162]) (by omega) cs_12_186 rfl (Nat.le_of_ble_eq_true rfl) (l_f12_isSign G 0 (by omega) μ9 x6) rfl (by decide +kernel) (fun x10 => ?_)
          refine wx_if_eq 193 (off := 7) (by decide +kernel) (by decide) ?_ ?_
          · refine wx_blk (pc' := 194) (L' := [some (.ref 162), some (.int x6)]) (st' := [.int (0 : Int32), .ref 162]) [.iconst 0] (by decide +kernel) rfl rfl ?_
            refine wx_weak (L' := [some (.ref 162), none]) ⟨rfl, trivial⟩ ?_
            refine l_f12_step_j194 G d hd (0 : Int32) μ9
          · refine wx_blk (pc' := 190) (L' := [some (.ref 162), some (.int x6)]) (st' := [.int (4 : Int32), .ref 162]) [.iconst 4] (by decide +kernel) rfl rfl ?_
            refine wx_goto 194 (off := 4) (by decide +kernel) (by decide) ?_
            refine wx_weak (L' := [some (.ref 162), none]) ⟨rfl, trivial⟩ ?_
            refine l_f12_step_j194 G d hd (4 : Int32) μ9
        · refine wx_weak (L' := [some (.ref 162), none]) ⟨rfl, trivial⟩ ?_
          refine l_f12_step_l119 G d hd _ ?_ 1000 μ5
          · intro μ16
            refine wx_blk (pc' := 148) (L' := [some (.ref 162), none]) (st' := [.ref 162, .ref 162]) [.aload_n 0, .aload_n 0] (by decide +kernel) rfl rfl ?_
            refine wx_geti is_162 ff_12_168 rfl (by decide +kernel) ?_
            refine wx_blk (pc' := 152) (L' := [some (.ref 162), none]) (st' := [.ref 162, .int (μ16 162 29), .ref 162]) [.aload_n 0] (by decide +kernel) rfl rfl ?_
            refine wx_geti is_162 ff_12_174 rfl (by decide +kernel) ?_
            refine wx_blk (pc' := 157) (L' := [some (.ref 162), none]) (st' := [.int (3 : Int32), .int ((μ16 162 29) - (μ16 162 31)), .ref 162]) [.isub, .iconst 3] (by decide +kernel) rfl rfl ?_
            refine wx_ic_le 164 (off := 7) (by decide +kernel) (by decide) ?_ ?_
            · refine wx_blk (pc' := 165) (L' := [some (.ref 162), none]) (st' := [.int (3 : Int32), .ref 162]) [.iconst 3] (by decide +kernel) rfl rfl ?_
              refine l_f12_step_j165 G d hd (3 : Int32) μ16
            · refine wx_blk (pc' := 161) (L' := [some (.ref 162), none]) (st' := [.int (0 : Int32), .ref 162]) [.iconst 0] (by decide +kernel) rfl rfl ?_
              refine wx_goto 165 (off := 4) (by decide +kernel) (by decide) ?_
              refine l_f12_step_j165 G d hd (0 : Int32) μ16
      · refine wx_weak (L' := [some (.ref 162), none]) ⟨rfl, trivial⟩ ?_
        refine l_f12_step_l77 G d hd _ ?_ 1000 μ5
        · intro μ21
          refine wx_blk (pc' := 106) (L' := [some (.ref 162), none]) (st' := [.int (2 : Int32), .ref 162]) [.aload_n 0, .iconst 2] (by decide +kernel) rfl rfl ?_
          refine wx_put is_162 ff_12_177 fp_12_30 ⟨rfl, rfl⟩ (by decide +kernel) (fun μ22 => ?_)
          refine wx_goto 197 (off := 88) (by decide +kernel) (by decide) ?_
          refine l_f12_step_j197 G d hd μ22
    · refine wx_blk (pc' := 64) (L' := [some (.ref 162), some (.int x6)]) (st' := [.int (1 : Int32), .ref 162]) [.aload_n 0, .iconst 1] (by decide +kernel) rfl rfl ?_
      refine wx_put is_162 ff_12_177 fp_12_30 ⟨rfl, rfl⟩ (by decide +kernel) (fun μ23 => ?_)
      refine wx_goto 197 (off := 130) (by decide +kernel) (by decide) ?_
      refine wx_weak (L' := [some (.ref 162), none]) ⟨rfl, trivial⟩ ?_
      refine l_f12_step_j197 G d hd μ23
