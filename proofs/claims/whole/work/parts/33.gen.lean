/-! WakingLayersModel.point()I -/
def f12_point_l7 (k30 : xMu → Option (Int32 × xMu)) : Nat → Int32 → xMu → Option (Int32 × xMu)
  | 0, _, _ => none
  | n + 1, v1, μ =>
  (if (4 : Int32) ≤ v1 then
(k30 μ)
else
(x_ald μ 183 4 v1 fun x2 =>
(x_ast μ 184 4 v1 x2 fun μ3 =>
((f12_point_l7 k30 n) (v1 + (1 : Int32)) μ3))))
set_option maxHeartbeats 4000000 in
set_option maxRecDepth 100000 in
theorem l_f12_point_l7 (G : xG) (d : Nat) (hd : 5 ≤ d) (k30 : xMu → Option (Int32 × xMu)) (h30 : ∀ (μ1 : xMu), Wx G m12_point d 30 [some (.ref 162), none] [] μ1 x_wim (k30 μ1)) : ∀ (n : Nat) (v1 : Int32) (μ : xMu), Wx G m12_point d 7 [some (.ref 162), some (.int v1)] [] μ x_wim (f12_point_l7 k30 n v1 μ) := by
  intro n
  induction n with
  | zero => intro v1 μ; exact wx_none
  | succ n h7 =>
    intro v1 μ
    unfold f12_point_l7
    refine wx_blk (pc' := 9) (L' := [some (.ref 162), some (.int v1)]) (st' := [.int (4 : Int32), .int v1]) [.iload_n 1, .iconst 4] (by decide +kernel) rfl rfl ?_
    refine wx_ic_ge 30 (off := 21) (by decide +kernel) (by decide) ?_ ?_
    · refine wx_weak (L' := [some (.ref 162), none]) ⟨rfl, trivial⟩ ?_
      exact h30 μ
    · refine wx_blk (pc' := 13) (L' := [some (.ref 162), some (.int v1)]) (st' := [.ref 162]) [.aload_n 0] (by decide +kernel) rfl rfl ?_
      refine wx_getr is_162 ff_12_73 rfl rf_162_40 (by decide +kernel) ?_
      refine wx_blk (pc' := 18) (L' := [some (.ref 162), some (.int v1)]) (st' := [.ref 162, .int v1, .ref 184]) [.iload_n 1, .aload_n 0] (by decide +kernel) rfl rfl ?_
      refine wx_getr is_162 ff_12_70 rfl rf_162_39 (by decide +kernel) ?_
      refine wx_blk (pc' := 22) (L' := [some (.ref 162), some (.int v1)]) (st' := [.int v1, .ref 183, .int v1, .ref 184]) [.iload_n 1] (by decide +kernel) rfl rfl ?_
      refine wx_ald is_183 sz_183 (by decide +kernel) (fun x2 => ?_)
      refine wx_ast is_184 sz_184 (by decide +kernel) (fun μ3 => ?_)
      refine wx_blk (pc' := 27) (L' := [some (.ref 162), some (.int (v1 + (1 : Int32)))]) (st' := []) [.iinc 1 1] (by decide +kernel) rfl rfl ?_
      refine wx_goto 7 (off := -20) (by decide +kernel) (by decide) ?_
      exact h7 (v1 + (1 : Int32)) μ3
def f12_point (μ : xMu) : Option (Int32 × xMu) :=
  (x_put μ 162 0 (0 : Int32) fun μ1 =>
(f12_point_l7 (fun (μ4 : xMu) => ((f12_find μ4).bind fun μ5 =>
(some ((μ5 162 44), μ5)))) 1000 (0 : Int32) μ1))
set_option maxHeartbeats 4000000 in
set_option maxRecDepth 100000 in
theorem l_f12_point (G : xG) (d : Nat) (hd : 5 ≤ d) (μ : xMu) : Mx G m12_point d [.ref 162] μ x_wim (f12_point μ) := by
  refine mx_enter ok12_point [some (.ref 162), none] rfl (Nat.le_of_ble_eq_true rfl) ?_
  unfold f12_point
  refine wx_blk (pc' := 2) (L' := [some (.ref 162), none]) (st' := [.int (0 : Int32), .ref 162]) [.aload_n 0, .iconst 0] (by decide +kernel) rfl rfl ?_
  refine wx_put is_162 ff_12_131 fp_12_0 ⟨rfl, rfl⟩ (by decide +kernel) (fun μ1 => ?_)
  refine wx_blk (pc' := 7) (L' := [some (.ref 162), some (.int (0 : Int32))]) (st' := []) [.iconst 0, .istore_n 1] (by decide +kernel) rfl rfl ?_
  refine l_f12_point_l7 G d hd _ ?_ 1000 (0 : Int32) μ1
  · intro μ4
    refine wx_blk (pc' := 31) (L' := [some (.ref 162), none]) (st' := [.ref 162]) [.aload_n 0] (by decide +kernel) rfl rfl ?_
    refine wx_callV (d1 := 4) (As := []) (rest := []) (by omega) is_162 (by decide) rfl cv_12_348 rfl (Nat.le_of_ble_eq_true rfl) (l_f12_find G 4 (by omega) μ4) rfl (by decide +kernel) (fun μ5 => ?_)
    refine wx_blk (pc' := 35) (L' := [some (.ref 162), none]) (st' := [.ref 162]) [.aload_n 0] (by decide +kernel) rfl rfl ?_
    refine wx_geti is_162 ff_12_319 rfl (by decide +kernel) ?_
    exact wx_iret rfl rfl (by decide +kernel)
/-! WakingLayersModel.wake(II)I -/
def f12_wake_j52 (v1 : Int32) (v2 : Int32) (μ : xMu) : Option (Int32 × xMu) :=
  (if (μ 162 41) = (16 : Int32) then
(some ((-1000003 : Int32), μ))
else
(x_ast μ 185 16 (μ 162 41) v1 fun μ6 =>
(x_ast μ6 186 16 (μ6 162 41) v2 fun μ7 =>
(x_put μ7 162 41 ((μ7 162 41) + (1 : Int32)) fun μ8 =>
(some ((μ8 162 41), μ8))))))
set_option maxHeartbeats 4000000 in
set_option maxRecDepth 100000 in
theorem l_f12_wake_j52 (G : xG) (d : Nat) (hd : 2 ≤ d) (v1 : Int32) (v2 : Int32) (μ : xMu) : Wx G m12_wake d 52 [some (.ref 162), some (.int v1), some (.int v2)] [] μ x_wim (f12_wake_j52 v1 v2 μ) := by
  unfold f12_wake_j52
  refine wx_blk (pc' := 53) (L' := [some (.ref 162), some (.int v1), some (.int v2)]) (st' := [.ref 162]) [.aload_n 0] (by decide +kernel) rfl rfl ?_
  refine wx_geti is_162 ff_12_316 rfl (by decide +kernel) ?_
  refine wx_blk (pc' := 58) (L' := [some (.ref 162), some (.int v1), some (.int v2)]) (st' := [.int (16 : Int32), .int (μ 162 41)]) [.bipush 16] (by decide +kernel) rfl rfl ?_
  refine wx_ic_ne 64 (off := 6) (by decide +kernel) (by decide) ?_ ?_
  · refine wx_blk (pc' := 65) (L' := [some (.ref 162), some (.int v1), some (.int v2)]) (st' := [.ref 162]) [.aload_n 0] (by decide +kernel) rfl rfl ?_
    refine wx_getr is_162 ff_12_76 rfl rf_162_42 (by decide +kernel) ?_
    refine wx_blk (pc' := 69) (L' := [some (.ref 162), some (.int v1), some (.int v2)]) (st' := [.ref 162, .ref 185]) [.aload_n 0] (by decide +kernel) rfl rfl ?_
    refine wx_geti is_162 ff_12_316 rfl (by decide +kernel) ?_
    refine wx_blk (pc' := 73) (L' := [some (.ref 162), some (.int v1), some (.int v2)]) (st' := [.int v1, .int (μ 162 41), .ref 185]) [.iload_n 1] (by decide +kernel) rfl rfl ?_
    refine wx_ast is_185 sz_185 (by decide +kernel) (fun μ6 => ?_)
    refine wx_blk (pc' := 75) (L' := [some (.ref 162), some (.int v1), some (.int v2)]) (st' := [.ref 162]) [.aload_n 0] (by decide +kernel) rfl rfl ?_
    refine wx_getr is_162 ff_12_79 rfl rf_162_43 (by decide +kernel) ?_
    refine wx_blk (pc' := 79) (L' := [some (.ref 162), some (.int v1), some (.int v2)]) (st' := [.ref 162, .ref 186]) [.aload_n 0] (by decide +kernel) rfl rfl ?_
    refine wx_geti is_162 ff_12_316 rfl (by decide +kernel) ?_
    refine wx_blk (pc' := 83) (L' := [some (.ref 162), some (.int v1), some (.int v2)]) (st' := [.int v2, .int (μ6 162 41), .ref 186]) [.iload_n 2] (by decide +kernel) rfl rfl ?_
    refine wx_ast is_186 sz_186 (by decide +kernel) (fun μ7 => ?_)
    refine wx_blk (pc' := 86) (L' := [some (.ref 162), some (.int v1), some (.int v2)]) (st' := [.ref 162, .ref 162]) [.aload_n 0, .dup] (by decide +kernel) rfl rfl ?_
    refine wx_geti is_162 ff_12_316 rfl (by decide +kernel) ?_
    refine wx_blk (pc' := 91) (L' := [some (.ref 162), some (.int v1), some (.int v2)]) (st' := [.int ((μ7 162 41) + (1 : Int32)), .ref 162]) [.iconst 1, .iadd] (by decide +kernel) rfl rfl ?_
    refine wx_put is_162 ff_12_316 fp_12_41 ⟨rfl, rfl⟩ (by decide +kernel) (fun μ8 => ?_)
    refine wx_blk (pc' := 95) (L' := [some (.ref 162), some (.int v1), some (.int v2)]) (st' := [.ref 162]) [.aload_n 0] (by decide +kernel) rfl rfl ?_
    refine wx_geti is_162 ff_12_316 rfl (by decide +kernel) ?_
    exact wx_iret rfl rfl (by decide +kernel)
  · refine wx_ldc (v := -1000003) xw_1417 (by decide +kernel) ?_
    exact wx_iret rfl rfl (by decide +kernel)
def f12_wake (v1 : Int32) (v2 : Int32) (μ : xMu) : Option (Int32 × xMu) :=
  (x_put μ 162 0 (0 : Int32) fun μ1 =>
((f12_isLayer μ1 v1).bind fun x2 =>
(if x2 = 0 then
(some ((-1000001 : Int32), μ1))
else
(x_ald μ1 169 8 v1 fun x3 =>
(if (1 : Int32) < x3 then
(some ((-1000001 : Int32), μ1))
else
(x_ald μ1 169 8 v1 fun x4 =>
(if x4 = 0 then
(if v2 = (-1000000 : Int32) then
(f12_wake_j52 v1 v2 μ1)
else
(some ((-1000001 : Int32), μ1)))
else
((f12_isThing μ1 v2).bind fun x5 =>
(if x5 = 0 then
(some ((-1000001 : Int32), μ1))
else
(f12_wake_j52 v1 v2 μ1))))))))))
set_option maxHeartbeats 4000000 in
set_option maxRecDepth 100000 in
theorem l_f12_wake (G : xG) (d : Nat) (hd : 2 ≤ d) (v1 : Int32) (v2 : Int32) (μ : xMu) : Mx G m12_wake d [.ref 162, .int v1, .int v2] μ x_wim (f12_wake v1 v2 μ) := by
  refine mx_enter ok12_wake [some (.ref 162), some (.int v1), some (.int v2)] rfl (Nat.le_of_ble_eq_true rfl) ?_
  unfold f12_wake
  refine wx_blk (pc' := 2) (L' := [some (.ref 162), some (.int v1), some (.int v2)]) (st' := [.int (0 : Int32), .ref 162]) [.aload_n 0, .iconst 0] (by decide +kernel) rfl rfl ?_
  refine wx_put is_162 ff_12_131 fp_12_0 ⟨rfl, rfl⟩ (by decide +kernel) (fun μ1 => ?_)
  refine wx_blk (pc' := 7) (L' := [some (.ref 162), some (.int v1), some (.int v2)]) (st' := [.int v1, .ref 162]) [.aload_n 0, .iload_n 1] (by decide +kernel) rfl rfl ?_
  refine wx_callV (d1 := 1) (As := [.int v1]) (rest := []) (by omega) is_162 (by decide) rfl cv_12_337 rfl (Nat.le_of_ble_eq_true rfl) (l_f12_isLayer G 1 (by omega) μ1 v1) rfl (by decide +kernel) (fun x2 => ?_)
  refine wx_if_eq 49 (off := 39) (by decide +kernel) (by decide) ?_ ?_
  · refine wx_ldc (v := -1000001) xw_1394 (by decide +kernel) ?_
    exact wx_iret rfl rfl (by decide +kernel)
  · refine wx_blk (pc' := 14) (L' := [some (.ref 162), some (.int v1), some (.int v2)]) (st' := [.ref 162]) [.aload_n 0] (by decide +kernel) rfl rfl ?_
    refine wx_getr is_162 ff_12_28 rfl rf_162_11 (by decide +kernel) ?_
    refine wx_blk (pc' := 18) (L' := [some (.ref 162), some (.int v1), some (.int v2)]) (st' := [.int v1, .ref 169]) [.iload_n 1] (by decide +kernel) rfl rfl ?_
    refine wx_ald is_169 sz_169 (by decide +kernel) (fun x3 => ?_)
    refine wx_blk (pc' := 20) (L' := [some (.ref 162), some (.int v1), some (.int v2)]) (st' := [.int (1 : Int32), .int x3]) [.iconst 1] (by decide +kernel) rfl rfl ?_
    refine wx_ic_gt 49 (off := 29) (by decide +kernel) (by decide) ?_ ?_
    · refine wx_ldc (v := -1000001) xw_1394 (by decide +kernel) ?_
      exact wx_iret rfl rfl (by decide +kernel)
    · refine wx_blk (pc' := 24) (L' := [some (.ref 162), some (.int v1), some (.int v2)]) (st' := [.ref 162]) [.aload_n 0] (by decide +kernel) rfl rfl ?_
      refine wx_getr is_162 ff_12_28 rfl rf_162_11 (by decide +kernel) ?_
      refine wx_blk (pc' := 28) (L' := [some (.ref 162), some (.int v1), some (.int v2)]) (st' := [.int v1, .ref 169]) [.iload_n 1] (by decide +kernel) rfl rfl ?_
      refine wx_ald is_169 sz_169 (by decide +kernel) (fun x4 => ?_)
      refine wx_if_ne 41 (off := 12) (by decide +kernel) (by decide) ?_ ?_
      · refine wx_blk (pc' := 43) (L' := [some (.ref 162), some (.int v1), some (.int v2)]) (st' := [.int v2, .ref 162]) [.aload_n 0, .iload_n 2] (by decide +kernel) rfl rfl ?_
        refine wx_callV (d1 := 1) (As := [.int v2]) (rest := []) (by omega) is_162 (by decide) rfl cv_12_351 rfl (Nat.le_of_ble_eq_true rfl) (l_f12_isThing G 1 (by omega) μ1 v2) rfl (by decide +kernel) (fun x5 => ?_)
        refine wx_if_ne 52 (off := 6) (by decide +kernel) (by decide) ?_ ?_
        · refine l_f12_wake_j52 G d hd v1 v2 μ1
        · refine wx_ldc (v := -1000001) xw_1394 (by decide +kernel) ?_
          exact wx_iret rfl rfl (by decide +kernel)
      · refine wx_blk (pc' := 33) (L' := [some (.ref 162), some (.int v1), some (.int v2)]) (st' := [.int v2]) [.iload_n 2] (by decide +kernel) rfl rfl ?_
        refine wx_ldc (v := -1000000) xw_1431 (by decide +kernel) ?_
        refine wx_ic_eq 52 (off := 17) (by decide +kernel) (by decide) ?_ ?_
        · refine l_f12_wake_j52 G d hd v1 v2 μ1
        · refine wx_goto 49 (off := 11) (by decide +kernel) (by decide) ?_
          refine wx_ldc (v := -1000001) xw_1394 (by decide +kernel) ?_
          exact wx_iret rfl rfl (by decide +kernel)
/-! WakingLayersModel.close(I)V -/
def f12_close_l12 (k54 : xMu → Option xMu) : Nat → Int32 → xMu → Option xMu
  | 0, _, _ => none
  | n + 1, v2, μ =>
  (if (μ 162 41) ≤ v2 then
(k54 μ)
else
(x_ald μ 185 16 (v2 + (1 : Int32)) fun x2 =>
(x_ast μ 185 16 v2 x2 fun μ3 =>
(x_ald μ3 186 16 (v2 + (1 : Int32)) fun x4 =>
(x_ast μ3 186 16 v2 x4 fun μ5 =>
((f12_close_l12 k54 n) (v2 + (1 : Int32)) μ5))))))
set_option maxHeartbeats 4000000 in
set_option maxRecDepth 100000 in
theorem l_f12_close_l12 (G : xG) (d : Nat) (hd : 4 ≤ d) (k54 : xMu → Option xMu) (h54 : ∀ (μ1 : xMu), Wx G m12_close d 54 [some (.ref 162), none, none] [] μ1 x_wv (k54 μ1)) : ∀ (n : Nat) (v2 : Int32) (μ : xMu), Wx G m12_close d 12 [some (.ref 162), none, some (.int v2)] [] μ x_wv (f12_close_l12 k54 n v2 μ) := by
  intro n
  induction n with
  | zero => intro v2 μ; exact wx_none
  | succ n h12 =>
    intro v2 μ
    unfold f12_close_l12
    refine wx_blk (pc' := 14) (L' := [some (.ref 162), none, some (.int v2)]) (st' := [.ref 162, .int v2]) [.iload_n 2, .aload_n 0] (by decide +kernel) rfl rfl ?_
    refine wx_geti is_162 ff_12_316 rfl (by decide +kernel) ?_
    refine wx_ic_ge 54 (off := 37) (by decide +kernel) (by decide) ?_ ?_
    · refine wx_weak (L' := [some (.ref 162), none, none]) ⟨rfl, trivial⟩ ?_
      exact h54 μ
    · refine wx_blk (pc' := 21) (L' := [some (.ref 162), none, some (.int v2)]) (st' := [.ref 162]) [.aload_n 0] (by decide +kernel) rfl rfl ?_
      refine wx_getr is_162 ff_12_76 rfl rf_162_42 (by decide +kernel) ?_
      refine wx_blk (pc' := 26) (L' := [some (.ref 162), none, some (.int v2)]) (st' := [.ref 162, .int v2, .ref 185]) [.iload_n 2, .aload_n 0] (by decide +kernel) rfl rfl ?_
      refine wx_getr is_162 ff_12_76 rfl rf_162_42 (by decide +kernel) ?_
      refine wx_blk (pc' := 32) (L' := [some (.ref 162), none, some (.int v2)]) (st' := [.int (v2 + (1 : Int32)), .ref 185, .int v2, .ref 185]) [.iload_n 2, .iconst 1, .iadd] (by decide +kernel) rfl rfl ?_
      refine wx_ald is_185 sz_185 (by decide +kernel) (fun x2 => ?_)
      refine wx_ast is_185 sz_185 (by decide +kernel) (fun μ3 => ?_)
      refine wx_blk (pc' := 35) (L' := [some (.ref 162), none, some (.int v2)]) (st' := [.ref 162]) [.aload_n 0] (by decide +kernel) rfl rfl ?_
      refine wx_getr is_162 ff_12_79 rfl rf_162_43 (by decide +kernel) ?_
      refine wx_blk (pc' := 40) (L' := [some (.ref 162), none, some (.int v2)]) (st' := [.ref 162, .int v2, .ref 186]) [.iload_n 2, .aload_n 0] (by decide +kernel) rfl rfl ?_
      refine wx_getr is_162 ff_12_79 rfl rf_162_43 (by decide +kernel) ?_
      refine wx_blk (pc' := 46) (L' := [some (.ref 162), none, some (.int v2)]) (st' := [.int (v2 + (1 : Int32)), .ref 186, .int v2, .ref 186]) [.iload_n 2, .iconst 1, .iadd] (by decide +kernel) rfl rfl ?_
      refine wx_ald is_186 sz_186 (by decide +kernel) (fun x4 => ?_)
      refine wx_ast is_186 sz_186 (by decide +kernel) (fun μ5 => ?_)
      refine wx_blk (pc' := 51) (L' := [some (.ref 162), none, some (.int (v2 + (1 : Int32)))]) (st' := []) [.iinc 2 1] (by decide +kernel) rfl rfl ?_
      refine wx_goto 12 (off := -39) (by decide +kernel) (by decide) ?_
      exact h12 (v2 + (1 : Int32)) μ5
def f12_close (v1 : Int32) (μ : xMu) : Option xMu :=
  (x_put μ 162 41 ((μ 162 41) - (1 : Int32)) fun μ1 =>
(f12_close_l12 (fun (μ6 : xMu) => ((f12_lose μ6).bind fun μ7 =>
(some μ7))) 1000 v1 μ1))
set_option maxHeartbeats 4000000 in
set_option maxRecDepth 100000 in
theorem l_f12_close (G : xG) (d : Nat) (hd : 4 ≤ d) (v1 : Int32) (μ : xMu) : Mx G m12_close d [.ref 162, .int v1] μ x_wv (f12_close v1 μ) := by
  refine mx_enter ok12_close [some (.ref 162), some (.int v1), none] rfl (Nat.le_of_ble_eq_true rfl) ?_
  unfold f12_close
  refine wx_blk (pc' := 2) (L' := [some (.ref 162), some (.int v1), none]) (st' := [.ref 162, .ref 162]) [.aload_n 0, .dup] (by decide +kernel) rfl rfl ?_
  refine wx_geti is_162 ff_12_316 rfl (by decide +kernel) ?_
  refine wx_blk (pc' := 7) (L' := [some (.ref 162), some (.int v1), none]) (st' := [.int ((μ 162 41) - (1 : Int32)), .ref 162]) [.iconst 1, .isub] (by decide +kernel) rfl rfl ?_
  refine wx_put is_162 ff_12_316 fp_12_41 ⟨rfl, rfl⟩ (by decide +kernel) (fun μ1 => ?_)
  refine wx_blk (pc' := 12) (L' := [some (.ref 162), some (.int v1), some (.int v1)]) (st' := []) [.iload_n 1, .istore_n 2] (by decide +kernel) rfl rfl ?_
  refine wx_weak (L' := [some (.ref 162), none, some (.int v1)]) ⟨rfl, ⟨rfl, trivial⟩⟩ ?_
  refine l_f12_close_l12 G d hd _ ?_ 1000 v1 μ1
  · intro μ6
    refine wx_blk (pc' := 55) (L' := [some (.ref 162), none, none]) (st' := [.ref 162]) [.aload_n 0] (by decide +kernel) rfl rfl ?_
    refine wx_callV (d1 := 3) (As := []) (rest := []) (by omega) is_162 (by decide) rfl cv_12_334 rfl (Nat.le_of_ble_eq_true rfl) (l_f12_lose G 3 (by omega) μ6) rfl (by decide +kernel) (fun μ7 => ?_)
    exact wx_vret rfl rfl (by decide +kernel)
/-! WakingLayersModel.sleep(I)I -/
def f12_sleep_l23 (k53 : xMu → Option (Int32 × xMu)) : Nat → Int32 → Int32 → xMu → Option (Int32 × xMu)
  | 0, _, _, _ => none
  | n + 1, v1, v2, μ =>
  (if v2 < 0 then
(k53 μ)
else
(x_ald μ 185 16 v2 fun x3 =>
(if x3 = v1 then
((f12_close v2 μ).bind fun μ4 =>
(some ((μ4 162 41), μ4)))
else
((f12_sleep_l23 k53 n) v1 (v2 + (-1 : Int32)) μ))))
set_option maxHeartbeats 4000000 in
set_option maxRecDepth 100000 in
theorem l_f12_sleep_l23 (G : xG) (d : Nat) (hd : 5 ≤ d) (k53 : xMu → Option (Int32 × xMu)) (h53 : ∀ (μ1 : xMu), Wx G m12_sleep d 53 [none, none, none] [] μ1 x_wim (k53 μ1)) : ∀ (n : Nat) (v1 : Int32) (v2 : Int32) (μ : xMu), Wx G m12_sleep d 23 [some (.ref 162), some (.int v1), some (.int v2)] [] μ x_wim (f12_sleep_l23 k53 n v1 v2 μ) := by
  intro n
  induction n with
  | zero => intro v1 v2 μ; exact wx_none
  | succ n h23 =>
    intro v1 v2 μ
    unfold f12_sleep_l23
    refine wx_blk (pc' := 24) (L' := [some (.ref 162), some (.int v1), some (.int v2)]) (st' := [.int v2]) [.iload_n 2] (by decide +kernel) rfl rfl ?_
    refine wx_if_lt 53 (off := 29) (by decide +kernel) (by decide) ?_ ?_
    · refine wx_weak (L' := [none, none, none]) trivial ?_
      exact h53 μ
    · refine wx_blk (pc' := 28) (L' := [some (.ref 162), some (.int v1), some (.int v2)]) (st' := [.ref 162]) [.aload_n 0] (by decide +kernel) rfl rfl ?_
      refine wx_getr is_162 ff_12_76 rfl rf_162_42 (by decide +kernel) ?_
      refine wx_blk (pc' := 32) (L' := [some (.ref 162), some (.int v1), some (.int v2)]) (st' := [.int v2, .ref 185]) [.iload_n 2] (by decide +kernel) rfl rfl ?_
      refine wx_ald is_185 sz_185 (by decide +kernel) (fun x3 => ?_)
      refine wx_blk (pc' := 34) (L' := [some (.ref 162), some (.int v1), some (.int v2)]) (st' := [.int v1, .int x3]) [.iload_n 1] (by decide +kernel) rfl rfl ?_
      refine wx_ic_ne 47 (off := 13) (by decide +kernel) (by decide) ?_ ?_
      · refine wx_blk (pc' := 50) (L' := [some (.ref 162), some (.int v1), some (.int (v2 + (-1 : Int32)))]) (st' := []) [.iinc 2 (-1)] (by decide +kernel) rfl rfl ?_
        refine wx_goto 23 (off := -27) (by decide +kernel) (by decide) ?_
        exact h23 v1 (v2 + (-1 : Int32)) μ
      · refine wx_blk (pc' := 39) (L' := [some (.ref 162), some (.int v1), some (.int v2)]) (st' := [.int v2, .ref 162]) [.aload_n 0, .iload_n 2] (by decide +kernel) rfl rfl ?_
        refine wx_callV (d1 := 4) (As := [.int v2]) (rest := []) (by omega) is_162 (by decide) rfl cv_12_354 rfl (Nat.le_of_ble_eq_true rfl) (l_f12_close G 4 (by omega) v2 μ) rfl (by decide +kernel) (fun μ4 => ?_)
        refine wx_blk (pc' := 43) (L' := [some (.ref 162), some (.int v1), some (.int v2)]) (st' := [.ref 162]) [.aload_n 0] (by decide +kernel) rfl rfl ?_
        refine wx_geti is_162 ff_12_316 rfl (by decide +kernel) ?_
        exact wx_iret rfl rfl (by decide +kernel)
def f12_sleep (v1 : Int32) (μ : xMu) : Option (Int32 × xMu) :=
  (x_put μ 162 0 (0 : Int32) fun μ1 =>
((f12_isLayer μ1 v1).bind fun x2 =>
(if x2 = 0 then
(some ((-1000001 : Int32), μ1))
else
(f12_sleep_l23 (fun (μ5 : xMu) => (some ((-1000002 : Int32), μ5))) 1000 v1 ((μ1 162 41) - (1 : Int32)) μ1))))
set_option maxHeartbeats 4000000 in
set_option maxRecDepth 100000 in
theorem l_f12_sleep (G : xG) (d : Nat) (hd : 5 ≤ d) (v1 : Int32) (μ : xMu) : Mx G m12_sleep d [.ref 162, .int v1] μ x_wim (f12_sleep v1 μ) := by
  refine mx_enter ok12_sleep [some (.ref 162), some (.int v1), none] rfl (Nat.le_of_ble_eq_true rfl) ?_
  unfold f12_sleep
  refine wx_blk (pc' := 2) (L' := [some (.ref 162), some (.int v1), none]) (st' := [.int (0 : Int32), .ref 162]) [.aload_n 0, .iconst 0] (by decide +kernel) rfl rfl ?_
  refine wx_put is_162 ff_12_131 fp_12_0 ⟨rfl, rfl⟩ (by decide +kernel) (fun μ1 => ?_)
  refine wx_blk (pc' := 7) (L' := [some (.ref 162), some (.int v1), none]) (st' := [.int v1, .ref 162]) [.aload_n 0, .iload_n 1] (by decide +kernel) rfl rfl ?_
  refine wx_callV (d1 := 1) (As := [.int v1]) (rest := []) (by omega) is_162 (by decide) rfl cv_12_337 rfl (Nat.le_of_ble_eq_true rfl) (l_f12_isLayer G 1 (by omega) μ1 v1) rfl (by decide +kernel) (fun x2 => ?_)
  refine wx_if_ne 16 (off := 6) (by decide +kernel) (by decide) ?_ ?_
  · refine wx_blk (pc' := 17) (L' := [some (.ref 162), some (.int v1), none]) (st' := [.ref 162]) [.aload_n 0] (by decide +kernel) rfl rfl ?_
    refine wx_geti is_162 ff_12_316 rfl (by decide +kernel) ?_
    refine wx_blk (pc' := 23) (L' := [some (.ref 162), some (.int v1), some (.int ((μ1 162 41) - (1 : Int32)))]) (st' := []) [.iconst 1, .isub, .istore_n 2] (by decide +kernel) rfl rfl ?_
    refine l_f12_sleep_l23 G d hd _ ?_ 1000 v1 ((μ1 162 41) - (1 : Int32)) μ1
    · intro μ5
      refine wx_ldcw (v := -1000002) xw_1584 (by decide +kernel) ?_
      exact wx_iret rfl rfl (by decide +kernel)
  · refine wx_ldc (v := -1000001) xw_1394 (by decide +kernel) ?_
    exact wx_iret rfl rfl (by decide +kernel)
/-! WakingLayersModel.latestOf(II)I -/
def f12_latestOf_j52 (μ : xMu) (k6 : Int32 → Int32 → Int32 → Int32 → Option Int32) (v1 : Int32) (v2 : Int32) (v4 : Int32) (s0 : Int32) : Option Int32 :=
  (k6 v1 v2 s0 (v4 + (1 : Int32)))
set_option maxHeartbeats 4000000 in
set_option maxRecDepth 100000 in
theorem l_f12_latestOf_j52 (G : xG) (d : Nat) (hd : 0 ≤ d) (μ : xMu) (k6 : Int32 → Int32 → Int32 → Int32 → Option Int32) (h6 : ∀ (v1 : Int32) (v2 : Int32) (v3 : Int32) (v4 : Int32), Wx G m12_latestOf d 6 [some (.ref 162), some (.int v1), some (.int v2), some (.int v3), some (.int v4)] [] μ (x_wi μ) (k6 v1 v2 v3 v4)) (v1 : Int32) (v2 : Int32) (v4 : Int32) (s0 : Int32) : Wx G m12_latestOf d 52 [some (.ref 162), some (.int v1), some (.int v2), none, some (.int v4)] [.int s0] μ (x_wi μ) (f12_latestOf_j52 μ k6 v1 v2 v4 s0) := by
  unfold f12_latestOf_j52
  refine wx_blk (pc' := 56) (L' := [some (.ref 162), some (.int v1), some (.int v2), some (.int s0), some (.int (v4 + (1 : Int32)))]) (st' := []) [.istore_n 3, .iinc 4 1] (by decide +kernel) rfl rfl ?_
  refine wx_goto 6 (off := -50) (by decide +kernel) (by decide) ?_
  exact h6 v1 v2 s0 (v4 + (1 : Int32))
def f12_latestOf_j51 (μ : xMu) (k6 : Int32 → Int32 → Int32 → Int32 → Option Int32) (v1 : Int32) (v2 : Int32) (v3 : Int32) (v4 : Int32) : Option Int32 :=
  (f12_latestOf_j52 μ k6 v1 v2 v4 v3)
set_option maxHeartbeats 4000000 in
set_option maxRecDepth 100000 in
theorem l_f12_latestOf_j51 (G : xG) (d : Nat) (hd : 0 ≤ d) (μ : xMu) (k6 : Int32 → Int32 → Int32 → Int32 → Option Int32) (h6 : ∀ (v1 : Int32) (v2 : Int32) (v3 : Int32) (v4 : Int32), Wx G m12_latestOf d 6 [some (.ref 162), some (.int v1), some (.int v2), some (.int v3), some (.int v4)] [] μ (x_wi μ) (k6 v1 v2 v3 v4)) (v1 : Int32) (v2 : Int32) (v3 : Int32) (v4 : Int32) : Wx G m12_latestOf d 51 [some (.ref 162), some (.int v1), some (.int v2), some (.int v3), some (.int v4)] [] μ (x_wi μ) (f12_latestOf_j51 μ k6 v1 v2 v3 v4) := by
  unfold f12_latestOf_j51
  refine wx_blk (pc' := 52) (L' := [some (.ref 162), some (.int v1), some (.int v2), some (.int v3), some (.int v4)]) (st' := [.int v3]) [.iload_n 3] (by decide +kernel) rfl rfl ?_
  refine wx_weak (L' := [some (.ref 162), some (.int v1), some (.int v2), none, some (.int v4)]) ⟨rfl, ⟨rfl, ⟨rfl, ⟨rfl, trivial⟩⟩⟩⟩ ?_
  refine l_f12_latestOf_j52 G d hd μ _ h6 v1 v2 v4 v3
def f12_latestOf_j46 (μ : xMu) (k6 : Int32 → Int32 → Int32 → Int32 → Option Int32) (v1 : Int32) (v2 : Int32) (v4 : Int32) : Option Int32 :=
  (f12_latestOf_j52 μ k6 v1 v2 v4 v4)
set_option maxHeartbeats 4000000 in
set_option maxRecDepth 100000 in
theorem l_f12_latestOf_j46 (G : xG) (d : Nat) (hd : 0 ≤ d) (μ : xMu) (k6 : Int32 → Int32 → Int32 → Int32 → Option Int32) (h6 : ∀ (v1 : Int32) (v2 : Int32) (v3 : Int32) (v4 : Int32), Wx G m12_latestOf d 6 [some (.ref 162), some (.int v1), some (.int v2), some (.int v3), some (.int v4)] [] μ (x_wi μ) (k6 v1 v2 v3 v4)) (v1 : Int32) (v2 : Int32) (v4 : Int32) : Wx G m12_latestOf d 46 [some (.ref 162), some (.int v1), some (.int v2), none, some (.int v4)] [] μ (x_wi μ) (f12_latestOf_j46 μ k6 v1 v2 v4) := by
  unfold f12_latestOf_j46
  refine wx_blk (pc' := 48) (L' := [some (.ref 162), some (.int v1), some (.int v2), none, some (.int v4)]) (st' := [.int v4]) [.iload 4] (by decide +kernel) rfl rfl ?_
  refine wx_goto 52 (off := 4) (by decide +kernel) (by decide) ?_
  refine l_f12_latestOf_j52 G d hd μ _ h6 v1 v2 v4 v4
def f12_latestOf_l6 (μ : xMu) (k59 : Int32 → Option Int32) : Nat → Int32 → Int32 → Int32 → Int32 → Option Int32
  | 0, _, _, _, _ => none
  | n + 1, v1, v2, v3, v4 =>
  (if (μ 162 41) ≤ v4 then
(k59 v3)
else
(x_ald μ 185 16 v4 fun x1 =>
(if x1 = v1 then
(x_ald μ 169 8 v1 fun x2 =>
(if x2 = 0 then
(f12_latestOf_j46 μ (f12_latestOf_l6 μ k59 n) v1 v2 v4)
else
(x_ald μ 186 16 v4 fun x3 =>
(if x3 = v2 then
(f12_latestOf_j46 μ (f12_latestOf_l6 μ k59 n) v1 v2 v4)
else
(f12_latestOf_j51 μ (f12_latestOf_l6 μ k59 n) v1 v2 v3 v4)))))
else
(f12_latestOf_j51 μ (f12_latestOf_l6 μ k59 n) v1 v2 v3 v4))))
set_option maxHeartbeats 4000000 in
set_option maxRecDepth 100000 in
theorem l_f12_latestOf_l6 (G : xG) (d : Nat) (hd : 0 ≤ d) (μ : xMu) (k59 : Int32 → Option Int32) (h59 : ∀ (v3 : Int32), Wx G m12_latestOf d 59 [none, none, none, some (.int v3), none] [] μ (x_wi μ) (k59 v3)) : ∀ (n : Nat) (v1 : Int32) (v2 : Int32) (v3 : Int32) (v4 : Int32), Wx G m12_latestOf d 6 [some (.ref 162), some (.int v1), some (.int v2), some (.int v3), some (.int v4)] [] μ (x_wi μ) (f12_latestOf_l6 μ k59 n v1 v2 v3 v4) := by
  intro n
  induction n with
  | zero => intro v1 v2 v3 v4; exact wx_none
  | succ n h6 =>
    intro v1 v2 v3 v4
    unfold f12_latestOf_l6
    refine wx_blk (pc' := 9) (L' := [some (.ref 162), some (.int v1), some (.int v2), some (.int v3), some (.int v4)]) (st' := [.ref 162, .int v4]) [.iload 4, .aload_n 0] (by decide +kernel) rfl rfl ?_
    refine wx_geti is_162 ff_12_316 rfl (by decide +kernel) ?_
    refine wx_ic_ge 59 (off := 47) (by decide +kernel) (by decide) ?_ ?_
    · refine wx_weak (L' := [none, none, none, some (.int v3), none]) ⟨rfl, trivial⟩ ?_
      exact h59 v3
    · refine wx_blk (pc' := 16) (L' := [some (.ref 162), some (.int v1), some (.int v2), some (.int v3), some (.int v4)]) (st' := [.ref 162]) [.aload_n 0] (by decide +kernel) rfl rfl ?_
      refine wx_getr is_162 ff_12_76 rfl rf_162_42 (by decide +kernel) ?_
      refine wx_blk (pc' := 21) (L' := [some (.ref 162), some (.int v1), some (.int v2), some (.int v3), some (.int v4)]) (st' := [.int v4, .ref 185]) [.iload 4] (by decide +kernel) rfl rfl ?_
      refine wx_ald is_185 sz_185 (by decide +kernel) (fun x1 => ?_)
      refine wx_blk (pc' := 23) (L' := [some (.ref 162), some (.int v1), some (.int v2), some (.int v3), some (.int v4)]) (st' := [.int v1, .int x1]) [.iload_n 1] (by decide +kernel) rfl rfl ?_
      refine wx_ic_ne 51 (off := 28) (by decide +kernel) (by decide) ?_ ?_
      · refine l_f12_latestOf_j51 G d hd μ _ h6 v1 v2 v3 v4
      · refine wx_blk (pc' := 27) (L' := [some (.ref 162), some (.int v1), some (.int v2), some (.int v3), some (.int v4)]) (st' := [.ref 162]) [.aload_n 0] (by decide +kernel) rfl rfl ?_
        refine wx_getr is_162 ff_12_28 rfl rf_162_11 (by decide +kernel) ?_
        refine wx_blk (pc' := 31) (L' := [some (.ref 162), some (.int v1), some (.int v2), some (.int v3), some (.int v4)]) (st' := [.int v1, .ref 169]) [.iload_n 1] (by decide +kernel) rfl rfl ?_
        refine wx_ald is_169 sz_169 (by decide +kernel) (fun x2 => ?_)
        refine wx_if_eq 46 (off := 14) (by decide +kernel) (by decide) ?_ ?_
        · refine wx_weak (L' := [some (.ref 162), some (.int v1), some (.int v2), none, some (.int v4)]) ⟨rfl, ⟨rfl, ⟨rfl, ⟨rfl, trivial⟩⟩⟩⟩ ?_
          refine l_f12_latestOf_j46 G d hd μ _ h6 v1 v2 v4
        · refine wx_blk (pc' := 36) (L' := [some (.ref 162), some (.int v1), some (.int v2), some (.int v3), some (.int v4)]) (st' := [.ref 162]) [.aload_n 0] (by decide +kernel) rfl rfl ?_
          refine wx_getr is_162 ff_12_79 rfl rf_162_43 (by decide +kernel) ?_
          refine wx_blk (pc' := 41) (L' := [some (.ref 162), some (.int v1), some (.int v2), some (.int v3), some (.int v4)]) (st' := [.int v4, .ref 186]) [.iload 4] (by decide +kernel) rfl rfl ?_
          refine wx_ald is_186 sz_186 (by decide +kernel) (fun x3 => ?_)
          refine wx_blk (pc' := 43) (L' := [some (.ref 162), some (.int v1), some (.int v2), some (.int v3), some (.int v4)]) (st' := [.int v2, .int x3]) [.iload_n 2] (by decide +kernel) rfl rfl ?_
          refine wx_ic_ne 51 (off := 8) (by decide +kernel) (by decide) ?_ ?_
          · refine l_f12_latestOf_j51 G d hd μ _ h6 v1 v2 v3 v4
          · refine wx_weak (L' := [some (.ref 162), some (.int v1), some (.int v2), none, some (.int v4)]) ⟨rfl, ⟨rfl, ⟨rfl, ⟨rfl, trivial⟩⟩⟩⟩ ?_
            refine l_f12_latestOf_j46 G d hd μ _ h6 v1 v2 v4
def f12_latestOf (μ : xMu) (v1 : Int32) (v2 : Int32) : Option Int32 :=
  (f12_latestOf_l6 μ (fun (y4 : Int32) => (some y4)) 1000 v1 v2 (-1000000 : Int32) (0 : Int32))
set_option maxHeartbeats 4000000 in
set_option maxRecDepth 100000 in
theorem l_f12_latestOf (G : xG) (d : Nat) (hd : 0 ≤ d) (μ : xMu) (v1 : Int32) (v2 : Int32) : Mx G m12_latestOf d [.ref 162, .int v1, .int v2] μ (x_wi μ) (f12_latestOf μ v1 v2) := by
  refine mx_enter ok12_latestOf [some (.ref 162), some (.int v1), some (.int v2), none, none] rfl (Nat.le_of_ble_eq_true rfl) ?_
  unfold f12_latestOf
  refine wx_ldc (v := -1000000) xw_1431 (by decide +kernel) ?_
  refine wx_blk (pc' := 6) (L' := [some (.ref 162), some (.int v1), some (.int v2), some (.int (-1000000 : Int32)), some (.int (0 : Int32))]) (st' := []) [.istore_n 3, .iconst 0, .istore 4] (by decide +kernel) rfl rfl ?_
  refine l_f12_latestOf_l6 G d hd μ _ ?_ 1000 v1 v2 (-1000000 : Int32) (0 : Int32)
  · intro y4
    refine wx_blk (pc' := 60) (L' := [none, none, none, some (.int y4), none]) (st' := [.int y4]) [.iload_n 3] (by decide +kernel) rfl rfl ?_
    exact wx_iret rfl rfl (by decide +kernel)
/-! WakingLayersModel.isAwakeFor(II)Z -/
def f12_isAwakeFor (μ : xMu) (v1 : Int32) (v2 : Int32) : Option Int32 :=
  (x_ald μ 169 8 v1 fun x1 =>
(if (2 : Int32) ≤ x1 then
((f12_isAwake μ v1).bind fun x2 =>
(x_tst (x_zok x2) (some x2)))
else
((f12_latestOf μ v1 v2).bind fun x4 =>
(if x4 = (-1000000 : Int32) then
(some (0 : Int32))
else
(some (1 : Int32))))))
set_option maxHeartbeats 4000000 in
set_option maxRecDepth 100000 in
theorem l_f12_isAwakeFor (G : xG) (d : Nat) (hd : 2 ≤ d) (μ : xMu) (v1 : Int32) (v2 : Int32) : Mx G m12_isAwakeFor d [.ref 162, .int v1, .int v2] μ (x_wi μ) (f12_isAwakeFor μ v1 v2) := by
  refine mx_enter ok12_isAwakeFor [some (.ref 162), some (.int v1), some (.int v2)] rfl (Nat.le_of_ble_eq_true rfl) ?_
  unfold f12_isAwakeFor
  refine wx_blk (pc' := 1) (L' := [some (.ref 162), some (.int v1), some (.int v2)]) (st' := [.ref 162]) [.aload_n 0] (by decide +kernel) rfl rfl ?_
  refine wx_getr is_162 ff_12_28 rfl rf_162_11 (by decide +kernel) ?_
  refine wx_blk (pc' := 5) (L' := [some (.ref 162), some (.int v1), some (.int v2)]) (st' := [.int v1, .ref 169]) [.iload_n 1] (by decide +kernel) rfl rfl ?_
  refine wx_ald is_169 sz_169 (by decide +kernel) (fun x1 => ?_)
  refine wx_blk (pc' := 7) (L' := [some (.ref 162), some (.int v1), some (.int v2)]) (st' := [.int (2 : Int32), .int x1]) [.iconst 2] (by decide +kernel) rfl rfl ?_
  refine wx_ic_ge 29 (off := 22) (by decide +kernel) (by decide) ?_ ?_
  · refine wx_blk (pc' := 31) (L' := [some (.ref 162), some (.int v1), some (.int v2)]) (st' := [.int v1, .ref 162]) [.aload_n 0, .iload_n 1] (by decide +kernel) rfl rfl ?_
    refine wx_callV (d1 := 1) (As := [.int v1]) (rest := []) (by omega) is_162 (by decide) rfl cv_12_325 rfl (Nat.le_of_ble_eq_true rfl) (l_f12_isAwake G 1 (by omega) μ v1) rfl (by decide +kernel) (fun x2 => ?_)
    exact wx_tst (fun hx3 => wx_zret rfl rfl hx3 (by decide +kernel))
  · refine wx_blk (pc' := 13) (L' := [some (.ref 162), some (.int v1), some (.int v2)]) (st' := [.int v2, .int v1, .ref 162]) [.aload_n 0, .iload_n 1, .iload_n 2] (by decide +kernel) rfl rfl ?_
    refine wx_callV (d1 := 0) (As := [.int v1, .int v2]) (rest := []) (by omega) is_162 (by decide) rfl cv_12_358 rfl (Nat.le_of_ble_eq_true rfl) (l_f12_latestOf G 0 (by omega) μ v1 v2) rfl (by decide +kernel) (fun x4 => ?_)
    refine wx_ldc (v := -1000000) xw_1431 (by decide +kernel) ?_
    refine wx_ic_eq 25 (off := 7) (by decide +kernel) (by decide) ?_ ?_
    · refine wx_blk (pc' := 26) (L' := [some (.ref 162), some (.int v1), some (.int v2)]) (st' := [.int (0 : Int32)]) [.iconst 0] (by decide +kernel) rfl rfl ?_
      refine wx_goto 34 (off := 8) (by decide +kernel) (by decide) ?_
      exact wx_zret rfl rfl (by decide) (by decide +kernel)
    · refine wx_blk (pc' := 22) (L' := [some (.ref 162), some (.int v1), some (.int v2)]) (st' := [.int (1 : Int32)]) [.iconst 1] (by decide +kernel) rfl rfl ?_
      refine wx_goto 34 (off := 12) (by decide +kernel) (by decide) ?_
      exact wx_zret rfl rfl (by decide) (by decide +kernel)
/-! WakingLayersModel.isAhead(III)Z -/
def f12_isAhead_j98 (μ : xMu) (s0 : Int32) (s1 : Int32) : Option Int32 :=
  (if s0 ≤ s1 then
(some (0 : Int32))
else
(some (1 : Int32)))
set_option maxHeartbeats 4000000 in
set_option maxRecDepth 100000 in
theorem l_f12_isAhead_j98 (G : xG) (d : Nat) (hd : 1 ≤ d) (μ : xMu) (s0 : Int32) (s1 : Int32) : Wx G m12_isAhead d 98 [none, none, none, none] [.int s1, .int s0] μ (x_wi μ) (f12_isAhead_j98 μ s0 s1) := by
  unfold f12_isAhead_j98
  refine wx_ic_le 105 (off := 7) (by decide +kernel) (by decide) ?_ ?_
  · refine wx_blk (pc' := 106) (L' := [none, none, none, none]) (st' := [.int (0 : Int32)]) [.iconst 0] (by decide +kernel) rfl rfl ?_
    exact wx_zret rfl rfl (by decide) (by decide +kernel)
  · refine wx_blk (pc' := 102) (L' := [none, none, none, none]) (st' := [.int (1 : Int32)]) [.iconst 1] (by decide +kernel) rfl rfl ?_
    refine wx_goto 106 (off := 4) (by decide +kernel) (by decide) ?_
    exact wx_zret rfl rfl (by decide) (by decide +kernel)
def f12_isAhead_j77 (μ : xMu) (v2 : Int32) (v3 : Int32) (s0 : Int32) : Option Int32 :=
  (x_ald μ 169 8 v2 fun x5 =>
(if (2 : Int32) ≤ x5 then
(f12_isAhead_j98 μ s0 (-1000000 : Int32))
else
((f12_latestOf μ v2 v3).bind fun x6 =>
(f12_isAhead_j98 μ s0 x6))))
set_option maxHeartbeats 4000000 in
set_option maxRecDepth 100000 in
theorem l_f12_isAhead_j77 (G : xG) (d : Nat) (hd : 1 ≤ d) (μ : xMu) (v2 : Int32) (v3 : Int32) (s0 : Int32) : Wx G m12_isAhead d 77 [some (.ref 162), none, some (.int v2), some (.int v3)] [.int s0] μ (x_wi μ) (f12_isAhead_j77 μ v2 v3 s0) := by
  unfold f12_isAhead_j77
  refine wx_blk (pc' := 78) (L' := [some (.ref 162), none, some (.int v2), some (.int v3)]) (st' := [.ref 162, .int s0]) [.aload_n 0] (by decide +kernel) rfl rfl ?_
  refine wx_getr is_162 ff_12_28 rfl rf_162_11 (by decide +kernel) ?_
  refine wx_blk (pc' := 82) (L' := [some (.ref 162), none, some (.int v2), some (.int v3)]) (st' := [.int v2, .ref 169, .int s0]) [.iload_n 2] (by decide +kernel) rfl rfl ?_
  refine wx_ald is_169 sz_169 (by decide +kernel) (fun x5 => ?_)
  refine wx_blk (pc' := 84) (L' := [some (.ref 162), none, some (.int v2), some (.int v3)]) (st' := [.int (2 : Int32), .int x5, .int s0]) [.iconst 2] (by decide +kernel) rfl rfl ?_
  refine wx_ic_ge 96 (off := 12) (by decide +kernel) (by decide) ?_ ?_
  · refine wx_ldc (v := -1000000) xw_1431 (by decide +kernel) ?_
    refine wx_weak (L' := [none, none, none, none]) trivial ?_
    refine l_f12_isAhead_j98 G d hd μ s0 (-1000000 : Int32)
  · refine wx_blk (pc' := 90) (L' := [some (.ref 162), none, some (.int v2), some (.int v3)]) (st' := [.int v3, .int v2, .ref 162, .int s0]) [.aload_n 0, .iload_n 2, .iload_n 3] (by decide +kernel) rfl rfl ?_
    refine wx_callV (d1 := 0) (As := [.int v2, .int v3]) (rest := [.int s0]) (by omega) is_162 (by decide) rfl cv_12_358 rfl (Nat.le_of_ble_eq_true rfl) (l_f12_latestOf G 0 (by omega) μ v2 v3) rfl (by decide +kernel) (fun x6 => ?_)
    refine wx_goto 98 (off := 5) (by decide +kernel) (by decide) ?_
    refine wx_weak (L' := [none, none, none, none]) trivial ?_
    refine l_f12_isAhead_j98 G d hd μ s0 x6
def f12_isAhead_j56 (μ : xMu) (v1 : Int32) (v2 : Int32) (v3 : Int32) : Option Int32 :=
  (x_ald μ 169 8 v1 fun x4 =>
(if (2 : Int32) ≤ x4 then
(f12_isAhead_j77 μ v2 v3 (-1000000 : Int32))
else
((f12_latestOf μ v1 v3).bind fun x7 =>
(f12_isAhead_j77 μ v2 v3 x7))))
set_option maxHeartbeats 4000000 in
set_option maxRecDepth 100000 in
theorem l_f12_isAhead_j56 (G : xG) (d : Nat) (hd : 1 ≤ d) (μ : xMu) (v1 : Int32) (v2 : Int32) (v3 : Int32) : Wx G m12_isAhead d 56 [some (.ref 162), some (.int v1), some (.int v2), some (.int v3)] [] μ (x_wi μ) (f12_isAhead_j56 μ v1 v2 v3) := by
  unfold f12_isAhead_j56
  refine wx_blk (pc' := 57) (L' := [some (.ref 162), some (.int v1), some (.int v2), some (.int v3)]) (st' := [.ref 162]) [.aload_n 0] (by decide +kernel) rfl rfl ?_
  refine wx_getr is_162 ff_12_28 rfl rf_162_11 (by decide +kernel) ?_
  refine wx_blk (pc' := 61) (L' := [some (.ref 162), some (.int v1), some (.int v2), some (.int v3)]) (st' := [.int v1, .ref 169]) [.iload_n 1] (by decide +kernel) rfl rfl ?_
  refine wx_ald is_169 sz_169 (by decide +kernel) (fun x4 => ?_)
  refine wx_blk (pc' := 63) (L' := [some (.ref 162), some (.int v1), some (.int v2), some (.int v3)]) (st' := [.int (2 : Int32), .int x4]) [.iconst 2] (by decide +kernel) rfl rfl ?_
  refine wx_ic_ge 75 (off := 12) (by decide +kernel) (by decide) ?_ ?_
  · refine wx_ldc (v := -1000000) xw_1431 (by decide +kernel) ?_
    refine wx_weak (L' := [some (.ref 162), none, some (.int v2), some (.int v3)]) ⟨rfl, ⟨rfl, ⟨rfl, trivial⟩⟩⟩ ?_
    refine l_f12_isAhead_j77 G d hd μ v2 v3 (-1000000 : Int32)
  · refine wx_blk (pc' := 69) (L' := [some (.ref 162), some (.int v1), some (.int v2), some (.int v3)]) (st' := [.int v3, .int v1, .ref 162]) [.aload_n 0, .iload_n 1, .iload_n 3] (by decide +kernel) rfl rfl ?_
    refine wx_callV (d1 := 0) (As := [.int v1, .int v3]) (rest := []) (by omega) is_162 (by decide) rfl cv_12_358 rfl (Nat.le_of_ble_eq_true rfl) (l_f12_latestOf G 0 (by omega) μ v1 v3) rfl (by decide +kernel) (fun x7 => ?_)
    refine wx_goto 77 (off := 5) (by decide +kernel) (by decide) ?_
    refine wx_weak (L' := [some (.ref 162), none, some (.int v2), some (.int v3)]) ⟨rfl, ⟨rfl, ⟨rfl, trivial⟩⟩⟩ ?_
    refine l_f12_isAhead_j77 G d hd μ v2 v3 x7
def f12_isAhead (μ : xMu) (v1 : Int32) (v2 : Int32) (v3 : Int32) : Option Int32 :=
  (x_ald μ 170 8 v1 fun x1 =>
(x_ald μ 170 8 v2 fun x2 =>
(if x1 = x2 then
(x_ald μ 169 8 v1 fun x3 =>
(if x3 < (2 : Int32) then
(f12_isAhead_j56 μ v1 v2 v3)
else
(x_ald μ 169 8 v2 fun x8 =>
(if (2 : Int32) ≤ x8 then
(if v2 ≤ v1 then
(some (0 : Int32))
else
(some (1 : Int32)))
else
(f12_isAhead_j56 μ v1 v2 v3)))))
else
(x_ald μ 170 8 v1 fun x9 =>
(x_ald μ 170 8 v2 fun x10 =>
(if x9 ≤ x10 then
(some (0 : Int32))
else
(some (1 : Int32))))))))
set_option maxHeartbeats 4000000 in
set_option maxRecDepth 100000 in
theorem l_f12_isAhead (G : xG) (d : Nat) (hd : 1 ≤ d) (μ : xMu) (v1 : Int32) (v2 : Int32) (v3 : Int32) : Mx G m12_isAhead d [.ref 162, .int v1, .int v2, .int v3] μ (x_wi μ) (f12_isAhead μ v1 v2 v3) := by
  refine mx_enter ok12_isAhead [some (.ref 162), some (.int v1), some (.int v2), some (.int v3)] rfl (Nat.le_of_ble_eq_true rfl) ?_
  unfold f12_isAhead
  refine wx_blk (pc' := 1) (L' := [some (.ref 162), some (.int v1), some (.int v2), some (.int v3)]) (st' := [.ref 162]) [.aload_n 0] (by decide +kernel) rfl rfl ?_
  refine wx_getr is_162 ff_12_31 rfl rf_162_12 (by decide +kernel) ?_
  refine wx_blk (pc' := 5) (L' := [some (.ref 162), some (.int v1), some (.int v2), some (.int v3)]) (st' := [.int v1, .ref 170]) [.iload_n 1] (by decide +kernel) rfl rfl ?_
  refine wx_ald is_170 sz_170 (by decide +kernel) (fun x1 => ?_)
  refine wx_blk (pc' := 7) (L' := [some (.ref 162), some (.int v1), some (.int v2), some (.int v3)]) (st' := [.ref 162, .int x1]) [.aload_n 0] (by decide +kernel) rfl rfl ?_
  refine wx_getr is_162 ff_12_31 rfl rf_162_12 (by decide +kernel) ?_
  refine wx_blk (pc' := 11) (L' := [some (.ref 162), some (.int v1), some (.int v2), some (.int v3)]) (st' := [.int v2, .ref 170, .int x1]) [.iload_n 2] (by decide +kernel) rfl rfl ?_
  refine wx_ald is_170 sz_170 (by decide +kernel) (fun x2 => ?_)
  refine wx_ic_eq 36 (off := 24) (by decide +kernel) (by decide) ?_ ?_
  · refine wx_blk (pc' := 37) (L' := [some (.ref 162), some (.int v1), some (.int v2), some (.int v3)]) (st' := [.ref 162]) [.aload_n 0] (by decide +kernel) rfl rfl ?_
    refine wx_getr is_162 ff_12_28 rfl rf_162_11 (by decide +kernel) ?_
    refine wx_blk (pc' := 41) (L' := [some (.ref 162), some (.int v1), some (.int v2), some (.int v3)]) (st' := [.int v1, .ref 169]) [.iload_n 1] (by decide +kernel) rfl rfl ?_
    refine wx_ald is_169 sz_169 (by decide +kernel) (fun x3 => ?_)
    refine wx_blk (pc' := 43) (L' := [some (.ref 162), some (.int v1), some (.int v2), some (.int v3)]) (st' := [.int (2 : Int32), .int x3]) [.iconst 2] (by decide +kernel) rfl rfl ?_
    refine wx_ic_lt 56 (off := 13) (by decide +kernel) (by decide) ?_ ?_
    · refine l_f12_isAhead_j56 G d hd μ v1 v2 v3
    · refine wx_blk (pc' := 47) (L' := [some (.ref 162), some (.int v1), some (.int v2), some (.int v3)]) (st' := [.ref 162]) [.aload_n 0] (by decide +kernel) rfl rfl ?_
      refine wx_getr is_162 ff_12_28 rfl rf_162_11 (by decide +kernel) ?_
      refine wx_blk (pc' := 51) (L' := [some (.ref 162), some (.int v1), some (.int v2), some (.int v3)]) (st' := [.int v2, .ref 169]) [.iload_n 2] (by decide +kernel) rfl rfl ?_
      refine wx_ald is_169 sz_169 (by decide +kernel) (fun x8 => ?_)
      refine wx_blk (pc' := 53) (L' := [some (.ref 162), some (.int v1), some (.int v2), some (.int v3)]) (st' := [.int (2 : Int32), .int x8]) [.iconst 2] (by decide +kernel) rfl rfl ?_
      refine wx_ic_ge 107 (off := 54) (by decide +kernel) (by decide) ?_ ?_
      · refine wx_blk (pc' := 109) (L' := [some (.ref 162), some (.int v1), some (.int v2), some (.int v3)]) (st' := [.int v2, .int v1]) [.iload_n 1, .iload_n 2] (by decide +kernel) rfl rfl ?_
        refine wx_ic_ge 116 (off := 7) (by decide +kernel) (by decide) ?_ ?_
        · refine wx_blk (pc' := 117) (L' := [some (.ref 162), some (.int v1), some (.int v2), some (.int v3)]) (st' := [.int (0 : Int32)]) [.iconst 0] (by decide +kernel) rfl rfl ?_
          exact wx_zret rfl rfl (by decide) (by decide +kernel)
        · refine wx_blk (pc' := 113) (L' := [some (.ref 162), some (.int v1), some (.int v2), some (.int v3)]) (st' := [.int (1 : Int32)]) [.iconst 1] (by decide +kernel) rfl rfl ?_
          refine wx_goto 117 (off := 4) (by decide +kernel) (by decide) ?_
          exact wx_zret rfl rfl (by decide) (by decide +kernel)
      · refine l_f12_isAhead_j56 G d hd μ v1 v2 v3
  · refine wx_blk (pc' := 16) (L' := [some (.ref 162), some (.int v1), some (.int v2), some (.int v3)]) (st' := [.ref 162]) [.aload_n 0] (by decide +kernel) rfl rfl ?_
    refine wx_getr is_162 ff_12_31 rfl rf_162_12 (by decide +kernel) ?_
    refine wx_blk (pc' := 20) (L' := [some (.ref 162), some (.int v1), some (.int v2), some (.int v3)]) (st' := [.int v1, .ref 170]) [.iload_n 1] (by decide +kernel) rfl rfl ?_
    refine wx_ald is_170 sz_170 (by decide +kernel) (fun x9 => ?_)
    refine wx_blk (pc' := 22) (L' := [some (.ref 162), some (.int v1), some (.int v2), some (.int v3)]) (st' := [.ref 162, .int x9]) [.aload_n 0] (by decide +kernel) rfl rfl ?_
    refine wx_getr is_162 ff_12_31 rfl rf_162_12 (by decide +kernel) ?_
    refine wx_blk (pc' := 26) (L' := [some (.ref 162), some (.int v1), some (.int v2), some (.int v3)]) (st' := [.int v2, .ref 170, .int x9]) [.iload_n 2] (by decide +kernel) rfl rfl ?_
    refine wx_ald is_170 sz_170 (by decide +kernel) (fun x10 => ?_)
    refine wx_ic_le 34 (off := 7) (by decide +kernel) (by decide) ?_ ?_
    · refine wx_blk (pc' := 35) (L' := [some (.ref 162), some (.int v1), some (.int v2), some (.int v3)]) (st' := [.int (0 : Int32)]) [.iconst 0] (by decide +kernel) rfl rfl ?_
      exact wx_zret rfl rfl (by decide) (by decide +kernel)
    · refine wx_blk (pc' := 31) (L' := [some (.ref 162), some (.int v1), some (.int v2), some (.int v3)]) (st' := [.int (1 : Int32)]) [.iconst 1] (by decide +kernel) rfl rfl ?_
      refine wx_goto 35 (off := 4) (by decide +kernel) (by decide) ?_
      exact wx_zret rfl rfl (by decide) (by decide +kernel)
/-! WakingLayersModel.lay(IIII)Z -/
def f12_lay_j103 (k18 : Int32 → Int32 → Int32 → Int32 → Int32 → xMu → Option (Int32 × xMu)) (v1 : Int32) (v2 : Int32) (v4 : Int32) (v5 : Int32) (v6 : Int32) (μ : xMu) : Option (Int32 × xMu) :=
  (k18 v1 v2 v4 v5 (v6 + (1 : Int32)) μ)
set_option maxHeartbeats 4000000 in
set_option maxRecDepth 100000 in
theorem l_f12_lay_j103 (G : xG) (d : Nat) (hd : 0 ≤ d) (k18 : Int32 → Int32 → Int32 → Int32 → Int32 → xMu → Option (Int32 × xMu)) (h18 : ∀ (v1 : Int32) (v2 : Int32) (v4 : Int32) (v5 : Int32) (v6 : Int32) (μ1 : xMu), Wx G m12_lay d 18 [some (.ref 162), some (.int v1), some (.int v2), none, some (.int v4), some (.int v5), some (.int v6)] [] μ1 x_wim (k18 v1 v2 v4 v5 v6 μ1)) (v1 : Int32) (v2 : Int32) (v4 : Int32) (v5 : Int32) (v6 : Int32) (μ : xMu) : Wx G m12_lay d 103 [some (.ref 162), some (.int v1), some (.int v2), none, some (.int v4), some (.int v5), some (.int v6)] [] μ x_wim (f12_lay_j103 k18 v1 v2 v4 v5 v6 μ) := by
  unfold f12_lay_j103
  refine wx_blk (pc' := 106) (L' := [some (.ref 162), some (.int v1), some (.int v2), none, some (.int v4), some (.int v5), some (.int (v6 + (1 : Int32)))]) (st' := []) [.iinc 6 1] (by decide +kernel) rfl rfl ?_
  refine wx_goto 18 (off := -88) (by decide +kernel) (by decide) ?_
  exact h18 v1 v2 v4 v5 (v6 + (1 : Int32)) μ
def f12_lay_l18 (k109 : Int32 → Int32 → Int32 → Int32 → xMu → Option (Int32 × xMu)) : Nat → Int32 → Int32 → Int32 → Int32 → Int32 → xMu → Option (Int32 × xMu)
  | 0, _, _, _, _, _, _ => none
  | n + 1, v1, v2, v4, v5, v6, μ =>
  (if (μ 162 18) ≤ v6 then
(k109 v1 v2 v4 v5 μ)
else
(x_ald μ 176 24 v6 fun x2 =>
(if x2 = v2 then
(x_ald μ 177 24 v6 fun x3 =>
(if x3 = v5 then
(x_ald μ 178 24 v6 fun x4 =>
(if x4 = v4 then
(x_ald μ 187 7 v1 fun x5 =>
(x_ast μ 188 168 (((24 : Int32) * v1) + x5) v6 fun μ6 =>
(x_ald μ6 187 7 v1 fun x7 =>
(x_ast μ6 187 7 v1 (x7 + (1 : Int32)) fun μ8 =>
(x_ald μ8 179 24 v6 fun x9 =>
(if x9 = (3 : Int32) then
(some ((1 : Int32), μ8))
else
(f12_lay_j103 (f12_lay_l18 k109 n) v1 v2 v4 v5 v6 μ8)))))))
else
(f12_lay_j103 (f12_lay_l18 k109 n) v1 v2 v4 v5 v6 μ)))
else
(f12_lay_j103 (f12_lay_l18 k109 n) v1 v2 v4 v5 v6 μ)))
else
(f12_lay_j103 (f12_lay_l18 k109 n) v1 v2 v4 v5 v6 μ))))
set_option maxHeartbeats 4000000 in
set_option maxRecDepth 100000 in
theorem l_f12_lay_l18 (G : xG) (d : Nat) (hd : 0 ≤ d) (k109 : Int32 → Int32 → Int32 → Int32 → xMu → Option (Int32 × xMu)) (h109 : ∀ (v1 : Int32) (v2 : Int32) (v4 : Int32) (v5 : Int32) (μ1 : xMu), Wx G m12_lay d 109 [some (.ref 162), some (.int v1), some (.int v2), none, some (.int v4), some (.int v5), none] [] μ1 x_wim (k109 v1 v2 v4 v5 μ1)) : ∀ (n : Nat) (v1 : Int32) (v2 : Int32) (v4 : Int32) (v5 : Int32) (v6 : Int32) (μ : xMu), Wx G m12_lay d 18 [some (.ref 162), some (.int v1), some (.int v2), none, some (.int v4), some (.int v5), some (.int v6)] [] μ x_wim (f12_lay_l18 k109 n v1 v2 v4 v5 v6 μ) := by
  intro n
  induction n with
  | zero => intro v1 v2 v4 v5 v6 μ; exact wx_none
  | succ n h18 =>
    intro v1 v2 v4 v5 v6 μ
    unfold f12_lay_l18
    refine wx_blk (pc' := 21) (L' := [some (.ref 162), some (.int v1), some (.int v2), none, some (.int v4), some (.int v5), some (.int v6)]) (st' := [.ref 162, .int v6]) [.iload 6, .aload_n 0] (by decide +kernel) rfl rfl ?_
    refine wx_geti is_162 ff_12_291 rfl (by decide +kernel) ?_
    refine wx_ic_ge 109 (off := 85) (by decide +kernel) (by decide) ?_ ?_
    · refine wx_weak (L' := [some (.ref 162), some (.int v1), some (.int v2), none, some (.int v4), some (.int v5), none]) ⟨rfl, ⟨rfl, ⟨rfl, ⟨rfl, ⟨rfl, trivial⟩⟩⟩⟩⟩ ?_
      exact h109 v1 v2 v4 v5 μ
    · refine wx_blk (pc' := 28) (L' := [some (.ref 162), some (.int v1), some (.int v2), none, some (.int v4), some (.int v5), some (.int v6)]) (st' := [.ref 162]) [.aload_n 0] (by decide +kernel) rfl rfl ?_
      refine wx_getr is_162 ff_12_49 rfl rf_162_19 (by decide +kernel) ?_
      refine wx_blk (pc' := 33) (L' := [some (.ref 162), some (.int v1), some (.int v2), none, some (.int v4), some (.int v5), some (.int v6)]) (st' := [.int v6, .ref 176]) [.iload 6] (by decide +kernel) rfl rfl ?_
      refine wx_ald is_176 sz_176 (by decide +kernel) (fun x2 => ?_)
      refine wx_blk (pc' := 35) (L' := [some (.ref 162), some (.int v1), some (.int v2), none, some (.int v4), some (.int v5), some (.int v6)]) (st' := [.int v2, .int x2]) [.iload_n 2] (by decide +kernel) rfl rfl ?_
      refine wx_ic_ne 103 (off := 68) (by decide +kernel) (by decide) ?_ ?_
      · refine l_f12_lay_j103 G d hd _ h18 v1 v2 v4 v5 v6 μ
      · refine wx_blk (pc' := 39) (L' := [some (.ref 162), some (.int v1), some (.int v2), none, some (.int v4), some (.int v5), some (.int v6)]) (st' := [.ref 162]) [.aload_n 0] (by decide +kernel) rfl rfl ?_
        refine wx_getr is_162 ff_12_52 rfl rf_162_20 (by decide +kernel) ?_
        refine wx_blk (pc' := 44) (L' := [some (.ref 162), some (.int v1), some (.int v2), none, some (.int v4), some (.int v5), some (.int v6)]) (st' := [.int v6, .ref 177]) [.iload 6] (by decide +kernel) rfl rfl ?_
        refine wx_ald is_177 sz_177 (by decide +kernel) (fun x3 => ?_)
        refine wx_blk (pc' := 47) (L' := [some (.ref 162), some (.int v1), some (.int v2), none, some (.int v4), some (.int v5), some (.int v6)]) (st' := [.int v5, .int x3]) [.iload 5] (by decide +kernel) rfl rfl ?_
        refine wx_ic_ne 103 (off := 56) (by decide +kernel) (by decide) ?_ ?_
        · refine l_f12_lay_j103 G d hd _ h18 v1 v2 v4 v5 v6 μ
        · refine wx_blk (pc' := 51) (L' := [some (.ref 162), some (.int v1), some (.int v2), none, some (.int v4), some (.int v5), some (.int v6)]) (st' := [.ref 162]) [.aload_n 0] (by decide +kernel) rfl rfl ?_
          refine wx_getr is_162 ff_12_55 rfl rf_162_21 (by decide +kernel) ?_
          refine wx_blk (pc' := 56) (L' := [some (.ref 162), some (.int v1), some (.int v2), none, some (.int v4), some (.int v5), some (.int v6)]) (st' := [.int v6, .ref 178]) [.iload 6] (by decide +kernel) rfl rfl ?_
          refine wx_ald is_178 sz_178 (by decide +kernel) (fun x4 => ?_)
          refine wx_blk (pc' := 59) (L' := [some (.ref 162), some (.int v1), some (.int v2), none, some (.int v4), some (.int v5), some (.int v6)]) (st' := [.int v4, .int x4]) [.iload 4] (by decide +kernel) rfl rfl ?_
          refine wx_ic_ne 103 (off := 44) (by decide +kernel) (by decide) ?_ ?_
          · refine l_f12_lay_j103 G d hd _ h18 v1 v2 v4 v5 v6 μ
          · refine wx_blk (pc' := 63) (L' := [some (.ref 162), some (.int v1), some (.int v2), none, some (.int v4), some (.int v5), some (.int v6)]) (st' := [.ref 162]) [.aload_n 0] (by decide +kernel) rfl rfl ?_
            refine wx_getr is_162 ff_12_85 rfl rf_162_46 (by decide +kernel) ?_
            refine wx_blk (pc' := 71) (L' := [some (.ref 162), some (.int v1), some (.int v2), none, some (.int v4), some (.int v5), some (.int v6)]) (st' := [.ref 162, .int ((24 : Int32) * v1), .ref 188]) [.bipush 24, .iload_n 1, .imul, .aload_n 0] (by decide +kernel) rfl rfl ?_
            refine wx_getr is_162 ff_12_82 rfl rf_162_45 (by decide +kernel) ?_
            refine wx_blk (pc' := 75) (L' := [some (.ref 162), some (.int v1), some (.int v2), none, some (.int v4), some (.int v5), some (.int v6)]) (st' := [.int v1, .ref 187, .int ((24 : Int32) * v1), .ref 188]) [.iload_n 1] (by decide +kernel) rfl rfl ?_
            refine wx_ald is_187 sz_187 (by decide +kernel) (fun x5 => ?_)
            refine wx_blk (pc' := 79) (L' := [some (.ref 162), some (.int v1), some (.int v2), none, some (.int v4), some (.int v5), some (.int v6)]) (st' := [.int v6, .int (((24 : Int32) * v1) + x5), .ref 188]) [.iadd, .iload 6] (by decide +kernel) rfl rfl ?_
            refine wx_ast is_188 sz_188 (by decide +kernel) (fun μ6 => ?_)
            refine wx_blk (pc' := 81) (L' := [some (.ref 162), some (.int v1), some (.int v2), none, some (.int v4), some (.int v5), some (.int v6)]) (st' := [.ref 162]) [.aload_n 0] (by decide +kernel) rfl rfl ?_
            refine wx_getr is_162 ff_12_82 rfl rf_162_45 (by decide +kernel) ?_
            refine wx_blk (pc' := 86) (L' := [some (.ref 162), some (.int v1), some (.int v2), none, some (.int v4), some (.int v5), some (.int v6)]) (st' := [.int v1, .ref 187, .int v1, .ref 187]) [.iload_n 1, .dup2] (by decide +kernel) rfl rfl ?_
            refine wx_ald is_187 sz_187 (by decide +kernel) (fun x7 => ?_)
            refine wx_blk (pc' := 89) (L' := [some (.ref 162), some (.int v1), some (.int v2), none, some (.int v4), some (.int v5), some (.int v6)]) (st' := [.int (x7 + (1 : Int32)), .int v1, .ref 187]) [.iconst 1, .iadd] (by decide +kernel) rfl rfl ?_
            refine wx_ast is_187 sz_187 (by decide +kernel) (fun μ8 => ?_)
            refine wx_blk (pc' := 91) (L' := [some (.ref 162), some (.int v1), some (.int v2), none, some (.int v4), some (.int v5), some (.int v6)]) (st' := [.ref 162]) [.aload_n 0] (by decide +kernel) rfl rfl ?_
            refine wx_getr is_162 ff_12_58 rfl rf_162_22 (by decide +kernel) ?_
            refine wx_blk (pc' := 96) (L' := [some (.ref 162), some (.int v1), some (.int v2), none, some (.int v4), some (.int v5), some (.int v6)]) (st' := [.int v6, .ref 179]) [.iload 6] (by decide +kernel) rfl rfl ?_
            refine wx_ald is_179 sz_179 (by decide +kernel) (fun x9 => ?_)
            refine wx_blk (pc' := 98) (L' := [some (.ref 162), some (.int v1), some (.int v2), none, some (.int v4), some (.int v5), some (.int v6)]) (st' := [.int (3 : Int32), .int x9]) [.iconst 3] (by decide +kernel) rfl rfl ?_
            refine wx_ic_ne 103 (off := 5) (by decide +kernel) (by decide) ?_ ?_
            · refine l_f12_lay_j103 G d hd _ h18 v1 v2 v4 v5 v6 μ8
            · refine wx_blk (pc' := 102) (L' := [some (.ref 162), some (.int v1), some (.int v2), none, some (.int v4), some (.int v5), some (.int v6)]) (st' := [.int (1 : Int32)]) [.iconst 1] (by decide +kernel) rfl rfl ?_
              exact wx_zret rfl rfl (by decide) (by decide +kernel)
def f12_lay_l8 (k121 : xMu → Option (Int32 × xMu)) : Nat → Int32 → Int32 → Int32 → Int32 → xMu → Option (Int32 × xMu)
  | 0, _, _, _, _, _ => none
  | n + 1, v1, v2, v4, v5, μ =>
  (if v5 = (-1000000 : Int32) then
(k121 μ)
else
(f12_lay_l18 (fun (y10 : Int32) (y11 : Int32) (y12 : Int32) (y13 : Int32) (μ14 : xMu) => (x_ald μ14 166 8 y13 fun x15 =>
((f12_lay_l8 k121 n) y10 y11 y12 x15 μ14))) 1000 v1 v2 v4 v5 (0 : Int32) μ))
set_option maxHeartbeats 4000000 in
set_option maxRecDepth 100000 in
theorem l_f12_lay_l8 (G : xG) (d : Nat) (hd : 0 ≤ d) (k121 : xMu → Option (Int32 × xMu)) (h121 : ∀ (μ1 : xMu), Wx G m12_lay d 121 [none, none, none, none, none, none, none] [] μ1 x_wim (k121 μ1)) : ∀ (n : Nat) (v1 : Int32) (v2 : Int32) (v4 : Int32) (v5 : Int32) (μ : xMu), Wx G m12_lay d 8 [some (.ref 162), some (.int v1), some (.int v2), none, some (.int v4), some (.int v5), none] [] μ x_wim (f12_lay_l8 k121 n v1 v2 v4 v5 μ) := by
  intro n
  induction n with
  | zero => intro v1 v2 v4 v5 μ; exact wx_none
  | succ n h8 =>
    intro v1 v2 v4 v5 μ
    unfold f12_lay_l8
    refine wx_blk (pc' := 10) (L' := [some (.ref 162), some (.int v1), some (.int v2), none, some (.int v4), some (.int v5), none]) (st' := [.int v5]) [.iload 5] (by decide +kernel) rfl rfl ?_
    refine wx_ldc (v := -1000000) xw_1431 (by decide +kernel) ?_
    refine wx_ic_eq 121 (off := 109) (by decide +kernel) (by decide) ?_ ?_
    · refine wx_weak (L' := [none, none, none, none, none, none, none]) trivial ?_
      exact h121 μ
    · refine wx_blk (pc' := 18) (L' := [some (.ref 162), some (.int v1), some (.int v2), none, some (.int v4), some (.int v5), some (.int (0 : Int32))]) (st' := []) [.iconst 0, .istore 6] (by decide +kernel) rfl rfl ?_
      refine l_f12_lay_l18 G d hd _ ?_ 1000 v1 v2 v4 v5 (0 : Int32) μ
      · intro y10 y11 y12 y13 μ14
        refine wx_blk (pc' := 110) (L' := [some (.ref 162), some (.int y10), some (.int y11), none, some (.int y12), some (.int y13), none]) (st' := [.ref 162]) [.aload_n 0] (by decide +kernel) rfl rfl ?_
        refine wx_getr is_162 ff_12_19 rfl rf_162_6 (by decide +kernel) ?_
        refine wx_blk (pc' := 115) (L' := [some (.ref 162), some (.int y10), some (.int y11), none, some (.int y12), some (.int y13), none]) (st' := [.int y13, .ref 166]) [.iload 5] (by decide +kernel) rfl rfl ?_
        refine wx_ald is_166 sz_166 (by decide +kernel) (fun x15 => ?_)
        refine wx_blk (pc' := 118) (L' := [some (.ref 162), some (.int y10), some (.int y11), none, some (.int y12), some (.int x15), none]) (st' := []) [.istore 5] (by decide +kernel) rfl rfl ?_
        refine wx_goto 8 (off := -110) (by decide +kernel) (by decide) ?_
        exact h8 y10 y11 y12 x15 μ14
def f12_lay (v1 : Int32) (v2 : Int32) (v3 : Int32) (v4 : Int32) (μ : xMu) : Option (Int32 × xMu) :=
  (x_ald μ 167 8 v3 fun x1 =>
(f12_lay_l8 (fun (μ16 : xMu) => (some ((0 : Int32), μ16))) 1000 v1 v2 v4 x1 μ))
set_option maxHeartbeats 4000000 in
set_option maxRecDepth 100000 in
theorem l_f12_lay (G : xG) (d : Nat) (hd : 0 ≤ d) (v1 : Int32) (v2 : Int32) (v3 : Int32) (v4 : Int32) (μ : xMu) : Mx G m12_lay d [.ref 162, .int v1, .int v2, .int v3, .int v4] μ x_wim (f12_lay v1 v2 v3 v4 μ) := by
  refine mx_enter ok12_lay [some (.ref 162), some (.int v1), some (.int v2), some (.int v3), some (.int v4), none, none] rfl (Nat.le_of_ble_eq_true rfl) ?_
  unfold f12_lay
  refine wx_blk (pc' := 1) (L' := [some (.ref 162), some (.int v1), some (.int v2), some (.int v3), some (.int v4), none, none]) (st' := [.ref 162]) [.aload_n 0] (by decide +kernel) rfl rfl ?_
  refine wx_getr is_162 ff_12_22 rfl rf_162_8 (by decide +kernel) ?_
  refine wx_blk (pc' := 5) (L' := [some (.ref 162), some (.int v1), some (.int v2), some (.int v3), some (.int v4), none, none]) (st' := [.int v3, .ref 167]) [.iload_n 3] (by decide +kernel) rfl rfl ?_
  refine wx_ald is_167 sz_167 (by decide +kernel) (fun x1 => ?_)
  refine wx_blk (pc' := 8) (L' := [some (.ref 162), some (.int v1), some (.int v2), some (.int v3), some (.int v4), some (.int x1), none]) (st' := []) [.istore 5] (by decide +kernel) rfl rfl ?_
  refine wx_weak (L' := [some (.ref 162), some (.int v1), some (.int v2), none, some (.int v4), some (.int x1), none]) ⟨rfl, ⟨rfl, ⟨rfl, ⟨rfl, ⟨rfl, trivial⟩⟩⟩⟩⟩ ?_
  refine l_f12_lay_l8 G d hd _ ?_ 1000 v1 v2 v4 x1 μ
  · intro μ16
    refine wx_blk (pc' := 122) (L' := [none, none, none, none, none, none, none]) (st' := [.int (0 : Int32)]) [.iconst 0] (by decide +kernel) rfl rfl ?_
    exact wx_zret rfl rfl (by decide) (by decide +kernel)
/-! WakingLayersModel.layRow(III)V -/
def f12_layRow_j107 (k40 : Int32 → Int32 → Int32 → Int32 → Int32 → Int32 → Int32 → xMu → Option xMu) (v1 : Int32) (v2 : Int32) (v3 : Int32) (v4 : Int32) (v5 : Int32) (v8 : Int32) (s0 : Int32) (μ : xMu) : Option xMu :=
  (k40 v1 v2 v3 v4 v5 s0 (v8 + (1 : Int32)) μ)
set_option maxHeartbeats 4000000 in
set_option maxRecDepth 100000 in
theorem l_f12_layRow_j107 (G : xG) (d : Nat) (hd : 3 ≤ d) (k40 : Int32 → Int32 → Int32 → Int32 → Int32 → Int32 → Int32 → xMu → Option xMu) (h40 : ∀ (v1 : Int32) (v2 : Int32) (v3 : Int32) (v4 : Int32) (v5 : Int32) (v7 : Int32) (v8 : Int32) (μ1 : xMu), Wx G m12_layRow d 40 [some (.ref 162), some (.int v1), some (.int v2), some (.int v3), some (.int v4), some (.int v5), none, some (.int v7), some (.int v8), none] [] μ1 x_wv (k40 v1 v2 v3 v4 v5 v7 v8 μ1)) (v1 : Int32) (v2 : Int32) (v3 : Int32) (v4 : Int32) (v5 : Int32) (v8 : Int32) (s0 : Int32) (μ : xMu) : Wx G m12_layRow d 107 [some (.ref 162), some (.int v1), some (.int v2), some (.int v3), some (.int v4), some (.int v5), none, none, some (.int v8), none] [.int s0] μ x_wv (f12_layRow_j107 k40 v1 v2 v3 v4 v5 v8 s0 μ) := by
  unfold f12_layRow_j107
  refine wx_blk (pc' := 112) (L' := [some (.ref 162), some (.int v1), some (.int v2), some (.int v3), some (.int v4), some (.int v5), none, some (.int s0), some (.int (v8 + (1 : Int32))), none]) (st' := []) [.istore 7, .iinc 8 1] (by decide +kernel) rfl rfl ?_
  refine wx_goto 40 (off := -72) (by decide +kernel) (by decide) ?_
  exact h40 v1 v2 v3 v4 v5 s0 (v8 + (1 : Int32)) μ
def f12_layRow_j105 (k40 : Int32 → Int32 → Int32 → Int32 → Int32 → Int32 → Int32 → xMu → Option xMu) (v1 : Int32) (v2 : Int32) (v3 : Int32) (v4 : Int32) (v5 : Int32) (v7 : Int32) (v8 : Int32) (μ : xMu) : Option xMu :=
  (f12_layRow_j107 k40 v1 v2 v3 v4 v5 v8 v7 μ)
set_option maxHeartbeats 4000000 in
set_option maxRecDepth 100000 in
theorem l_f12_layRow_j105 (G : xG) (d : Nat) (hd : 3 ≤ d) (k40 : Int32 → Int32 → Int32 → Int32 → Int32 → Int32 → Int32 → xMu → Option xMu) (h40 : ∀ (v1 : Int32) (v2 : Int32) (v3 : Int32) (v4 : Int32) (v5 : Int32) (v7 : Int32) (v8 : Int32) (μ1 : xMu), Wx G m12_layRow d 40 [some (.ref 162), some (.int v1), some (.int v2), some (.int v3), some (.int v4), some (.int v5), none, some (.int v7), some (.int v8), none] [] μ1 x_wv (k40 v1 v2 v3 v4 v5 v7 v8 μ1)) (v1 : Int32) (v2 : Int32) (v3 : Int32) (v4 : Int32) (v5 : Int32) (v7 : Int32) (v8 : Int32) (μ : xMu) : Wx G m12_layRow d 105 [some (.ref 162), some (.int v1), some (.int v2), some (.int v3), some (.int v4), some (.int v5), none, some (.int v7), some (.int v8), none] [] μ x_wv (f12_layRow_j105 k40 v1 v2 v3 v4 v5 v7 v8 μ) := by
  unfold f12_layRow_j105
  refine wx_blk (pc' := 107) (L' := [some (.ref 162), some (.int v1), some (.int v2), some (.int v3), some (.int v4), some (.int v5), none, some (.int v7), some (.int v8), none]) (st' := [.int v7]) [.iload 7] (by decide +kernel) rfl rfl ?_
  refine wx_weak (L' := [some (.ref 162), some (.int v1), some (.int v2), some (.int v3), some (.int v4), some (.int v5), none, none, some (.int v8), none]) ⟨rfl, ⟨rfl, ⟨rfl, ⟨rfl, ⟨rfl, ⟨rfl, ⟨rfl, trivial⟩⟩⟩⟩⟩⟩⟩ ?_
  refine l_f12_layRow_j107 G d hd _ h40 v1 v2 v3 v4 v5 v8 v7 μ
def f12_layRow_j100 (k40 : Int32 → Int32 → Int32 → Int32 → Int32 → Int32 → Int32 → xMu → Option xMu) (v1 : Int32) (v2 : Int32) (v3 : Int32) (v4 : Int32) (v5 : Int32) (v8 : Int32) (μ : xMu) : Option xMu :=
  (f12_layRow_j107 k40 v1 v2 v3 v4 v5 v8 v8 μ)
set_option maxHeartbeats 4000000 in
set_option maxRecDepth 100000 in
theorem l_f12_layRow_j100 (G : xG) (d : Nat) (hd : 3 ≤ d) (k40 : Int32 → Int32 → Int32 → Int32 → Int32 → Int32 → Int32 → xMu → Option xMu) (h40 : ∀ (v1 : Int32) (v2 : Int32) (v3 : Int32) (v4 : Int32) (v5 : Int32) (v7 : Int32) (v8 : Int32) (μ1 : xMu), Wx G m12_layRow d 40 [some (.ref 162), some (.int v1), some (.int v2), some (.int v3), some (.int v4), some (.int v5), none, some (.int v7), some (.int v8), none] [] μ1 x_wv (k40 v1 v2 v3 v4 v5 v7 v8 μ1)) (v1 : Int32) (v2 : Int32) (v3 : Int32) (v4 : Int32) (v5 : Int32) (v8 : Int32) (μ : xMu) : Wx G m12_layRow d 100 [some (.ref 162), some (.int v1), some (.int v2), some (.int v3), some (.int v4), some (.int v5), none, none, some (.int v8), none] [] μ x_wv (f12_layRow_j100 k40 v1 v2 v3 v4 v5 v8 μ) := by
  unfold f12_layRow_j100
  refine wx_blk (pc' := 102) (L' := [some (.ref 162), some (.int v1), some (.int v2), some (.int v3), some (.int v4), some (.int v5), none, none, some (.int v8), none]) (st' := [.int v8]) [.iload 8] (by decide +kernel) rfl rfl ?_
  refine wx_goto 107 (off := 5) (by decide +kernel) (by decide) ?_
  refine l_f12_layRow_j107 G d hd _ h40 v1 v2 v3 v4 v5 v8 v8 μ
def f12_layRow_j74 (k40 : Int32 → Int32 → Int32 → Int32 → Int32 → Int32 → Int32 → xMu → Option xMu) (v1 : Int32) (v2 : Int32) (v3 : Int32) (v4 : Int32) (v5 : Int32) (v7 : Int32) (v8 : Int32) (s0 : Int32) (μ : xMu) : Option xMu :=
  (if s0 = 0 then
(f12_layRow_j105 k40 v1 v2 v3 v4 v5 v7 v8 μ)
else
(if v7 = (-1000000 : Int32) then
(f12_layRow_j100 k40 v1 v2 v3 v4 v5 v8 μ)
else
((f12_isAhead μ v8 v7 v2).bind fun x3 =>
(if x3 = 0 then
(f12_layRow_j105 k40 v1 v2 v3 v4 v5 v7 v8 μ)
else
(f12_layRow_j100 k40 v1 v2 v3 v4 v5 v8 μ)))))
set_option maxHeartbeats 4000000 in
set_option maxRecDepth 100000 in
theorem l_f12_layRow_j74 (G : xG) (d : Nat) (hd : 3 ≤ d) (k40 : Int32 → Int32 → Int32 → Int32 → Int32 → Int32 → Int32 → xMu → Option xMu) (h40 : ∀ (v1 : Int32) (v2 : Int32) (v3 : Int32) (v4 : Int32) (v5 : Int32) (v7 : Int32) (v8 : Int32) (μ1 : xMu), Wx G m12_layRow d 40 [some (.ref 162), some (.int v1), some (.int v2), some (.int v3), some (.int v4), some (.int v5), none, some (.int v7), some (.int v8), none] [] μ1 x_wv (k40 v1 v2 v3 v4 v5 v7 v8 μ1)) (v1 : Int32) (v2 : Int32) (v3 : Int32) (v4 : Int32) (v5 : Int32) (v7 : Int32) (v8 : Int32) (s0 : Int32) (μ : xMu) : Wx G m12_layRow d 74 [some (.ref 162), some (.int v1), some (.int v2), some (.int v3), some (.int v4), some (.int v5), none, some (.int v7), some (.int v8), none] [.int s0] μ x_wv (f12_layRow_j74 k40 v1 v2 v3 v4 v5 v7 v8 s0 μ) := by
  unfold f12_layRow_j74
  refine wx_blk (pc' := 78) (L' := [some (.ref 162), some (.int v1), some (.int v2), some (.int v3), some (.int v4), some (.int v5), none, some (.int v7), some (.int v8), some (.int s0)]) (st' := [.int s0]) [.istore 9, .iload 9] (by decide +kernel) rfl rfl ?_
  refine wx_if_eq 105 (off := 27) (by decide +kernel) (by decide) ?_ ?_
  · refine wx_weak (L' := [some (.ref 162), some (.int v1), some (.int v2), some (.int v3), some (.int v4), some (.int v5), none, some (.int v7), some (.int v8), none]) ⟨rfl, ⟨rfl, ⟨rfl, ⟨rfl, ⟨rfl, ⟨rfl, ⟨rfl, ⟨rfl, trivial⟩⟩⟩⟩⟩⟩⟩⟩ ?_
    refine l_f12_layRow_j105 G d hd _ h40 v1 v2 v3 v4 v5 v7 v8 μ
  · refine wx_blk (pc' := 83) (L' := [some (.ref 162), some (.int v1), some (.int v2), some (.int v3), some (.int v4), some (.int v5), none, some (.int v7), some (.int v8), some (.int s0)]) (st' := [.int v7]) [.iload 7] (by decide +kernel) rfl rfl ?_
    refine wx_ldc (v := -1000000) xw_1431 (by decide +kernel) ?_
    refine wx_ic_eq 100 (off := 15) (by decide +kernel) (by decide) ?_ ?_
    · refine wx_weak (L' := [some (.ref 162), some (.int v1), some (.int v2), some (.int v3), some (.int v4), some (.int v5), none, none, some (.int v8), none]) ⟨rfl, ⟨rfl, ⟨rfl, ⟨rfl, ⟨rfl, ⟨rfl, ⟨rfl, trivial⟩⟩⟩⟩⟩⟩⟩ ?_
      refine l_f12_layRow_j100 G d hd _ h40 v1 v2 v3 v4 v5 v8 μ
    · refine wx_blk (pc' := 94) (L' := [some (.ref 162), some (.int v1), some (.int v2), some (.int v3), some (.int v4), some (.int v5), none, some (.int v7), some (.int v8), some (.int s0)]) (st' := [.int v2, .int v7, .int v8, .ref 162]) [.aload_n 0, .iload 8, .iload 7, .iload_n 2] (by decide +kernel) rfl rfl ?_
      refine wx_callV (d1 := 1) (As := [.int v8, .int v7, .int v2]) (rest := []) (by omega) is_162 (by decide) rfl cv_12_366 rfl (Nat.le_of_ble_eq_true rfl) (l_f12_isAhead G 1 (by omega) μ v8 v7 v2) rfl (by decide +kernel) (fun x3 => ?_)
      refine wx_if_eq 105 (off := 8) (by decide +kernel) (by decide) ?_ ?_
      · refine wx_weak (L' := [some (.ref 162), some (.int v1), some (.int v2), some (.int v3), some (.int v4), some (.int v5), none, some (.int v7), some (.int v8), none]) ⟨rfl, ⟨rfl, ⟨rfl, ⟨rfl, ⟨rfl, ⟨rfl, ⟨rfl, ⟨rfl, trivial⟩⟩⟩⟩⟩⟩⟩⟩ ?_
        refine l_f12_layRow_j105 G d hd _ h40 v1 v2 v3 v4 v5 v7 v8 μ
      · refine wx_weak (L' := [some (.ref 162), some (.int v1), some (.int v2), some (.int v3), some (.int v4), some (.int v5), none, none, some (.int v8), none]) ⟨rfl, ⟨rfl, ⟨rfl, ⟨rfl, ⟨rfl, ⟨rfl, ⟨rfl, trivial⟩⟩⟩⟩⟩⟩⟩ ?_
        refine l_f12_layRow_j100 G d hd _ h40 v1 v2 v3 v4 v5 v8 μ
def f12_layRow_j73 (k40 : Int32 → Int32 → Int32 → Int32 → Int32 → Int32 → Int32 → xMu → Option xMu) (v1 : Int32) (v2 : Int32) (v3 : Int32) (v4 : Int32) (v5 : Int32) (v7 : Int32) (v8 : Int32) (μ : xMu) : Option xMu :=
  (f12_layRow_j74 k40 v1 v2 v3 v4 v5 v7 v8 (0 : Int32) μ)
set_option maxHeartbeats 4000000 in
set_option maxRecDepth 100000 in
theorem l_f12_layRow_j73 (G : xG) (d : Nat) (hd : 3 ≤ d) (k40 : Int32 → Int32 → Int32 → Int32 → Int32 → Int32 → Int32 → xMu → Option xMu) (h40 : ∀ (v1 : Int32) (v2 : Int32) (v3 : Int32) (v4 : Int32) (v5 : Int32) (v7 : Int32) (v8 : Int32) (μ1 : xMu), Wx G m12_layRow d 40 [some (.ref 162), some (.int v1), some (.int v2), some (.int v3), some (.int v4), some (.int v5), none, some (.int v7), some (.int v8), none] [] μ1 x_wv (k40 v1 v2 v3 v4 v5 v7 v8 μ1)) (v1 : Int32) (v2 : Int32) (v3 : Int32) (v4 : Int32) (v5 : Int32) (v7 : Int32) (v8 : Int32) (μ : xMu) : Wx G m12_layRow d 73 [some (.ref 162), some (.int v1), some (.int v2), some (.int v3), some (.int v4), some (.int v5), none, some (.int v7), some (.int v8), none] [] μ x_wv (f12_layRow_j73 k40 v1 v2 v3 v4 v5 v7 v8 μ) := by
  unfold f12_layRow_j73
  refine wx_blk (pc' := 74) (L' := [some (.ref 162), some (.int v1), some (.int v2), some (.int v3), some (.int v4), some (.int v5), none, some (.int v7), some (.int v8), none]) (st' := [.int (0 : Int32)]) [.iconst 0] (by decide +kernel) rfl rfl ?_
  refine l_f12_layRow_j74 G d hd _ h40 v1 v2 v3 v4 v5 v7 v8 (0 : Int32) μ
def f12_layRow_l40 (k115 : Int32 → Int32 → Int32 → Int32 → Int32 → Int32 → xMu → Option xMu) : Nat → Int32 → Int32 → Int32 → Int32 → Int32 → Int32 → Int32 → xMu → Option xMu
  | 0, _, _, _, _, _, _, _, _ => none
  | n + 1, v1, v2, v3, v4, v5, v7, v8, μ =>
  (if (μ 162 10) ≤ v8 then
(k115 v1 v2 v3 v4 v5 v7 μ)
else
(if ((v4 >>> (v8 &&& 31)) &&& (1 : Int32)) = 0 then
((f12_isAwakeFor μ v8 v2).bind fun x4 =>
(if x4 = 0 then
(f12_layRow_j73 (f12_layRow_l40 k115 n) v1 v2 v3 v4 v5 v7 v8 μ)
else
(f12_layRow_j74 (f12_layRow_l40 k115 n) v1 v2 v3 v4 v5 v7 v8 (1 : Int32) μ)))
else
(f12_layRow_j73 (f12_layRow_l40 k115 n) v1 v2 v3 v4 v5 v7 v8 μ)))
set_option maxHeartbeats 4000000 in
set_option maxRecDepth 100000 in
theorem l_f12_layRow_l40 (G : xG) (d : Nat) (hd : 3 ≤ d) (k115 : Int32 → Int32 → Int32 → Int32 → Int32 → Int32 → xMu → Option xMu) (h115 : ∀ (v1 : Int32) (v2 : Int32) (v3 : Int32) (v4 : Int32) (v5 : Int32) (v7 : Int32) (μ1 : xMu), Wx G m12_layRow d 115 [some (.ref 162), some (.int v1), some (.int v2), some (.int v3), some (.int v4), some (.int v5), none, some (.int v7), none, none] [] μ1 x_wv (k115 v1 v2 v3 v4 v5 v7 μ1)) : ∀ (n : Nat) (v1 : Int32) (v2 : Int32) (v3 : Int32) (v4 : Int32) (v5 : Int32) (v7 : Int32) (v8 : Int32) (μ : xMu), Wx G m12_layRow d 40 [some (.ref 162), some (.int v1), some (.int v2), some (.int v3), some (.int v4), some (.int v5), none, some (.int v7), some (.int v8), none] [] μ x_wv (f12_layRow_l40 k115 n v1 v2 v3 v4 v5 v7 v8 μ) := by
  intro n
  induction n with
  | zero => intro v1 v2 v3 v4 v5 v7 v8 μ; exact wx_none
  | succ n h40 =>
    intro v1 v2 v3 v4 v5 v7 v8 μ
    unfold f12_layRow_l40
    refine wx_blk (pc' := 43) (L' := [some (.ref 162), some (.int v1), some (.int v2), some (.int v3), some (.int v4), some (.int v5), none, some (.int v7), some (.int v8), none]) (st' := [.ref 162, .int v8]) [.iload 8, .aload_n 0] (by decide +kernel) rfl rfl ?_
    refine wx_geti is_162 ff_12_288 rfl (by decide +kernel) ?_
    refine wx_ic_ge 115 (off := 69) (by decide +kernel) (by decide) ?_ ?_
    · refine wx_weak (L' := [some (.ref 162), some (.int v1), some (.int v2), some (.int v3), some (.int v4), some (.int v5), none, some (.int v7), none, none]) ⟨rfl, ⟨rfl, ⟨rfl, ⟨rfl, ⟨rfl, ⟨rfl, ⟨rfl, trivial⟩⟩⟩⟩⟩⟩⟩ ?_
      exact h115 v1 v2 v3 v4 v5 v7 μ
    · refine wx_blk (pc' := 56) (L' := [some (.ref 162), some (.int v1), some (.int v2), some (.int v3), some (.int v4), some (.int v5), none, some (.int v7), some (.int v8), none]) (st' := [.int ((v4 >>> (v8 &&& 31)) &&& (1 : Int32))]) [.iload 4, .iload 8, .ishr, .iconst 1, .iand] (by decide +kernel) rfl rfl ?_
      refine wx_if_ne 73 (off := 17) (by decide +kernel) (by decide) ?_ ?_
      · refine l_f12_layRow_j73 G d hd _ h40 v1 v2 v3 v4 v5 v7 v8 μ
      · refine wx_blk (pc' := 63) (L' := [some (.ref 162), some (.int v1), some (.int v2), some (.int v3), some (.int v4), some (.int v5), none, some (.int v7), some (.int v8), none]) (st' := [.int v2, .int v8, .ref 162]) [.aload_n 0, .iload 8, .iload_n 2] (by decide +kernel) rfl rfl ?_
        refine wx_callV (d1 := 2) (As := [.int v8, .int v2]) (rest := []) (by omega) is_162 (by decide) rfl cv_12_362 rfl (Nat.le_of_ble_eq_true rfl) (l_f12_isAwakeFor G 2 (by omega) μ v8 v2) rfl (by decide +kernel) (fun x4 => ?_)
        refine wx_if_eq 73 (off := 7) (by decide +kernel) (by decide) ?_ ?_
        · refine l_f12_layRow_j73 G d hd _ h40 v1 v2 v3 v4 v5 v7 v8 μ
        · refine wx_blk (pc' := 70) (L' := [some (.ref 162), some (.int v1), some (.int v2), some (.int v3), some (.int v4), some (.int v5), none, some (.int v7), some (.int v8), none]) (st' := [.int (1 : Int32)]) [.iconst 1] (by decide +kernel) rfl rfl ?_
          refine wx_goto 74 (off := 4) (by decide +kernel) (by decide) ?_
          refine l_f12_layRow_j74 G d hd _ h40 v1 v2 v3 v4 v5 v7 v8 (1 : Int32) μ
def f12_layRow_j154 (k23 : Int32 → Int32 → Int32 → Int32 → Int32 → Int32 → xMu → Option xMu) (v1 : Int32) (v2 : Int32) (v3 : Int32) (v4 : Int32) (v5 : Int32) (v6 : Int32) (μ : xMu) : Option xMu :=
  (k23 v1 v2 v3 v4 v5 v6 μ)
set_option maxHeartbeats 4000000 in
set_option maxRecDepth 100000 in
theorem l_f12_layRow_j154 (G : xG) (d : Nat) (hd : 3 ≤ d) (k23 : Int32 → Int32 → Int32 → Int32 → Int32 → Int32 → xMu → Option xMu) (h23 : ∀ (v1 : Int32) (v2 : Int32) (v3 : Int32) (v4 : Int32) (v5 : Int32) (v6 : Int32) (μ1 : xMu), Wx G m12_layRow d 23 [some (.ref 162), some (.int v1), some (.int v2), some (.int v3), some (.int v4), some (.int v5), some (.int v6), none, none, none] [] μ1 x_wv (k23 v1 v2 v3 v4 v5 v6 μ1)) (v1 : Int32) (v2 : Int32) (v3 : Int32) (v4 : Int32) (v5 : Int32) (v6 : Int32) (μ : xMu) : Wx G m12_layRow d 154 [some (.ref 162), some (.int v1), some (.int v2), some (.int v3), some (.int v4), some (.int v5), some (.int v6), none, none, none] [] μ x_wv (f12_layRow_j154 k23 v1 v2 v3 v4 v5 v6 μ) := by
  unfold f12_layRow_j154
  refine wx_goto 23 (off := -131) (by decide +kernel) (by decide) ?_
  exact h23 v1 v2 v3 v4 v5 v6 μ
def f12_layRow_j127 (k23 : Int32 → Int32 → Int32 → Int32 → Int32 → Int32 → xMu → Option xMu) (v1 : Int32) (v2 : Int32) (v3 : Int32) (v4 : Int32) (v5 : Int32) (v7 : Int32) (s0 : Int32) (μ : xMu) : Option xMu :=
  (if s0 = 0 then
(f12_layRow_j154 k23 v1 v2 v3 v4 v5 s0 μ)
else
((f12_lay v1 v7 v2 v3 μ).bind fun q12 =>
(f12_layRow_j154 k23 v1 v2 v3 (v4 ||| ((1 : Int32) <<< (v7 &&& 31))) q12.1 s0 q12.2)))
set_option maxHeartbeats 4000000 in
set_option maxRecDepth 100000 in
theorem l_f12_layRow_j127 (G : xG) (d : Nat) (hd : 3 ≤ d) (k23 : Int32 → Int32 → Int32 → Int32 → Int32 → Int32 → xMu → Option xMu) (h23 : ∀ (v1 : Int32) (v2 : Int32) (v3 : Int32) (v4 : Int32) (v5 : Int32) (v6 : Int32) (μ1 : xMu), Wx G m12_layRow d 23 [some (.ref 162), some (.int v1), some (.int v2), some (.int v3), some (.int v4), some (.int v5), some (.int v6), none, none, none] [] μ1 x_wv (k23 v1 v2 v3 v4 v5 v6 μ1)) (v1 : Int32) (v2 : Int32) (v3 : Int32) (v4 : Int32) (v5 : Int32) (v7 : Int32) (s0 : Int32) (μ : xMu) : Wx G m12_layRow d 127 [some (.ref 162), some (.int v1), some (.int v2), some (.int v3), some (.int v4), some (.int v5), none, some (.int v7), none, none] [.int s0] μ x_wv (f12_layRow_j127 k23 v1 v2 v3 v4 v5 v7 s0 μ) := by
  unfold f12_layRow_j127
  refine wx_blk (pc' := 131) (L' := [some (.ref 162), some (.int v1), some (.int v2), some (.int v3), some (.int v4), some (.int v5), some (.int s0), some (.int v7), none, none]) (st' := [.int s0]) [.istore 6, .iload 6] (by decide +kernel) rfl rfl ?_
  refine wx_if_eq 154 (off := 23) (by decide +kernel) (by decide) ?_ ?_
  · refine wx_weak (L' := [some (.ref 162), some (.int v1), some (.int v2), some (.int v3), some (.int v4), some (.int v5), some (.int s0), none, none, none]) ⟨rfl, ⟨rfl, ⟨rfl, ⟨rfl, ⟨rfl, ⟨rfl, ⟨rfl, trivial⟩⟩⟩⟩⟩⟩⟩ ?_
    refine l_f12_layRow_j154 G d hd _ h23 v1 v2 v3 v4 v5 s0 μ
  · refine wx_blk (pc' := 149) (L' := [some (.ref 162), some (.int v1), some (.int v2), some (.int v3), some (.int (v4 ||| ((1 : Int32) <<< (v7 &&& 31)))), some (.int v5), some (.int s0), some (.int v7), none, none]) (st' := [.int v3, .int v2, .int v7, .int v1, .ref 162]) [.iload 4, .iconst 1, .iload 7, .ishl, .ior, .istore 4, .aload_n 0, .iload_n 1, .iload 7, .iload_n 2, .iload_n 3] (by decide +kernel) rfl rfl ?_
    refine wx_callV (d1 := 0) (As := [.int v1, .int v7, .int v2, .int v3]) (rest := []) (by omega) is_162 (by decide) rfl cv_12_370 rfl (Nat.le_of_ble_eq_true rfl) (l_f12_lay G 0 (by omega) v1 v7 v2 v3 μ) rfl (by decide +kernel) (fun q12 => ?_)
    refine wx_blk (pc' := 154) (L' := [some (.ref 162), some (.int v1), some (.int v2), some (.int v3), some (.int (v4 ||| ((1 : Int32) <<< (v7 &&& 31)))), some (.int q12.1), some (.int s0), some (.int v7), none, none]) (st' := []) [.istore 5] (by decide +kernel) rfl rfl ?_
    refine wx_weak (L' := [some (.ref 162), some (.int v1), some (.int v2), some (.int v3), some (.int (v4 ||| ((1 : Int32) <<< (v7 &&& 31)))), some (.int q12.1), some (.int s0), none, none, none]) ⟨rfl, ⟨rfl, ⟨rfl, ⟨rfl, ⟨rfl, ⟨rfl, ⟨rfl, trivial⟩⟩⟩⟩⟩⟩⟩ ?_
    refine l_f12_layRow_j154 G d hd _ h23 v1 v2 v3 (v4 ||| ((1 : Int32) <<< (v7 &&& 31))) q12.1 s0 q12.2
def f12_layRow_l23 (k157 : Int32 → Int32 → Int32 → Int32 → xMu → Option xMu) : Nat → Int32 → Int32 → Int32 → Int32 → Int32 → Int32 → xMu → Option xMu
  | 0, _, _, _, _, _, _, _ => none
  | n + 1, v1, v2, v3, v4, v5, v6, μ =>
  (if v6 = 0 then
(k157 v1 v2 v3 v5 μ)
else
(if v5 = 0 then
(f12_layRow_l40 (fun (y5 : Int32) (y6 : Int32) (y7 : Int32) (y8 : Int32) (y9 : Int32) (y10 : Int32) (μ11 : xMu) => (if y10 = (-1000000 : Int32) then
(f12_layRow_j127 (f12_layRow_l23 k157 n) y5 y6 y7 y8 y9 y10 (0 : Int32) μ11)
else
(f12_layRow_j127 (f12_layRow_l23 k157 n) y5 y6 y7 y8 y9 y10 (1 : Int32) μ11))) 1000 v1 v2 v3 v4 v5 (-1000000 : Int32) (0 : Int32) μ)
else
(k157 v1 v2 v3 v5 μ)))
set_option maxHeartbeats 4000000 in
set_option maxRecDepth 100000 in
theorem l_f12_layRow_l23 (G : xG) (d : Nat) (hd : 3 ≤ d) (k157 : Int32 → Int32 → Int32 → Int32 → xMu → Option xMu) (h157 : ∀ (v1 : Int32) (v2 : Int32) (v3 : Int32) (v5 : Int32) (μ1 : xMu), Wx G m12_layRow d 157 [some (.ref 162), some (.int v1), some (.int v2), some (.int v3), none, some (.int v5), none, none, none, none] [] μ1 x_wv (k157 v1 v2 v3 v5 μ1)) : ∀ (n : Nat) (v1 : Int32) (v2 : Int32) (v3 : Int32) (v4 : Int32) (v5 : Int32) (v6 : Int32) (μ : xMu), Wx G m12_layRow d 23 [some (.ref 162), some (.int v1), some (.int v2), some (.int v3), some (.int v4), some (.int v5), some (.int v6), none, none, none] [] μ x_wv (f12_layRow_l23 k157 n v1 v2 v3 v4 v5 v6 μ) := by
  intro n
  induction n with
  | zero => intro v1 v2 v3 v4 v5 v6 μ; exact wx_none
  | succ n h23 =>
    intro v1 v2 v3 v4 v5 v6 μ
    unfold f12_layRow_l23
    refine wx_blk (pc' := 25) (L' := [some (.ref 162), some (.int v1), some (.int v2), some (.int v3), some (.int v4), some (.int v5), some (.int v6), none, none, none]) (st' := [.int v6]) [.iload 6] (by decide +kernel) rfl rfl ?_
    refine wx_if_eq 157 (off := 132) (by decide +kernel) (by decide) ?_ ?_
    · refine wx_weak (L' := [some (.ref 162), some (.int v1), some (.int v2), some (.int v3), none, some (.int v5), none, none, none, none]) ⟨rfl, ⟨rfl, ⟨rfl, ⟨rfl, ⟨rfl, trivial⟩⟩⟩⟩⟩ ?_
      exact h157 v1 v2 v3 v5 μ
    · refine wx_blk (pc' := 30) (L' := [some (.ref 162), some (.int v1), some (.int v2), some (.int v3), some (.int v4), some (.int v5), some (.int v6), none, none, none]) (st' := [.int v5]) [.iload 5] (by decide +kernel) rfl rfl ?_
      refine wx_if_ne 157 (off := 127) (by decide +kernel) (by decide) ?_ ?_
      · refine wx_weak (L' := [some (.ref 162), some (.int v1), some (.int v2), some (.int v3), none, some (.int v5), none, none, none, none]) ⟨rfl, ⟨rfl, ⟨rfl, ⟨rfl, ⟨rfl, trivial⟩⟩⟩⟩⟩ ?_
        exact h157 v1 v2 v3 v5 μ
      · refine wx_ldc (v := -1000000) xw_1431 (by decide +kernel) ?_
        refine wx_blk (pc' := 40) (L' := [some (.ref 162), some (.int v1), some (.int v2), some (.int v3), some (.int v4), some (.int v5), some (.int v6), some (.int (-1000000 : Int32)), some (.int (0 : Int32)), none]) (st' := []) [.istore 7, .iconst 0, .istore 8] (by decide +kernel) rfl rfl ?_
        refine wx_weak (L' := [some (.ref 162), some (.int v1), some (.int v2), some (.int v3), some (.int v4), some (.int v5), none, some (.int (-1000000 : Int32)), some (.int (0 : Int32)), none]) ⟨rfl, ⟨rfl, ⟨rfl, ⟨rfl, ⟨rfl, ⟨rfl, ⟨rfl, ⟨rfl, trivial⟩⟩⟩⟩⟩⟩⟩⟩ ?_
        refine l_f12_layRow_l40 G d hd _ ?_ 1000 v1 v2 v3 v4 v5 (-1000000 : Int32) (0 : Int32) μ
        · intro y5 y6 y7 y8 y9 y10 μ11
          refine wx_blk (pc' := 117) (L' := [some (.ref 162), some (.int y5), some (.int y6), some (.int y7), some (.int y8), some (.int y9), none, some (.int y10), none, none]) (st' := [.int y10]) [.iload 7] (by decide +kernel) rfl rfl ?_
          refine wx_ldc (v := -1000000) xw_1431 (by decide +kernel) ?_
          refine wx_ic_eq 126 (off := 7) (by decide +kernel) (by decide) ?_ ?_
          · refine wx_blk (pc' := 127) (L' := [some (.ref 162), some (.int y5), some (.int y6), some (.int y7), some (.int y8), some (.int y9), none, some (.int y10), none, none]) (st' := [.int (0 : Int32)]) [.iconst 0] (by decide +kernel) rfl rfl ?_
            refine l_f12_layRow_j127 G d hd _ h23 y5 y6 y7 y8 y9 y10 (0 : Int32) μ11
          · refine wx_blk (pc' := 123) (L' := [some (.ref 162), some (.int y5), some (.int y6), some (.int y7), some (.int y8), some (.int y9), none, some (.int y10), none, none]) (st' := [.int (1 : Int32)]) [.iconst 1] (by decide +kernel) rfl rfl ?_
            refine wx_goto 127 (off := 4) (by decide +kernel) (by decide) ?_
            refine l_f12_layRow_j127 G d hd _ h23 y5 y6 y7 y8 y9 y10 (1 : Int32) μ11
def f12_layRow_j157 (v1 : Int32) (v2 : Int32) (v3 : Int32) (v5 : Int32) (μ : xMu) : Option xMu :=
  (if v5 = 0 then
((f12_lay v1 (-1000000 : Int32) v2 v3 μ).bind fun q18 =>
(some q18.2))
else
(some μ))
set_option maxHeartbeats 4000000 in
set_option maxRecDepth 100000 in
theorem l_f12_layRow_j157 (G : xG) (d : Nat) (hd : 3 ≤ d) (v1 : Int32) (v2 : Int32) (v3 : Int32) (v5 : Int32) (μ : xMu) : Wx G m12_layRow d 157 [some (.ref 162), some (.int v1), some (.int v2), some (.int v3), none, some (.int v5), none, none, none, none] [] μ x_wv (f12_layRow_j157 v1 v2 v3 v5 μ) := by
  unfold f12_layRow_j157
  refine wx_blk (pc' := 159) (L' := [some (.ref 162), some (.int v1), some (.int v2), some (.int v3), none, some (.int v5), none, none, none, none]) (st' := [.int v5]) [.iload 5] (by decide +kernel) rfl rfl ?_
  refine wx_if_ne 173 (off := 14) (by decide +kernel) (by decide) ?_ ?_
  · exact wx_vret rfl rfl (by decide +kernel)
  · refine wx_blk (pc' := 164) (L' := [some (.ref 162), some (.int v1), some (.int v2), some (.int v3), none, some (.int v5), none, none, none, none]) (st' := [.int v1, .ref 162]) [.aload_n 0, .iload_n 1] (by decide +kernel) rfl rfl ?_
    refine wx_ldc (v := -1000000) xw_1431 (by decide +kernel) ?_
    refine wx_blk (pc' := 168) (L' := [some (.ref 162), some (.int v1), some (.int v2), some (.int v3), none, some (.int v5), none, none, none, none]) (st' := [.int v3, .int v2, .int (-1000000 : Int32), .int v1, .ref 162]) [.iload_n 2, .iload_n 3] (by decide +kernel) rfl rfl ?_
    refine wx_callV (d1 := 0) (As := [.int v1, .int (-1000000 : Int32), .int v2, .int v3]) (rest := []) (by omega) is_162 (by decide) rfl cv_12_370 rfl (Nat.le_of_ble_eq_true rfl) (l_f12_lay G 0 (by omega) v1 (-1000000 : Int32) v2 v3 μ) rfl (by decide +kernel) (fun q18 => ?_)
    refine wx_blk (pc' := 173) (L' := [some (.ref 162), some (.int v1), some (.int v2), some (.int v3), none, some (.int q18.1), none, none, none, none]) (st' := []) [.istore 5] (by decide +kernel) rfl rfl ?_
    exact wx_vret rfl rfl (by decide +kernel)
def f12_layRow (v1 : Int32) (v2 : Int32) (v3 : Int32) (μ : xMu) : Option xMu :=
  (x_ast μ 187 7 v1 (0 : Int32) fun μ1 =>
(x_ast μ1 189 7 v1 v2 fun μ2 =>
(f12_layRow_l23 (fun (y13 : Int32) (y14 : Int32) (y15 : Int32) (y16 : Int32) (μ17 : xMu) => (f12_layRow_j157 y13 y14 y15 y16 μ17)) 1000 v1 v2 v3 (0 : Int32) (0 : Int32) (1 : Int32) μ2)))
set_option maxHeartbeats 4000000 in
set_option maxRecDepth 100000 in
theorem l_f12_layRow (G : xG) (d : Nat) (hd : 3 ≤ d) (v1 : Int32) (v2 : Int32) (v3 : Int32) (μ : xMu) : Mx G m12_layRow d [.ref 162, .int v1, .int v2, .int v3] μ x_wv (f12_layRow v1 v2 v3 μ) := by
  refine mx_enter ok12_layRow [some (.ref 162), some (.int v1), some (.int v2), some (.int v3), none, none, none, none, none, none] rfl (Nat.le_of_ble_eq_true rfl) ?_
  unfold f12_layRow
  refine wx_blk (pc' := 1) (L' := [some (.ref 162), some (.int v1), some (.int v2), some (.int v3), none, none, none, none, none, none]) (st' := [.ref 162]) [.aload_n 0] (by decide +kernel) rfl rfl ?_
  refine wx_getr is_162 ff_12_82 rfl rf_162_45 (by decide +kernel) ?_
  refine wx_blk (pc' := 6) (L' := [some (.ref 162), some (.int v1), some (.int v2), some (.int v3), none, none, none, none, none, none]) (st' := [.int (0 : Int32), .int v1, .ref 187]) [.iload_n 1, .iconst 0] (by decide +kernel) rfl rfl ?_
  refine wx_ast is_187 sz_187 (by decide +kernel) (fun μ1 => ?_)
  refine wx_blk (pc' := 8) (L' := [some (.ref 162), some (.int v1), some (.int v2), some (.int v3), none, none, none, none, none, none]) (st' := [.ref 162]) [.aload_n 0] (by decide +kernel) rfl rfl ?_
  refine wx_getr is_162 ff_12_88 rfl rf_162_47 (by decide +kernel) ?_
  refine wx_blk (pc' := 13) (L' := [some (.ref 162), some (.int v1), some (.int v2), some (.int v3), none, none, none, none, none, none]) (st' := [.int v2, .int v1, .ref 189]) [.iload_n 1, .iload_n 2] (by decide +kernel) rfl rfl ?_
  refine wx_ast is_189 sz_189 (by decide +kernel) (fun μ2 => ?_)
  refine wx_blk (pc' := 23) (L' := [some (.ref 162), some (.int v1), some (.int v2), some (.int v3), some (.int (0 : Int32)), some (.int (0 : Int32)), some (.int (1 : Int32)), none, none, none]) (st' := []) [.iconst 0, .istore 4, .iconst 0, .istore 5, .iconst 1, .istore 6] (by decide +kernel) rfl rfl ?_
  refine l_f12_layRow_l23 G d hd _ ?_ 1000 v1 v2 v3 (0 : Int32) (0 : Int32) (1 : Int32) μ2
  · intro y13 y14 y15 y16 μ17
    refine l_f12_layRow_j157 G d hd y13 y14 y15 y16 μ17
