/-! WakingLayersModel.row(III)I -/
def f12_row (v1 : Int32) (v2 : Int32) (v3 : Int32) (μ : xMu) : Option (Int32 × xMu) :=
  (x_put μ 162 0 (0 : Int32) fun μ1 =>
((f12_isThing μ1 v1).bind fun x2 =>
(if x2 = 0 then
(some ((-1000001 : Int32), μ1))
else
((f12_in (Int32.toInt64 v2) (0 : Int64) (3 : Int64)).bind fun x3 =>
(if x3 = 0 then
(some ((-1000001 : Int32), μ1))
else
(if (-1 : Int32) ≤ v3 then
((f12_layRow (0 : Int32) v1 v2 μ1).bind fun μ4 =>
(if v3 = (-1 : Int32) then
(x_ald μ4 187 7 (0 : Int32) fun x7 =>
(some (x7, μ4)))
else
(x_ald μ4 187 7 (0 : Int32) fun x5 =>
(if x5 ≤ v3 then
(some ((-1000000 : Int32), μ4))
else
(x_ald μ4 188 168 v3 fun x6 =>
(some (x6, μ4)))))))
else
(some ((-1000001 : Int32), μ1))))))))
set_option maxHeartbeats 4000000 in
set_option maxRecDepth 100000 in
theorem l_f12_row (G : xG) (d : Nat) (hd : 4 ≤ d) (v1 : Int32) (v2 : Int32) (v3 : Int32) (μ : xMu) : Mx G m12_row d [.ref 162, .int v1, .int v2, .int v3] μ x_wim (f12_row v1 v2 v3 μ) := by
  refine mx_enter ok12_row [some (.ref 162), some (.int v1), some (.int v2), some (.int v3)] rfl (Nat.le_of_ble_eq_true rfl) ?_
  unfold f12_row
  refine wx_blk (pc' := 2) (L' := [some (.ref 162), some (.int v1), some (.int v2), some (.int v3)]) (st' := [.int (0 : Int32), .ref 162]) [.aload_n 0, .iconst 0] (by decide +kernel) rfl rfl ?_
  refine wx_put is_162 ff_12_131 fp_12_0 ⟨rfl, rfl⟩ (by decide +kernel) (fun μ1 => ?_)
  refine wx_blk (pc' := 7) (L' := [some (.ref 162), some (.int v1), some (.int v2), some (.int v3)]) (st' := [.int v1, .ref 162]) [.aload_n 0, .iload_n 1] (by decide +kernel) rfl rfl ?_
  refine wx_callV (d1 := 1) (As := [.int v1]) (rest := []) (by omega) is_162 (by decide) rfl cv_12_351 rfl (Nat.le_of_ble_eq_true rfl) (l_f12_isThing G 1 (by omega) μ1 v1) rfl (by decide +kernel) (fun x2 => ?_)
  refine wx_if_eq 30 (off := 20) (by decide +kernel) (by decide) ?_ ?_
  · refine wx_ldc (v := -1000001) xw_1394 (by decide +kernel) ?_
    exact wx_iret rfl rfl (by decide +kernel)
  · refine wx_blk (pc' := 16) (L' := [some (.ref 162), some (.int v1), some (.int v2), some (.int v3)]) (st' := [.long (0 : Int64), .long (Int32.toInt64 v2)]) [.iload_n 2, .i2l, .lconst 0] (by decide +kernel) rfl rfl ?_
    refine wx_ldc2 (v := 3) xw_1541 (by decide +kernel) ?_
    refine wx_callS (d1 := 0) (As := [.long (Int32.toInt64 v2), .long (0 : Int64), .long (3 : Int64)]) (rest := []) (by omega) cs_12_141 rfl (Nat.le_of_ble_eq_true rfl) (l_f12_in G 0 (by omega) μ1 (Int32.toInt64 v2) (0 : Int64) (3 : Int64)) rfl (by decide +kernel) (fun x3 => ?_)
    refine wx_if_eq 30 (off := 8) (by decide +kernel) (by decide) ?_ ?_
    · refine wx_ldc (v := -1000001) xw_1394 (by decide +kernel) ?_
      exact wx_iret rfl rfl (by decide +kernel)
    · refine wx_blk (pc' := 27) (L' := [some (.ref 162), some (.int v1), some (.int v2), some (.int v3)]) (st' := [.int (-1 : Int32), .int v3]) [.iload_n 3, .iconst (-1)] (by decide +kernel) rfl rfl ?_
      refine wx_ic_ge 33 (off := 6) (by decide +kernel) (by decide) ?_ ?_
      · refine wx_blk (pc' := 37) (L' := [some (.ref 162), some (.int v1), some (.int v2), some (.int v3)]) (st' := [.int v2, .int v1, .int (0 : Int32), .ref 162]) [.aload_n 0, .iconst 0, .iload_n 1, .iload_n 2] (by decide +kernel) rfl rfl ?_
        refine wx_callV (d1 := 3) (As := [.int (0 : Int32), .int v1, .int v2]) (rest := []) (by omega) is_162 (by decide) rfl cv_12_374 rfl (Nat.le_of_ble_eq_true rfl) (l_f12_layRow G 3 (by omega) (0 : Int32) v1 v2 μ1) rfl (by decide +kernel) (fun μ4 => ?_)
        refine wx_blk (pc' := 42) (L' := [some (.ref 162), some (.int v1), some (.int v2), some (.int v3)]) (st' := [.int (-1 : Int32), .int v3]) [.iload_n 3, .iconst (-1)] (by decide +kernel) rfl rfl ?_
        refine wx_ic_ne 54 (off := 12) (by decide +kernel) (by decide) ?_ ?_
        · refine wx_blk (pc' := 56) (L' := [some (.ref 162), some (.int v1), some (.int v2), some (.int v3)]) (st' := [.ref 162, .int v3]) [.iload_n 3, .aload_n 0] (by decide +kernel) rfl rfl ?_
          refine wx_getr is_162 ff_12_82 rfl rf_162_45 (by decide +kernel) ?_
          refine wx_blk (pc' := 60) (L' := [some (.ref 162), some (.int v1), some (.int v2), some (.int v3)]) (st' := [.int (0 : Int32), .ref 187, .int v3]) [.iconst 0] (by decide +kernel) rfl rfl ?_
          refine wx_ald is_187 sz_187 (by decide +kernel) (fun x5 => ?_)
          refine wx_ic_ge 73 (off := 12) (by decide +kernel) (by decide) ?_ ?_
          · refine wx_ldc (v := -1000000) xw_1431 (by decide +kernel) ?_
            exact wx_iret rfl rfl (by decide +kernel)
          · refine wx_blk (pc' := 65) (L' := [some (.ref 162), some (.int v1), some (.int v2), some (.int v3)]) (st' := [.ref 162]) [.aload_n 0] (by decide +kernel) rfl rfl ?_
            refine wx_getr is_162 ff_12_85 rfl rf_162_46 (by decide +kernel) ?_
            refine wx_blk (pc' := 69) (L' := [some (.ref 162), some (.int v1), some (.int v2), some (.int v3)]) (st' := [.int v3, .ref 188]) [.iload_n 3] (by decide +kernel) rfl rfl ?_
            refine wx_ald is_188 sz_188 (by decide +kernel) (fun x6 => ?_)
            refine wx_goto 75 (off := 5) (by decide +kernel) (by decide) ?_
            exact wx_iret rfl rfl (by decide +kernel)
        · refine wx_blk (pc' := 46) (L' := [some (.ref 162), some (.int v1), some (.int v2), some (.int v3)]) (st' := [.ref 162]) [.aload_n 0] (by decide +kernel) rfl rfl ?_
          refine wx_getr is_162 ff_12_82 rfl rf_162_45 (by decide +kernel) ?_
          refine wx_blk (pc' := 50) (L' := [some (.ref 162), some (.int v1), some (.int v2), some (.int v3)]) (st' := [.int (0 : Int32), .ref 187]) [.iconst 0] (by decide +kernel) rfl rfl ?_
          refine wx_ald is_187 sz_187 (by decide +kernel) (fun x7 => ?_)
          refine wx_goto 75 (off := 24) (by decide +kernel) (by decide) ?_
          exact wx_iret rfl rfl (by decide +kernel)
      · refine wx_ldc (v := -1000001) xw_1394 (by decide +kernel) ?_
        exact wx_iret rfl rfl (by decide +kernel)
/-! WakingLayersModel.topBody()I -/
def f12_topBody (μ : xMu) : Option Int32 :=
  (x_ald μ 190 61 ((μ 162 48) - (1 : Int32)) fun x1 =>
(x_ald μ 191 61 ((μ 162 48) - (1 : Int32)) fun x2 =>
(x_ald μ 188 168 (((24 : Int32) * x1) + x2) fun x3 =>
(some x3))))
set_option maxHeartbeats 4000000 in
set_option maxRecDepth 100000 in
theorem l_f12_topBody (G : xG) (d : Nat) (hd : 0 ≤ d) (μ : xMu) : Mx G m12_topBody d [.ref 162] μ (x_wi μ) (f12_topBody μ) := by
  refine mx_enter ok12_topBody [some (.ref 162)] rfl (Nat.le_of_ble_eq_true rfl) ?_
  unfold f12_topBody
  refine wx_blk (pc' := 1) (L' := [some (.ref 162)]) (st' := [.ref 162]) [.aload_n 0] (by decide +kernel) rfl rfl ?_
  refine wx_getr is_162 ff_12_85 rfl rf_162_46 (by decide +kernel) ?_
  refine wx_blk (pc' := 7) (L' := [some (.ref 162)]) (st' := [.ref 162, .int (24 : Int32), .ref 188]) [.bipush 24, .aload_n 0] (by decide +kernel) rfl rfl ?_
  refine wx_getr is_162 ff_12_91 rfl rf_162_49 (by decide +kernel) ?_
  refine wx_blk (pc' := 11) (L' := [some (.ref 162)]) (st' := [.ref 162, .ref 190, .int (24 : Int32), .ref 188]) [.aload_n 0] (by decide +kernel) rfl rfl ?_
  refine wx_geti is_162 ff_12_378 rfl (by decide +kernel) ?_
  refine wx_blk (pc' := 16) (L' := [some (.ref 162)]) (st' := [.int ((μ 162 48) - (1 : Int32)), .ref 190, .int (24 : Int32), .ref 188]) [.iconst 1, .isub] (by decide +kernel) rfl rfl ?_
  refine wx_ald is_190 sz_190 (by decide +kernel) (fun x1 => ?_)
  refine wx_blk (pc' := 19) (L' := [some (.ref 162)]) (st' := [.ref 162, .int ((24 : Int32) * x1), .ref 188]) [.imul, .aload_n 0] (by decide +kernel) rfl rfl ?_
  refine wx_getr is_162 ff_12_94 rfl rf_162_50 (by decide +kernel) ?_
  refine wx_blk (pc' := 23) (L' := [some (.ref 162)]) (st' := [.ref 162, .ref 191, .int ((24 : Int32) * x1), .ref 188]) [.aload_n 0] (by decide +kernel) rfl rfl ?_
  refine wx_geti is_162 ff_12_378 rfl (by decide +kernel) ?_
  refine wx_blk (pc' := 28) (L' := [some (.ref 162)]) (st' := [.int ((μ 162 48) - (1 : Int32)), .ref 191, .int ((24 : Int32) * x1), .ref 188]) [.iconst 1, .isub] (by decide +kernel) rfl rfl ?_
  refine wx_ald is_191 sz_191 (by decide +kernel) (fun x2 => ?_)
  refine wx_blk (pc' := 30) (L' := [some (.ref 162)]) (st' := [.int (((24 : Int32) * x1) + x2), .ref 188]) [.iadd] (by decide +kernel) rfl rfl ?_
  refine wx_ald is_188 sz_188 (by decide +kernel) (fun x3 => ?_)
  exact wx_iret rfl rfl (by decide +kernel)
/-! WakingLayersModel.over(Z)V -/
def f12_over_l27 (k59 : xMu → Option xMu) : Nat → Int32 → xMu → Option xMu
  | 0, _, _ => none
  | n + 1, v2, μ =>
  (x_ald μ 195 61 v2 fun x6 =>
(if x6 ≤ 0 then
(k59 μ)
else
(x_ald μ 195 61 v2 fun x7 =>
(x_ast μ 195 61 v2 (x7 - (1 : Int32)) fun μ8 =>
((f12_close ((μ8 162 41) - (1 : Int32)) μ8).bind fun μ9 =>
((f12_over_l27 k59 n) v2 μ9))))))
set_option maxHeartbeats 4000000 in
set_option maxRecDepth 100000 in
theorem l_f12_over_l27 (G : xG) (d : Nat) (hd : 5 ≤ d) (k59 : xMu → Option xMu) (h59 : ∀ (μ1 : xMu), Wx G m12_over d 59 [some (.ref 162), none, none] [] μ1 x_wv (k59 μ1)) : ∀ (n : Nat) (v2 : Int32) (μ : xMu), Wx G m12_over d 27 [some (.ref 162), none, some (.int v2)] [] μ x_wv (f12_over_l27 k59 n v2 μ) := by
  intro n
  induction n with
  | zero => intro v2 μ; exact wx_none
  | succ n h27 =>
    intro v2 μ
    unfold f12_over_l27
    refine wx_blk (pc' := 28) (L' := [some (.ref 162), none, some (.int v2)]) (st' := [.ref 162]) [.aload_n 0] (by decide +kernel) rfl rfl ?_
    refine wx_getr is_162 ff_12_106 rfl rf_162_54 (by decide +kernel) ?_
    refine wx_blk (pc' := 32) (L' := [some (.ref 162), none, some (.int v2)]) (st' := [.int v2, .ref 195]) [.iload_n 2] (by decide +kernel) rfl rfl ?_
    refine wx_ald is_195 sz_195 (by decide +kernel) (fun x6 => ?_)
    refine wx_if_le 59 (off := 26) (by decide +kernel) (by decide) ?_ ?_
    · refine wx_weak (L' := [some (.ref 162), none, none]) ⟨rfl, trivial⟩ ?_
      exact h59 μ
    · refine wx_blk (pc' := 37) (L' := [some (.ref 162), none, some (.int v2)]) (st' := [.ref 162]) [.aload_n 0] (by decide +kernel) rfl rfl ?_
      refine wx_getr is_162 ff_12_106 rfl rf_162_54 (by decide +kernel) ?_
      refine wx_blk (pc' := 42) (L' := [some (.ref 162), none, some (.int v2)]) (st' := [.int v2, .ref 195, .int v2, .ref 195]) [.iload_n 2, .dup2] (by decide +kernel) rfl rfl ?_
      refine wx_ald is_195 sz_195 (by decide +kernel) (fun x7 => ?_)
      refine wx_blk (pc' := 45) (L' := [some (.ref 162), none, some (.int v2)]) (st' := [.int (x7 - (1 : Int32)), .int v2, .ref 195]) [.iconst 1, .isub] (by decide +kernel) rfl rfl ?_
      refine wx_ast is_195 sz_195 (by decide +kernel) (fun μ8 => ?_)
      refine wx_blk (pc' := 48) (L' := [some (.ref 162), none, some (.int v2)]) (st' := [.ref 162, .ref 162]) [.aload_n 0, .aload_n 0] (by decide +kernel) rfl rfl ?_
      refine wx_geti is_162 ff_12_316 rfl (by decide +kernel) ?_
      refine wx_blk (pc' := 53) (L' := [some (.ref 162), none, some (.int v2)]) (st' := [.int ((μ8 162 41) - (1 : Int32)), .ref 162]) [.iconst 1, .isub] (by decide +kernel) rfl rfl ?_
      refine wx_callV (d1 := 4) (As := [.int ((μ8 162 41) - (1 : Int32))]) (rest := []) (by omega) is_162 (by decide) rfl cv_12_354 rfl (Nat.le_of_ble_eq_true rfl) (l_f12_close G 4 (by omega) ((μ8 162 41) - (1 : Int32)) μ8) rfl (by decide +kernel) (fun μ9 => ?_)
      refine wx_goto 27 (off := -29) (by decide +kernel) (by decide) ?_
      exact h27 v2 μ9
def f12_over (v1 : Int32) (μ : xMu) : Option xMu :=
  (x_ald μ 193 61 ((μ 162 48) - (1 : Int32)) fun x1 =>
(x_put μ 162 62 x1 fun μ2 =>
(x_tst (x_zok v1) (x_put μ2 162 61 v1 fun μ4 =>
(x_put μ4 162 60 (1 : Int32) fun μ5 =>
(f12_over_l27 (fun (μ10 : xMu) => (x_put μ10 162 48 ((μ10 162 48) - (1 : Int32)) fun μ11 =>
(some μ11))) 1000 ((μ 162 48) - (1 : Int32)) μ5))))))
set_option maxHeartbeats 4000000 in
set_option maxRecDepth 100000 in
theorem l_f12_over (G : xG) (d : Nat) (hd : 5 ≤ d) (v1 : Int32) (μ : xMu) : Mx G m12_over d [.ref 162, .int v1] μ x_wv (f12_over v1 μ) := by
  refine mx_enter ok12_over [some (.ref 162), some (.int v1), none] rfl (Nat.le_of_ble_eq_true rfl) ?_
  unfold f12_over
  refine wx_blk (pc' := 1) (L' := [some (.ref 162), some (.int v1), none]) (st' := [.ref 162]) [.aload_n 0] (by decide +kernel) rfl rfl ?_
  refine wx_geti is_162 ff_12_378 rfl (by decide +kernel) ?_
  refine wx_blk (pc' := 9) (L' := [some (.ref 162), some (.int v1), some (.int ((μ 162 48) - (1 : Int32)))]) (st' := [.ref 162, .ref 162]) [.iconst 1, .isub, .istore_n 2, .aload_n 0, .aload_n 0] (by decide +kernel) rfl rfl ?_
  refine wx_getr is_162 ff_12_100 rfl rf_162_52 (by decide +kernel) ?_
  refine wx_blk (pc' := 13) (L' := [some (.ref 162), some (.int v1), some (.int ((μ 162 48) - (1 : Int32)))]) (st' := [.int ((μ 162 48) - (1 : Int32)), .ref 193, .ref 162]) [.iload_n 2] (by decide +kernel) rfl rfl ?_
  refine wx_ald is_193 sz_193 (by decide +kernel) (fun x1 => ?_)
  refine wx_put is_162 ff_12_381 fp_12_62 ⟨rfl, rfl⟩ (by decide +kernel) (fun μ2 => ?_)
  refine wx_blk (pc' := 19) (L' := [some (.ref 162), some (.int v1), some (.int ((μ 162 48) - (1 : Int32)))]) (st' := [.int v1, .ref 162]) [.aload_n 0, .iload_n 1] (by decide +kernel) rfl rfl ?_
  refine wx_tst (fun hx3 => ?_)
  refine wx_put is_162 ff_12_384 fp_12_61 (x_zn hx3) (by decide +kernel) (fun μ4 => ?_)
  refine wx_blk (pc' := 24) (L' := [some (.ref 162), some (.int v1), some (.int ((μ 162 48) - (1 : Int32)))]) (st' := [.int (1 : Int32), .ref 162]) [.aload_n 0, .iconst 1] (by decide +kernel) rfl rfl ?_
  refine wx_put is_162 ff_12_388 fp_12_60 ⟨by decide, by decide⟩ (by decide +kernel) (fun μ5 => ?_)
  refine wx_weak (L' := [some (.ref 162), none, some (.int ((μ 162 48) - (1 : Int32)))]) ⟨rfl, ⟨rfl, trivial⟩⟩ ?_
  refine l_f12_over_l27 G d hd _ ?_ 1000 ((μ 162 48) - (1 : Int32)) μ5
  · intro μ10
    refine wx_blk (pc' := 61) (L' := [some (.ref 162), none, none]) (st' := [.ref 162, .ref 162]) [.aload_n 0, .dup] (by decide +kernel) rfl rfl ?_
    refine wx_geti is_162 ff_12_378 rfl (by decide +kernel) ?_
    refine wx_blk (pc' := 66) (L' := [some (.ref 162), none, none]) (st' := [.int ((μ10 162 48) - (1 : Int32)), .ref 162]) [.iconst 1, .isub] (by decide +kernel) rfl rfl ?_
    refine wx_put is_162 ff_12_378 fp_12_48 ⟨rfl, rfl⟩ (by decide +kernel) (fun μ11 => ?_)
    exact wx_vret rfl rfl (by decide +kernel)
/-! WakingLayersModel.goNext()V -/
def f12_goNext (μ : xMu) : Option xMu :=
  (x_ast μ 196 61 ((μ 162 48) - (1 : Int32)) (1 : Int32) fun μ1 =>
(x_put μ1 162 60 (0 : Int32) fun μ2 =>
(x_ald μ2 190 61 ((μ 162 48) - (1 : Int32)) fun x3 =>
(x_put μ2 162 63 x3 fun μ4 =>
(x_ald μ4 191 61 ((μ 162 48) - (1 : Int32)) fun x5 =>
(x_put μ4 162 64 (x5 + (1 : Int32)) fun μ6 =>
(x_ald μ6 193 61 ((μ 162 48) - (1 : Int32)) fun x7 =>
(x_put μ6 162 62 x7 fun μ8 =>
(some μ8)))))))))
set_option maxHeartbeats 4000000 in
set_option maxRecDepth 100000 in
theorem l_f12_goNext (G : xG) (d : Nat) (hd : 0 ≤ d) (μ : xMu) : Mx G m12_goNext d [.ref 162] μ x_wv (f12_goNext μ) := by
  refine mx_enter ok12_goNext [some (.ref 162), none] rfl (Nat.le_of_ble_eq_true rfl) ?_
  unfold f12_goNext
  refine wx_blk (pc' := 1) (L' := [some (.ref 162), none]) (st' := [.ref 162]) [.aload_n 0] (by decide +kernel) rfl rfl ?_
  refine wx_geti is_162 ff_12_378 rfl (by decide +kernel) ?_
  refine wx_blk (pc' := 8) (L' := [some (.ref 162), some (.int ((μ 162 48) - (1 : Int32)))]) (st' := [.ref 162]) [.iconst 1, .isub, .istore_n 1, .aload_n 0] (by decide +kernel) rfl rfl ?_
  refine wx_getr is_162 ff_12_109 rfl rf_162_55 (by decide +kernel) ?_
  refine wx_blk (pc' := 13) (L' := [some (.ref 162), some (.int ((μ 162 48) - (1 : Int32)))]) (st' := [.int (1 : Int32), .int ((μ 162 48) - (1 : Int32)), .ref 196]) [.iload_n 1, .iconst 1] (by decide +kernel) rfl rfl ?_
  refine wx_ast is_196 sz_196 (by decide +kernel) (fun μ1 => ?_)
  refine wx_blk (pc' := 16) (L' := [some (.ref 162), some (.int ((μ 162 48) - (1 : Int32)))]) (st' := [.int (0 : Int32), .ref 162]) [.aload_n 0, .iconst 0] (by decide +kernel) rfl rfl ?_
  refine wx_put is_162 ff_12_388 fp_12_60 ⟨by decide, by decide⟩ (by decide +kernel) (fun μ2 => ?_)
  refine wx_blk (pc' := 21) (L' := [some (.ref 162), some (.int ((μ 162 48) - (1 : Int32)))]) (st' := [.ref 162, .ref 162]) [.aload_n 0, .aload_n 0] (by decide +kernel) rfl rfl ?_
  refine wx_getr is_162 ff_12_91 rfl rf_162_49 (by decide +kernel) ?_
  refine wx_blk (pc' := 25) (L' := [some (.ref 162), some (.int ((μ 162 48) - (1 : Int32)))]) (st' := [.int ((μ 162 48) - (1 : Int32)), .ref 190, .ref 162]) [.iload_n 1] (by decide +kernel) rfl rfl ?_
  refine wx_ald is_190 sz_190 (by decide +kernel) (fun x3 => ?_)
  refine wx_put is_162 ff_12_391 fp_12_63 ⟨rfl, rfl⟩ (by decide +kernel) (fun μ4 => ?_)
  refine wx_blk (pc' := 31) (L' := [some (.ref 162), some (.int ((μ 162 48) - (1 : Int32)))]) (st' := [.ref 162, .ref 162]) [.aload_n 0, .aload_n 0] (by decide +kernel) rfl rfl ?_
  refine wx_getr is_162 ff_12_94 rfl rf_162_50 (by decide +kernel) ?_
  refine wx_blk (pc' := 35) (L' := [some (.ref 162), some (.int ((μ 162 48) - (1 : Int32)))]) (st' := [.int ((μ 162 48) - (1 : Int32)), .ref 191, .ref 162]) [.iload_n 1] (by decide +kernel) rfl rfl ?_
  refine wx_ald is_191 sz_191 (by decide +kernel) (fun x5 => ?_)
  refine wx_blk (pc' := 38) (L' := [some (.ref 162), some (.int ((μ 162 48) - (1 : Int32)))]) (st' := [.int (x5 + (1 : Int32)), .ref 162]) [.iconst 1, .iadd] (by decide +kernel) rfl rfl ?_
  refine wx_put is_162 ff_12_394 fp_12_64 ⟨rfl, rfl⟩ (by decide +kernel) (fun μ6 => ?_)
  refine wx_blk (pc' := 43) (L' := [some (.ref 162), some (.int ((μ 162 48) - (1 : Int32)))]) (st' := [.ref 162, .ref 162]) [.aload_n 0, .aload_n 0] (by decide +kernel) rfl rfl ?_
  refine wx_getr is_162 ff_12_100 rfl rf_162_52 (by decide +kernel) ?_
  refine wx_blk (pc' := 47) (L' := [some (.ref 162), some (.int ((μ 162 48) - (1 : Int32)))]) (st' := [.int ((μ 162 48) - (1 : Int32)), .ref 193, .ref 162]) [.iload_n 1] (by decide +kernel) rfl rfl ?_
  refine wx_ald is_193 sz_193 (by decide +kernel) (fun x7 => ?_)
  refine wx_put is_162 ff_12_381 fp_12_62 ⟨rfl, rfl⟩ (by decide +kernel) (fun μ8 => ?_)
  exact wx_vret rfl rfl (by decide +kernel)
/-! WakingLayersModel.begin()Z -/
def f12_begin_j89 (μ : xMu) : Option (Int32 × xMu) :=
  (x_put μ 162 57 ((μ 162 57) + (1 : Int32)) fun μ2 =>
(x_ast μ2 190 61 (μ2 162 48) (μ2 162 63) fun μ3 =>
(x_ast μ3 191 61 (μ3 162 48) (μ3 162 64) fun μ4 =>
(x_ast μ4 192 61 (μ4 162 48) (μ4 162 62) fun μ5 =>
(x_ast μ5 193 61 (μ5 162 48) (μ5 162 62) fun μ6 =>
(x_ast μ6 194 61 (μ6 162 48) (0 : Int32) fun μ7 =>
(x_ast μ7 195 61 (μ7 162 48) (0 : Int32) fun μ8 =>
(x_ast μ8 196 61 (μ8 162 48) (0 : Int32) fun μ9 =>
(x_ast μ9 197 61 (μ9 162 48) (0 : Int32) fun μ10 =>
(x_put μ10 162 48 ((μ10 162 48) + (1 : Int32)) fun μ11 =>
((f12_topBody μ11).bind fun x12 =>
(x_ald μ11 179 24 x12 fun x13 =>
(if x13 = (1 : Int32) then
((f12_goNext μ11).bind fun μ14 =>
(some ((0 : Int32), μ14)))
else
(some ((1 : Int32), μ11)))))))))))))))
set_option maxHeartbeats 4000000 in
set_option maxRecDepth 100000 in
theorem l_f12_begin_j89 (G : xG) (d : Nat) (hd : 1 ≤ d) (μ : xMu) : Wx G m12_begin d 89 [some (.ref 162)] [] μ x_wim (f12_begin_j89 μ) := by
  unfold f12_begin_j89
  refine wx_blk (pc' := 91) (L' := [some (.ref 162)]) (st' := [.ref 162, .ref 162]) [.aload_n 0, .dup] (by decide +kernel) rfl rfl ?_
  refine wx_geti is_162 ff_12_397 rfl (by decide +kernel) ?_
  refine wx_blk (pc' := 96) (L' := [some (.ref 162)]) (st' := [.int ((μ 162 57) + (1 : Int32)), .ref 162]) [.iconst 1, .iadd] (by decide +kernel) rfl rfl ?_
  refine wx_put is_162 ff_12_397 fp_12_57 ⟨rfl, rfl⟩ (by decide +kernel) (fun μ2 => ?_)
  refine wx_blk (pc' := 100) (L' := [some (.ref 162)]) (st' := [.ref 162]) [.aload_n 0] (by decide +kernel) rfl rfl ?_
  refine wx_getr is_162 ff_12_91 rfl rf_162_49 (by decide +kernel) ?_
  refine wx_blk (pc' := 104) (L' := [some (.ref 162)]) (st' := [.ref 162, .ref 190]) [.aload_n 0] (by decide +kernel) rfl rfl ?_
  refine wx_geti is_162 ff_12_378 rfl (by decide +kernel) ?_
  refine wx_blk (pc' := 108) (L' := [some (.ref 162)]) (st' := [.ref 162, .int (μ2 162 48), .ref 190]) [.aload_n 0] (by decide +kernel) rfl rfl ?_
  refine wx_geti is_162 ff_12_391 rfl (by decide +kernel) ?_
  refine wx_ast is_190 sz_190 (by decide +kernel) (fun μ3 => ?_)
  refine wx_blk (pc' := 113) (L' := [some (.ref 162)]) (st' := [.ref 162]) [.aload_n 0] (by decide +kernel) rfl rfl ?_
  refine wx_getr is_162 ff_12_94 rfl rf_162_50 (by decide +kernel) ?_
  refine wx_blk (pc' := 117) (L' := [some (.ref 162)]) (st' := [.ref 162, .ref 191]) [.aload_n 0] (by decide +kernel) rfl rfl ?_
  refine wx_geti is_162 ff_12_378 rfl (by decide +kernel) ?_
  refine wx_blk (pc' := 121) (L' := [some (.ref 162)]) (st' := [.ref 162, .int (μ3 162 48), .ref 191]) [.aload_n 0] (by decide +kernel) rfl rfl ?_
  refine wx_geti is_162 ff_12_394 rfl (by decide +kernel) ?_
  refine wx_ast is_191 sz_191 (by decide +kernel) (fun μ4 => ?_)
  refine wx_blk (pc' := 126) (L' := [some (.ref 162)]) (st' := [.ref 162]) [.aload_n 0] (by decide +kernel) rfl rfl ?_
  refine wx_getr is_162 ff_12_97 rfl rf_162_51 (by decide +kernel) ?_
  refine wx_blk (pc' := 130) (L' := [some (.ref 162)]) (st' := [.ref 162, .ref 192]) [.aload_n 0] (by decide +kernel) rfl rfl ?_
  refine wx_geti is_162 ff_12_378 rfl (by decide +kernel) ?_
  refine wx_blk (pc' := 134) (L' := [some (.ref 162)]) (st' := [.ref 162, .int (μ4 162 48), .ref 192]) [.aload_n 0] (by decide +kernel) rfl rfl ?_
  refine wx_geti is_162 ff_12_381 rfl (by decide +kernel) ?_
  refine wx_ast is_192 sz_192 (by decide +kernel) (fun μ5 => ?_)
  refine wx_blk (pc' := 139) (L' := [some (.ref 162)]) (st' := [.ref 162]) [.aload_n 0] (by decide +kernel) rfl rfl ?_
  refine wx_getr is_162 ff_12_100 rfl rf_162_52 (by decide +kernel) ?_
  refine wx_blk (pc' := 143) (L' := [some (.ref 162)]) (st' := [.ref 162, .ref 193]) [.aload_n 0] (by decide +kernel) rfl rfl ?_
  refine wx_geti is_162 ff_12_378 rfl (by decide +kernel) ?_
  refine wx_blk (pc' := 147) (L' := [some (.ref 162)]) (st' := [.ref 162, .int (μ5 162 48), .ref 193]) [.aload_n 0] (by decide +kernel) rfl rfl ?_
  refine wx_geti is_162 ff_12_381 rfl (by decide +kernel) ?_
  refine wx_ast is_193 sz_193 (by decide +kernel) (fun μ6 => ?_)
  refine wx_blk (pc' := 152) (L' := [some (.ref 162)]) (st' := [.ref 162]) [.aload_n 0] (by decide +kernel) rfl rfl ?_
  refine wx_getr is_162 ff_12_103 rfl rf_162_53 (by decide +kernel) ?_
  refine wx_blk (pc' := 156) (L' := [some (.ref 162)]) (st' := [.ref 162, .ref 194]) [.aload_n 0] (by decide +kernel) rfl rfl ?_
  refine wx_geti is_162 ff_12_378 rfl (by decide +kernel) ?_
  refine wx_blk (pc' := 160) (L' := [some (.ref 162)]) (st' := [.int (0 : Int32), .int (μ6 162 48), .ref 194]) [.iconst 0] (by decide +kernel) rfl rfl ?_
  refine wx_ast is_194 sz_194 (by decide +kernel) (fun μ7 => ?_)
  refine wx_blk (pc' := 162) (L' := [some (.ref 162)]) (st' := [.ref 162]) [.aload_n 0] (by decide +kernel) rfl rfl ?_
  refine wx_getr is_162 ff_12_106 rfl rf_162_54 (by decide +kernel) ?_
  refine wx_blk (pc' := 166) (L' := [some (.ref 162)]) (st' := [.ref 162, .ref 195]) [.aload_n 0] (by decide +kernel) rfl rfl ?_
  refine wx_geti is_162 ff_12_378 rfl (by decide +kernel) ?_
  refine wx_blk (pc' := 170) (L' := [some (.ref 162)]) (st' := [.int (0 : Int32), .int (μ7 162 48), .ref 195]) [.iconst 0] (by decide +kernel) rfl rfl ?_
  refine wx_ast is_195 sz_195 (by decide +kernel) (fun μ8 => ?_)
  refine wx_blk (pc' := 172) (L' := [some (.ref 162)]) (st' := [.ref 162]) [.aload_n 0] (by decide +kernel) rfl rfl ?_
  refine wx_getr is_162 ff_12_109 rfl rf_162_55 (by decide +kernel) ?_
  refine wx_blk (pc' := 176) (L' := [some (.ref 162)]) (st' := [.ref 162, .ref 196]) [.aload_n 0] (by decide +kernel) rfl rfl ?_
  refine wx_geti is_162 ff_12_378 rfl (by decide +kernel) ?_
  refine wx_blk (pc' := 180) (L' := [some (.ref 162)]) (st' := [.int (0 : Int32), .int (μ8 162 48), .ref 196]) [.iconst 0] (by decide +kernel) rfl rfl ?_
  refine wx_ast is_196 sz_196 (by decide +kernel) (fun μ9 => ?_)
  refine wx_blk (pc' := 182) (L' := [some (.ref 162)]) (st' := [.ref 162]) [.aload_n 0] (by decide +kernel) rfl rfl ?_
  refine wx_getr is_162 ff_12_112 rfl rf_162_56 (by decide +kernel) ?_
  refine wx_blk (pc' := 186) (L' := [some (.ref 162)]) (st' := [.ref 162, .ref 197]) [.aload_n 0] (by decide +kernel) rfl rfl ?_
  refine wx_geti is_162 ff_12_378 rfl (by decide +kernel) ?_
  refine wx_blk (pc' := 190) (L' := [some (.ref 162)]) (st' := [.int (0 : Int32), .int (μ9 162 48), .ref 197]) [.iconst 0] (by decide +kernel) rfl rfl ?_
  refine wx_zast is_197 sz_197 (by decide) (by decide +kernel) (fun μ10 => ?_)
  refine wx_blk (pc' := 193) (L' := [some (.ref 162)]) (st' := [.ref 162, .ref 162]) [.aload_n 0, .dup] (by decide +kernel) rfl rfl ?_
  refine wx_geti is_162 ff_12_378 rfl (by decide +kernel) ?_
  refine wx_blk (pc' := 198) (L' := [some (.ref 162)]) (st' := [.int ((μ10 162 48) + (1 : Int32)), .ref 162]) [.iconst 1, .iadd] (by decide +kernel) rfl rfl ?_
  refine wx_put is_162 ff_12_378 fp_12_48 ⟨rfl, rfl⟩ (by decide +kernel) (fun μ11 => ?_)
  refine wx_blk (pc' := 202) (L' := [some (.ref 162)]) (st' := [.ref 162]) [.aload_n 0] (by decide +kernel) rfl rfl ?_
  refine wx_getr is_162 ff_12_58 rfl rf_162_22 (by decide +kernel) ?_
  refine wx_blk (pc' := 206) (L' := [some (.ref 162)]) (st' := [.ref 162, .ref 179]) [.aload_n 0] (by decide +kernel) rfl rfl ?_
  refine wx_callV (d1 := 0) (As := []) (rest := [.ref 179]) (by omega) is_162 (by decide) rfl cv_12_403 rfl (Nat.le_of_ble_eq_true rfl) (l_f12_topBody G 0 (by omega) μ11) rfl (by decide +kernel) (fun x12 => ?_)
  refine wx_ald is_179 sz_179 (by decide +kernel) (fun x13 => ?_)
  refine wx_blk (pc' := 211) (L' := [some (.ref 162)]) (st' := [.int (1 : Int32), .int x13]) [.iconst 1] (by decide +kernel) rfl rfl ?_
  refine wx_ic_ne 220 (off := 9) (by decide +kernel) (by decide) ?_ ?_
  · refine wx_blk (pc' := 221) (L' := [some (.ref 162)]) (st' := [.int (1 : Int32)]) [.iconst 1] (by decide +kernel) rfl rfl ?_
    exact wx_zret rfl rfl (by decide) (by decide +kernel)
  · refine wx_blk (pc' := 215) (L' := [some (.ref 162)]) (st' := [.ref 162]) [.aload_n 0] (by decide +kernel) rfl rfl ?_
    refine wx_callV (d1 := 0) (As := []) (rest := []) (by omega) is_162 (by decide) rfl cv_12_406 rfl (Nat.le_of_ble_eq_true rfl) (l_f12_goNext G 0 (by omega) μ11) rfl (by decide +kernel) (fun μ14 => ?_)
    refine wx_blk (pc' := 219) (L' := [some (.ref 162)]) (st' := [.int (0 : Int32)]) [.iconst 0] (by decide +kernel) rfl rfl ?_
    exact wx_zret rfl rfl (by decide) (by decide +kernel)
def f12_begin (μ : xMu) : Option (Int32 × xMu) :=
  (x_ald μ 187 7 (μ 162 63) fun x1 =>
(if (μ 162 64) = x1 then
(x_put μ 162 60 (1 : Int32) fun μ20 =>
(x_put μ20 162 61 (0 : Int32) fun μ21 =>
(some ((0 : Int32), μ21))))
else
(if (μ 162 57) = (60 : Int32) then
(x_put μ 162 59 (1 : Int32) fun μ17 =>
(x_put μ17 162 60 (1 : Int32) fun μ18 =>
(x_put μ18 162 61 (1 : Int32) fun μ19 =>
(some ((0 : Int32), μ19)))))
else
(if (40 : Int32) ≤ (μ 162 57) then
(f12_begin_j89 μ)
else
(x_ald μ 188 168 (((24 : Int32) * (μ 162 63)) + (μ 162 64)) fun x15 =>
(x_ast μ 198 40 (μ 162 57) x15 fun μ16 =>
(f12_begin_j89 μ16)))))))
set_option maxHeartbeats 4000000 in
set_option maxRecDepth 100000 in
theorem l_f12_begin (G : xG) (d : Nat) (hd : 1 ≤ d) (μ : xMu) : Mx G m12_begin d [.ref 162] μ x_wim (f12_begin μ) := by
  refine mx_enter ok12_begin [some (.ref 162)] rfl (Nat.le_of_ble_eq_true rfl) ?_
  unfold f12_begin
  refine wx_blk (pc' := 1) (L' := [some (.ref 162)]) (st' := [.ref 162]) [.aload_n 0] (by decide +kernel) rfl rfl ?_
  refine wx_geti is_162 ff_12_394 rfl (by decide +kernel) ?_
  refine wx_blk (pc' := 5) (L' := [some (.ref 162)]) (st' := [.ref 162, .int (μ 162 64)]) [.aload_n 0] (by decide +kernel) rfl rfl ?_
  refine wx_getr is_162 ff_12_82 rfl rf_162_45 (by decide +kernel) ?_
  refine wx_blk (pc' := 9) (L' := [some (.ref 162)]) (st' := [.ref 162, .ref 187, .int (μ 162 64)]) [.aload_n 0] (by decide +kernel) rfl rfl ?_
  refine wx_geti is_162 ff_12_391 rfl (by decide +kernel) ?_
  refine wx_ald is_187 sz_187 (by decide +kernel) (fun x1 => ?_)
  refine wx_ic_ne 28 (off := 15) (by decide +kernel) (by decide) ?_ ?_
  · refine wx_blk (pc' := 29) (L' := [some (.ref 162)]) (st' := [.ref 162]) [.aload_n 0] (by decide +kernel) rfl rfl ?_
    refine wx_geti is_162 ff_12_397 rfl (by decide +kernel) ?_
    refine wx_blk (pc' := 34) (L' := [some (.ref 162)]) (st' := [.int (60 : Int32), .int (μ 162 57)]) [.bipush 60] (by decide +kernel) rfl rfl ?_
    refine wx_ic_ne 54 (off := 20) (by decide +kernel) (by decide) ?_ ?_
    · refine wx_blk (pc' := 55) (L' := [some (.ref 162)]) (st' := [.ref 162]) [.aload_n 0] (by decide +kernel) rfl rfl ?_
      refine wx_geti is_162 ff_12_397 rfl (by decide +kernel) ?_
      refine wx_blk (pc' := 60) (L' := [some (.ref 162)]) (st' := [.int (40 : Int32), .int (μ 162 57)]) [.bipush 40] (by decide +kernel) rfl rfl ?_
      refine wx_ic_ge 89 (off := 29) (by decide +kernel) (by decide) ?_ ?_
      · refine l_f12_begin_j89 G d hd μ
      · refine wx_blk (pc' := 64) (L' := [some (.ref 162)]) (st' := [.ref 162]) [.aload_n 0] (by decide +kernel) rfl rfl ?_
        refine wx_getr is_162 ff_12_116 rfl rf_162_58 (by decide +kernel) ?_
        refine wx_blk (pc' := 68) (L' := [some (.ref 162)]) (st' := [.ref 162, .ref 198]) [.aload_n 0] (by decide +kernel) rfl rfl ?_
        refine wx_geti is_162 ff_12_397 rfl (by decide +kernel) ?_
        refine wx_blk (pc' := 72) (L' := [some (.ref 162)]) (st' := [.ref 162, .int (μ 162 57), .ref 198]) [.aload_n 0] (by decide +kernel) rfl rfl ?_
        refine wx_getr is_162 ff_12_85 rfl rf_162_46 (by decide +kernel) ?_
        refine wx_blk (pc' := 78) (L' := [some (.ref 162)]) (st' := [.ref 162, .int (24 : Int32), .ref 188, .int (μ 162 57), .ref 198]) [.bipush 24, .aload_n 0] (by decide +kernel) rfl rfl ?_
        refine wx_geti is_162 ff_12_391 rfl (by decide +kernel) ?_
        refine wx_blk (pc' := 83) (L' := [some (.ref 162)]) (st' := [.ref 162, .int ((24 : Int32) * (μ 162 63)), .ref 188, .int (μ 162 57), .ref 198]) [.imul, .aload_n 0] (by decide +kernel) rfl rfl ?_
        refine wx_geti is_162 ff_12_394 rfl (by decide +kernel) ?_
        refine wx_blk (pc' := 87) (L' := [some (.ref 162)]) (st' := [.int (((24 : Int32) * (μ 162 63)) + (μ 162 64)), .ref 188, .int (μ 162 57), .ref 198]) [.iadd] (by decide +kernel) rfl rfl ?_
        refine wx_ald is_188 sz_188 (by decide +kernel) (fun x15 => ?_)
        refine wx_ast is_198 sz_198 (by decide +kernel) (fun μ16 => ?_)
        refine l_f12_begin_j89 G d hd μ16
    · refine wx_blk (pc' := 39) (L' := [some (.ref 162)]) (st' := [.int (1 : Int32), .ref 162]) [.aload_n 0, .iconst 1] (by decide +kernel) rfl rfl ?_
      refine wx_put is_162 ff_12_400 fp_12_59 ⟨by decide, by decide⟩ (by decide +kernel) (fun μ17 => ?_)
      refine wx_blk (pc' := 44) (L' := [some (.ref 162)]) (st' := [.int (1 : Int32), .ref 162]) [.aload_n 0, .iconst 1] (by decide +kernel) rfl rfl ?_
      refine wx_put is_162 ff_12_388 fp_12_60 ⟨by decide, by decide⟩ (by decide +kernel) (fun μ18 => ?_)
      refine wx_blk (pc' := 49) (L' := [some (.ref 162)]) (st' := [.int (1 : Int32), .ref 162]) [.aload_n 0, .iconst 1] (by decide +kernel) rfl rfl ?_
      refine wx_put is_162 ff_12_384 fp_12_61 ⟨by decide, by decide⟩ (by decide +kernel) (fun μ19 => ?_)
      refine wx_blk (pc' := 53) (L' := [some (.ref 162)]) (st' := [.int (0 : Int32)]) [.iconst 0] (by decide +kernel) rfl rfl ?_
      exact wx_zret rfl rfl (by decide) (by decide +kernel)
  · refine wx_blk (pc' := 18) (L' := [some (.ref 162)]) (st' := [.int (1 : Int32), .ref 162]) [.aload_n 0, .iconst 1] (by decide +kernel) rfl rfl ?_
    refine wx_put is_162 ff_12_388 fp_12_60 ⟨by decide, by decide⟩ (by decide +kernel) (fun μ20 => ?_)
    refine wx_blk (pc' := 23) (L' := [some (.ref 162)]) (st' := [.int (0 : Int32), .ref 162]) [.aload_n 0, .iconst 0] (by decide +kernel) rfl rfl ?_
    refine wx_put is_162 ff_12_384 fp_12_61 ⟨by decide, by decide⟩ (by decide +kernel) (fun μ21 => ?_)
    refine wx_blk (pc' := 27) (L' := [some (.ref 162)]) (st' := [.int (0 : Int32)]) [.iconst 0] (by decide +kernel) rfl rfl ?_
    exact wx_zret rfl rfl (by decide) (by decide +kernel)
/-! WakingLayersModel.comeBack()Z -/
def f12_comeBack_j84 (μ : xMu) : Option (Int32 × xMu) :=
  ((f12_over (1 : Int32) μ).bind fun μ7 =>
(some ((0 : Int32), μ7)))
set_option maxHeartbeats 4000000 in
set_option maxRecDepth 100000 in
theorem l_f12_comeBack_j84 (G : xG) (d : Nat) (hd : 6 ≤ d) (μ : xMu) : Wx G m12_comeBack d 84 [some (.ref 162), none, none, none] [] μ x_wim (f12_comeBack_j84 μ) := by
  unfold f12_comeBack_j84
  refine wx_blk (pc' := 86) (L' := [some (.ref 162), none, none, none]) (st' := [.int (1 : Int32), .ref 162]) [.aload_n 0, .iconst 1] (by decide +kernel) rfl rfl ?_
  refine wx_callV (d1 := 5) (As := [.int (1 : Int32)]) (rest := []) (by omega) is_162 (by decide) rfl cv_12_409 rfl (Nat.le_of_ble_eq_true rfl) (l_f12_over G 5 (by omega) (1 : Int32) μ) rfl (by decide +kernel) (fun μ7 => ?_)
  refine wx_blk (pc' := 90) (L' := [some (.ref 162), none, none, none]) (st' := [.int (0 : Int32)]) [.iconst 0] (by decide +kernel) rfl rfl ?_
  exact wx_zret rfl rfl (by decide) (by decide +kernel)
def f12_comeBack_j32 (v1 : Int32) (v2 : Int32) (s0 : Int32) (μ : xMu) : Option (Int32 × xMu) :=
  (x_ast μ 196 61 v1 (0 : Int32) fun μ4 =>
(if (μ4 162 61) = 0 then
(x_ast μ4 193 61 v1 (μ4 162 62) fun μ5 =>
(if v2 = 0 then
(if s0 = 0 then
(some ((1 : Int32), μ5))
else
((f12_over (0 : Int32) μ5).bind fun μ6 =>
(some ((0 : Int32), μ6))))
else
(some ((1 : Int32), μ5))))
else
(if v2 = (1 : Int32) then
(if s0 = 0 then
(f12_comeBack_j84 μ4)
else
(if (μ4 162 59) = 0 then
(x_ald μ4 192 61 v1 fun x8 =>
(x_ast μ4 193 61 v1 x8 fun μ9 =>
(x_ast μ9 197 61 v1 (1 : Int32) fun μ10 =>
(some ((1 : Int32), μ10)))))
else
(f12_comeBack_j84 μ4)))
else
(f12_comeBack_j84 μ4))))
set_option maxHeartbeats 4000000 in
set_option maxRecDepth 100000 in
theorem l_f12_comeBack_j32 (G : xG) (d : Nat) (hd : 6 ≤ d) (v1 : Int32) (v2 : Int32) (s0 : Int32) (μ : xMu) : Wx G m12_comeBack d 32 [some (.ref 162), some (.int v1), some (.int v2), none] [.int s0] μ x_wim (f12_comeBack_j32 v1 v2 s0 μ) := by
  unfold f12_comeBack_j32
  refine wx_blk (pc' := 34) (L' := [some (.ref 162), some (.int v1), some (.int v2), some (.int s0)]) (st' := [.ref 162]) [.istore_n 3, .aload_n 0] (by decide +kernel) rfl rfl ?_
  refine wx_getr is_162 ff_12_109 rfl rf_162_55 (by decide +kernel) ?_
  refine wx_blk (pc' := 39) (L' := [some (.ref 162), some (.int v1), some (.int v2), some (.int s0)]) (st' := [.int (0 : Int32), .int v1, .ref 196]) [.iload_n 1, .iconst 0] (by decide +kernel) rfl rfl ?_
  refine wx_ast is_196 sz_196 (by decide +kernel) (fun μ4 => ?_)
  refine wx_blk (pc' := 41) (L' := [some (.ref 162), some (.int v1), some (.int v2), some (.int s0)]) (st' := [.ref 162]) [.aload_n 0] (by decide +kernel) rfl rfl ?_
  refine wx_geti is_162 ff_12_384 rfl (by decide +kernel) ?_
  refine wx_if_eq 91 (off := 47) (by decide +kernel) (by decide) ?_ ?_
  · refine wx_blk (pc' := 92) (L' := [some (.ref 162), some (.int v1), some (.int v2), some (.int s0)]) (st' := [.ref 162]) [.aload_n 0] (by decide +kernel) rfl rfl ?_
    refine wx_getr is_162 ff_12_100 rfl rf_162_52 (by decide +kernel) ?_
    refine wx_blk (pc' := 97) (L' := [some (.ref 162), some (.int v1), some (.int v2), some (.int s0)]) (st' := [.ref 162, .int v1, .ref 193]) [.iload_n 1, .aload_n 0] (by decide +kernel) rfl rfl ?_
    refine wx_geti is_162 ff_12_381 rfl (by decide +kernel) ?_
    refine wx_ast is_193 sz_193 (by decide +kernel) (fun μ5 => ?_)
    refine wx_blk (pc' := 102) (L' := [some (.ref 162), some (.int v1), some (.int v2), some (.int s0)]) (st' := [.int v2]) [.iload_n 2] (by decide +kernel) rfl rfl ?_
    refine wx_if_ne 116 (off := 14) (by decide +kernel) (by decide) ?_ ?_
    · refine wx_blk (pc' := 117) (L' := [some (.ref 162), some (.int v1), some (.int v2), some (.int s0)]) (st' := [.int (1 : Int32)]) [.iconst 1] (by decide +kernel) rfl rfl ?_
      exact wx_zret rfl rfl (by decide) (by decide +kernel)
    · refine wx_blk (pc' := 106) (L' := [some (.ref 162), some (.int v1), some (.int v2), some (.int s0)]) (st' := [.int s0]) [.iload_n 3] (by decide +kernel) rfl rfl ?_
      refine wx_if_eq 116 (off := 10) (by decide +kernel) (by decide) ?_ ?_
      · refine wx_blk (pc' := 117) (L' := [some (.ref 162), some (.int v1), some (.int v2), some (.int s0)]) (st' := [.int (1 : Int32)]) [.iconst 1] (by decide +kernel) rfl rfl ?_
        exact wx_zret rfl rfl (by decide) (by decide +kernel)
      · refine wx_blk (pc' := 111) (L' := [some (.ref 162), some (.int v1), some (.int v2), some (.int s0)]) (st' := [.int (0 : Int32), .ref 162]) [.aload_n 0, .iconst 0] (by decide +kernel) rfl rfl ?_
        refine wx_callV (d1 := 5) (As := [.int (0 : Int32)]) (rest := []) (by omega) is_162 (by decide) rfl cv_12_409 rfl (Nat.le_of_ble_eq_true rfl) (l_f12_over G 5 (by omega) (0 : Int32) μ5) rfl (by decide +kernel) (fun μ6 => ?_)
        refine wx_blk (pc' := 115) (L' := [some (.ref 162), some (.int v1), some (.int v2), some (.int s0)]) (st' := [.int (0 : Int32)]) [.iconst 0] (by decide +kernel) rfl rfl ?_
        exact wx_zret rfl rfl (by decide) (by decide +kernel)
  · refine wx_blk (pc' := 49) (L' := [some (.ref 162), some (.int v1), some (.int v2), some (.int s0)]) (st' := [.int (1 : Int32), .int v2]) [.iload_n 2, .iconst 1] (by decide +kernel) rfl rfl ?_
    refine wx_ic_ne 84 (off := 35) (by decide +kernel) (by decide) ?_ ?_
    · refine wx_weak (L' := [some (.ref 162), none, none, none]) ⟨rfl, trivial⟩ ?_
      refine l_f12_comeBack_j84 G d hd μ4
    · refine wx_blk (pc' := 53) (L' := [some (.ref 162), some (.int v1), some (.int v2), some (.int s0)]) (st' := [.int s0]) [.iload_n 3] (by decide +kernel) rfl rfl ?_
      refine wx_if_eq 84 (off := 31) (by decide +kernel) (by decide) ?_ ?_
      · refine wx_weak (L' := [some (.ref 162), none, none, none]) ⟨rfl, trivial⟩ ?_
        refine l_f12_comeBack_j84 G d hd μ4
      · refine wx_blk (pc' := 57) (L' := [some (.ref 162), some (.int v1), some (.int v2), some (.int s0)]) (st' := [.ref 162]) [.aload_n 0] (by decide +kernel) rfl rfl ?_
        refine wx_geti is_162 ff_12_400 rfl (by decide +kernel) ?_
        refine wx_if_ne 84 (off := 24) (by decide +kernel) (by decide) ?_ ?_
        · refine wx_weak (L' := [some (.ref 162), none, none, none]) ⟨rfl, trivial⟩ ?_
          refine l_f12_comeBack_j84 G d hd μ4
        · refine wx_blk (pc' := 64) (L' := [some (.ref 162), some (.int v1), some (.int v2), some (.int s0)]) (st' := [.ref 162]) [.aload_n 0] (by decide +kernel) rfl rfl ?_
          refine wx_getr is_162 ff_12_100 rfl rf_162_52 (by decide +kernel) ?_
          refine wx_blk (pc' := 69) (L' := [some (.ref 162), some (.int v1), some (.int v2), some (.int s0)]) (st' := [.ref 162, .int v1, .ref 193]) [.iload_n 1, .aload_n 0] (by decide +kernel) rfl rfl ?_
          refine wx_getr is_162 ff_12_97 rfl rf_162_51 (by decide +kernel) ?_
          refine wx_blk (pc' := 73) (L' := [some (.ref 162), some (.int v1), some (.int v2), some (.int s0)]) (st' := [.int v1, .ref 192, .int v1, .ref 193]) [.iload_n 1] (by decide +kernel) rfl rfl ?_
          refine wx_ald is_192 sz_192 (by decide +kernel) (fun x8 => ?_)
          refine wx_ast is_193 sz_193 (by decide +kernel) (fun μ9 => ?_)
          refine wx_blk (pc' := 76) (L' := [some (.ref 162), some (.int v1), some (.int v2), some (.int s0)]) (st' := [.ref 162]) [.aload_n 0] (by decide +kernel) rfl rfl ?_
          refine wx_getr is_162 ff_12_112 rfl rf_162_56 (by decide +kernel) ?_
          refine wx_blk (pc' := 81) (L' := [some (.ref 162), some (.int v1), some (.int v2), some (.int s0)]) (st' := [.int (1 : Int32), .int v1, .ref 197]) [.iload_n 1, .iconst 1] (by decide +kernel) rfl rfl ?_
          refine wx_zast is_197 sz_197 (by decide) (by decide +kernel) (fun μ10 => ?_)
          refine wx_blk (pc' := 83) (L' := [some (.ref 162), some (.int v1), some (.int v2), some (.int s0)]) (st' := [.int (1 : Int32)]) [.iconst 1] (by decide +kernel) rfl rfl ?_
          exact wx_zret rfl rfl (by decide) (by decide +kernel)
def f12_comeBack (μ : xMu) : Option (Int32 × xMu) :=
  ((f12_topBody μ).bind fun x1 =>
(x_ald μ 179 24 x1 fun x2 =>
(x_ald μ 196 61 ((μ 162 48) - (1 : Int32)) fun x3 =>
(if x3 = (1 : Int32) then
(f12_comeBack_j32 ((μ 162 48) - (1 : Int32)) x2 (1 : Int32) μ)
else
(f12_comeBack_j32 ((μ 162 48) - (1 : Int32)) x2 (0 : Int32) μ)))))
set_option maxHeartbeats 4000000 in
set_option maxRecDepth 100000 in
theorem l_f12_comeBack (G : xG) (d : Nat) (hd : 6 ≤ d) (μ : xMu) : Mx G m12_comeBack d [.ref 162] μ x_wim (f12_comeBack μ) := by
  refine mx_enter ok12_comeBack [some (.ref 162), none, none, none] rfl (Nat.le_of_ble_eq_true rfl) ?_
  unfold f12_comeBack
  refine wx_blk (pc' := 1) (L' := [some (.ref 162), none, none, none]) (st' := [.ref 162]) [.aload_n 0] (by decide +kernel) rfl rfl ?_
  refine wx_geti is_162 ff_12_378 rfl (by decide +kernel) ?_
  refine wx_blk (pc' := 8) (L' := [some (.ref 162), some (.int ((μ 162 48) - (1 : Int32))), none, none]) (st' := [.ref 162]) [.iconst 1, .isub, .istore_n 1, .aload_n 0] (by decide +kernel) rfl rfl ?_
  refine wx_getr is_162 ff_12_58 rfl rf_162_22 (by decide +kernel) ?_
  refine wx_blk (pc' := 12) (L' := [some (.ref 162), some (.int ((μ 162 48) - (1 : Int32))), none, none]) (st' := [.ref 162, .ref 179]) [.aload_n 0] (by decide +kernel) rfl rfl ?_
  refine wx_callV (d1 := 0) (As := []) (rest := [.ref 179]) (by omega) is_162 (by decide) rfl cv_12_403 rfl (Nat.le_of_ble_eq_true rfl) (l_f12_topBody G 0 (by omega) μ) rfl (by decide +kernel) (fun x1 => ?_)
  refine wx_ald is_179 sz_179 (by decide +kernel) (fun x2 => ?_)
  refine wx_blk (pc' := 18) (L' := [some (.ref 162), some (.int ((μ 162 48) - (1 : Int32))), some (.int x2), none]) (st' := [.ref 162]) [.istore_n 2, .aload_n 0] (by decide +kernel) rfl rfl ?_
  refine wx_getr is_162 ff_12_109 rfl rf_162_55 (by decide +kernel) ?_
  refine wx_blk (pc' := 22) (L' := [some (.ref 162), some (.int ((μ 162 48) - (1 : Int32))), some (.int x2), none]) (st' := [.int ((μ 162 48) - (1 : Int32)), .ref 196]) [.iload_n 1] (by decide +kernel) rfl rfl ?_
  refine wx_ald is_196 sz_196 (by decide +kernel) (fun x3 => ?_)
  refine wx_blk (pc' := 24) (L' := [some (.ref 162), some (.int ((μ 162 48) - (1 : Int32))), some (.int x2), none]) (st' := [.int (1 : Int32), .int x3]) [.iconst 1] (by decide +kernel) rfl rfl ?_
  refine wx_ic_ne 31 (off := 7) (by decide +kernel) (by decide) ?_ ?_
  · refine wx_blk (pc' := 32) (L' := [some (.ref 162), some (.int ((μ 162 48) - (1 : Int32))), some (.int x2), none]) (st' := [.int (0 : Int32)]) [.iconst 0] (by decide +kernel) rfl rfl ?_
    refine l_f12_comeBack_j32 G d hd ((μ 162 48) - (1 : Int32)) x2 (0 : Int32) μ
  · refine wx_blk (pc' := 28) (L' := [some (.ref 162), some (.int ((μ 162 48) - (1 : Int32))), some (.int x2), none]) (st' := [.int (1 : Int32)]) [.iconst 1] (by decide +kernel) rfl rfl ?_
    refine wx_goto 32 (off := 4) (by decide +kernel) (by decide) ?_
    refine l_f12_comeBack_j32 G d hd ((μ 162 48) - (1 : Int32)) x2 (1 : Int32) μ
/-! WakingLayersModel.doActs()V -/
def f12_doActs_j436 (k2 : Int32 → xMu → Option xMu) (v1 : Int32) (μ : xMu) : Option xMu :=
  (k2 v1 μ)
set_option maxHeartbeats 4000000 in
set_option maxRecDepth 100000 in
theorem l_f12_doActs_j436 (G : xG) (d : Nat) (hd : 6 ≤ d) (k2 : Int32 → xMu → Option xMu) (h2 : ∀ (v1 : Int32) (μ1 : xMu), Wx G m12_doActs d 2 [some (.ref 162), some (.int v1), none, none, none, none] [] μ1 x_wv (k2 v1 μ1)) (v1 : Int32) (μ : xMu) : Wx G m12_doActs d 436 [some (.ref 162), some (.int v1), none, none, none, none] [] μ x_wv (f12_doActs_j436 k2 v1 μ) := by
  unfold f12_doActs_j436
  refine wx_goto 2 (off := -434) (by decide +kernel) (by decide) ?_
  exact h2 v1 μ
def f12_doActs_j405 (k2 : Int32 → xMu → Option xMu) (v1 : Int32) (v2 : Int32) (s1 : Int32) (s2 : Int32) (μ : xMu) : Option xMu :=
  (x_ast μ 186 16 s1 s2 fun μ37 =>
(x_put μ37 162 41 ((μ37 162 41) + (1 : Int32)) fun μ38 =>
(x_ald μ38 195 61 v2 fun x39 =>
(x_ast μ38 195 61 v2 (x39 + (1 : Int32)) fun μ40 =>
(f12_doActs_j436 k2 v1 μ40)))))
set_option maxHeartbeats 4000000 in
set_option maxRecDepth 100000 in
theorem l_f12_doActs_j405 (G : xG) (d : Nat) (hd : 6 ≤ d) (k2 : Int32 → xMu → Option xMu) (h2 : ∀ (v1 : Int32) (μ1 : xMu), Wx G m12_doActs d 2 [some (.ref 162), some (.int v1), none, none, none, none] [] μ1 x_wv (k2 v1 μ1)) (v1 : Int32) (v2 : Int32) (s1 : Int32) (s2 : Int32) (μ : xMu) : Wx G m12_doActs d 405 [some (.ref 162), some (.int v1), some (.int v2), none, none, none] [.int s2, .int s1, .ref 186] μ x_wv (f12_doActs_j405 k2 v1 v2 s1 s2 μ) := by
  unfold f12_doActs_j405
  refine wx_ast is_186 sz_186 (by decide +kernel) (fun μ37 => ?_)
  refine wx_blk (pc' := 408) (L' := [some (.ref 162), some (.int v1), some (.int v2), none, none, none]) (st' := [.ref 162, .ref 162]) [.aload_n 0, .dup] (by decide +kernel) rfl rfl ?_
  refine wx_geti is_162 ff_12_316 rfl (by decide +kernel) ?_
  refine wx_blk (pc' := 413) (L' := [some (.ref 162), some (.int v1), some (.int v2), none, none, none]) (st' := [.int ((μ37 162 41) + (1 : Int32)), .ref 162]) [.iconst 1, .iadd] (by decide +kernel) rfl rfl ?_
  refine wx_put is_162 ff_12_316 fp_12_41 ⟨rfl, rfl⟩ (by decide +kernel) (fun μ38 => ?_)
  refine wx_blk (pc' := 417) (L' := [some (.ref 162), some (.int v1), some (.int v2), none, none, none]) (st' := [.ref 162]) [.aload_n 0] (by decide +kernel) rfl rfl ?_
  refine wx_getr is_162 ff_12_106 rfl rf_162_54 (by decide +kernel) ?_
  refine wx_blk (pc' := 422) (L' := [some (.ref 162), some (.int v1), some (.int v2), none, none, none]) (st' := [.int v2, .ref 195, .int v2, .ref 195]) [.iload_n 2, .dup2] (by decide +kernel) rfl rfl ?_
  refine wx_ald is_195 sz_195 (by decide +kernel) (fun x39 => ?_)
  refine wx_blk (pc' := 425) (L' := [some (.ref 162), some (.int v1), some (.int v2), none, none, none]) (st' := [.int (x39 + (1 : Int32)), .int v2, .ref 195]) [.iconst 1, .iadd] (by decide +kernel) rfl rfl ?_
  refine wx_ast is_195 sz_195 (by decide +kernel) (fun μ40 => ?_)
  refine wx_goto 436 (off := 10) (by decide +kernel) (by decide) ?_
  refine wx_weak (L' := [some (.ref 162), some (.int v1), none, none, none, none]) ⟨rfl, ⟨rfl, trivial⟩⟩ ?_
  refine l_f12_doActs_j436 G d hd _ h2 v1 μ40
def f12_doActs_l2 (k439 : xMu → Option xMu) : Nat → Int32 → xMu → Option xMu
  | 0, _, _ => none
  | n + 1, v1, μ =>
  (if v1 = 0 then
(k439 μ)
else
((f12_topBody μ).bind fun x1 =>
(x_ald μ 194 61 ((μ 162 48) - (1 : Int32)) fun x2 =>
(x_ald μ 180 24 x1 fun x3 =>
(if x2 = x3 then
(x_ald μ 179 24 x1 fun x43 =>
(if x43 = 0 then
((f12_goNext μ).bind fun μ46 =>
(f12_doActs_j436 (f12_doActs_l2 k439 n) (0 : Int32) μ46))
else
(x_ald μ 197 61 ((μ 162 48) - (1 : Int32)) fun x44 =>
((f12_over x44 μ).bind fun μ45 =>
(f12_doActs_j436 (f12_doActs_l2 k439 n) (0 : Int32) μ45)))))
else
(x_ald μ 194 61 ((μ 162 48) - (1 : Int32)) fun x4 =>
(x_ald μ 194 61 ((μ 162 48) - (1 : Int32)) fun x5 =>
(x_ast μ 194 61 ((μ 162 48) - (1 : Int32)) (x5 + (1 : Int32)) fun μ6 =>
(x_ald μ6 190 61 ((μ 162 48) - (1 : Int32)) fun x7 =>
(x_ald μ6 189 7 x7 fun x8 =>
(x_ald μ6 181 432 (((18 : Int32) * x1) + ((3 : Int32) * x4)) fun x9 =>
(x_sw x9 (nI 0) [
(x_ald μ6 193 61 ((μ 162 48) - (1 : Int32)) fun x10 =>
(x_ald μ6 181 432 ((((18 : Int32) * x1) + ((3 : Int32) * x4)) + (1 : Int32)) fun x11 =>
(x_ast μ6 193 61 ((μ 162 48) - (1 : Int32)) ((x10 + x11) - (x10 + x11) / (1000003 : Int32) * (1000003 : Int32)) fun μ12 =>
(f12_doActs_j436 (f12_doActs_l2 k439 n) v1 μ12)))),
(x_ald μ6 193 61 ((μ 162 48) - (1 : Int32)) fun x13 =>
(x_ald μ6 181 432 ((((18 : Int32) * x1) + ((3 : Int32) * x4)) + (1 : Int32)) fun x14 =>
(x_ast μ6 193 61 ((μ 162 48) - (1 : Int32)) ((x13 * x14) - (x13 * x14) / (1000003 : Int32) * (1000003 : Int32)) fun μ15 =>
(f12_doActs_j436 (f12_doActs_l2 k439 n) v1 μ15)))),
(x_ald μ6 193 61 ((μ 162 48) - (1 : Int32)) fun x16 =>
(x_ald μ6 168 8 x8 fun x17 =>
(x_ast μ6 193 61 ((μ 162 48) - (1 : Int32)) ((x16 + x17) - (x16 + x17) / (1000003 : Int32) * (1000003 : Int32)) fun μ18 =>
(f12_doActs_j436 (f12_doActs_l2 k439 n) v1 μ18)))),
((f12_goNext μ6).bind fun μ19 =>
(f12_doActs_j436 (f12_doActs_l2 k439 n) (0 : Int32) μ19)),
(x_ald μ6 190 61 ((μ 162 48) - (1 : Int32)) fun x20 =>
(if x20 = (6 : Int32) then
(x_put μ6 162 59 (1 : Int32) fun μ31 =>
((f12_over (1 : Int32) μ31).bind fun μ32 =>
(f12_doActs_j436 (f12_doActs_l2 k439 n) (0 : Int32) μ32)))
else
(x_ast μ6 196 61 ((μ 162 48) - (1 : Int32)) (2 : Int32) fun μ21 =>
(x_ald μ21 190 61 ((μ 162 48) - (1 : Int32)) fun x22 =>
(x_put μ21 162 63 (x22 + (1 : Int32)) fun μ23 =>
(x_put μ23 162 64 (0 : Int32) fun μ24 =>
(x_ald μ24 193 61 ((μ 162 48) - (1 : Int32)) fun x25 =>
(x_put μ24 162 62 x25 fun μ26 =>
(x_put μ26 162 60 (0 : Int32) fun μ27 =>
(x_ald μ27 181 432 ((((18 : Int32) * x1) + ((3 : Int32) * x4)) + (1 : Int32)) fun x28 =>
(x_ald μ27 181 432 ((((18 : Int32) * x1) + ((3 : Int32) * x4)) + (2 : Int32)) fun x29 =>
((f12_layRow (μ27 162 63) x28 x29 μ27).bind fun μ30 =>
(f12_doActs_j436 (f12_doActs_l2 k439 n) (0 : Int32) μ30))))))))))))),
(if (μ6 162 41) = (16 : Int32) then
((f12_over (1 : Int32) μ6).bind fun μ41 =>
(f12_doActs_j436 (f12_doActs_l2 k439 n) (0 : Int32) μ41))
else
(x_ald μ6 181 432 ((((18 : Int32) * x1) + ((3 : Int32) * x4)) + (1 : Int32)) fun x33 =>
(x_ast μ6 185 16 (μ6 162 41) x33 fun μ34 =>
(x_ald μ34 181 432 ((((18 : Int32) * x1) + ((3 : Int32) * x4)) + (1 : Int32)) fun x35 =>
(x_ald μ34 169 8 x35 fun x36 =>
(if x36 = 0 then
(f12_doActs_j405 (f12_doActs_l2 k439 n) v1 ((μ 162 48) - (1 : Int32)) (μ34 162 41) (-1000000 : Int32) μ34)
else
(f12_doActs_j405 (f12_doActs_l2 k439 n) v1 ((μ 162 48) - (1 : Int32)) (μ34 162 41) x8 μ34)))))))] 
((f12_over (1 : Int32) μ6).bind fun μ42 =>
(f12_doActs_j436 (f12_doActs_l2 k439 n) (0 : Int32) μ42))))))))))))))
set_option maxHeartbeats 4000000 in
set_option maxRecDepth 100000 in
theorem l_f12_doActs_l2 (G : xG) (d : Nat) (hd : 6 ≤ d) (k439 : xMu → Option xMu) (h439 : ∀ (μ1 : xMu), Wx G m12_doActs d 439 [none, none, none, none, none, none] [] μ1 x_wv (k439 μ1)) : ∀ (n : Nat) (v1 : Int32) (μ : xMu), Wx G m12_doActs d 2 [some (.ref 162), some (.int v1), none, none, none, none] [] μ x_wv (f12_doActs_l2 k439 n v1 μ) := by
  intro n
  induction n with
  | zero => intro v1 μ; exact wx_none
  | succ n h2 =>
    intro v1 μ
    unfold f12_doActs_l2
    refine wx_blk (pc' := 3) (L' := [some (.ref 162), some (.int v1), none, none, none, none]) (st' := [.int v1]) [.iload_n 1] (by decide +kernel) rfl rfl ?_
    refine wx_if_eq 439 (off := 436) (by decide +kernel) (by decide) ?_ ?_
    · refine wx_weak (L' := [none, none, none, none, none, none]) trivial ?_
      exact h439 μ
    · refine wx_blk (pc' := 7) (L' := [some (.ref 162), some (.int v1), none, none, none, none]) (st' := [.ref 162]) [.aload_n 0] (by decide +kernel) rfl rfl ?_
      refine wx_geti is_162 ff_12_378 rfl (by decide +kernel) ?_
      refine wx_blk (pc' := 14) (L' := [some (.ref 162), some (.int v1), some (.int ((μ 162 48) - (1 : Int32))), none, none, none]) (st' := [.ref 162]) [.iconst 1, .isub, .istore_n 2, .aload_n 0] (by decide +kernel) rfl rfl ?_
      refine wx_callV (d1 := 0) (As := []) (rest := []) (by omega) is_162 (by decide) rfl cv_12_403 rfl (Nat.le_of_ble_eq_true rfl) (l_f12_topBody G 0 (by omega) μ) rfl (by decide +kernel) (fun x1 => ?_)
      refine wx_blk (pc' := 19) (L' := [some (.ref 162), some (.int v1), some (.int ((μ 162 48) - (1 : Int32))), some (.int x1), none, none]) (st' := [.ref 162]) [.istore_n 3, .aload_n 0] (by decide +kernel) rfl rfl ?_
      refine wx_getr is_162 ff_12_103 rfl rf_162_53 (by decide +kernel) ?_
      refine wx_blk (pc' := 23) (L' := [some (.ref 162), some (.int v1), some (.int ((μ 162 48) - (1 : Int32))), some (.int x1), none, none]) (st' := [.int ((μ 162 48) - (1 : Int32)), .ref 194]) [.iload_n 2] (by decide +kernel) rfl rfl ?_
      refine wx_ald is_194 sz_194 (by decide +kernel) (fun x2 => ?_)
      refine wx_blk (pc' := 25) (L' := [some (.ref 162), some (.int v1), some (.int ((μ 162 48) - (1 : Int32))), some (.int x1), none, none]) (st' := [.ref 162, .int x2]) [.aload_n 0] (by decide +kernel) rfl rfl ?_
      refine wx_getr is_162 ff_12_61 rfl rf_162_23 (by decide +kernel) ?_
      refine wx_blk (pc' := 29) (L' := [some (.ref 162), some (.int v1), some (.int ((μ 162 48) - (1 : Int32))), some (.int x1), none, none]) (st' := [.int x1, .ref 180, .int x2]) [.iload_n 3] (by decide +kernel) rfl rfl ?_
      refine wx_ald is_180 sz_180 (by decide +kernel) (fun x3 => ?_)
      refine wx_ic_ne 64 (off := 34) (by decide +kernel) (by decide) ?_ ?_
      · refine wx_blk (pc' := 70) (L' := [some (.ref 162), some (.int v1), some (.int ((μ 162 48) - (1 : Int32))), some (.int x1), none, none]) (st' := [.ref 162, .int (3 : Int32), .int ((18 : Int32) * x1)]) [.bipush 18, .iload_n 3, .imul, .iconst 3, .aload_n 0] (by decide +kernel) rfl rfl ?_
        refine wx_getr is_162 ff_12_103 rfl rf_162_53 (by decide +kernel) ?_
        refine wx_blk (pc' := 74) (L' := [some (.ref 162), some (.int v1), some (.int ((μ 162 48) - (1 : Int32))), some (.int x1), none, none]) (st' := [.int ((μ 162 48) - (1 : Int32)), .ref 194, .int (3 : Int32), .int ((18 : Int32) * x1)]) [.iload_n 2] (by decide +kernel) rfl rfl ?_
        refine wx_ald is_194 sz_194 (by decide +kernel) (fun x4 => ?_)
        refine wx_blk (pc' := 80) (L' := [some (.ref 162), some (.int v1), some (.int ((μ 162 48) - (1 : Int32))), some (.int x1), some (.int (((18 : Int32) * x1) + ((3 : Int32) * x4))), none]) (st' := [.ref 162]) [.imul, .iadd, .istore 4, .aload_n 0] (by decide +kernel) rfl rfl ?_
        refine wx_getr is_162 ff_12_103 rfl rf_162_53 (by decide +kernel) ?_
        refine wx_blk (pc' := 85) (L' := [some (.ref 162), some (.int v1), some (.int ((μ 162 48) - (1 : Int32))), some (.int x1), some (.int (((18 : Int32) * x1) + ((3 : Int32) * x4))), none]) (st' := [.int ((μ 162 48) - (1 : Int32)), .ref 194, .int ((μ 162 48) - (1 : Int32)), .ref 194]) [.iload_n 2, .dup2] (by decide +kernel) rfl rfl ?_
        refine wx_ald is_194 sz_194 (by decide +kernel) (fun x5 => ?_)
        refine wx_blk (pc' := 88) (L' := [some (.ref 162), some (.int v1), some (.int ((μ 162 48) - (1 : Int32))), some (.int x1), some (.int (((18 : Int32) * x1) + ((3 : Int32) * x4))), none]) (st' := [.int (x5 + (1 : Int32)), .int ((μ 162 48) - (1 : Int32)), .ref 194]) [.iconst 1, .iadd] (by decide +kernel) rfl rfl ?_
        refine wx_ast is_194 sz_194 (by decide +kernel) (fun μ6 => ?_)
        refine wx_blk (pc' := 90) (L' := [some (.ref 162), some (.int v1), some (.int ((μ 162 48) - (1 : Int32))), some (.int x1), some (.int (((18 : Int32) * x1) + ((3 : Int32) * x4))), none]) (st' := [.ref 162]) [.aload_n 0] (by decide +kernel) rfl rfl ?_
        refine wx_getr is_162 ff_12_88 rfl rf_162_47 (by decide +kernel) ?_
        refine wx_blk (pc' := 94) (L' := [some (.ref 162), some (.int v1), some (.int ((μ 162 48) - (1 : Int32))), some (.int x1), some (.int (((18 : Int32) * x1) + ((3 : Int32) * x4))), none]) (st' := [.ref 162, .ref 189]) [.aload_n 0] (by decide +kernel) rfl rfl ?_
        refine wx_getr is_162 ff_12_91 rfl rf_162_49 (by decide +kernel) ?_
        refine wx_blk (pc' := 98) (L' := [some (.ref 162), some (.int v1), some (.int ((μ 162 48) - (1 : Int32))), some (.int x1), some (.int (((18 : Int32) * x1) + ((3 : Int32) * x4))), none]) (st' := [.int ((μ 162 48) - (1 : Int32)), .ref 190, .ref 189]) [.iload_n 2] (by decide +kernel) rfl rfl ?_
        refine wx_ald is_190 sz_190 (by decide +kernel) (fun x7 => ?_)
        refine wx_ald is_189 sz_189 (by decide +kernel) (fun x8 => ?_)
        refine wx_blk (pc' := 103) (L' := [some (.ref 162), some (.int v1), some (.int ((μ 162 48) - (1 : Int32))), some (.int x1), some (.int (((18 : Int32) * x1) + ((3 : Int32) * x4))), some (.int x8)]) (st' := [.ref 162]) [.istore 5, .aload_n 0] (by decide +kernel) rfl rfl ?_
        refine wx_getr is_162 ff_12_64 rfl rf_162_24 (by decide +kernel) ?_
        refine wx_blk (pc' := 108) (L' := [some (.ref 162), some (.int v1), some (.int ((μ 162 48) - (1 : Int32))), some (.int x1), some (.int (((18 : Int32) * x1) + ((3 : Int32) * x4))), some (.int x8)]) (st' := [.int (((18 : Int32) * x1) + ((3 : Int32) * x4)), .ref 181]) [.iload 4] (by decide +kernel) rfl rfl ?_
        refine wx_ald is_181 sz_181 (by decide +kernel) (fun x9 => ?_)
        refine wx_tsw [148, 177, 206, 233, 242, 336] 429 0 (dflt := 320) (lo := 0) (hi := 5) (offs := #[39, 68, 97, 124, 133, 227]) (len := 39) (by decide +kernel) rfl rfl (by decide) rfl rfl ⟨?_, ?_, ?_, ?_, ?_, ?_, trivial⟩ ?_
        · refine wx_blk (pc' := 149) (L' := [some (.ref 162), some (.int v1), some (.int ((μ 162 48) - (1 : Int32))), some (.int x1), some (.int (((18 : Int32) * x1) + ((3 : Int32) * x4))), some (.int x8)]) (st' := [.ref 162]) [.aload_n 0] (by decide +kernel) rfl rfl ?_
          refine wx_getr is_162 ff_12_100 rfl rf_162_52 (by decide +kernel) ?_
          refine wx_blk (pc' := 154) (L' := [some (.ref 162), some (.int v1), some (.int ((μ 162 48) - (1 : Int32))), some (.int x1), some (.int (((18 : Int32) * x1) + ((3 : Int32) * x4))), some (.int x8)]) (st' := [.ref 162, .int ((μ 162 48) - (1 : Int32)), .ref 193]) [.iload_n 2, .aload_n 0] (by decide +kernel) rfl rfl ?_
          refine wx_getr is_162 ff_12_100 rfl rf_162_52 (by decide +kernel) ?_
          refine wx_blk (pc' := 158) (L' := [some (.ref 162), some (.int v1), some (.int ((μ 162 48) - (1 : Int32))), some (.int x1), some (.int (((18 : Int32) * x1) + ((3 : Int32) * x4))), some (.int x8)]) (st' := [.int ((μ 162 48) - (1 : Int32)), .ref 193, .int ((μ 162 48) - (1 : Int32)), .ref 193]) [.iload_n 2] (by decide +kernel) rfl rfl ?_
          refine wx_ald is_193 sz_193 (by decide +kernel) (fun x10 => ?_)
          refine wx_blk (pc' := 160) (L' := [some (.ref 162), some (.int v1), some (.int ((μ 162 48) - (1 : Int32))), some (.int x1), some (.int (((18 : Int32) * x1) + ((3 : Int32) * x4))), some (.int x8)]) (st' := [.ref 162, .int x10, .int ((μ 162 48) - (1 : Int32)), .ref 193]) [.aload_n 0] (by decide +kernel) rfl rfl ?_
          refine wx_getr is_162 ff_12_64 rfl rf_162_24 (by decide +kernel) ?_
          refine wx_blk (pc' := 167) (L' := [some (.ref 162), some (.int v1), some (.int ((μ 162 48) - (1 : Int32))), some (.int x1), some (.int (((18 : Int32) * x1) + ((3 : Int32) * x4))), some (.int x8)]) (st' := [.int ((((18 : Int32) * x1) + ((3 : Int32) * x4)) + (1 : Int32)), .ref 181, .int x10, .int ((μ 162 48) - (1 : Int32)), .ref 193]) [.iload 4, .iconst 1, .iadd] (by decide +kernel) rfl rfl ?_
          refine wx_ald is_181 sz_181 (by decide +kernel) (fun x11 => ?_)
          refine wx_blk (pc' := 169) (L' := [some (.ref 162), some (.int v1), some (.int ((μ 162 48) - (1 : Int32))), some (.int x1), some (.int (((18 : Int32) * x1) + ((3 : Int32) * x4))), some (.int x8)]) (st' := [.int (x10 + x11), .int ((μ 162 48) - (1 : Int32)), .ref 193]) [.iadd] (by decide +kernel) rfl rfl ?_
          refine wx_ldcw (v := 1000003) xw_1646 (by decide +kernel) ?_
          refine wx_irem (by decide +kernel) (by decide) ?_
          refine wx_ast is_193 sz_193 (by decide +kernel) (fun μ12 => ?_)
          refine wx_goto 436 (off := 262) (by decide +kernel) (by decide) ?_
          refine wx_weak (L' := [some (.ref 162), some (.int v1), none, none, none, none]) ⟨rfl, ⟨rfl, trivial⟩⟩ ?_
          refine l_f12_doActs_j436 G d hd _ h2 v1 μ12
        · refine wx_blk (pc' := 178) (L' := [some (.ref 162), some (.int v1), some (.int ((μ 162 48) - (1 : Int32))), some (.int x1), some (.int (((18 : Int32) * x1) + ((3 : Int32) * x4))), some (.int x8)]) (st' := [.ref 162]) [.aload_n 0] (by decide +kernel) rfl rfl ?_
          refine wx_getr is_162 ff_12_100 rfl rf_162_52 (by decide +kernel) ?_
          refine wx_blk (pc' := 183) (L' := [some (.ref 162), some (.int v1), some (.int ((μ 162 48) - (1 : Int32))), some (.int x1), some (.int (((18 : Int32) * x1) + ((3 : Int32) * x4))), some (.int x8)]) (st' := [.ref 162, .int ((μ 162 48) - (1 : Int32)), .ref 193]) [.iload_n 2, .aload_n 0] (by decide +kernel) rfl rfl ?_
          refine wx_getr is_162 ff_12_100 rfl rf_162_52 (by decide +kernel) ?_
          refine wx_blk (pc' := 187) (L' := [some (.ref 162), some (.int v1), some (.int ((μ 162 48) - (1 : Int32))), some (.int x1), some (.int (((18 : Int32) * x1) + ((3 : Int32) * x4))), some (.int x8)]) (st' := [.int ((μ 162 48) - (1 : Int32)), .ref 193, .int ((μ 162 48) - (1 : Int32)), .ref 193]) [.iload_n 2] (by decide +kernel) rfl rfl ?_
          refine wx_ald is_193 sz_193 (by decide +kernel) (fun x13 => ?_)
          refine wx_blk (pc' := 189) (L' := [some (.ref 162), some (.int v1), some (.int ((μ 162 48) - (1 : Int32))), some (.int x1), some (.int (((18 : Int32) * x1) + ((3 : Int32) * x4))), some (.int x8)]) (st' := [.ref 162, .int x13, .int ((μ 162 48) - (1 : Int32)), .ref 193]) [.aload_n 0] (by decide +kernel) rfl rfl ?_
          refine wx_getr is_162 ff_12_64 rfl rf_162_24 (by decide +kernel) ?_
          refine wx_blk (pc' := 196) (L' := [some (.ref 162), some (.int v1), some (.int ((μ 162 48) - (1 : Int32))), some (.int x1), some (.int (((18 : Int32) * x1) + ((3 : Int32) * x4))), some (.int x8)]) (st' := [.int ((((18 : Int32) * x1) + ((3 : Int32) * x4)) + (1 : Int32)), .ref 181, .int x13, .int ((μ 162 48) - (1 : Int32)), .ref 193]) [.iload 4, .iconst 1, .iadd] (by decide +kernel) rfl rfl ?_
          refine wx_ald is_181 sz_181 (by decide +kernel) (fun x14 => ?_)
          refine wx_blk (pc' := 198) (L' := [some (.ref 162), some (.int v1), some (.int ((μ 162 48) - (1 : Int32))), some (.int x1), some (.int (((18 : Int32) * x1) + ((3 : Int32) * x4))), some (.int x8)]) (st' := [.int (x13 * x14), .int ((μ 162 48) - (1 : Int32)), .ref 193]) [.imul] (by decide +kernel) rfl rfl ?_
          refine wx_ldcw (v := 1000003) xw_1646 (by decide +kernel) ?_
          refine wx_irem (by decide +kernel) (by decide) ?_
          refine wx_ast is_193 sz_193 (by decide +kernel) (fun μ15 => ?_)
          refine wx_goto 436 (off := 233) (by decide +kernel) (by decide) ?_
          refine wx_weak (L' := [some (.ref 162), some (.int v1), none, none, none, none]) ⟨rfl, ⟨rfl, trivial⟩⟩ ?_
          refine l_f12_doActs_j436 G d hd _ h2 v1 μ15
        · refine wx_blk (pc' := 207) (L' := [some (.ref 162), some (.int v1), some (.int ((μ 162 48) - (1 : Int32))), some (.int x1), some (.int (((18 : Int32) * x1) + ((3 : Int32) * x4))), some (.int x8)]) (st' := [.ref 162]) [.aload_n 0] (by decide +kernel) rfl rfl ?_
          refine wx_getr is_162 ff_12_100 rfl rf_162_52 (by decide +kernel) ?_
          refine wx_blk (pc' := 212) (L' := [some (.ref 162), some (.int v1), some (.int ((μ 162 48) - (1 : Int32))), some (.int x1), some (.int (((18 : Int32) * x1) + ((3 : Int32) * x4))), some (.int x8)]) (st' := [.ref 162, .int ((μ 162 48) - (1 : Int32)), .ref 193]) [.iload_n 2, .aload_n 0] (by decide +kernel) rfl rfl ?_
          refine wx_getr is_162 ff_12_100 rfl rf_162_52 (by decide +kernel) ?_
          refine wx_blk (pc' := 216) (L' := [some (.ref 162), some (.int v1), some (.int ((μ 162 48) - (1 : Int32))), some (.int x1), some (.int (((18 : Int32) * x1) + ((3 : Int32) * x4))), some (.int x8)]) (st' := [.int ((μ 162 48) - (1 : Int32)), .ref 193, .int ((μ 162 48) - (1 : Int32)), .ref 193]) [.iload_n 2] (by decide +kernel) rfl rfl ?_
          refine wx_ald is_193 sz_193 (by decide +kernel) (fun x16 => ?_)
          refine wx_blk (pc' := 218) (L' := [some (.ref 162), some (.int v1), some (.int ((μ 162 48) - (1 : Int32))), some (.int x1), some (.int (((18 : Int32) * x1) + ((3 : Int32) * x4))), some (.int x8)]) (st' := [.ref 162, .int x16, .int ((μ 162 48) - (1 : Int32)), .ref 193]) [.aload_n 0] (by decide +kernel) rfl rfl ?_
          refine wx_getr is_162 ff_12_25 rfl rf_162_9 (by decide +kernel) ?_
          refine wx_blk (pc' := 223) (L' := [some (.ref 162), some (.int v1), some (.int ((μ 162 48) - (1 : Int32))), some (.int x1), some (.int (((18 : Int32) * x1) + ((3 : Int32) * x4))), some (.int x8)]) (st' := [.int x8, .ref 168, .int x16, .int ((μ 162 48) - (1 : Int32)), .ref 193]) [.iload 5] (by decide +kernel) rfl rfl ?_
          refine wx_ald is_168 sz_168 (by decide +kernel) (fun x17 => ?_)
          refine wx_blk (pc' := 225) (L' := [some (.ref 162), some (.int v1), some (.int ((μ 162 48) - (1 : Int32))), some (.int x1), some (.int (((18 : Int32) * x1) + ((3 : Int32) * x4))), some (.int x8)]) (st' := [.int (x16 + x17), .int ((μ 162 48) - (1 : Int32)), .ref 193]) [.iadd] (by decide +kernel) rfl rfl ?_
          refine wx_ldcw (v := 1000003) xw_1646 (by decide +kernel) ?_
          refine wx_irem (by decide +kernel) (by decide) ?_
          refine wx_ast is_193 sz_193 (by decide +kernel) (fun μ18 => ?_)
          refine wx_goto 436 (off := 206) (by decide +kernel) (by decide) ?_
          refine wx_weak (L' := [some (.ref 162), some (.int v1), none, none, none, none]) ⟨rfl, ⟨rfl, trivial⟩⟩ ?_
          refine l_f12_doActs_j436 G d hd _ h2 v1 μ18
        · refine wx_blk (pc' := 234) (L' := [some (.ref 162), some (.int v1), some (.int ((μ 162 48) - (1 : Int32))), some (.int x1), some (.int (((18 : Int32) * x1) + ((3 : Int32) * x4))), some (.int x8)]) (st' := [.ref 162]) [.aload_n 0] (by decide +kernel) rfl rfl ?_
          refine wx_callV (d1 := 0) (As := []) (rest := []) (by omega) is_162 (by decide) rfl cv_12_406 rfl (Nat.le_of_ble_eq_true rfl) (l_f12_goNext G 0 (by omega) μ6) rfl (by decide +kernel) (fun μ19 => ?_)
          refine wx_blk (pc' := 239) (L' := [some (.ref 162), some (.int (0 : Int32)), some (.int ((μ 162 48) - (1 : Int32))), some (.int x1), some (.int (((18 : Int32) * x1) + ((3 : Int32) * x4))), some (.int x8)]) (st' := []) [.iconst 0, .istore_n 1] (by decide +kernel) rfl rfl ?_
          refine wx_goto 436 (off := 197) (by decide +kernel) (by decide) ?_
          refine wx_weak (L' := [some (.ref 162), some (.int (0 : Int32)), none, none, none, none]) ⟨rfl, ⟨rfl, trivial⟩⟩ ?_
          refine l_f12_doActs_j436 G d hd _ h2 (0 : Int32) μ19
        · refine wx_blk (pc' := 245) (L' := [some (.ref 162), some (.int (0 : Int32)), some (.int ((μ 162 48) - (1 : Int32))), some (.int x1), some (.int (((18 : Int32) * x1) + ((3 : Int32) * x4))), some (.int x8)]) (st' := [.ref 162]) [.iconst 0, .istore_n 1, .aload_n 0] (by decide +kernel) rfl rfl ?_
          refine wx_getr is_162 ff_12_91 rfl rf_162_49 (by decide +kernel) ?_
          refine wx_blk (pc' := 249) (L' := [some (.ref 162), some (.int (0 : Int32)), some (.int ((μ 162 48) - (1 : Int32))), some (.int x1), some (.int (((18 : Int32) * x1) + ((3 : Int32) * x4))), some (.int x8)]) (st' := [.int ((μ 162 48) - (1 : Int32)), .ref 190]) [.iload_n 2] (by decide +kernel) rfl rfl ?_
          refine wx_ald is_190 sz_190 (by decide +kernel) (fun x20 => ?_)
          refine wx_blk (pc' := 252) (L' := [some (.ref 162), some (.int (0 : Int32)), some (.int ((μ 162 48) - (1 : Int32))), some (.int x1), some (.int (((18 : Int32) * x1) + ((3 : Int32) * x4))), some (.int x8)]) (st' := [.int (6 : Int32), .int x20]) [.bipush 6] (by decide +kernel) rfl rfl ?_
          refine wx_ic_ne 268 (off := 16) (by decide +kernel) (by decide) ?_ ?_
          · refine wx_blk (pc' := 269) (L' := [some (.ref 162), some (.int (0 : Int32)), some (.int ((μ 162 48) - (1 : Int32))), some (.int x1), some (.int (((18 : Int32) * x1) + ((3 : Int32) * x4))), some (.int x8)]) (st' := [.ref 162]) [.aload_n 0] (by decide +kernel) rfl rfl ?_
            refine wx_getr is_162 ff_12_109 rfl rf_162_55 (by decide +kernel) ?_
            refine wx_blk (pc' := 274) (L' := [some (.ref 162), some (.int (0 : Int32)), some (.int ((μ 162 48) - (1 : Int32))), some (.int x1), some (.int (((18 : Int32) * x1) + ((3 : Int32) * x4))), some (.int x8)]) (st' := [.int (2 : Int32), .int ((μ 162 48) - (1 : Int32)), .ref 196]) [.iload_n 2, .iconst 2] (by decide +kernel) rfl rfl ?_
            refine wx_ast is_196 sz_196 (by decide +kernel) (fun μ21 => ?_)
            refine wx_blk (pc' := 277) (L' := [some (.ref 162), some (.int (0 : Int32)), some (.int ((μ 162 48) - (1 : Int32))), some (.int x1), some (.int (((18 : Int32) * x1) + ((3 : Int32) * x4))), some (.int x8)]) (st' := [.ref 162, .ref 162]) [.aload_n 0, .aload_n 0] (by decide +kernel) rfl rfl ?_
            refine wx_getr is_162 ff_12_91 rfl rf_162_49 (by decide +kernel) ?_
            refine wx_blk (pc' := 281) (L' := [some (.ref 162), some (.int (0 : Int32)), some (.int ((μ 162 48) - (1 : Int32))), some (.int x1), some (.int (((18 : Int32) * x1) + ((3 : Int32) * x4))), some (.int x8)]) (st' := [.int ((μ 162 48) - (1 : Int32)), .ref 190, .ref 162]) [.iload_n 2] (by decide +kernel) rfl rfl ?_
            refine wx_ald is_190 sz_190 (by decide +kernel) (fun x22 => ?_)
            refine wx_blk (pc' := 284) (L' := [some (.ref 162), some (.int (0 : Int32)), some (.int ((μ 162 48) - (1 : Int32))), some (.int x1), some (.int (((18 : Int32) * x1) + ((3 : Int32) * x4))), some (.int x8)]) (st' := [.int (x22 + (1 : Int32)), .ref 162]) [.iconst 1, .iadd] (by decide +kernel) rfl rfl ?_
            refine wx_put is_162 ff_12_391 fp_12_63 ⟨rfl, rfl⟩ (by decide +kernel) (fun μ23 => ?_)
            refine wx_blk (pc' := 289) (L' := [some (.ref 162), some (.int (0 : Int32)), some (.int ((μ 162 48) - (1 : Int32))), some (.int x1), some (.int (((18 : Int32) * x1) + ((3 : Int32) * x4))), some (.int x8)]) (st' := [.int (0 : Int32), .ref 162]) [.aload_n 0, .iconst 0] (by decide +kernel) rfl rfl ?_
            refine wx_put is_162 ff_12_394 fp_12_64 ⟨rfl, rfl⟩ (by decide +kernel) (fun μ24 => ?_)
            refine wx_blk (pc' := 294) (L' := [some (.ref 162), some (.int (0 : Int32)), some (.int ((μ 162 48) - (1 : Int32))), some (.int x1), some (.int (((18 : Int32) * x1) + ((3 : Int32) * x4))), some (.int x8)]) (st' := [.ref 162, .ref 162]) [.aload_n 0, .aload_n 0] (by decide +kernel) rfl rfl ?_
            refine wx_getr is_162 ff_12_100 rfl rf_162_52 (by decide +kernel) ?_
            refine wx_blk (pc' := 298) (L' := [some (.ref 162), some (.int (0 : Int32)), some (.int ((μ 162 48) - (1 : Int32))), some (.int x1), some (.int (((18 : Int32) * x1) + ((3 : Int32) * x4))), some (.int x8)]) (st' := [.int ((μ 162 48) - (1 : Int32)), .ref 193, .ref 162]) [.iload_n 2] (by decide +kernel) rfl rfl ?_
            refine wx_ald is_193 sz_193 (by decide +kernel) (fun x25 => ?_)
            refine wx_put is_162 ff_12_381 fp_12_62 ⟨rfl, rfl⟩ (by decide +kernel) (fun μ26 => ?_)
            refine wx_blk (pc' := 304) (L' := [some (.ref 162), some (.int (0 : Int32)), some (.int ((μ 162 48) - (1 : Int32))), some (.int x1), some (.int (((18 : Int32) * x1) + ((3 : Int32) * x4))), some (.int x8)]) (st' := [.int (0 : Int32), .ref 162]) [.aload_n 0, .iconst 0] (by decide +kernel) rfl rfl ?_
            refine wx_put is_162 ff_12_388 fp_12_60 ⟨by decide, by decide⟩ (by decide +kernel) (fun μ27 => ?_)
            refine wx_blk (pc' := 309) (L' := [some (.ref 162), some (.int (0 : Int32)), some (.int ((μ 162 48) - (1 : Int32))), some (.int x1), some (.int (((18 : Int32) * x1) + ((3 : Int32) * x4))), some (.int x8)]) (st' := [.ref 162, .ref 162]) [.aload_n 0, .aload_n 0] (by decide +kernel) rfl rfl ?_
            refine wx_geti is_162 ff_12_391 rfl (by decide +kernel) ?_
            refine wx_blk (pc' := 313) (L' := [some (.ref 162), some (.int (0 : Int32)), some (.int ((μ 162 48) - (1 : Int32))), some (.int x1), some (.int (((18 : Int32) * x1) + ((3 : Int32) * x4))), some (.int x8)]) (st' := [.ref 162, .int (μ27 162 63), .ref 162]) [.aload_n 0] (by decide +kernel) rfl rfl ?_
            refine wx_getr is_162 ff_12_64 rfl rf_162_24 (by decide +kernel) ?_
            refine wx_blk (pc' := 320) (L' := [some (.ref 162), some (.int (0 : Int32)), some (.int ((μ 162 48) - (1 : Int32))), some (.int x1), some (.int (((18 : Int32) * x1) + ((3 : Int32) * x4))), some (.int x8)]) (st' := [.int ((((18 : Int32) * x1) + ((3 : Int32) * x4)) + (1 : Int32)), .ref 181, .int (μ27 162 63), .ref 162]) [.iload 4, .iconst 1, .iadd] (by decide +kernel) rfl rfl ?_
            refine wx_ald is_181 sz_181 (by decide +kernel) (fun x28 => ?_)
            refine wx_blk (pc' := 322) (L' := [some (.ref 162), some (.int (0 : Int32)), some (.int ((μ 162 48) - (1 : Int32))), some (.int x1), some (.int (((18 : Int32) * x1) + ((3 : Int32) * x4))), some (.int x8)]) (st' := [.ref 162, .int x28, .int (μ27 162 63), .ref 162]) [.aload_n 0] (by decide +kernel) rfl rfl ?_
            refine wx_getr is_162 ff_12_64 rfl rf_162_24 (by decide +kernel) ?_
            refine wx_blk (pc' := 329) (L' := [some (.ref 162), some (.int (0 : Int32)), some (.int ((μ 162 48) - (1 : Int32))), some (.int x1), some (.int (((18 : Int32) * x1) + ((3 : Int32) * x4))), some (.int x8)]) (st' := [.int ((((18 : Int32) * x1) + ((3 : Int32) * x4)) + (2 : Int32)), .ref 181, .int x28, .int (μ27 162 63), .ref 162]) [.iload 4, .iconst 2, .iadd] (by decide +kernel) rfl rfl ?_
            refine wx_ald is_181 sz_181 (by decide +kernel) (fun x29 => ?_)
            refine wx_callV (d1 := 3) (As := [.int (μ27 162 63), .int x28, .int x29]) (rest := []) (by omega) is_162 (by decide) rfl cv_12_374 rfl (Nat.le_of_ble_eq_true rfl) (l_f12_layRow G 3 (by omega) (μ27 162 63) x28 x29 μ27) rfl (by decide +kernel) (fun μ30 => ?_)
            refine wx_goto 436 (off := 103) (by decide +kernel) (by decide) ?_
            refine wx_weak (L' := [some (.ref 162), some (.int (0 : Int32)), none, none, none, none]) ⟨rfl, ⟨rfl, trivial⟩⟩ ?_
            refine l_f12_doActs_j436 G d hd _ h2 (0 : Int32) μ30
          · refine wx_blk (pc' := 257) (L' := [some (.ref 162), some (.int (0 : Int32)), some (.int ((μ 162 48) - (1 : Int32))), some (.int x1), some (.int (((18 : Int32) * x1) + ((3 : Int32) * x4))), some (.int x8)]) (st' := [.int (1 : Int32), .ref 162]) [.aload_n 0, .iconst 1] (by decide +kernel) rfl rfl ?_
            refine wx_put is_162 ff_12_400 fp_12_59 ⟨by decide, by decide⟩ (by decide +kernel) (fun μ31 => ?_)
            refine wx_blk (pc' := 262) (L' := [some (.ref 162), some (.int (0 : Int32)), some (.int ((μ 162 48) - (1 : Int32))), some (.int x1), some (.int (((18 : Int32) * x1) + ((3 : Int32) * x4))), some (.int x8)]) (st' := [.int (1 : Int32), .ref 162]) [.aload_n 0, .iconst 1] (by decide +kernel) rfl rfl ?_
            refine wx_callV (d1 := 5) (As := [.int (1 : Int32)]) (rest := []) (by omega) is_162 (by decide) rfl cv_12_409 rfl (Nat.le_of_ble_eq_true rfl) (l_f12_over G 5 (by omega) (1 : Int32) μ31) rfl (by decide +kernel) (fun μ32 => ?_)
            refine wx_goto 436 (off := 171) (by decide +kernel) (by decide) ?_
            refine wx_weak (L' := [some (.ref 162), some (.int (0 : Int32)), none, none, none, none]) ⟨rfl, ⟨rfl, trivial⟩⟩ ?_
            refine l_f12_doActs_j436 G d hd _ h2 (0 : Int32) μ32
        · refine wx_blk (pc' := 337) (L' := [some (.ref 162), some (.int v1), some (.int ((μ 162 48) - (1 : Int32))), some (.int x1), some (.int (((18 : Int32) * x1) + ((3 : Int32) * x4))), some (.int x8)]) (st' := [.ref 162]) [.aload_n 0] (by decide +kernel) rfl rfl ?_
          refine wx_geti is_162 ff_12_316 rfl (by decide +kernel) ?_
          refine wx_blk (pc' := 342) (L' := [some (.ref 162), some (.int v1), some (.int ((μ 162 48) - (1 : Int32))), some (.int x1), some (.int (((18 : Int32) * x1) + ((3 : Int32) * x4))), some (.int x8)]) (st' := [.int (16 : Int32), .int (μ6 162 41)]) [.bipush 16] (by decide +kernel) rfl rfl ?_
          refine wx_ic_ne 355 (off := 13) (by decide +kernel) (by decide) ?_ ?_
          · refine wx_blk (pc' := 356) (L' := [some (.ref 162), some (.int v1), some (.int ((μ 162 48) - (1 : Int32))), some (.int x1), some (.int (((18 : Int32) * x1) + ((3 : Int32) * x4))), some (.int x8)]) (st' := [.ref 162]) [.aload_n 0] (by decide +kernel) rfl rfl ?_
            refine wx_getr is_162 ff_12_76 rfl rf_162_42 (by decide +kernel) ?_
            refine wx_blk (pc' := 360) (L' := [some (.ref 162), some (.int v1), some (.int ((μ 162 48) - (1 : Int32))), some (.int x1), some (.int (((18 : Int32) * x1) + ((3 : Int32) * x4))), some (.int x8)]) (st' := [.ref 162, .ref 185]) [.aload_n 0] (by decide +kernel) rfl rfl ?_
            refine wx_geti is_162 ff_12_316 rfl (by decide +kernel) ?_
            refine wx_blk (pc' := 364) (L' := [some (.ref 162), some (.int v1), some (.int ((μ 162 48) - (1 : Int32))), some (.int x1), some (.int (((18 : Int32) * x1) + ((3 : Int32) * x4))), some (.int x8)]) (st' := [.ref 162, .int (μ6 162 41), .ref 185]) [.aload_n 0] (by decide +kernel) rfl rfl ?_
            refine wx_getr is_162 ff_12_64 rfl rf_162_24 (by decide +kernel) ?_
            refine wx_blk (pc' := 371) (L' := [some (.ref 162), some (.int v1), some (.int ((μ 162 48) - (1 : Int32))), some (.int x1), some (.int (((18 : Int32) * x1) + ((3 : Int32) * x4))), some (.int x8)]) (st' := [.int ((((18 : Int32) * x1) + ((3 : Int32) * x4)) + (1 : Int32)), .ref 181, .int (μ6 162 41), .ref 185]) [.iload 4, .iconst 1, .iadd] (by decide +kernel) rfl rfl ?_
            refine wx_ald is_181 sz_181 (by decide +kernel) (fun x33 => ?_)
            refine wx_ast is_185 sz_185 (by decide +kernel) (fun μ34 => ?_)
            refine wx_blk (pc' := 374) (L' := [some (.ref 162), some (.int v1), some (.int ((μ 162 48) - (1 : Int32))), some (.int x1), some (.int (((18 : Int32) * x1) + ((3 : Int32) * x4))), some (.int x8)]) (st' := [.ref 162]) [.aload_n 0] (by decide +kernel) rfl rfl ?_
            refine wx_getr is_162 ff_12_79 rfl rf_162_43 (by decide +kernel) ?_
            refine wx_blk (pc' := 378) (L' := [some (.ref 162), some (.int v1), some (.int ((μ 162 48) - (1 : Int32))), some (.int x1), some (.int (((18 : Int32) * x1) + ((3 : Int32) * x4))), some (.int x8)]) (st' := [.ref 162, .ref 186]) [.aload_n 0] (by decide +kernel) rfl rfl ?_
            refine wx_geti is_162 ff_12_316 rfl (by decide +kernel) ?_
            refine wx_blk (pc' := 382) (L' := [some (.ref 162), some (.int v1), some (.int ((μ 162 48) - (1 : Int32))), some (.int x1), some (.int (((18 : Int32) * x1) + ((3 : Int32) * x4))), some (.int x8)]) (st' := [.ref 162, .int (μ34 162 41), .ref 186]) [.aload_n 0] (by decide +kernel) rfl rfl ?_
            refine wx_getr is_162 ff_12_28 rfl rf_162_11 (by decide +kernel) ?_
            refine wx_blk (pc' := 386) (L' := [some (.ref 162), some (.int v1), some (.int ((μ 162 48) - (1 : Int32))), some (.int x1), some (.int (((18 : Int32) * x1) + ((3 : Int32) * x4))), some (.int x8)]) (st' := [.ref 162, .ref 169, .int (μ34 162 41), .ref 186]) [.aload_n 0] (by decide +kernel) rfl rfl ?_
            refine wx_getr is_162 ff_12_64 rfl rf_162_24 (by decide +kernel) ?_
            refine wx_blk (pc' := 393) (L' := [some (.ref 162), some (.int v1), some (.int ((μ 162 48) - (1 : Int32))), some (.int x1), some (.int (((18 : Int32) * x1) + ((3 : Int32) * x4))), some (.int x8)]) (st' := [.int ((((18 : Int32) * x1) + ((3 : Int32) * x4)) + (1 : Int32)), .ref 181, .ref 169, .int (μ34 162 41), .ref 186]) [.iload 4, .iconst 1, .iadd] (by decide +kernel) rfl rfl ?_
            refine wx_ald is_181 sz_181 (by decide +kernel) (fun x35 => ?_)
            refine wx_ald is_169 sz_169 (by decide +kernel) (fun x36 => ?_)
            refine wx_if_ne 403 (off := 8) (by decide +kernel) (by decide) ?_ ?_
            · refine wx_blk (pc' := 405) (L' := [some (.ref 162), some (.int v1), some (.int ((μ 162 48) - (1 : Int32))), some (.int x1), some (.int (((18 : Int32) * x1) + ((3 : Int32) * x4))), some (.int x8)]) (st' := [.int x8, .int (μ34 162 41), .ref 186]) [.iload 5] (by decide +kernel) rfl rfl ?_
              refine wx_weak (L' := [some (.ref 162), some (.int v1), some (.int ((μ 162 48) - (1 : Int32))), none, none, none]) ⟨rfl, ⟨rfl, ⟨rfl, trivial⟩⟩⟩ ?_
              refine l_f12_doActs_j405 G d hd _ h2 v1 ((μ 162 48) - (1 : Int32)) (μ34 162 41) x8 μ34
            · refine wx_ldc (v := -1000000) xw_1431 (by decide +kernel) ?_
              refine wx_goto 405 (off := 5) (by decide +kernel) (by decide) ?_
              refine wx_weak (L' := [some (.ref 162), some (.int v1), some (.int ((μ 162 48) - (1 : Int32))), none, none, none]) ⟨rfl, ⟨rfl, ⟨rfl, trivial⟩⟩⟩ ?_
              refine l_f12_doActs_j405 G d hd _ h2 v1 ((μ 162 48) - (1 : Int32)) (μ34 162 41) (-1000000 : Int32) μ34
          · refine wx_blk (pc' := 349) (L' := [some (.ref 162), some (.int (0 : Int32)), some (.int ((μ 162 48) - (1 : Int32))), some (.int x1), some (.int (((18 : Int32) * x1) + ((3 : Int32) * x4))), some (.int x8)]) (st' := [.int (1 : Int32), .ref 162]) [.iconst 0, .istore_n 1, .aload_n 0, .iconst 1] (by decide +kernel) rfl rfl ?_
            refine wx_callV (d1 := 5) (As := [.int (1 : Int32)]) (rest := []) (by omega) is_162 (by decide) rfl cv_12_409 rfl (Nat.le_of_ble_eq_true rfl) (l_f12_over G 5 (by omega) (1 : Int32) μ6) rfl (by decide +kernel) (fun μ41 => ?_)
            refine wx_goto 436 (off := 84) (by decide +kernel) (by decide) ?_
            refine wx_weak (L' := [some (.ref 162), some (.int (0 : Int32)), none, none, none, none]) ⟨rfl, ⟨rfl, trivial⟩⟩ ?_
            refine l_f12_doActs_j436 G d hd _ h2 (0 : Int32) μ41
        · refine wx_blk (pc' := 433) (L' := [some (.ref 162), some (.int (0 : Int32)), some (.int ((μ 162 48) - (1 : Int32))), some (.int x1), some (.int (((18 : Int32) * x1) + ((3 : Int32) * x4))), some (.int x8)]) (st' := [.int (1 : Int32), .ref 162]) [.iconst 0, .istore_n 1, .aload_n 0, .iconst 1] (by decide +kernel) rfl rfl ?_
          refine wx_callV (d1 := 5) (As := [.int (1 : Int32)]) (rest := []) (by omega) is_162 (by decide) rfl cv_12_409 rfl (Nat.le_of_ble_eq_true rfl) (l_f12_over G 5 (by omega) (1 : Int32) μ6) rfl (by decide +kernel) (fun μ42 => ?_)
          refine wx_weak (L' := [some (.ref 162), some (.int (0 : Int32)), none, none, none, none]) ⟨rfl, ⟨rfl, trivial⟩⟩ ?_
          refine l_f12_doActs_j436 G d hd _ h2 (0 : Int32) μ42
      · refine wx_blk (pc' := 36) (L' := [some (.ref 162), some (.int (0 : Int32)), some (.int ((μ 162 48) - (1 : Int32))), some (.int x1), none, none]) (st' := [.ref 162]) [.iconst 0, .istore_n 1, .aload_n 0] (by decide +kernel) rfl rfl ?_
        refine wx_getr is_162 ff_12_58 rfl rf_162_22 (by decide +kernel) ?_
        refine wx_blk (pc' := 40) (L' := [some (.ref 162), some (.int (0 : Int32)), some (.int ((μ 162 48) - (1 : Int32))), some (.int x1), none, none]) (st' := [.int x1, .ref 179]) [.iload_n 3] (by decide +kernel) rfl rfl ?_
        refine wx_ald is_179 sz_179 (by decide +kernel) (fun x43 => ?_)
        refine wx_if_ne 51 (off := 10) (by decide +kernel) (by decide) ?_ ?_
        · refine wx_blk (pc' := 53) (L' := [some (.ref 162), some (.int (0 : Int32)), some (.int ((μ 162 48) - (1 : Int32))), some (.int x1), none, none]) (st' := [.ref 162, .ref 162]) [.aload_n 0, .aload_n 0] (by decide +kernel) rfl rfl ?_
          refine wx_getr is_162 ff_12_112 rfl rf_162_56 (by decide +kernel) ?_
          refine wx_blk (pc' := 57) (L' := [some (.ref 162), some (.int (0 : Int32)), some (.int ((μ 162 48) - (1 : Int32))), some (.int x1), none, none]) (st' := [.int ((μ 162 48) - (1 : Int32)), .ref 197, .ref 162]) [.iload_n 2] (by decide +kernel) rfl rfl ?_
          refine wx_zald is_197 sz_197 (by decide +kernel) (fun x44 => ?_)
          refine wx_callV (d1 := 5) (As := [.int x44]) (rest := []) (by omega) is_162 (by decide) rfl cv_12_409 rfl (Nat.le_of_ble_eq_true rfl) (l_f12_over G 5 (by omega) x44 μ) rfl (by decide +kernel) (fun μ45 => ?_)
          refine wx_goto 436 (off := 375) (by decide +kernel) (by decide) ?_
          refine wx_weak (L' := [some (.ref 162), some (.int (0 : Int32)), none, none, none, none]) ⟨rfl, ⟨rfl, trivial⟩⟩ ?_
          refine l_f12_doActs_j436 G d hd _ h2 (0 : Int32) μ45
        · refine wx_blk (pc' := 45) (L' := [some (.ref 162), some (.int (0 : Int32)), some (.int ((μ 162 48) - (1 : Int32))), some (.int x1), none, none]) (st' := [.ref 162]) [.aload_n 0] (by decide +kernel) rfl rfl ?_
          refine wx_callV (d1 := 0) (As := []) (rest := []) (by omega) is_162 (by decide) rfl cv_12_406 rfl (Nat.le_of_ble_eq_true rfl) (l_f12_goNext G 0 (by omega) μ) rfl (by decide +kernel) (fun μ46 => ?_)
          refine wx_goto 436 (off := 388) (by decide +kernel) (by decide) ?_
          refine wx_weak (L' := [some (.ref 162), some (.int (0 : Int32)), none, none, none, none]) ⟨rfl, ⟨rfl, trivial⟩⟩ ?_
          refine l_f12_doActs_j436 G d hd _ h2 (0 : Int32) μ46
def f12_doActs (μ : xMu) : Option xMu :=
  (f12_doActs_l2 (fun (μ47 : xMu) => (some μ47)) 1000 (1 : Int32) μ)
set_option maxHeartbeats 4000000 in
set_option maxRecDepth 100000 in
theorem l_f12_doActs (G : xG) (d : Nat) (hd : 6 ≤ d) (μ : xMu) : Mx G m12_doActs d [.ref 162] μ x_wv (f12_doActs μ) := by
  refine mx_enter ok12_doActs [some (.ref 162), none, none, none, none, none] rfl (Nat.le_of_ble_eq_true rfl) ?_
  unfold f12_doActs
  refine wx_blk (pc' := 2) (L' := [some (.ref 162), some (.int (1 : Int32)), none, none, none, none]) (st' := []) [.iconst 1, .istore_n 1] (by decide +kernel) rfl rfl ?_
  refine l_f12_doActs_l2 G d hd _ ?_ 1000 (1 : Int32) μ
  · intro μ47
    exact wx_vret rfl rfl (by decide +kernel)
