/-! WakingLayers$Sheets.isSheet(I)Z -/
def f8_isSheet (v0 : Int32) : Option Int32 :=
  (if v0 < 0 then
(some (0 : Int32))
else
(if (8 : Int32) ≤ v0 then
(some (0 : Int32))
else
(some (1 : Int32))))
set_option maxHeartbeats 4000000 in
set_option maxRecDepth 100000 in
theorem l_f8_isSheet (G : xG) (d : Nat) (hd : 0 ≤ d) (μ : xMu) (v0 : Int32) : Mx G m8_isSheet d [.int v0] μ (x_wi μ) (f8_isSheet v0) := by
  refine mx_enter ok8_isSheet [some (.int v0)] rfl (Nat.le_of_ble_eq_true rfl) ?_
  unfold f8_isSheet
  refine wx_blk (pc' := 1) (L' := [some (.int v0)]) (st' := [.int v0]) [.iload_n 0] (by decide +kernel) rfl rfl ?_
  refine wx_if_lt 14 (off := 13) (by decide +kernel) (by decide) ?_ ?_
  · refine wx_blk (pc' := 15) (L' := [some (.int v0)]) (st' := [.int (0 : Int32)]) [.iconst 0] (by decide +kernel) rfl rfl ?_
    exact wx_zret rfl rfl (by decide) (by decide +kernel)
  · refine wx_blk (pc' := 7) (L' := [some (.int v0)]) (st' := [.int (8 : Int32), .int v0]) [.iload_n 0, .bipush 8] (by decide +kernel) rfl rfl ?_
    refine wx_ic_ge 14 (off := 7) (by decide +kernel) (by decide) ?_ ?_
    · refine wx_blk (pc' := 15) (L' := [some (.int v0)]) (st' := [.int (0 : Int32)]) [.iconst 0] (by decide +kernel) rfl rfl ?_
      exact wx_zret rfl rfl (by decide) (by decide +kernel)
    · refine wx_blk (pc' := 11) (L' := [some (.int v0)]) (st' := [.int (1 : Int32)]) [.iconst 1] (by decide +kernel) rfl rfl ?_
      refine wx_goto 15 (off := 4) (by decide +kernel) (by decide) ?_
      exact wx_zret rfl rfl (by decide) (by decide +kernel)
/-! WakingLayers$Sheets.isLane(I)Z -/
def f8_isLane (v0 : Int32) : Option Int32 :=
  (if v0 < 0 then
(some (0 : Int32))
else
(if (2 : Int32) < v0 then
(some (0 : Int32))
else
(some (1 : Int32))))
set_option maxHeartbeats 4000000 in
set_option maxRecDepth 100000 in
theorem l_f8_isLane (G : xG) (d : Nat) (hd : 0 ≤ d) (μ : xMu) (v0 : Int32) : Mx G m8_isLane d [.int v0] μ (x_wi μ) (f8_isLane v0) := by
  refine mx_enter ok8_isLane [some (.int v0)] rfl (Nat.le_of_ble_eq_true rfl) ?_
  unfold f8_isLane
  refine wx_blk (pc' := 1) (L' := [some (.int v0)]) (st' := [.int v0]) [.iload_n 0] (by decide +kernel) rfl rfl ?_
  refine wx_if_lt 13 (off := 12) (by decide +kernel) (by decide) ?_ ?_
  · refine wx_blk (pc' := 14) (L' := [some (.int v0)]) (st' := [.int (0 : Int32)]) [.iconst 0] (by decide +kernel) rfl rfl ?_
    exact wx_zret rfl rfl (by decide) (by decide +kernel)
  · refine wx_blk (pc' := 6) (L' := [some (.int v0)]) (st' := [.int (2 : Int32), .int v0]) [.iload_n 0, .iconst 2] (by decide +kernel) rfl rfl ?_
    refine wx_ic_gt 13 (off := 7) (by decide +kernel) (by decide) ?_ ?_
    · refine wx_blk (pc' := 14) (L' := [some (.int v0)]) (st' := [.int (0 : Int32)]) [.iconst 0] (by decide +kernel) rfl rfl ?_
      exact wx_zret rfl rfl (by decide) (by decide +kernel)
    · refine wx_blk (pc' := 10) (L' := [some (.int v0)]) (st' := [.int (1 : Int32)]) [.iconst 1] (by decide +kernel) rfl rfl ?_
      refine wx_goto 14 (off := 4) (by decide +kernel) (by decide) ?_
      exact wx_zret rfl rfl (by decide) (by decide +kernel)
/-! WakingLayers.finding(I)I -/
def f11_finding (v1 : Int32) (μ : xMu) : Option (Int32 × xMu) :=
  (x_put μ 0 10 v1 fun μ1 =>
(some (((-1000010 : Int32) - v1), μ1)))
set_option maxHeartbeats 4000000 in
set_option maxRecDepth 100000 in
theorem l_f11_finding (G : xG) (d : Nat) (hd : 0 ≤ d) (v1 : Int32) (μ : xMu) : Mx G m11_finding d [.ref 0, .int v1] μ x_wim (f11_finding v1 μ) := by
  refine mx_enter ok11_finding [some (.ref 0), some (.int v1)] rfl (Nat.le_of_ble_eq_true rfl) ?_
  unfold f11_finding
  refine wx_blk (pc' := 2) (L' := [some (.ref 0), some (.int v1)]) (st' := [.int v1, .ref 0]) [.aload_n 0, .iload_n 1] (by decide +kernel) rfl rfl ?_
  refine wx_put is_0 ff_11_285 fp_11_10 ⟨rfl, rfl⟩ (by decide +kernel) (fun μ1 => ?_)
  refine wx_ldcw (v := -1000010) xw_518 (by decide +kernel) ?_
  refine wx_blk (pc' := 10) (L' := [some (.ref 0), some (.int v1)]) (st' := [.int ((-1000010 : Int32) - v1)]) [.iload_n 1, .isub] (by decide +kernel) rfl rfl ?_
  exact wx_iret rfl rfl (by decide +kernel)
/-! WakingLayers$Sheets.lay(III)V -/
def f8_lay_l24 (k46 : xMu → Option xMu) : Nat → Int32 → Int32 → Int32 → xMu → Option xMu
  | 0, _, _, _, _ => none
  | n + 1, v1, v3, v4, μ =>
  (if v3 ≤ v4 then
(k46 μ)
else
(x_rld 5 8 v1 fun r4 =>
(x_chk r4 13 (x_ast μ r4 (x_sz r4) v4 (0 : Int32) fun μ6 =>
((f8_lay_l24 k46 n) v1 v3 (v4 + (1 : Int32)) μ6)))))
set_option maxHeartbeats 4000000 in
set_option maxRecDepth 100000 in
theorem l_f8_lay_l24 (G : xG) (d : Nat) (hd : 0 ≤ d) (k46 : xMu → Option xMu) (h46 : ∀ (μ1 : xMu), Wx G m8_lay d 46 [none, none, none, none, none] [] μ1 x_wv (k46 μ1)) : ∀ (n : Nat) (v1 : Int32) (v3 : Int32) (v4 : Int32) (μ : xMu), Wx G m8_lay d 24 [some (.ref 1), some (.int v1), none, some (.int v3), some (.int v4)] [] μ x_wv (f8_lay_l24 k46 n v1 v3 v4 μ) := by
  intro n
  induction n with
  | zero => intro v1 v3 v4 μ; exact wx_none
  | succ n h24 =>
    intro v1 v3 v4 μ
    unfold f8_lay_l24
    refine wx_blk (pc' := 27) (L' := [some (.ref 1), some (.int v1), none, some (.int v3), some (.int v4)]) (st' := [.int v3, .int v4]) [.iload 4, .iload_n 3] (by decide +kernel) rfl rfl ?_
    refine wx_ic_ge 46 (off := 19) (by decide +kernel) (by decide) ?_ ?_
    · refine wx_weak (L' := [none, none, none, none, none]) trivial ?_
      exact h46 μ
    · refine wx_blk (pc' := 31) (L' := [some (.ref 1), some (.int v1), none, some (.int v3), some (.int v4)]) (st' := [.ref 1]) [.aload_n 0] (by decide +kernel) rfl rfl ?_
      refine wx_getr is_1 ff_8_22 rfl rf_1_3 (by decide +kernel) ?_
      refine wx_blk (pc' := 35) (L' := [some (.ref 1), some (.int v1), none, some (.int v3), some (.int v4)]) (st' := [.int v1, .ref 5]) [.iload_n 1] (by decide +kernel) rfl rfl ?_
      refine wx_rld is_5 (by decide) sz_5 (by decide +kernel) (fun r4 => ?_)
      refine wx_blk (pc' := 39) (L' := [some (.ref 1), some (.int v1), none, some (.int v3), some (.int v4)]) (st' := [.int (0 : Int32), .int v4, .ref r4]) [.iload 4, .iconst 0] (by decide +kernel) rfl rfl ?_
      refine wx_chk (fun hx5 => ?_)
      refine wx_ast hx5 rfl (by decide +kernel) (fun μ6 => ?_)
      refine wx_blk (pc' := 43) (L' := [some (.ref 1), some (.int v1), none, some (.int v3), some (.int (v4 + (1 : Int32)))]) (st' := []) [.iinc 4 1] (by decide +kernel) rfl rfl ?_
      refine wx_goto 24 (off := -19) (by decide +kernel) (by decide) ?_
      exact h24 v1 v3 (v4 + (1 : Int32)) μ6
def f8_lay (v1 : Int32) (v2 : Int32) (v3 : Int32) (μ : xMu) : Option xMu :=
  (x_ast μ 2 8 v1 (1 : Int32) fun μ1 =>
(x_ast μ1 3 8 v1 v2 fun μ2 =>
(x_ast μ2 4 8 v1 v3 fun μ3 =>
(f8_lay_l24 (fun (μ7 : xMu) => (some μ7)) 1000 v1 v3 (0 : Int32) μ3))))
set_option maxHeartbeats 4000000 in
set_option maxRecDepth 100000 in
theorem l_f8_lay (G : xG) (d : Nat) (hd : 0 ≤ d) (v1 : Int32) (v2 : Int32) (v3 : Int32) (μ : xMu) : Mx G m8_lay d [.ref 1, .int v1, .int v2, .int v3] μ x_wv (f8_lay v1 v2 v3 μ) := by
  refine mx_enter ok8_lay [some (.ref 1), some (.int v1), some (.int v2), some (.int v3), none] rfl (Nat.le_of_ble_eq_true rfl) ?_
  unfold f8_lay
  refine wx_blk (pc' := 1) (L' := [some (.ref 1), some (.int v1), some (.int v2), some (.int v3), none]) (st' := [.ref 1]) [.aload_n 0] (by decide +kernel) rfl rfl ?_
  refine wx_getr is_1 ff_8_9 rfl rf_1_0 (by decide +kernel) ?_
  refine wx_blk (pc' := 6) (L' := [some (.ref 1), some (.int v1), some (.int v2), some (.int v3), none]) (st' := [.int (1 : Int32), .int v1, .ref 2]) [.iload_n 1, .iconst 1] (by decide +kernel) rfl rfl ?_
  refine wx_zast is_2 sz_2 (by decide) (by decide +kernel) (fun μ1 => ?_)
  refine wx_blk (pc' := 8) (L' := [some (.ref 1), some (.int v1), some (.int v2), some (.int v3), none]) (st' := [.ref 1]) [.aload_n 0] (by decide +kernel) rfl rfl ?_
  refine wx_getr is_1 ff_8_13 rfl rf_1_1 (by decide +kernel) ?_
  refine wx_blk (pc' := 13) (L' := [some (.ref 1), some (.int v1), some (.int v2), some (.int v3), none]) (st' := [.int v2, .int v1, .ref 3]) [.iload_n 1, .iload_n 2] (by decide +kernel) rfl rfl ?_
  refine wx_ast is_3 sz_3 (by decide +kernel) (fun μ2 => ?_)
  refine wx_blk (pc' := 15) (L' := [some (.ref 1), some (.int v1), some (.int v2), some (.int v3), none]) (st' := [.ref 1]) [.aload_n 0] (by decide +kernel) rfl rfl ?_
  refine wx_getr is_1 ff_8_17 rfl rf_1_2 (by decide +kernel) ?_
  refine wx_blk (pc' := 20) (L' := [some (.ref 1), some (.int v1), some (.int v2), some (.int v3), none]) (st' := [.int v3, .int v1, .ref 4]) [.iload_n 1, .iload_n 3] (by decide +kernel) rfl rfl ?_
  refine wx_ast is_4 sz_4 (by decide +kernel) (fun μ3 => ?_)
  refine wx_blk (pc' := 24) (L' := [some (.ref 1), some (.int v1), some (.int v2), some (.int v3), some (.int (0 : Int32))]) (st' := []) [.iconst 0, .istore 4] (by decide +kernel) rfl rfl ?_
  refine wx_weak (L' := [some (.ref 1), some (.int v1), none, some (.int v3), some (.int (0 : Int32))]) ⟨rfl, ⟨rfl, ⟨rfl, ⟨rfl, trivial⟩⟩⟩⟩ ?_
  refine l_f8_lay_l24 G d hd _ ?_ 1000 v1 v3 (0 : Int32) μ3
  · intro μ7
    exact wx_vret rfl rfl (by decide +kernel)
/-! WakingLayers.withoutFinding(I)I -/
def f11_withoutFinding (v1 : Int32) (μ : xMu) : Option (Int32 × xMu) :=
  (x_put μ 0 10 (0 : Int32) fun μ1 =>
(some (v1, μ1)))
set_option maxHeartbeats 4000000 in
set_option maxRecDepth 100000 in
theorem l_f11_withoutFinding (G : xG) (d : Nat) (hd : 0 ≤ d) (v1 : Int32) (μ : xMu) : Mx G m11_withoutFinding d [.ref 0, .int v1] μ x_wim (f11_withoutFinding v1 μ) := by
  refine mx_enter ok11_withoutFinding [some (.ref 0), some (.int v1)] rfl (Nat.le_of_ble_eq_true rfl) ?_
  unfold f11_withoutFinding
  refine wx_blk (pc' := 2) (L' := [some (.ref 0), some (.int v1)]) (st' := [.int (0 : Int32), .ref 0]) [.aload_n 0, .iconst 0] (by decide +kernel) rfl rfl ?_
  refine wx_put is_0 ff_11_285 fp_11_10 ⟨rfl, rfl⟩ (by decide +kernel) (fun μ1 => ?_)
  refine wx_blk (pc' := 6) (L' := [some (.ref 0), some (.int v1)]) (st' := [.int v1]) [.iload_n 1] (by decide +kernel) rfl rfl ?_
  exact wx_iret rfl rfl (by decide +kernel)
/-! WakingLayers.sheet(III)I -/
def f11_sheet (v1 : Int32) (v2 : Int32) (v3 : Int32) (μ : xMu) : Option (Int32 × xMu) :=
  ((f8_isSheet v1).bind fun x1 =>
(if x1 = 0 then
(some ((-1000001 : Int32), μ))
else
((f8_isLane v2).bind fun x2 =>
(if x2 = 0 then
(some ((-1000001 : Int32), μ))
else
(if v3 ≤ (40 : Int32) then
(if 0 ≤ v3 then
((f8_lay v1 v2 v3 μ).bind fun μ3 =>
((f11_withoutFinding v3 μ3).bind fun q4 =>
(some (q4.1, q4.2))))
else
((f11_finding (4 : Int32) μ).bind fun q5 =>
(some (q5.1, q5.2))))
else
(some ((-1000001 : Int32), μ)))))))
set_option maxHeartbeats 4000000 in
set_option maxRecDepth 100000 in
theorem l_f11_sheet (G : xG) (d : Nat) (hd : 1 ≤ d) (v1 : Int32) (v2 : Int32) (v3 : Int32) (μ : xMu) : Mx G m11_sheet d [.ref 0, .int v1, .int v2, .int v3] μ x_wim (f11_sheet v1 v2 v3 μ) := by
  refine mx_enter ok11_sheet [some (.ref 0), some (.int v1), some (.int v2), some (.int v3)] rfl (Nat.le_of_ble_eq_true rfl) ?_
  unfold f11_sheet
  refine wx_blk (pc' := 1) (L' := [some (.ref 0), some (.int v1), some (.int v2), some (.int v3)]) (st' := [.int v1]) [.iload_n 1] (by decide +kernel) rfl rfl ?_
  refine wx_callS (d1 := 0) (As := [.int v1]) (rest := []) (by omega) cs_11_86 rfl (Nat.le_of_ble_eq_true rfl) (l_f8_isSheet G 0 (by omega) μ v1) rfl (by decide +kernel) (fun x1 => ?_)
  refine wx_if_eq 20 (off := 16) (by decide +kernel) (by decide) ?_ ?_
  · refine wx_ldc (v := -1000001) xw_513 (by decide +kernel) ?_
    exact wx_iret rfl rfl (by decide +kernel)
  · refine wx_blk (pc' := 8) (L' := [some (.ref 0), some (.int v1), some (.int v2), some (.int v3)]) (st' := [.int v2]) [.iload_n 2] (by decide +kernel) rfl rfl ?_
    refine wx_callS (d1 := 0) (As := [.int v2]) (rest := []) (by omega) cs_11_90 rfl (Nat.le_of_ble_eq_true rfl) (l_f8_isLane G 0 (by omega) μ v2) rfl (by decide +kernel) (fun x2 => ?_)
    refine wx_if_eq 20 (off := 9) (by decide +kernel) (by decide) ?_ ?_
    · refine wx_ldc (v := -1000001) xw_513 (by decide +kernel) ?_
      exact wx_iret rfl rfl (by decide +kernel)
    · refine wx_blk (pc' := 17) (L' := [some (.ref 0), some (.int v1), some (.int v2), some (.int v3)]) (st' := [.int (40 : Int32), .int v3]) [.iload_n 3, .bipush 40] (by decide +kernel) rfl rfl ?_
      refine wx_ic_le 23 (off := 6) (by decide +kernel) (by decide) ?_ ?_
      · refine wx_blk (pc' := 24) (L' := [some (.ref 0), some (.int v1), some (.int v2), some (.int v3)]) (st' := [.int v3]) [.iload_n 3] (by decide +kernel) rfl rfl ?_
        refine wx_if_ge 33 (off := 9) (by decide +kernel) (by decide) ?_ ?_
        · refine wx_blk (pc' := 34) (L' := [some (.ref 0), some (.int v1), some (.int v2), some (.int v3)]) (st' := [.ref 0]) [.aload_n 0] (by decide +kernel) rfl rfl ?_
          refine wx_getr is_0 ff_11_10 rfl rf_0_0 (by decide +kernel) ?_
          refine wx_blk (pc' := 40) (L' := [some (.ref 0), some (.int v1), some (.int v2), some (.int v3)]) (st' := [.int v3, .int v2, .int v1, .ref 1]) [.iload_n 1, .iload_n 2, .iload_n 3] (by decide +kernel) rfl rfl ?_
          refine wx_callV (d1 := 0) (As := [.int v1, .int v2, .int v3]) (rest := []) (by omega) is_1 (by decide) rfl cv_11_98 rfl (Nat.le_of_ble_eq_true rfl) (l_f8_lay G 0 (by omega) v1 v2 v3 μ) rfl (by decide +kernel) (fun μ3 => ?_)
          refine wx_blk (pc' := 45) (L' := [some (.ref 0), some (.int v1), some (.int v2), some (.int v3)]) (st' := [.int v3, .ref 0]) [.aload_n 0, .iload_n 3] (by decide +kernel) rfl rfl ?_
          refine wx_callV (d1 := 0) (As := [.int v3]) (rest := []) (by omega) is_0 (by decide) rfl cv_11_102 rfl (Nat.le_of_ble_eq_true rfl) (l_f11_withoutFinding G 0 (by omega) v3 μ3) rfl (by decide +kernel) (fun q4 => ?_)
          exact wx_iret rfl rfl (by decide +kernel)
        · refine wx_blk (pc' := 29) (L' := [some (.ref 0), some (.int v1), some (.int v2), some (.int v3)]) (st' := [.int (4 : Int32), .ref 0]) [.aload_n 0, .iconst 4] (by decide +kernel) rfl rfl ?_
          refine wx_callV (d1 := 0) (As := [.int (4 : Int32)]) (rest := []) (by omega) is_0 (by decide) rfl cv_11_94 rfl (Nat.le_of_ble_eq_true rfl) (l_f11_finding G 0 (by omega) (4 : Int32) μ) rfl (by decide +kernel) (fun q5 => ?_)
          exact wx_iret rfl rfl (by decide +kernel)
      · refine wx_ldc (v := -1000001) xw_513 (by decide +kernel) ?_
        exact wx_iret rfl rfl (by decide +kernel)
/-! WakingLayers$Sheets.isMissing(I)Z -/
def f8_isMissing (μ : xMu) (v1 : Int32) : Option Int32 :=
  (x_ald μ 2 8 v1 fun x1 =>
(if x1 = 0 then
(some (1 : Int32))
else
(some (0 : Int32))))
set_option maxHeartbeats 4000000 in
set_option maxRecDepth 100000 in
theorem l_f8_isMissing (G : xG) (d : Nat) (hd : 0 ≤ d) (μ : xMu) (v1 : Int32) : Mx G m8_isMissing d [.ref 1, .int v1] μ (x_wi μ) (f8_isMissing μ v1) := by
  refine mx_enter ok8_isMissing [some (.ref 1), some (.int v1)] rfl (Nat.le_of_ble_eq_true rfl) ?_
  unfold f8_isMissing
  refine wx_blk (pc' := 1) (L' := [some (.ref 1), some (.int v1)]) (st' := [.ref 1]) [.aload_n 0] (by decide +kernel) rfl rfl ?_
  refine wx_getr is_1 ff_8_9 rfl rf_1_0 (by decide +kernel) ?_
  refine wx_blk (pc' := 5) (L' := [some (.ref 1), some (.int v1)]) (st' := [.int v1, .ref 2]) [.iload_n 1] (by decide +kernel) rfl rfl ?_
  refine wx_zald is_2 sz_2 (by decide +kernel) (fun x1 => ?_)
  refine wx_if_ne 13 (off := 7) (by decide +kernel) (by decide) ?_ ?_
  · refine wx_blk (pc' := 14) (L' := [some (.ref 1), some (.int v1)]) (st' := [.int (0 : Int32)]) [.iconst 0] (by decide +kernel) rfl rfl ?_
    exact wx_zret rfl rfl (by decide) (by decide +kernel)
  · refine wx_blk (pc' := 10) (L' := [some (.ref 1), some (.int v1)]) (st' := [.int (1 : Int32)]) [.iconst 1] (by decide +kernel) rfl rfl ?_
    refine wx_goto 14 (off := 4) (by decide +kernel) (by decide) ?_
    exact wx_zret rfl rfl (by decide) (by decide +kernel)
/-! WakingLayers$Sheets.hasPlaces(III)Z -/
def f8_hasPlaces (μ : xMu) (v1 : Int32) (v2 : Int32) (v3 : Int32) : Option Int32 :=
  (x_ald μ 4 8 v1 fun x1 =>
(if v2 < 0 then
(some (0 : Int32))
else
(if v3 < 0 then
(some (0 : Int32))
else
(if x1 < v2 then
(some (0 : Int32))
else
(if (x1 - v2) < v3 then
(some (0 : Int32))
else
(some (1 : Int32)))))))
set_option maxHeartbeats 4000000 in
set_option maxRecDepth 100000 in
theorem l_f8_hasPlaces (G : xG) (d : Nat) (hd : 0 ≤ d) (μ : xMu) (v1 : Int32) (v2 : Int32) (v3 : Int32) : Mx G m8_hasPlaces d [.ref 1, .int v1, .int v2, .int v3] μ (x_wi μ) (f8_hasPlaces μ v1 v2 v3) := by
  refine mx_enter ok8_hasPlaces [some (.ref 1), some (.int v1), some (.int v2), some (.int v3), none] rfl (Nat.le_of_ble_eq_true rfl) ?_
  unfold f8_hasPlaces
  refine wx_blk (pc' := 1) (L' := [some (.ref 1), some (.int v1), some (.int v2), some (.int v3), none]) (st' := [.ref 1]) [.aload_n 0] (by decide +kernel) rfl rfl ?_
  refine wx_getr is_1 ff_8_17 rfl rf_1_2 (by decide +kernel) ?_
  refine wx_blk (pc' := 5) (L' := [some (.ref 1), some (.int v1), some (.int v2), some (.int v3), none]) (st' := [.int v1, .ref 4]) [.iload_n 1] (by decide +kernel) rfl rfl ?_
  refine wx_ald is_4 sz_4 (by decide +kernel) (fun x1 => ?_)
  refine wx_blk (pc' := 9) (L' := [some (.ref 1), some (.int v1), some (.int v2), some (.int v3), some (.int x1)]) (st' := [.int v2]) [.istore 4, .iload_n 2] (by decide +kernel) rfl rfl ?_
  refine wx_if_lt 34 (off := 25) (by decide +kernel) (by decide) ?_ ?_
  · refine wx_blk (pc' := 35) (L' := [some (.ref 1), some (.int v1), some (.int v2), some (.int v3), some (.int x1)]) (st' := [.int (0 : Int32)]) [.iconst 0] (by decide +kernel) rfl rfl ?_
    exact wx_zret rfl rfl (by decide) (by decide +kernel)
  · refine wx_blk (pc' := 13) (L' := [some (.ref 1), some (.int v1), some (.int v2), some (.int v3), some (.int x1)]) (st' := [.int v3]) [.iload_n 3] (by decide +kernel) rfl rfl ?_
    refine wx_if_lt 34 (off := 21) (by decide +kernel) (by decide) ?_ ?_
    · refine wx_blk (pc' := 35) (L' := [some (.ref 1), some (.int v1), some (.int v2), some (.int v3), some (.int x1)]) (st' := [.int (0 : Int32)]) [.iconst 0] (by decide +kernel) rfl rfl ?_
      exact wx_zret rfl rfl (by decide) (by decide +kernel)
    · refine wx_blk (pc' := 19) (L' := [some (.ref 1), some (.int v1), some (.int v2), some (.int v3), some (.int x1)]) (st' := [.int x1, .int v2]) [.iload_n 2, .iload 4] (by decide +kernel) rfl rfl ?_
      refine wx_ic_gt 34 (off := 15) (by decide +kernel) (by decide) ?_ ?_
      · refine wx_blk (pc' := 35) (L' := [some (.ref 1), some (.int v1), some (.int v2), some (.int v3), some (.int x1)]) (st' := [.int (0 : Int32)]) [.iconst 0] (by decide +kernel) rfl rfl ?_
        exact wx_zret rfl rfl (by decide) (by decide +kernel)
      · refine wx_blk (pc' := 27) (L' := [some (.ref 1), some (.int v1), some (.int v2), some (.int v3), some (.int x1)]) (st' := [.int (x1 - v2), .int v3]) [.iload_n 3, .iload 4, .iload_n 2, .isub] (by decide +kernel) rfl rfl ?_
        refine wx_ic_gt 34 (off := 7) (by decide +kernel) (by decide) ?_ ?_
        · refine wx_blk (pc' := 35) (L' := [some (.ref 1), some (.int v1), some (.int v2), some (.int v3), some (.int x1)]) (st' := [.int (0 : Int32)]) [.iconst 0] (by decide +kernel) rfl rfl ?_
          exact wx_zret rfl rfl (by decide) (by decide +kernel)
        · refine wx_blk (pc' := 31) (L' := [some (.ref 1), some (.int v1), some (.int v2), some (.int v3), some (.int x1)]) (st' := [.int (1 : Int32)]) [.iconst 1] (by decide +kernel) rfl rfl ?_
          refine wx_goto 35 (off := 4) (by decide +kernel) (by decide) ?_
          exact wx_zret rfl rfl (by decide) (by decide +kernel)
/-! WakingLayers$Sheets.put(III)I -/
def f8_put_j33 (v1 : Int32) (v2 : Int32) (v4 : Int32) (μ : xMu) : Option (Int32 × xMu) :=
  (x_rld 5 8 v1 fun r3 =>
(x_chk r3 13 (x_ast μ r3 (x_sz r3) v2 v4 fun μ5 =>
(some (v4, μ5)))))
set_option maxHeartbeats 4000000 in
set_option maxRecDepth 100000 in
theorem l_f8_put_j33 (G : xG) (d : Nat) (hd : 0 ≤ d) (v1 : Int32) (v2 : Int32) (v4 : Int32) (μ : xMu) : Wx G m8_put d 33 [some (.ref 1), some (.int v1), some (.int v2), none, some (.int v4)] [] μ x_wim (f8_put_j33 v1 v2 v4 μ) := by
  unfold f8_put_j33
  refine wx_blk (pc' := 34) (L' := [some (.ref 1), some (.int v1), some (.int v2), none, some (.int v4)]) (st' := [.ref 1]) [.aload_n 0] (by decide +kernel) rfl rfl ?_
  refine wx_getr is_1 ff_8_22 rfl rf_1_3 (by decide +kernel) ?_
  refine wx_blk (pc' := 38) (L' := [some (.ref 1), some (.int v1), some (.int v2), none, some (.int v4)]) (st' := [.int v1, .ref 5]) [.iload_n 1] (by decide +kernel) rfl rfl ?_
  refine wx_rld is_5 (by decide) sz_5 (by decide +kernel) (fun r3 => ?_)
  refine wx_blk (pc' := 42) (L' := [some (.ref 1), some (.int v1), some (.int v2), none, some (.int v4)]) (st' := [.int v4, .int v2, .ref r3]) [.iload_n 2, .iload 4] (by decide +kernel) rfl rfl ?_
  refine wx_chk (fun hx4 => ?_)
  refine wx_ast hx4 rfl (by decide +kernel) (fun μ5 => ?_)
  refine wx_blk (pc' := 45) (L' := [some (.ref 1), some (.int v1), some (.int v2), none, some (.int v4)]) (st' := [.int v4]) [.iload 4] (by decide +kernel) rfl rfl ?_
  exact wx_iret rfl rfl (by decide +kernel)
def f8_put (v1 : Int32) (v2 : Int32) (v3 : Int32) (μ : xMu) : Option (Int32 × xMu) :=
  (x_ald μ 3 8 v1 fun x1 =>
(if x1 = 0 then
(f8_put_j33 v1 v2 ((Int32.toInt8 v3).toInt32) μ)
else
(x_ald μ 3 8 v1 fun x2 =>
(if x2 = (1 : Int32) then
(f8_put_j33 v1 v2 ((Int32.toInt16 v3).toInt32) μ)
else
(f8_put_j33 v1 v2 v3 μ)))))
set_option maxHeartbeats 4000000 in
set_option maxRecDepth 100000 in
theorem l_f8_put (G : xG) (d : Nat) (hd : 0 ≤ d) (v1 : Int32) (v2 : Int32) (v3 : Int32) (μ : xMu) : Mx G m8_put d [.ref 1, .int v1, .int v2, .int v3] μ x_wim (f8_put v1 v2 v3 μ) := by
  refine mx_enter ok8_put [some (.ref 1), some (.int v1), some (.int v2), some (.int v3), none] rfl (Nat.le_of_ble_eq_true rfl) ?_
  unfold f8_put
  refine wx_blk (pc' := 4) (L' := [some (.ref 1), some (.int v1), some (.int v2), some (.int v3), some (.int v3)]) (st' := [.ref 1]) [.iload_n 3, .istore 4, .aload_n 0] (by decide +kernel) rfl rfl ?_
  refine wx_getr is_1 ff_8_13 rfl rf_1_1 (by decide +kernel) ?_
  refine wx_blk (pc' := 8) (L' := [some (.ref 1), some (.int v1), some (.int v2), some (.int v3), some (.int v3)]) (st' := [.int v1, .ref 3]) [.iload_n 1] (by decide +kernel) rfl rfl ?_
  refine wx_ald is_3 sz_3 (by decide +kernel) (fun x1 => ?_)
  refine wx_if_ne 19 (off := 10) (by decide +kernel) (by decide) ?_ ?_
  · refine wx_blk (pc' := 20) (L' := [some (.ref 1), some (.int v1), some (.int v2), some (.int v3), some (.int v3)]) (st' := [.ref 1]) [.aload_n 0] (by decide +kernel) rfl rfl ?_
    refine wx_getr is_1 ff_8_13 rfl rf_1_1 (by decide +kernel) ?_
    refine wx_blk (pc' := 24) (L' := [some (.ref 1), some (.int v1), some (.int v2), some (.int v3), some (.int v3)]) (st' := [.int v1, .ref 3]) [.iload_n 1] (by decide +kernel) rfl rfl ?_
    refine wx_ald is_3 sz_3 (by decide +kernel) (fun x2 => ?_)
    refine wx_blk (pc' := 26) (L' := [some (.ref 1), some (.int v1), some (.int v2), some (.int v3), some (.int v3)]) (st' := [.int (1 : Int32), .int x2]) [.iconst 1] (by decide +kernel) rfl rfl ?_
    refine wx_ic_ne 33 (off := 7) (by decide +kernel) (by decide) ?_ ?_
    · refine wx_weak (L' := [some (.ref 1), some (.int v1), some (.int v2), none, some (.int v3)]) ⟨rfl, ⟨rfl, ⟨rfl, ⟨rfl, trivial⟩⟩⟩⟩ ?_
      refine l_f8_put_j33 G d hd v1 v2 v3 μ
    · refine wx_blk (pc' := 33) (L' := [some (.ref 1), some (.int v1), some (.int v2), some (.int v3), some (.int ((Int32.toInt16 v3).toInt32))]) (st' := []) [.iload_n 3, .i2s, .istore 4] (by decide +kernel) rfl rfl ?_
      refine wx_weak (L' := [some (.ref 1), some (.int v1), some (.int v2), none, some (.int ((Int32.toInt16 v3).toInt32))]) ⟨rfl, ⟨rfl, ⟨rfl, ⟨rfl, trivial⟩⟩⟩⟩ ?_
      refine l_f8_put_j33 G d hd v1 v2 ((Int32.toInt16 v3).toInt32) μ
  · refine wx_blk (pc' := 16) (L' := [some (.ref 1), some (.int v1), some (.int v2), some (.int v3), some (.int ((Int32.toInt8 v3).toInt32))]) (st' := []) [.iload_n 3, .i2b, .istore 4] (by decide +kernel) rfl rfl ?_
    refine wx_goto 33 (off := 17) (by decide +kernel) (by decide) ?_
    refine wx_weak (L' := [some (.ref 1), some (.int v1), some (.int v2), none, some (.int ((Int32.toInt8 v3).toInt32))]) ⟨rfl, ⟨rfl, ⟨rfl, ⟨rfl, trivial⟩⟩⟩⟩ ?_
    refine l_f8_put_j33 G d hd v1 v2 ((Int32.toInt8 v3).toInt32) μ
/-! WakingLayers.set(III)I -/
def f11_set (v1 : Int32) (v2 : Int32) (v3 : Int32) (μ : xMu) : Option (Int32 × xMu) :=
  ((f8_isSheet v1).bind fun x1 =>
(if x1 = 0 then
(some ((-1000001 : Int32), μ))
else
((f8_isMissing μ v1).bind fun x2 =>
(if x2 = 0 then
((f8_hasPlaces μ v1 v2 (1 : Int32)).bind fun x3 =>
(if x3 = 0 then
((f11_finding (2 : Int32) μ).bind fun q6 =>
(some (q6.1, q6.2)))
else
((f8_put v1 v2 v3 μ).bind fun q4 =>
((f11_withoutFinding q4.1 q4.2).bind fun q5 =>
(some (q5.1, q5.2))))))
else
((f11_finding (1 : Int32) μ).bind fun q7 =>
(some (q7.1, q7.2)))))))
set_option maxHeartbeats 4000000 in
set_option maxRecDepth 100000 in
theorem l_f11_set (G : xG) (d : Nat) (hd : 1 ≤ d) (v1 : Int32) (v2 : Int32) (v3 : Int32) (μ : xMu) : Mx G m11_set d [.ref 0, .int v1, .int v2, .int v3] μ x_wim (f11_set v1 v2 v3 μ) := by
  refine mx_enter ok11_set [some (.ref 0), some (.int v1), some (.int v2), some (.int v3)] rfl (Nat.le_of_ble_eq_true rfl) ?_
  unfold f11_set
  refine wx_blk (pc' := 1) (L' := [some (.ref 0), some (.int v1), some (.int v2), some (.int v3)]) (st' := [.int v1]) [.iload_n 1] (by decide +kernel) rfl rfl ?_
  refine wx_callS (d1 := 0) (As := [.int v1]) (rest := []) (by omega) cs_11_86 rfl (Nat.le_of_ble_eq_true rfl) (l_f8_isSheet G 0 (by omega) μ v1) rfl (by decide +kernel) (fun x1 => ?_)
  refine wx_if_ne 10 (off := 6) (by decide +kernel) (by decide) ?_ ?_
  · refine wx_blk (pc' := 11) (L' := [some (.ref 0), some (.int v1), some (.int v2), some (.int v3)]) (st' := [.ref 0]) [.aload_n 0] (by decide +kernel) rfl rfl ?_
    refine wx_getr is_0 ff_11_10 rfl rf_0_0 (by decide +kernel) ?_
    refine wx_blk (pc' := 15) (L' := [some (.ref 0), some (.int v1), some (.int v2), some (.int v3)]) (st' := [.int v1, .ref 1]) [.iload_n 1] (by decide +kernel) rfl rfl ?_
    refine wx_callV (d1 := 0) (As := [.int v1]) (rest := []) (by omega) is_1 (by decide) rfl cv_11_105 rfl (Nat.le_of_ble_eq_true rfl) (l_f8_isMissing G 0 (by omega) μ v1) rfl (by decide +kernel) (fun x2 => ?_)
    refine wx_if_eq 27 (off := 9) (by decide +kernel) (by decide) ?_ ?_
    · refine wx_blk (pc' := 28) (L' := [some (.ref 0), some (.int v1), some (.int v2), some (.int v3)]) (st' := [.ref 0]) [.aload_n 0] (by decide +kernel) rfl rfl ?_
      refine wx_getr is_0 ff_11_10 rfl rf_0_0 (by decide +kernel) ?_
      refine wx_blk (pc' := 34) (L' := [some (.ref 0), some (.int v1), some (.int v2), some (.int v3)]) (st' := [.int (1 : Int32), .int v2, .int v1, .ref 1]) [.iload_n 1, .iload_n 2, .iconst 1] (by decide +kernel) rfl rfl ?_
      refine wx_callV (d1 := 0) (As := [.int v1, .int v2, .int (1 : Int32)]) (rest := []) (by omega) is_1 (by decide) rfl cv_11_108 rfl (Nat.le_of_ble_eq_true rfl) (l_f8_hasPlaces G 0 (by omega) μ v1 v2 (1 : Int32)) rfl (by decide +kernel) (fun x3 => ?_)
      refine wx_if_ne 46 (off := 9) (by decide +kernel) (by decide) ?_ ?_
      · refine wx_blk (pc' := 48) (L' := [some (.ref 0), some (.int v1), some (.int v2), some (.int v3)]) (st' := [.ref 0, .ref 0]) [.aload_n 0, .aload_n 0] (by decide +kernel) rfl rfl ?_
        refine wx_getr is_0 ff_11_10 rfl rf_0_0 (by decide +kernel) ?_
        refine wx_blk (pc' := 54) (L' := [some (.ref 0), some (.int v1), some (.int v2), some (.int v3)]) (st' := [.int v3, .int v2, .int v1, .ref 1, .ref 0]) [.iload_n 1, .iload_n 2, .iload_n 3] (by decide +kernel) rfl rfl ?_
        refine wx_callV (d1 := 0) (As := [.int v1, .int v2, .int v3]) (rest := [.ref 0]) (by omega) is_1 (by decide) rfl cv_11_112 rfl (Nat.le_of_ble_eq_true rfl) (l_f8_put G 0 (by omega) v1 v2 v3 μ) rfl (by decide +kernel) (fun q4 => ?_)
        refine wx_callV (d1 := 0) (As := [.int q4.1]) (rest := []) (by omega) is_0 (by decide) rfl cv_11_102 rfl (Nat.le_of_ble_eq_true rfl) (l_f11_withoutFinding G 0 (by omega) q4.1 q4.2) rfl (by decide +kernel) (fun q5 => ?_)
        exact wx_iret rfl rfl (by decide +kernel)
      · refine wx_blk (pc' := 42) (L' := [some (.ref 0), some (.int v1), some (.int v2), some (.int v3)]) (st' := [.int (2 : Int32), .ref 0]) [.aload_n 0, .iconst 2] (by decide +kernel) rfl rfl ?_
        refine wx_callV (d1 := 0) (As := [.int (2 : Int32)]) (rest := []) (by omega) is_0 (by decide) rfl cv_11_94 rfl (Nat.le_of_ble_eq_true rfl) (l_f11_finding G 0 (by omega) (2 : Int32) μ) rfl (by decide +kernel) (fun q6 => ?_)
        exact wx_iret rfl rfl (by decide +kernel)
    · refine wx_blk (pc' := 23) (L' := [some (.ref 0), some (.int v1), some (.int v2), some (.int v3)]) (st' := [.int (1 : Int32), .ref 0]) [.aload_n 0, .iconst 1] (by decide +kernel) rfl rfl ?_
      refine wx_callV (d1 := 0) (As := [.int (1 : Int32)]) (rest := []) (by omega) is_0 (by decide) rfl cv_11_94 rfl (Nat.le_of_ble_eq_true rfl) (l_f11_finding G 0 (by omega) (1 : Int32) μ) rfl (by decide +kernel) (fun q7 => ?_)
      exact wx_iret rfl rfl (by decide +kernel)
  · refine wx_ldc (v := -1000001) xw_513 (by decide +kernel) ?_
    exact wx_iret rfl rfl (by decide +kernel)
/-! WakingLayers$Sheets.haveOneLane(II)Z -/
def f8_haveOneLane (μ : xMu) (v1 : Int32) (v2 : Int32) : Option Int32 :=
  (x_ald μ 3 8 v1 fun x1 =>
(x_ald μ 3 8 v2 fun x2 =>
(if x1 = x2 then
(some (1 : Int32))
else
(some (0 : Int32)))))
set_option maxHeartbeats 4000000 in
set_option maxRecDepth 100000 in
theorem l_f8_haveOneLane (G : xG) (d : Nat) (hd : 0 ≤ d) (μ : xMu) (v1 : Int32) (v2 : Int32) : Mx G m8_haveOneLane d [.ref 1, .int v1, .int v2] μ (x_wi μ) (f8_haveOneLane μ v1 v2) := by
  refine mx_enter ok8_haveOneLane [some (.ref 1), some (.int v1), some (.int v2)] rfl (Nat.le_of_ble_eq_true rfl) ?_
  unfold f8_haveOneLane
  refine wx_blk (pc' := 1) (L' := [some (.ref 1), some (.int v1), some (.int v2)]) (st' := [.ref 1]) [.aload_n 0] (by decide +kernel) rfl rfl ?_
  refine wx_getr is_1 ff_8_13 rfl rf_1_1 (by decide +kernel) ?_
  refine wx_blk (pc' := 5) (L' := [some (.ref 1), some (.int v1), some (.int v2)]) (st' := [.int v1, .ref 3]) [.iload_n 1] (by decide +kernel) rfl rfl ?_
  refine wx_ald is_3 sz_3 (by decide +kernel) (fun x1 => ?_)
  refine wx_blk (pc' := 7) (L' := [some (.ref 1), some (.int v1), some (.int v2)]) (st' := [.ref 1, .int x1]) [.aload_n 0] (by decide +kernel) rfl rfl ?_
  refine wx_getr is_1 ff_8_13 rfl rf_1_1 (by decide +kernel) ?_
  refine wx_blk (pc' := 11) (L' := [some (.ref 1), some (.int v1), some (.int v2)]) (st' := [.int v2, .ref 3, .int x1]) [.iload_n 2] (by decide +kernel) rfl rfl ?_
  refine wx_ald is_3 sz_3 (by decide +kernel) (fun x2 => ?_)
  refine wx_ic_ne 19 (off := 7) (by decide +kernel) (by decide) ?_ ?_
  · refine wx_blk (pc' := 20) (L' := [some (.ref 1), some (.int v1), some (.int v2)]) (st' := [.int (0 : Int32)]) [.iconst 0] (by decide +kernel) rfl rfl ?_
    exact wx_zret rfl rfl (by decide) (by decide +kernel)
  · refine wx_blk (pc' := 16) (L' := [some (.ref 1), some (.int v1), some (.int v2)]) (st' := [.int (1 : Int32)]) [.iconst 1] (by decide +kernel) rfl rfl ?_
    refine wx_goto 20 (off := 4) (by decide +kernel) (by decide) ?_
    exact wx_zret rfl rfl (by decide) (by decide +kernel)
/-! WakingLayers$Sheets.move(IIIII)V -/
def f8_move (v1 : Int32) (v2 : Int32) (v3 : Int32) (v4 : Int32) (v5 : Int32) (μ : xMu) : Option xMu :=
  (x_rld 5 8 v1 fun r1 =>
(x_rld 5 8 v3 fun r2 =>
(x_chk r1 13 (x_chk r2 13 (x_cpy μ r1 v2 r2 v4 v5 fun μ3 =>
(some μ3))))))
set_option maxHeartbeats 4000000 in
set_option maxRecDepth 100000 in
theorem l_f8_move (G : xG) (d : Nat) (hd : 1 ≤ d) (v1 : Int32) (v2 : Int32) (v3 : Int32) (v4 : Int32) (v5 : Int32) (μ : xMu) : Mx G m8_move d [.ref 1, .int v1, .int v2, .int v3, .int v4, .int v5] μ x_wv (f8_move v1 v2 v3 v4 v5 μ) := by
  refine mx_enter ok8_move [some (.ref 1), some (.int v1), some (.int v2), some (.int v3), some (.int v4), some (.int v5)] rfl (Nat.le_of_ble_eq_true rfl) ?_
  unfold f8_move
  refine wx_blk (pc' := 1) (L' := [some (.ref 1), some (.int v1), some (.int v2), some (.int v3), some (.int v4), some (.int v5)]) (st' := [.ref 1]) [.aload_n 0] (by decide +kernel) rfl rfl ?_
  refine wx_getr is_1 ff_8_22 rfl rf_1_3 (by decide +kernel) ?_
  refine wx_blk (pc' := 5) (L' := [some (.ref 1), some (.int v1), some (.int v2), some (.int v3), some (.int v4), some (.int v5)]) (st' := [.int v1, .ref 5]) [.iload_n 1] (by decide +kernel) rfl rfl ?_
  refine wx_rld is_5 (by decide) sz_5 (by decide +kernel) (fun r1 => ?_)
  refine wx_blk (pc' := 8) (L' := [some (.ref 1), some (.int v1), some (.int v2), some (.int v3), some (.int v4), some (.int v5)]) (st' := [.ref 1, .int v2, .ref r1]) [.iload_n 2, .aload_n 0] (by decide +kernel) rfl rfl ?_
  refine wx_getr is_1 ff_8_22 rfl rf_1_3 (by decide +kernel) ?_
  refine wx_blk (pc' := 12) (L' := [some (.ref 1), some (.int v1), some (.int v2), some (.int v3), some (.int v4), some (.int v5)]) (st' := [.int v3, .ref 5, .int v2, .ref r1]) [.iload_n 3] (by decide +kernel) rfl rfl ?_
  refine wx_rld is_5 (by decide) sz_5 (by decide +kernel) (fun r2 => ?_)
  refine wx_blk (pc' := 17) (L' := [some (.ref 1), some (.int v1), some (.int v2), some (.int v3), some (.int v4), some (.int v5)]) (st' := [.int v5, .int v4, .ref r2, .int v2, .ref r1]) [.iload 4, .iload 5] (by decide +kernel) rfl rfl ?_
  refine wx_chk (fun hx4 => ?_)
  refine wx_chk (fun hx5 => ?_)
  refine wx_copy hx4 hx5 (by omega) xw_555 (Nat.le_of_ble_eq_true rfl) (by decide +kernel) (fun μ3 => ?_)
  exact wx_vret rfl rfl (by decide +kernel)
/-! WakingLayers.copy(IIIII)I -/
def f11_copy_j39 (μ : xMu) : Option (Int32 × xMu) :=
  ((f11_finding (1 : Int32) μ).bind fun q4 =>
(some (q4.1, q4.2)))
set_option maxHeartbeats 4000000 in
set_option maxRecDepth 100000 in
theorem l_f11_copy_j39 (G : xG) (d : Nat) (hd : 2 ≤ d) (μ : xMu) : Wx G m11_copy d 39 [some (.ref 0), none, none, none, none, none] [] μ x_wim (f11_copy_j39 μ) := by
  unfold f11_copy_j39
  refine wx_blk (pc' := 41) (L' := [some (.ref 0), none, none, none, none, none]) (st' := [.int (1 : Int32), .ref 0]) [.aload_n 0, .iconst 1] (by decide +kernel) rfl rfl ?_
  refine wx_callV (d1 := 0) (As := [.int (1 : Int32)]) (rest := []) (by omega) is_0 (by decide) rfl cv_11_94 rfl (Nat.le_of_ble_eq_true rfl) (l_f11_finding G 0 (by omega) (1 : Int32) μ) rfl (by decide +kernel) (fun q4 => ?_)
  exact wx_iret rfl rfl (by decide +kernel)
def f11_copy_j92 (μ : xMu) : Option (Int32 × xMu) :=
  ((f11_finding (2 : Int32) μ).bind fun q8 =>
(some (q8.1, q8.2)))
set_option maxHeartbeats 4000000 in
set_option maxRecDepth 100000 in
theorem l_f11_copy_j92 (G : xG) (d : Nat) (hd : 2 ≤ d) (μ : xMu) : Wx G m11_copy d 92 [some (.ref 0), none, none, none, none, none] [] μ x_wim (f11_copy_j92 μ) := by
  unfold f11_copy_j92
  refine wx_blk (pc' := 94) (L' := [some (.ref 0), none, none, none, none, none]) (st' := [.int (2 : Int32), .ref 0]) [.aload_n 0, .iconst 2] (by decide +kernel) rfl rfl ?_
  refine wx_callV (d1 := 0) (As := [.int (2 : Int32)]) (rest := []) (by omega) is_0 (by decide) rfl cv_11_94 rfl (Nat.le_of_ble_eq_true rfl) (l_f11_finding G 0 (by omega) (2 : Int32) μ) rfl (by decide +kernel) (fun q8 => ?_)
  exact wx_iret rfl rfl (by decide +kernel)
def f11_copy (v1 : Int32) (v2 : Int32) (v3 : Int32) (v4 : Int32) (v5 : Int32) (μ : xMu) : Option (Int32 × xMu) :=
  ((f8_isSheet v1).bind fun x1 =>
(if x1 = 0 then
(some ((-1000001 : Int32), μ))
else
((f8_isSheet v3).bind fun x2 =>
(if x2 = 0 then
(some ((-1000001 : Int32), μ))
else
((f8_isMissing μ v1).bind fun x3 =>
(if x3 = 0 then
((f8_isMissing μ v3).bind fun x5 =>
(if x5 = 0 then
((f8_haveOneLane μ v1 v3).bind fun x6 =>
(if x6 = 0 then
((f11_finding (5 : Int32) μ).bind fun q12 =>
(some (q12.1, q12.2)))
else
((f8_hasPlaces μ v1 v2 v5).bind fun x7 =>
(if x7 = 0 then
(f11_copy_j92 μ)
else
((f8_hasPlaces μ v3 v4 v5).bind fun x9 =>
(if x9 = 0 then
(f11_copy_j92 μ)
else
((f8_move v1 v2 v3 v4 v5 μ).bind fun μ10 =>
((f11_withoutFinding v5 μ10).bind fun q11 =>
(some (q11.1, q11.2))))))))))
else
(f11_copy_j39 μ)))
else
(f11_copy_j39 μ)))))))
set_option maxHeartbeats 4000000 in
set_option maxRecDepth 100000 in
theorem l_f11_copy (G : xG) (d : Nat) (hd : 2 ≤ d) (v1 : Int32) (v2 : Int32) (v3 : Int32) (v4 : Int32) (v5 : Int32) (μ : xMu) : Mx G m11_copy d [.ref 0, .int v1, .int v2, .int v3, .int v4, .int v5] μ x_wim (f11_copy v1 v2 v3 v4 v5 μ) := by
  refine mx_enter ok11_copy [some (.ref 0), some (.int v1), some (.int v2), some (.int v3), some (.int v4), some (.int v5)] rfl (Nat.le_of_ble_eq_true rfl) ?_
  unfold f11_copy
  refine wx_blk (pc' := 1) (L' := [some (.ref 0), some (.int v1), some (.int v2), some (.int v3), some (.int v4), some (.int v5)]) (st' := [.int v1]) [.iload_n 1] (by decide +kernel) rfl rfl ?_
  refine wx_callS (d1 := 0) (As := [.int v1]) (rest := []) (by omega) cs_11_86 rfl (Nat.le_of_ble_eq_true rfl) (l_f8_isSheet G 0 (by omega) μ v1) rfl (by decide +kernel) (fun x1 => ?_)
  refine wx_if_eq 14 (off := 10) (by decide +kernel) (by decide) ?_ ?_
  · refine wx_ldc (v := -1000001) xw_513 (by decide +kernel) ?_
    exact wx_iret rfl rfl (by decide +kernel)
  · refine wx_blk (pc' := 8) (L' := [some (.ref 0), some (.int v1), some (.int v2), some (.int v3), some (.int v4), some (.int v5)]) (st' := [.int v3]) [.iload_n 3] (by decide +kernel) rfl rfl ?_
    refine wx_callS (d1 := 0) (As := [.int v3]) (rest := []) (by omega) cs_11_86 rfl (Nat.le_of_ble_eq_true rfl) (l_f8_isSheet G 0 (by omega) μ v3) rfl (by decide +kernel) (fun x2 => ?_)
    refine wx_if_ne 17 (off := 6) (by decide +kernel) (by decide) ?_ ?_
    · refine wx_blk (pc' := 18) (L' := [some (.ref 0), some (.int v1), some (.int v2), some (.int v3), some (.int v4), some (.int v5)]) (st' := [.ref 0]) [.aload_n 0] (by decide +kernel) rfl rfl ?_
      refine wx_getr is_0 ff_11_10 rfl rf_0_0 (by decide +kernel) ?_
      refine wx_blk (pc' := 22) (L' := [some (.ref 0), some (.int v1), some (.int v2), some (.int v3), some (.int v4), some (.int v5)]) (st' := [.int v1, .ref 1]) [.iload_n 1] (by decide +kernel) rfl rfl ?_
      refine wx_callV (d1 := 0) (As := [.int v1]) (rest := []) (by omega) is_1 (by decide) rfl cv_11_105 rfl (Nat.le_of_ble_eq_true rfl) (l_f8_isMissing G 0 (by omega) μ v1) rfl (by decide +kernel) (fun x3 => ?_)
      refine wx_if_ne 39 (off := 14) (by decide +kernel) (by decide) ?_ ?_
      · refine wx_weak (L' := [some (.ref 0), none, none, none, none, none]) ⟨rfl, trivial⟩ ?_
        refine l_f11_copy_j39 G d hd μ
      · refine wx_blk (pc' := 29) (L' := [some (.ref 0), some (.int v1), some (.int v2), some (.int v3), some (.int v4), some (.int v5)]) (st' := [.ref 0]) [.aload_n 0] (by decide +kernel) rfl rfl ?_
        refine wx_getr is_0 ff_11_10 rfl rf_0_0 (by decide +kernel) ?_
        refine wx_blk (pc' := 33) (L' := [some (.ref 0), some (.int v1), some (.int v2), some (.int v3), some (.int v4), some (.int v5)]) (st' := [.int v3, .ref 1]) [.iload_n 3] (by decide +kernel) rfl rfl ?_
        refine wx_callV (d1 := 0) (As := [.int v3]) (rest := []) (by omega) is_1 (by decide) rfl cv_11_105 rfl (Nat.le_of_ble_eq_true rfl) (l_f8_isMissing G 0 (by omega) μ v3) rfl (by decide +kernel) (fun x5 => ?_)
        refine wx_if_eq 45 (off := 9) (by decide +kernel) (by decide) ?_ ?_
        · refine wx_blk (pc' := 46) (L' := [some (.ref 0), some (.int v1), some (.int v2), some (.int v3), some (.int v4), some (.int v5)]) (st' := [.ref 0]) [.aload_n 0] (by decide +kernel) rfl rfl ?_
          refine wx_getr is_0 ff_11_10 rfl rf_0_0 (by decide +kernel) ?_
          refine wx_blk (pc' := 51) (L' := [some (.ref 0), some (.int v1), some (.int v2), some (.int v3), some (.int v4), some (.int v5)]) (st' := [.int v3, .int v1, .ref 1]) [.iload_n 1, .iload_n 3] (by decide +kernel) rfl rfl ?_
          refine wx_callV (d1 := 0) (As := [.int v1, .int v3]) (rest := []) (by omega) is_1 (by decide) rfl cv_11_116 rfl (Nat.le_of_ble_eq_true rfl) (l_f8_haveOneLane G 0 (by omega) μ v1 v3) rfl (by decide +kernel) (fun x6 => ?_)
          refine wx_if_ne 63 (off := 9) (by decide +kernel) (by decide) ?_ ?_
          · refine wx_blk (pc' := 64) (L' := [some (.ref 0), some (.int v1), some (.int v2), some (.int v3), some (.int v4), some (.int v5)]) (st' := [.ref 0]) [.aload_n 0] (by decide +kernel) rfl rfl ?_
            refine wx_getr is_0 ff_11_10 rfl rf_0_0 (by decide +kernel) ?_
            refine wx_blk (pc' := 71) (L' := [some (.ref 0), some (.int v1), some (.int v2), some (.int v3), some (.int v4), some (.int v5)]) (st' := [.int v5, .int v2, .int v1, .ref 1]) [.iload_n 1, .iload_n 2, .iload 5] (by decide +kernel) rfl rfl ?_
            refine wx_callV (d1 := 0) (As := [.int v1, .int v2, .int v5]) (rest := []) (by omega) is_1 (by decide) rfl cv_11_108 rfl (Nat.le_of_ble_eq_true rfl) (l_f8_hasPlaces G 0 (by omega) μ v1 v2 v5) rfl (by decide +kernel) (fun x7 => ?_)
            refine wx_if_eq 92 (off := 18) (by decide +kernel) (by decide) ?_ ?_
            · refine wx_weak (L' := [some (.ref 0), none, none, none, none, none]) ⟨rfl, trivial⟩ ?_
              refine l_f11_copy_j92 G d hd μ
            · refine wx_blk (pc' := 78) (L' := [some (.ref 0), some (.int v1), some (.int v2), some (.int v3), some (.int v4), some (.int v5)]) (st' := [.ref 0]) [.aload_n 0] (by decide +kernel) rfl rfl ?_
              refine wx_getr is_0 ff_11_10 rfl rf_0_0 (by decide +kernel) ?_
              refine wx_blk (pc' := 86) (L' := [some (.ref 0), some (.int v1), some (.int v2), some (.int v3), some (.int v4), some (.int v5)]) (st' := [.int v5, .int v4, .int v3, .ref 1]) [.iload_n 3, .iload 4, .iload 5] (by decide +kernel) rfl rfl ?_
              refine wx_callV (d1 := 0) (As := [.int v3, .int v4, .int v5]) (rest := []) (by omega) is_1 (by decide) rfl cv_11_108 rfl (Nat.le_of_ble_eq_true rfl) (l_f8_hasPlaces G 0 (by omega) μ v3 v4 v5) rfl (by decide +kernel) (fun x9 => ?_)
              refine wx_if_ne 98 (off := 9) (by decide +kernel) (by decide) ?_ ?_
              · refine wx_blk (pc' := 99) (L' := [some (.ref 0), some (.int v1), some (.int v2), some (.int v3), some (.int v4), some (.int v5)]) (st' := [.ref 0]) [.aload_n 0] (by decide +kernel) rfl rfl ?_
                refine wx_getr is_0 ff_11_10 rfl rf_0_0 (by decide +kernel) ?_
                refine wx_blk (pc' := 109) (L' := [some (.ref 0), some (.int v1), some (.int v2), some (.int v3), some (.int v4), some (.int v5)]) (st' := [.int v5, .int v4, .int v3, .int v2, .int v1, .ref 1]) [.iload_n 1, .iload_n 2, .iload_n 3, .iload 4, .iload 5] (by decide +kernel) rfl rfl ?_
                refine wx_callV (d1 := 1) (As := [.int v1, .int v2, .int v3, .int v4, .int v5]) (rest := []) (by omega) is_1 (by decide) rfl cv_11_120 rfl (Nat.le_of_ble_eq_true rfl) (l_f8_move G 1 (by omega) v1 v2 v3 v4 v5 μ) rfl (by decide +kernel) (fun μ10 => ?_)
                refine wx_blk (pc' := 115) (L' := [some (.ref 0), some (.int v1), some (.int v2), some (.int v3), some (.int v4), some (.int v5)]) (st' := [.int v5, .ref 0]) [.aload_n 0, .iload 5] (by decide +kernel) rfl rfl ?_
                refine wx_callV (d1 := 0) (As := [.int v5]) (rest := []) (by omega) is_0 (by decide) rfl cv_11_102 rfl (Nat.le_of_ble_eq_true rfl) (l_f11_withoutFinding G 0 (by omega) v5 μ10) rfl (by decide +kernel) (fun q11 => ?_)
                exact wx_iret rfl rfl (by decide +kernel)
              · refine wx_weak (L' := [some (.ref 0), none, none, none, none, none]) ⟨rfl, trivial⟩ ?_
                refine l_f11_copy_j92 G d hd μ
          · refine wx_blk (pc' := 59) (L' := [some (.ref 0), some (.int v1), some (.int v2), some (.int v3), some (.int v4), some (.int v5)]) (st' := [.int (5 : Int32), .ref 0]) [.aload_n 0, .iconst 5] (by decide +kernel) rfl rfl ?_
            refine wx_callV (d1 := 0) (As := [.int (5 : Int32)]) (rest := []) (by omega) is_0 (by decide) rfl cv_11_94 rfl (Nat.le_of_ble_eq_true rfl) (l_f11_finding G 0 (by omega) (5 : Int32) μ) rfl (by decide +kernel) (fun q12 => ?_)
            exact wx_iret rfl rfl (by decide +kernel)
        · refine wx_weak (L' := [some (.ref 0), none, none, none, none, none]) ⟨rfl, trivial⟩ ?_
          refine l_f11_copy_j39 G d hd μ
    · refine wx_ldc (v := -1000001) xw_513 (by decide +kernel) ?_
      exact wx_iret rfl rfl (by decide +kernel)
/-! WakingLayers$Sheets.lose(I)I -/
def f8_lose (v1 : Int32) (μ : xMu) : Option (Int32 × xMu) :=
  (x_ast μ 2 8 v1 (0 : Int32) fun μ1 =>
(x_ald μ1 4 8 v1 fun x2 =>
(some (x2, μ1))))
set_option maxHeartbeats 4000000 in
set_option maxRecDepth 100000 in
theorem l_f8_lose (G : xG) (d : Nat) (hd : 0 ≤ d) (v1 : Int32) (μ : xMu) : Mx G m8_lose d [.ref 1, .int v1] μ x_wim (f8_lose v1 μ) := by
  refine mx_enter ok8_lose [some (.ref 1), some (.int v1)] rfl (Nat.le_of_ble_eq_true rfl) ?_
  unfold f8_lose
  refine wx_blk (pc' := 1) (L' := [some (.ref 1), some (.int v1)]) (st' := [.ref 1]) [.aload_n 0] (by decide +kernel) rfl rfl ?_
  refine wx_getr is_1 ff_8_9 rfl rf_1_0 (by decide +kernel) ?_
  refine wx_blk (pc' := 6) (L' := [some (.ref 1), some (.int v1)]) (st' := [.int (0 : Int32), .int v1, .ref 2]) [.iload_n 1, .iconst 0] (by decide +kernel) rfl rfl ?_
  refine wx_zast is_2 sz_2 (by decide) (by decide +kernel) (fun μ1 => ?_)
  refine wx_blk (pc' := 8) (L' := [some (.ref 1), some (.int v1)]) (st' := [.ref 1]) [.aload_n 0] (by decide +kernel) rfl rfl ?_
  refine wx_getr is_1 ff_8_17 rfl rf_1_2 (by decide +kernel) ?_
  refine wx_blk (pc' := 12) (L' := [some (.ref 1), some (.int v1)]) (st' := [.int v1, .ref 4]) [.iload_n 1] (by decide +kernel) rfl rfl ?_
  refine wx_ald is_4 sz_4 (by decide +kernel) (fun x2 => ?_)
  exact wx_iret rfl rfl (by decide +kernel)
/-! WakingLayers.drop(I)I -/
def f11_drop (v1 : Int32) (μ : xMu) : Option (Int32 × xMu) :=
  ((f8_isSheet v1).bind fun x1 =>
(if x1 = 0 then
(some ((-1000001 : Int32), μ))
else
((f8_isMissing μ v1).bind fun x2 =>
(if x2 = 0 then
((f8_lose v1 μ).bind fun q3 =>
((f11_withoutFinding q3.1 q3.2).bind fun q4 =>
(some (q4.1, q4.2))))
else
((f11_finding (1 : Int32) μ).bind fun q5 =>
(some (q5.1, q5.2)))))))
set_option maxHeartbeats 4000000 in
set_option maxRecDepth 100000 in
theorem l_f11_drop (G : xG) (d : Nat) (hd : 1 ≤ d) (v1 : Int32) (μ : xMu) : Mx G m11_drop d [.ref 0, .int v1] μ x_wim (f11_drop v1 μ) := by
  refine mx_enter ok11_drop [some (.ref 0), some (.int v1)] rfl (Nat.le_of_ble_eq_true rfl) ?_
  unfold f11_drop
  refine wx_blk (pc' := 1) (L' := [some (.ref 0), some (.int v1)]) (st' := [.int v1]) [.iload_n 1] (by decide +kernel) rfl rfl ?_
  refine wx_callS (d1 := 0) (As := [.int v1]) (rest := []) (by omega) cs_11_86 rfl (Nat.le_of_ble_eq_true rfl) (l_f8_isSheet G 0 (by omega) μ v1) rfl (by decide +kernel) (fun x1 => ?_)
  refine wx_if_ne 10 (off := 6) (by decide +kernel) (by decide) ?_ ?_
  · refine wx_blk (pc' := 11) (L' := [some (.ref 0), some (.int v1)]) (st' := [.ref 0]) [.aload_n 0] (by decide +kernel) rfl rfl ?_
    refine wx_getr is_0 ff_11_10 rfl rf_0_0 (by decide +kernel) ?_
    refine wx_blk (pc' := 15) (L' := [some (.ref 0), some (.int v1)]) (st' := [.int v1, .ref 1]) [.iload_n 1] (by decide +kernel) rfl rfl ?_
    refine wx_callV (d1 := 0) (As := [.int v1]) (rest := []) (by omega) is_1 (by decide) rfl cv_11_105 rfl (Nat.le_of_ble_eq_true rfl) (l_f8_isMissing G 0 (by omega) μ v1) rfl (by decide +kernel) (fun x2 => ?_)
    refine wx_if_eq 27 (off := 9) (by decide +kernel) (by decide) ?_ ?_
    · refine wx_blk (pc' := 29) (L' := [some (.ref 0), some (.int v1)]) (st' := [.ref 0, .ref 0]) [.aload_n 0, .aload_n 0] (by decide +kernel) rfl rfl ?_
      refine wx_getr is_0 ff_11_10 rfl rf_0_0 (by decide +kernel) ?_
      refine wx_blk (pc' := 33) (L' := [some (.ref 0), some (.int v1)]) (st' := [.int v1, .ref 1, .ref 0]) [.iload_n 1] (by decide +kernel) rfl rfl ?_
      refine wx_callV (d1 := 0) (As := [.int v1]) (rest := [.ref 0]) (by omega) is_1 (by decide) rfl cv_11_124 rfl (Nat.le_of_ble_eq_true rfl) (l_f8_lose G 0 (by omega) v1 μ) rfl (by decide +kernel) (fun q3 => ?_)
      refine wx_callV (d1 := 0) (As := [.int q3.1]) (rest := []) (by omega) is_0 (by decide) rfl cv_11_102 rfl (Nat.le_of_ble_eq_true rfl) (l_f11_withoutFinding G 0 (by omega) q3.1 q3.2) rfl (by decide +kernel) (fun q4 => ?_)
      exact wx_iret rfl rfl (by decide +kernel)
    · refine wx_blk (pc' := 23) (L' := [some (.ref 0), some (.int v1)]) (st' := [.int (1 : Int32), .ref 0]) [.aload_n 0, .iconst 1] (by decide +kernel) rfl rfl ?_
      refine wx_callV (d1 := 0) (As := [.int (1 : Int32)]) (rest := []) (by omega) is_0 (by decide) rfl cv_11_94 rfl (Nat.le_of_ble_eq_true rfl) (l_f11_finding G 0 (by omega) (1 : Int32) μ) rfl (by decide +kernel) (fun q5 => ?_)
      exact wx_iret rfl rfl (by decide +kernel)
  · refine wx_ldc (v := -1000001) xw_513 (by decide +kernel) ?_
    exact wx_iret rfl rfl (by decide +kernel)
/-! WakingLayers$Tape.hasRoom(I)Z -/
def f10_hasRoom (μ : xMu) (v1 : Int32) : Option Int32 :=
  (if ((600 : Int32) - (μ 14 1)) < v1 then
(some (0 : Int32))
else
(some (1 : Int32)))
set_option maxHeartbeats 4000000 in
set_option maxRecDepth 100000 in
theorem l_f10_hasRoom (G : xG) (d : Nat) (hd : 0 ≤ d) (μ : xMu) (v1 : Int32) : Mx G m10_hasRoom d [.ref 14, .int v1] μ (x_wi μ) (f10_hasRoom μ v1) := by
  refine mx_enter ok10_hasRoom [some (.ref 14), some (.int v1)] rfl (Nat.le_of_ble_eq_true rfl) ?_
  unfold f10_hasRoom
  refine wx_blk (pc' := 5) (L' := [some (.ref 14), some (.int v1)]) (st' := [.ref 14, .int (600 : Int32), .int v1]) [.iload_n 1, .sipush 600, .aload_n 0] (by decide +kernel) rfl rfl ?_
  refine wx_geti is_14 ff_10_13 rfl (by decide +kernel) ?_
  refine wx_blk (pc' := 9) (L' := [some (.ref 14), some (.int v1)]) (st' := [.int ((600 : Int32) - (μ 14 1)), .int v1]) [.isub] (by decide +kernel) rfl rfl ?_
  refine wx_ic_gt 16 (off := 7) (by decide +kernel) (by decide) ?_ ?_
  · refine wx_blk (pc' := 17) (L' := [some (.ref 14), some (.int v1)]) (st' := [.int (0 : Int32)]) [.iconst 0] (by decide +kernel) rfl rfl ?_
    exact wx_zret rfl rfl (by decide) (by decide +kernel)
  · refine wx_blk (pc' := 13) (L' := [some (.ref 14), some (.int v1)]) (st' := [.int (1 : Int32)]) [.iconst 1] (by decide +kernel) rfl rfl ?_
    refine wx_goto 17 (off := 4) (by decide +kernel) (by decide) ?_
    exact wx_zret rfl rfl (by decide) (by decide +kernel)
/-! WakingLayers$Tape.append(JI)I -/
def f10_append_l5 (k47 : xMu → Option (Int32 × xMu)) : Nat → Int64 → Int32 → xMu → Option (Int32 × xMu)
  | 0, _, _, _ => none
  | n + 1, v1, v4, μ =>
  (if v4 < 0 then
(k47 μ)
else
(x_ast μ 15 600 (μ 14 1) ((Int64.toInt32 ((Int64.toUInt64 v1 >>> ((Int32.toInt64 ((8 : Int32) * v4)).toUInt64 &&& Int64.toUInt64 63)).toInt64)) &&& (255 : Int32)) fun μ1 =>
(x_put μ1 14 1 ((μ1 14 1) + (1 : Int32)) fun μ2 =>
((f10_append_l5 k47 n) v1 (v4 + (-1 : Int32)) μ2))))
set_option maxHeartbeats 4000000 in
set_option maxRecDepth 100000 in
theorem l_f10_append_l5 (G : xG) (d : Nat) (hd : 0 ≤ d) (k47 : xMu → Option (Int32 × xMu)) (h47 : ∀ (μ1 : xMu), Wx G m10_append d 47 [some (.ref 14), none, none, none, none] [] μ1 x_wim (k47 μ1)) : ∀ (n : Nat) (v1 : Int64) (v4 : Int32) (μ : xMu), Wx G m10_append d 5 [some (.ref 14), some (.long v1), none, none, some (.int v4)] [] μ x_wim (f10_append_l5 k47 n v1 v4 μ) := by
  intro n
  induction n with
  | zero => intro v1 v4 μ; exact wx_none
  | succ n h5 =>
    intro v1 v4 μ
    unfold f10_append_l5
    refine wx_blk (pc' := 7) (L' := [some (.ref 14), some (.long v1), none, none, some (.int v4)]) (st' := [.int v4]) [.iload 4] (by decide +kernel) rfl rfl ?_
    refine wx_if_lt 47 (off := 40) (by decide +kernel) (by decide) ?_ ?_
    · refine wx_weak (L' := [some (.ref 14), none, none, none, none]) ⟨rfl, trivial⟩ ?_
      exact h47 μ
    · refine wx_blk (pc' := 11) (L' := [some (.ref 14), some (.long v1), none, none, some (.int v4)]) (st' := [.ref 14]) [.aload_n 0] (by decide +kernel) rfl rfl ?_
      refine wx_getr is_14 ff_10_9 rfl rf_14_0 (by decide +kernel) ?_
      refine wx_blk (pc' := 15) (L' := [some (.ref 14), some (.long v1), none, none, some (.int v4)]) (st' := [.ref 14, .ref 15]) [.aload_n 0] (by decide +kernel) rfl rfl ?_
      refine wx_geti is_14 ff_10_13 rfl (by decide +kernel) ?_
      refine wx_blk (pc' := 30) (L' := [some (.ref 14), some (.long v1), none, none, some (.int v4)]) (st' := [.int ((Int64.toInt32 ((Int64.toUInt64 v1 >>> ((Int32.toInt64 ((8 : Int32) * v4)).toUInt64 &&& Int64.toUInt64 63)).toInt64)) &&& (255 : Int32)), .int (μ 14 1), .ref 15]) [.lload_n 1, .bipush 8, .iload 4, .imul, .lushr, .l2i, .sipush 255, .iand] (by decide +kernel) rfl rfl ?_
      refine wx_ast is_15 sz_15 (by decide +kernel) (fun μ1 => ?_)
      refine wx_blk (pc' := 33) (L' := [some (.ref 14), some (.long v1), none, none, some (.int v4)]) (st' := [.ref 14, .ref 14]) [.aload_n 0, .dup] (by decide +kernel) rfl rfl ?_
      refine wx_geti is_14 ff_10_13 rfl (by decide +kernel) ?_
      refine wx_blk (pc' := 38) (L' := [some (.ref 14), some (.long v1), none, none, some (.int v4)]) (st' := [.int ((μ1 14 1) + (1 : Int32)), .ref 14]) [.iconst 1, .iadd] (by decide +kernel) rfl rfl ?_
      refine wx_put is_14 ff_10_13 fp_10_1 ⟨rfl, rfl⟩ (by decide +kernel) (fun μ2 => ?_)
      refine wx_blk (pc' := 44) (L' := [some (.ref 14), some (.long v1), none, none, some (.int (v4 + (-1 : Int32)))]) (st' := []) [.iinc 4 (-1)] (by decide +kernel) rfl rfl ?_
      refine wx_goto 5 (off := -39) (by decide +kernel) (by decide) ?_
      exact h5 v1 (v4 + (-1 : Int32)) μ2
def f10_append (v1 : Int64) (v3 : Int32) (μ : xMu) : Option (Int32 × xMu) :=
  (f10_append_l5 (fun (μ3 : xMu) => (some ((μ3 14 1), μ3))) 1000 v1 (v3 - (1 : Int32)) μ)
set_option maxHeartbeats 4000000 in
set_option maxRecDepth 100000 in
theorem l_f10_append (G : xG) (d : Nat) (hd : 0 ≤ d) (v1 : Int64) (v3 : Int32) (μ : xMu) : Mx G m10_append d [.ref 14, .long v1, .int v3] μ x_wim (f10_append v1 v3 μ) := by
  refine mx_enter ok10_append [some (.ref 14), some (.long v1), none, some (.int v3), none] rfl (Nat.le_of_ble_eq_true rfl) ?_
  unfold f10_append
  refine wx_blk (pc' := 5) (L' := [some (.ref 14), some (.long v1), none, some (.int v3), some (.int (v3 - (1 : Int32)))]) (st' := []) [.iload_n 3, .iconst 1, .isub, .istore 4] (by decide +kernel) rfl rfl ?_
  refine wx_weak (L' := [some (.ref 14), some (.long v1), none, none, some (.int (v3 - (1 : Int32)))]) ⟨rfl, ⟨rfl, ⟨rfl, trivial⟩⟩⟩ ?_
  refine l_f10_append_l5 G d hd _ ?_ 1000 v1 (v3 - (1 : Int32)) μ
  · intro μ3
    refine wx_blk (pc' := 48) (L' := [some (.ref 14), none, none, none, none]) (st' := [.ref 14]) [.aload_n 0] (by decide +kernel) rfl rfl ?_
    refine wx_geti is_14 ff_10_13 rfl (by decide +kernel) ?_
    exact wx_iret rfl rfl (by decide +kernel)
/-! WakingLayers.feed(JI)I -/
def f11_feed (v1 : Int64) (v3 : Int32) (μ : xMu) : Option (Int32 × xMu) :=
  (if v3 < (1 : Int32) then
(some ((-1000001 : Int32), μ))
else
(if v3 ≤ (8 : Int32) then
((f10_hasRoom μ v3).bind fun x1 =>
(if x1 = 0 then
(some ((-1000003 : Int32), μ))
else
((f10_append v1 v3 μ).bind fun q2 =>
(some (q2.1, q2.2)))))
else
(some ((-1000001 : Int32), μ))))
set_option maxHeartbeats 4000000 in
set_option maxRecDepth 100000 in
theorem l_f11_feed (G : xG) (d : Nat) (hd : 1 ≤ d) (v1 : Int64) (v3 : Int32) (μ : xMu) : Mx G m11_feed d [.ref 0, .long v1, .int v3] μ x_wim (f11_feed v1 v3 μ) := by
  refine mx_enter ok11_feed [some (.ref 0), some (.long v1), none, some (.int v3)] rfl (Nat.le_of_ble_eq_true rfl) ?_
  unfold f11_feed
  refine wx_blk (pc' := 2) (L' := [some (.ref 0), some (.long v1), none, some (.int v3)]) (st' := [.int (1 : Int32), .int v3]) [.iload_n 3, .iconst 1] (by decide +kernel) rfl rfl ?_
  refine wx_ic_lt 11 (off := 9) (by decide +kernel) (by decide) ?_ ?_
  · refine wx_ldc (v := -1000001) xw_513 (by decide +kernel) ?_
    exact wx_iret rfl rfl (by decide +kernel)
  · refine wx_blk (pc' := 8) (L' := [some (.ref 0), some (.long v1), none, some (.int v3)]) (st' := [.int (8 : Int32), .int v3]) [.iload_n 3, .bipush 8] (by decide +kernel) rfl rfl ?_
    refine wx_ic_le 14 (off := 6) (by decide +kernel) (by decide) ?_ ?_
    · refine wx_blk (pc' := 15) (L' := [some (.ref 0), some (.long v1), none, some (.int v3)]) (st' := [.ref 0]) [.aload_n 0] (by decide +kernel) rfl rfl ?_
      refine wx_getr is_0 ff_11_19 rfl rf_0_1 (by decide +kernel) ?_
      refine wx_blk (pc' := 19) (L' := [some (.ref 0), some (.long v1), none, some (.int v3)]) (st' := [.int v3, .ref 14]) [.iload_n 3] (by decide +kernel) rfl rfl ?_
      refine wx_callV (d1 := 0) (As := [.int v3]) (rest := []) (by omega) is_14 (by decide) rfl cv_11_127 rfl (Nat.le_of_ble_eq_true rfl) (l_f10_hasRoom G 0 (by omega) μ v3) rfl (by decide +kernel) (fun x1 => ?_)
      refine wx_if_ne 28 (off := 6) (by decide +kernel) (by decide) ?_ ?_
      · refine wx_blk (pc' := 29) (L' := [some (.ref 0), some (.long v1), none, some (.int v3)]) (st' := [.ref 0]) [.aload_n 0] (by decide +kernel) rfl rfl ?_
        refine wx_getr is_0 ff_11_19 rfl rf_0_1 (by decide +kernel) ?_
        refine wx_blk (pc' := 34) (L' := [some (.ref 0), some (.long v1), none, some (.int v3)]) (st' := [.int v3, .long v1, .ref 14]) [.lload_n 1, .iload_n 3] (by decide +kernel) rfl rfl ?_
        refine wx_callV (d1 := 0) (As := [.long v1, .int v3]) (rest := []) (by omega) is_14 (by decide) rfl cv_11_131 rfl (Nat.le_of_ble_eq_true rfl) (l_f10_append G 0 (by omega) v1 v3 μ) rfl (by decide +kernel) (fun q2 => ?_)
        exact wx_iret rfl rfl (by decide +kernel)
      · refine wx_ldc (v := -1000003) xw_574 (by decide +kernel) ?_
        exact wx_iret rfl rfl (by decide +kernel)
    · refine wx_ldc (v := -1000001) xw_513 (by decide +kernel) ?_
      exact wx_iret rfl rfl (by decide +kernel)
/-! WakingLayers$Program.keepCounts()V -/
def f4_keepCounts (μ : xMu) : Option xMu :=
  (x_put μ 16 9 (μ 16 5) fun μ1 =>
(x_put μ1 16 10 (μ1 16 6) fun μ2 =>
(x_put μ2 16 11 (μ2 16 7) fun μ3 =>
(x_put μ3 16 12 (μ3 16 8) fun μ4 =>
(some μ4)))))
set_option maxHeartbeats 4000000 in
set_option maxRecDepth 100000 in
theorem l_f4_keepCounts (G : xG) (d : Nat) (hd : 0 ≤ d) (μ : xMu) : Mx G m4_keepCounts d [.ref 16] μ x_wv (f4_keepCounts μ) := by
  refine mx_enter ok4_keepCounts [some (.ref 16)] rfl (Nat.le_of_ble_eq_true rfl) ?_
  unfold f4_keepCounts
  refine wx_blk (pc' := 2) (L' := [some (.ref 16)]) (st' := [.ref 16, .ref 16]) [.aload_n 0, .aload_n 0] (by decide +kernel) rfl rfl ?_
  refine wx_geti is_16 ff_4_40 rfl (by decide +kernel) ?_
  refine wx_put is_16 ff_4_43 fp_4_9 ⟨rfl, rfl⟩ (by decide +kernel) (fun μ1 => ?_)
  refine wx_blk (pc' := 10) (L' := [some (.ref 16)]) (st' := [.ref 16, .ref 16]) [.aload_n 0, .aload_n 0] (by decide +kernel) rfl rfl ?_
  refine wx_geti is_16 ff_4_33 rfl (by decide +kernel) ?_
  refine wx_put is_16 ff_4_46 fp_4_10 ⟨rfl, rfl⟩ (by decide +kernel) (fun μ2 => ?_)
  refine wx_blk (pc' := 18) (L' := [some (.ref 16)]) (st' := [.ref 16, .ref 16]) [.aload_n 0, .aload_n 0] (by decide +kernel) rfl rfl ?_
  refine wx_geti is_16 ff_4_37 rfl (by decide +kernel) ?_
  refine wx_put is_16 ff_4_49 fp_4_11 ⟨rfl, rfl⟩ (by decide +kernel) (fun μ3 => ?_)
  refine wx_blk (pc' := 26) (L' := [some (.ref 16)]) (st' := [.ref 16, .ref 16]) [.aload_n 0, .aload_n 0] (by decide +kernel) rfl rfl ?_
  refine wx_geti is_16 ff_4_52 rfl (by decide +kernel) ?_
  refine wx_put is_16 ff_4_55 fp_4_12 ⟨rfl, rfl⟩ (by decide +kernel) (fun μ4 => ?_)
  exact wx_vret rfl rfl (by decide +kernel)
/-! WakingLayers$Tape.sortOf(I)I -/
def f10_sortOf_j57 (s0 : Int32) : Option Int32 :=
  (if s0 = 0 then
(some (0 : Int32))
else
(some (3 : Int32)))
set_option maxHeartbeats 4000000 in
set_option maxRecDepth 100000 in
theorem l_f10_sortOf_j57 (G : xG) (d : Nat) (hd : 0 ≤ d) (μ : xMu) (s0 : Int32) : Wx G m10_sortOf d 57 [none, none] [.int s0] μ (x_wi μ) (f10_sortOf_j57 s0) := by
  unfold f10_sortOf_j57
  refine wx_blk (pc' := 59) (L' := [none, some (.int s0)]) (st' := [.int s0]) [.istore_n 1, .iload_n 1] (by decide +kernel) rfl rfl ?_
  refine wx_if_eq 66 (off := 7) (by decide +kernel) (by decide) ?_ ?_
  · refine wx_blk (pc' := 67) (L' := [none, some (.int s0)]) (st' := [.int (0 : Int32)]) [.iconst 0] (by decide +kernel) rfl rfl ?_
    exact wx_iret rfl rfl (by decide +kernel)
  · refine wx_blk (pc' := 63) (L' := [none, some (.int s0)]) (st' := [.int (3 : Int32)]) [.iconst 3] (by decide +kernel) rfl rfl ?_
    refine wx_goto 67 (off := 4) (by decide +kernel) (by decide) ?_
    exact wx_iret rfl rfl (by decide +kernel)
def f10_sortOf_j52 : Option Int32 :=
  (f10_sortOf_j57 (1 : Int32))
set_option maxHeartbeats 4000000 in
set_option maxRecDepth 100000 in
theorem l_f10_sortOf_j52 (G : xG) (d : Nat) (hd : 0 ≤ d) (μ : xMu) : Wx G m10_sortOf d 52 [none, none] [] μ (x_wi μ) (f10_sortOf_j52) := by
  unfold f10_sortOf_j52
  refine wx_blk (pc' := 53) (L' := [none, none]) (st' := [.int (1 : Int32)]) [.iconst 1] (by decide +kernel) rfl rfl ?_
  refine wx_goto 57 (off := 4) (by decide +kernel) (by decide) ?_
  refine l_f10_sortOf_j57 G d hd μ (1 : Int32)
def f10_sortOf_j28 (v0 : Int32) : Option Int32 :=
  (if v0 = (59 : Int32) then
(f10_sortOf_j52)
else
(if v0 = (60 : Int32) then
(f10_sortOf_j52)
else
(if v0 = (62 : Int32) then
(f10_sortOf_j52)
else
(if v0 = (61 : Int32) then
(f10_sortOf_j52)
else
(f10_sortOf_j57 (0 : Int32))))))
set_option maxHeartbeats 4000000 in
set_option maxRecDepth 100000 in
theorem l_f10_sortOf_j28 (G : xG) (d : Nat) (hd : 0 ≤ d) (μ : xMu) (v0 : Int32) : Wx G m10_sortOf d 28 [some (.int v0), none] [] μ (x_wi μ) (f10_sortOf_j28 v0) := by
  unfold f10_sortOf_j28
  refine wx_blk (pc' := 31) (L' := [some (.int v0), none]) (st' := [.int (59 : Int32), .int v0]) [.iload_n 0, .bipush 59] (by decide +kernel) rfl rfl ?_
  refine wx_ic_eq 52 (off := 21) (by decide +kernel) (by decide) ?_ ?_
  · refine wx_weak (L' := [none, none]) trivial ?_
    refine l_f10_sortOf_j52 G d hd μ
  · refine wx_blk (pc' := 37) (L' := [some (.int v0), none]) (st' := [.int (60 : Int32), .int v0]) [.iload_n 0, .bipush 60] (by decide +kernel) rfl rfl ?_
    refine wx_ic_eq 52 (off := 15) (by decide +kernel) (by decide) ?_ ?_
    · refine wx_weak (L' := [none, none]) trivial ?_
      refine l_f10_sortOf_j52 G d hd μ
    · refine wx_blk (pc' := 43) (L' := [some (.int v0), none]) (st' := [.int (62 : Int32), .int v0]) [.iload_n 0, .bipush 62] (by decide +kernel) rfl rfl ?_
      refine wx_ic_eq 52 (off := 9) (by decide +kernel) (by decide) ?_ ?_
      · refine wx_weak (L' := [none, none]) trivial ?_
        refine l_f10_sortOf_j52 G d hd μ
      · refine wx_blk (pc' := 49) (L' := [some (.int v0), none]) (st' := [.int (61 : Int32), .int v0]) [.iload_n 0, .bipush 61] (by decide +kernel) rfl rfl ?_
        refine wx_ic_ne 56 (off := 7) (by decide +kernel) (by decide) ?_ ?_
        · refine wx_blk (pc' := 57) (L' := [some (.int v0), none]) (st' := [.int (0 : Int32)]) [.iconst 0] (by decide +kernel) rfl rfl ?_
          refine wx_weak (L' := [none, none]) trivial ?_
          refine l_f10_sortOf_j57 G d hd μ (0 : Int32)
        · refine wx_weak (L' := [none, none]) trivial ?_
          refine l_f10_sortOf_j52 G d hd μ
def f10_sortOf_j14 (v0 : Int32) : Option Int32 :=
  (if v0 < (48 : Int32) then
(f10_sortOf_j28 v0)
else
(if (57 : Int32) < v0 then
(f10_sortOf_j28 v0)
else
(some (2 : Int32))))
set_option maxHeartbeats 4000000 in
set_option maxRecDepth 100000 in
theorem l_f10_sortOf_j14 (G : xG) (d : Nat) (hd : 0 ≤ d) (μ : xMu) (v0 : Int32) : Wx G m10_sortOf d 14 [some (.int v0), none] [] μ (x_wi μ) (f10_sortOf_j14 v0) := by
  unfold f10_sortOf_j14
  refine wx_blk (pc' := 17) (L' := [some (.int v0), none]) (st' := [.int (48 : Int32), .int v0]) [.iload_n 0, .bipush 48] (by decide +kernel) rfl rfl ?_
  refine wx_ic_lt 28 (off := 11) (by decide +kernel) (by decide) ?_ ?_
  · refine l_f10_sortOf_j28 G d hd μ v0
  · refine wx_blk (pc' := 23) (L' := [some (.int v0), none]) (st' := [.int (57 : Int32), .int v0]) [.iload_n 0, .bipush 57] (by decide +kernel) rfl rfl ?_
    refine wx_ic_gt 28 (off := 5) (by decide +kernel) (by decide) ?_ ?_
    · refine l_f10_sortOf_j28 G d hd μ v0
    · refine wx_blk (pc' := 27) (L' := [some (.int v0), none]) (st' := [.int (2 : Int32)]) [.iconst 2] (by decide +kernel) rfl rfl ?_
      exact wx_iret rfl rfl (by decide +kernel)
def f10_sortOf (v0 : Int32) : Option Int32 :=
  (if v0 < (97 : Int32) then
(f10_sortOf_j14 v0)
else
(if (122 : Int32) < v0 then
(f10_sortOf_j14 v0)
else
(some (1 : Int32))))
set_option maxHeartbeats 4000000 in
set_option maxRecDepth 100000 in
theorem l_f10_sortOf (G : xG) (d : Nat) (hd : 0 ≤ d) (μ : xMu) (v0 : Int32) : Mx G m10_sortOf d [.int v0] μ (x_wi μ) (f10_sortOf v0) := by
  refine mx_enter ok10_sortOf [some (.int v0), none] rfl (Nat.le_of_ble_eq_true rfl) ?_
  unfold f10_sortOf
  refine wx_blk (pc' := 3) (L' := [some (.int v0), none]) (st' := [.int (97 : Int32), .int v0]) [.iload_n 0, .bipush 97] (by decide +kernel) rfl rfl ?_
  refine wx_ic_lt 14 (off := 11) (by decide +kernel) (by decide) ?_ ?_
  · refine l_f10_sortOf_j14 G d hd μ v0
  · refine wx_blk (pc' := 9) (L' := [some (.int v0), none]) (st' := [.int (122 : Int32), .int v0]) [.iload_n 0, .bipush 122] (by decide +kernel) rfl rfl ?_
    refine wx_ic_gt 14 (off := 5) (by decide +kernel) (by decide) ?_ ?_
    · refine l_f10_sortOf_j14 G d hd μ v0
    · refine wx_blk (pc' := 13) (L' := [some (.int v0), none]) (st' := [.int (1 : Int32)]) [.iconst 1] (by decide +kernel) rfl rfl ?_
      exact wx_iret rfl rfl (by decide +kernel)
