/-! WakingLayers$Tape.endOfRun(CC)I -/
def f10_endOfRun_l5 (μ : xMu) (k39 : Int32 → Option Int32) : Nat → Int32 → Int32 → Int32 → Option Int32
  | 0, _, _, _ => none
  | n + 1, v1, v2, v3 =>
  (if (μ 14 1) ≤ v3 then
(k39 v3)
else
(x_ald μ 15 600 v3 fun x1 =>
(if x1 < v1 then
(k39 v3)
else
(x_ald μ 15 600 v3 fun x2 =>
(if v2 < x2 then
(k39 v3)
else
((f10_endOfRun_l5 μ k39 n) v1 v2 (v3 + (1 : Int32))))))))
set_option maxHeartbeats 4000000 in
set_option maxRecDepth 100000 in
theorem l_f10_endOfRun_l5 (G : xG) (d : Nat) (hd : 0 ≤ d) (μ : xMu) (k39 : Int32 → Option Int32) (h39 : ∀ (v3 : Int32), Wx G m10_endOfRun d 39 [none, none, none, some (.int v3)] [] μ (x_wi μ) (k39 v3)) : ∀ (n : Nat) (v1 : Int32) (v2 : Int32) (v3 : Int32), Wx G m10_endOfRun d 5 [some (.ref 14), some (.int v1), some (.int v2), some (.int v3)] [] μ (x_wi μ) (f10_endOfRun_l5 μ k39 n v1 v2 v3) := by
  intro n
  induction n with
  | zero => intro v1 v2 v3; exact wx_none
  | succ n h5 =>
    intro v1 v2 v3
    unfold f10_endOfRun_l5
    refine wx_blk (pc' := 7) (L' := [some (.ref 14), some (.int v1), some (.int v2), some (.int v3)]) (st' := [.ref 14, .int v3]) [.iload_n 3, .aload_n 0] (by decide +kernel) rfl rfl ?_
    refine wx_geti is_14 ff_10_13 rfl (by decide +kernel) ?_
    refine wx_ic_ge 39 (off := 29) (by decide +kernel) (by decide) ?_ ?_
    · refine wx_weak (L' := [none, none, none, some (.int v3)]) ⟨rfl, trivial⟩ ?_
      exact h39 v3
    · refine wx_blk (pc' := 14) (L' := [some (.ref 14), some (.int v1), some (.int v2), some (.int v3)]) (st' := [.ref 14]) [.aload_n 0] (by decide +kernel) rfl rfl ?_
      refine wx_getr is_14 ff_10_9 rfl rf_14_0 (by decide +kernel) ?_
      refine wx_blk (pc' := 18) (L' := [some (.ref 14), some (.int v1), some (.int v2), some (.int v3)]) (st' := [.int v3, .ref 15]) [.iload_n 3] (by decide +kernel) rfl rfl ?_
      refine wx_ald is_15 sz_15 (by decide +kernel) (fun x1 => ?_)
      refine wx_blk (pc' := 20) (L' := [some (.ref 14), some (.int v1), some (.int v2), some (.int v3)]) (st' := [.int v1, .int x1]) [.iload_n 1] (by decide +kernel) rfl rfl ?_
      refine wx_ic_lt 39 (off := 19) (by decide +kernel) (by decide) ?_ ?_
      · refine wx_weak (L' := [none, none, none, some (.int v3)]) ⟨rfl, trivial⟩ ?_
        exact h39 v3
      · refine wx_blk (pc' := 24) (L' := [some (.ref 14), some (.int v1), some (.int v2), some (.int v3)]) (st' := [.ref 14]) [.aload_n 0] (by decide +kernel) rfl rfl ?_
        refine wx_getr is_14 ff_10_9 rfl rf_14_0 (by decide +kernel) ?_
        refine wx_blk (pc' := 28) (L' := [some (.ref 14), some (.int v1), some (.int v2), some (.int v3)]) (st' := [.int v3, .ref 15]) [.iload_n 3] (by decide +kernel) rfl rfl ?_
        refine wx_ald is_15 sz_15 (by decide +kernel) (fun x2 => ?_)
        refine wx_blk (pc' := 30) (L' := [some (.ref 14), some (.int v1), some (.int v2), some (.int v3)]) (st' := [.int v2, .int x2]) [.iload_n 2] (by decide +kernel) rfl rfl ?_
        refine wx_ic_gt 39 (off := 9) (by decide +kernel) (by decide) ?_ ?_
        · refine wx_weak (L' := [none, none, none, some (.int v3)]) ⟨rfl, trivial⟩ ?_
          exact h39 v3
        · refine wx_blk (pc' := 36) (L' := [some (.ref 14), some (.int v1), some (.int v2), some (.int (v3 + (1 : Int32)))]) (st' := []) [.iinc 3 1] (by decide +kernel) rfl rfl ?_
          refine wx_goto 5 (off := -31) (by decide +kernel) (by decide) ?_
          exact h5 v1 v2 (v3 + (1 : Int32))
def f10_endOfRun (μ : xMu) (v1 : Int32) (v2 : Int32) : Option Int32 :=
  (f10_endOfRun_l5 μ (fun (y3 : Int32) => (some y3)) 1000 v1 v2 (μ 14 3))
set_option maxHeartbeats 4000000 in
set_option maxRecDepth 100000 in
theorem l_f10_endOfRun (G : xG) (d : Nat) (hd : 0 ≤ d) (μ : xMu) (v1 : Int32) (v2 : Int32) : Mx G m10_endOfRun d [.ref 14, .int v1, .int v2] μ (x_wi μ) (f10_endOfRun μ v1 v2) := by
  refine mx_enter ok10_endOfRun [some (.ref 14), some (.int v1), some (.int v2), none] rfl (Nat.le_of_ble_eq_true rfl) ?_
  unfold f10_endOfRun
  refine wx_blk (pc' := 1) (L' := [some (.ref 14), some (.int v1), some (.int v2), none]) (st' := [.ref 14]) [.aload_n 0] (by decide +kernel) rfl rfl ?_
  refine wx_geti is_14 ff_10_23 rfl (by decide +kernel) ?_
  refine wx_blk (pc' := 5) (L' := [some (.ref 14), some (.int v1), some (.int v2), some (.int (μ 14 3))]) (st' := []) [.istore_n 3] (by decide +kernel) rfl rfl ?_
  refine l_f10_endOfRun_l5 G d hd μ _ ?_ 1000 v1 v2 (μ 14 3)
  · intro y3
    refine wx_blk (pc' := 40) (L' := [none, none, none, some (.int y3)]) (st' := [.int y3]) [.iload_n 3] (by decide +kernel) rfl rfl ?_
    exact wx_iret rfl rfl (by decide +kernel)
/-! WakingLayers$Tape.valueNumber()V -/
def f10_valueNumber_l29 (k64 : xMu → Option xMu) : Nat → Int32 → xMu → Option xMu
  | 0, _, _ => none
  | n + 1, v1, μ =>
  (if (μ 14 4) ≤ v1 then
(k64 μ)
else
(x_ald μ 15 600 v1 fun x2 =>
(x_put μ 14 5 ((((μ 14 5) * (10 : Int32)) + x2) - (48 : Int32)) fun μ3 =>
((f10_valueNumber_l29 k64 n) (v1 + (1 : Int32)) μ3))))
set_option maxHeartbeats 4000000 in
set_option maxRecDepth 100000 in
theorem l_f10_valueNumber_l29 (G : xG) (d : Nat) (hd : 0 ≤ d) (k64 : xMu → Option xMu) (h64 : ∀ (μ1 : xMu), Wx G m10_valueNumber d 64 [none, none] [] μ1 x_wv (k64 μ1)) : ∀ (n : Nat) (v1 : Int32) (μ : xMu), Wx G m10_valueNumber d 29 [some (.ref 14), some (.int v1)] [] μ x_wv (f10_valueNumber_l29 k64 n v1 μ) := by
  intro n
  induction n with
  | zero => intro v1 μ; exact wx_none
  | succ n h29 =>
    intro v1 μ
    unfold f10_valueNumber_l29
    refine wx_blk (pc' := 31) (L' := [some (.ref 14), some (.int v1)]) (st' := [.ref 14, .int v1]) [.iload_n 1, .aload_n 0] (by decide +kernel) rfl rfl ?_
    refine wx_geti is_14 ff_10_17 rfl (by decide +kernel) ?_
    refine wx_ic_ge 64 (off := 30) (by decide +kernel) (by decide) ?_ ?_
    · refine wx_weak (L' := [none, none]) trivial ?_
      exact h64 μ
    · refine wx_blk (pc' := 39) (L' := [some (.ref 14), some (.int v1)]) (st' := [.ref 14, .ref 14]) [.aload_n 0, .aload_n 0] (by decide +kernel) rfl rfl ?_
      refine wx_geti is_14 ff_10_40 rfl (by decide +kernel) ?_
      refine wx_blk (pc' := 46) (L' := [some (.ref 14), some (.int v1)]) (st' := [.ref 14, .int ((μ 14 5) * (10 : Int32)), .ref 14]) [.bipush 10, .imul, .aload_n 0] (by decide +kernel) rfl rfl ?_
      refine wx_getr is_14 ff_10_9 rfl rf_14_0 (by decide +kernel) ?_
      refine wx_blk (pc' := 50) (L' := [some (.ref 14), some (.int v1)]) (st' := [.int v1, .ref 15, .int ((μ 14 5) * (10 : Int32)), .ref 14]) [.iload_n 1] (by decide +kernel) rfl rfl ?_
      refine wx_ald is_15 sz_15 (by decide +kernel) (fun x2 => ?_)
      refine wx_blk (pc' := 55) (L' := [some (.ref 14), some (.int v1)]) (st' := [.int ((((μ 14 5) * (10 : Int32)) + x2) - (48 : Int32)), .ref 14]) [.iadd, .bipush 48, .isub] (by decide +kernel) rfl rfl ?_
      refine wx_put is_14 ff_10_40 fp_10_5 ⟨rfl, rfl⟩ (by decide +kernel) (fun μ3 => ?_)
      refine wx_blk (pc' := 61) (L' := [some (.ref 14), some (.int (v1 + (1 : Int32)))]) (st' := []) [.iinc 1 1] (by decide +kernel) rfl rfl ?_
      refine wx_goto 29 (off := -32) (by decide +kernel) (by decide) ?_
      exact h29 (v1 + (1 : Int32)) μ3
def f10_valueNumber (μ : xMu) : Option xMu :=
  (if ((μ 14 4) - (μ 14 3)) ≤ (3 : Int32) then
(x_put μ 14 5 (0 : Int32) fun μ1 =>
(f10_valueNumber_l29 (fun (μ4 : xMu) => (some μ4)) 1000 (μ1 14 3) μ1))
else
(x_put μ 14 2 (0 : Int32) fun μ5 =>
(some μ5)))
set_option maxHeartbeats 4000000 in
set_option maxRecDepth 100000 in
theorem l_f10_valueNumber (G : xG) (d : Nat) (hd : 0 ≤ d) (μ : xMu) : Mx G m10_valueNumber d [.ref 14] μ x_wv (f10_valueNumber μ) := by
  refine mx_enter ok10_valueNumber [some (.ref 14), none] rfl (Nat.le_of_ble_eq_true rfl) ?_
  unfold f10_valueNumber
  refine wx_blk (pc' := 1) (L' := [some (.ref 14), none]) (st' := [.ref 14]) [.aload_n 0] (by decide +kernel) rfl rfl ?_
  refine wx_geti is_14 ff_10_17 rfl (by decide +kernel) ?_
  refine wx_blk (pc' := 5) (L' := [some (.ref 14), none]) (st' := [.ref 14, .int (μ 14 4)]) [.aload_n 0] (by decide +kernel) rfl rfl ?_
  refine wx_geti is_14 ff_10_23 rfl (by decide +kernel) ?_
  refine wx_blk (pc' := 10) (L' := [some (.ref 14), none]) (st' := [.int (3 : Int32), .int ((μ 14 4) - (μ 14 3))]) [.isub, .iconst 3] (by decide +kernel) rfl rfl ?_
  refine wx_ic_le 19 (off := 9) (by decide +kernel) (by decide) ?_ ?_
  · refine wx_blk (pc' := 21) (L' := [some (.ref 14), none]) (st' := [.int (0 : Int32), .ref 14]) [.aload_n 0, .iconst 0] (by decide +kernel) rfl rfl ?_
    refine wx_put is_14 ff_10_40 fp_10_5 ⟨rfl, rfl⟩ (by decide +kernel) (fun μ1 => ?_)
    refine wx_blk (pc' := 25) (L' := [some (.ref 14), none]) (st' := [.ref 14]) [.aload_n 0] (by decide +kernel) rfl rfl ?_
    refine wx_geti is_14 ff_10_23 rfl (by decide +kernel) ?_
    refine wx_blk (pc' := 29) (L' := [some (.ref 14), some (.int (μ1 14 3))]) (st' := []) [.istore_n 1] (by decide +kernel) rfl rfl ?_
    refine l_f10_valueNumber_l29 G d hd _ ?_ 1000 (μ1 14 3) μ1
    · intro μ4
      exact wx_vret rfl rfl (by decide +kernel)
  · refine wx_blk (pc' := 15) (L' := [some (.ref 14), none]) (st' := [.int (0 : Int32), .ref 14]) [.aload_n 0, .iconst 0] (by decide +kernel) rfl rfl ?_
    refine wx_put is_14 ff_10_26 fp_10_2 ⟨rfl, rfl⟩ (by decide +kernel) (fun μ5 => ?_)
    exact wx_vret rfl rfl (by decide +kernel)
/-! WakingLayers$Tape.nextToken()V -/
def f10_nextToken_j47 (k8 : xMu → Option xMu) (μ : xMu) : Option xMu :=
  (x_put μ 14 3 ((μ 14 3) + (1 : Int32)) fun μ3 =>
(k8 μ3))
set_option maxHeartbeats 4000000 in
set_option maxRecDepth 100000 in
theorem l_f10_nextToken_j47 (G : xG) (d : Nat) (hd : 1 ≤ d) (k8 : xMu → Option xMu) (h8 : ∀ (μ1 : xMu), Wx G m10_nextToken d 8 [some (.ref 14)] [] μ1 x_wv (k8 μ1)) (μ : xMu) : Wx G m10_nextToken d 47 [some (.ref 14)] [] μ x_wv (f10_nextToken_j47 k8 μ) := by
  unfold f10_nextToken_j47
  refine wx_blk (pc' := 49) (L' := [some (.ref 14)]) (st' := [.ref 14, .ref 14]) [.aload_n 0, .dup] (by decide +kernel) rfl rfl ?_
  refine wx_geti is_14 ff_10_23 rfl (by decide +kernel) ?_
  refine wx_blk (pc' := 54) (L' := [some (.ref 14)]) (st' := [.int ((μ 14 3) + (1 : Int32)), .ref 14]) [.iconst 1, .iadd] (by decide +kernel) rfl rfl ?_
  refine wx_put is_14 ff_10_23 fp_10_3 ⟨rfl, rfl⟩ (by decide +kernel) (fun μ3 => ?_)
  refine wx_goto 8 (off := -49) (by decide +kernel) (by decide) ?_
  exact h8 μ3
def f10_nextToken_l8 (k60 : xMu → Option xMu) : Nat → xMu → Option xMu
  | 0, _ => none
  | n + 1, μ =>
  (if (μ 14 1) ≤ (μ 14 3) then
(k60 μ)
else
(x_ald μ 15 600 (μ 14 3) fun x2 =>
(if x2 = (32 : Int32) then
(f10_nextToken_j47 (f10_nextToken_l8 k60 n) μ)
else
(x_ald μ 15 600 (μ 14 3) fun x4 =>
(if x4 = (10 : Int32) then
(f10_nextToken_j47 (f10_nextToken_l8 k60 n) μ)
else
(k60 μ))))))
set_option maxHeartbeats 4000000 in
set_option maxRecDepth 100000 in
theorem l_f10_nextToken_l8 (G : xG) (d : Nat) (hd : 1 ≤ d) (k60 : xMu → Option xMu) (h60 : ∀ (μ1 : xMu), Wx G m10_nextToken d 60 [some (.ref 14)] [] μ1 x_wv (k60 μ1)) : ∀ (n : Nat) (μ : xMu), Wx G m10_nextToken d 8 [some (.ref 14)] [] μ x_wv (f10_nextToken_l8 k60 n μ) := by
  intro n
  induction n with
  | zero => intro μ; exact wx_none
  | succ n h8 =>
    intro μ
    unfold f10_nextToken_l8
    refine wx_blk (pc' := 9) (L' := [some (.ref 14)]) (st' := [.ref 14]) [.aload_n 0] (by decide +kernel) rfl rfl ?_
    refine wx_geti is_14 ff_10_23 rfl (by decide +kernel) ?_
    refine wx_blk (pc' := 13) (L' := [some (.ref 14)]) (st' := [.ref 14, .int (μ 14 3)]) [.aload_n 0] (by decide +kernel) rfl rfl ?_
    refine wx_geti is_14 ff_10_13 rfl (by decide +kernel) ?_
    refine wx_ic_ge 60 (off := 44) (by decide +kernel) (by decide) ?_ ?_
    · exact h60 μ
    · refine wx_blk (pc' := 20) (L' := [some (.ref 14)]) (st' := [.ref 14]) [.aload_n 0] (by decide +kernel) rfl rfl ?_
      refine wx_getr is_14 ff_10_9 rfl rf_14_0 (by decide +kernel) ?_
      refine wx_blk (pc' := 24) (L' := [some (.ref 14)]) (st' := [.ref 14, .ref 15]) [.aload_n 0] (by decide +kernel) rfl rfl ?_
      refine wx_geti is_14 ff_10_23 rfl (by decide +kernel) ?_
      refine wx_ald is_15 sz_15 (by decide +kernel) (fun x2 => ?_)
      refine wx_blk (pc' := 30) (L' := [some (.ref 14)]) (st' := [.int (32 : Int32), .int x2]) [.bipush 32] (by decide +kernel) rfl rfl ?_
      refine wx_ic_eq 47 (off := 17) (by decide +kernel) (by decide) ?_ ?_
      · refine l_f10_nextToken_j47 G d hd _ h8 μ
      · refine wx_blk (pc' := 34) (L' := [some (.ref 14)]) (st' := [.ref 14]) [.aload_n 0] (by decide +kernel) rfl rfl ?_
        refine wx_getr is_14 ff_10_9 rfl rf_14_0 (by decide +kernel) ?_
        refine wx_blk (pc' := 38) (L' := [some (.ref 14)]) (st' := [.ref 14, .ref 15]) [.aload_n 0] (by decide +kernel) rfl rfl ?_
        refine wx_geti is_14 ff_10_23 rfl (by decide +kernel) ?_
        refine wx_ald is_15 sz_15 (by decide +kernel) (fun x4 => ?_)
        refine wx_blk (pc' := 44) (L' := [some (.ref 14)]) (st' := [.int (10 : Int32), .int x4]) [.bipush 10] (by decide +kernel) rfl rfl ?_
        refine wx_ic_ne 60 (off := 16) (by decide +kernel) (by decide) ?_ ?_
        · exact h60 μ
        · refine l_f10_nextToken_j47 G d hd _ h8 μ
def f10_nextToken_j60 (μ : xMu) : Option xMu :=
  (if (μ 14 3) < (μ 14 1) then
(x_ald μ 15 600 (μ 14 3) fun x6 =>
((f10_sortOf x6).bind fun x7 =>
(x_put μ 14 2 x7 fun μ8 =>
(if (μ8 14 2) = (1 : Int32) then
((f10_endOfRun μ8 (97 : Int32) (122 : Int32)).bind fun x13 =>
(x_put μ8 14 4 x13 fun μ14 =>
(some μ14)))
else
(if (μ8 14 2) = (2 : Int32) then
((f10_endOfRun μ8 (48 : Int32) (57 : Int32)).bind fun x10 =>
(x_put μ8 14 4 x10 fun μ11 =>
((f10_valueNumber μ11).bind fun μ12 =>
(some μ12))))
else
(x_put μ8 14 4 ((μ8 14 3) + (1 : Int32)) fun μ9 =>
(some μ9)))))))
else
(x_put μ 14 2 (4 : Int32) fun μ15 =>
(some μ15)))
set_option maxHeartbeats 4000000 in
set_option maxRecDepth 100000 in
theorem l_f10_nextToken_j60 (G : xG) (d : Nat) (hd : 1 ≤ d) (μ : xMu) : Wx G m10_nextToken d 60 [some (.ref 14)] [] μ x_wv (f10_nextToken_j60 μ) := by
  unfold f10_nextToken_j60
  refine wx_blk (pc' := 61) (L' := [some (.ref 14)]) (st' := [.ref 14]) [.aload_n 0] (by decide +kernel) rfl rfl ?_
  refine wx_geti is_14 ff_10_23 rfl (by decide +kernel) ?_
  refine wx_blk (pc' := 65) (L' := [some (.ref 14)]) (st' := [.ref 14, .int (μ 14 3)]) [.aload_n 0] (by decide +kernel) rfl rfl ?_
  refine wx_geti is_14 ff_10_13 rfl (by decide +kernel) ?_
  refine wx_ic_lt 77 (off := 9) (by decide +kernel) (by decide) ?_ ?_
  · refine wx_blk (pc' := 79) (L' := [some (.ref 14)]) (st' := [.ref 14, .ref 14]) [.aload_n 0, .aload_n 0] (by decide +kernel) rfl rfl ?_
    refine wx_getr is_14 ff_10_9 rfl rf_14_0 (by decide +kernel) ?_
    refine wx_blk (pc' := 83) (L' := [some (.ref 14)]) (st' := [.ref 14, .ref 15, .ref 14]) [.aload_n 0] (by decide +kernel) rfl rfl ?_
    refine wx_geti is_14 ff_10_23 rfl (by decide +kernel) ?_
    refine wx_ald is_15 sz_15 (by decide +kernel) (fun x6 => ?_)
    refine wx_callS (d1 := 0) (As := [.int x6]) (rest := [.ref 14]) (by omega) cs_10_29 rfl (Nat.le_of_ble_eq_true rfl) (l_f10_sortOf G 0 (by omega) μ x6) rfl (by decide +kernel) (fun x7 => ?_)
    refine wx_put is_14 ff_10_26 fp_10_2 ⟨rfl, rfl⟩ (by decide +kernel) (fun μ8 => ?_)
    refine wx_blk (pc' := 94) (L' := [some (.ref 14)]) (st' := [.ref 14]) [.aload_n 0] (by decide +kernel) rfl rfl ?_
    refine wx_geti is_14 ff_10_26 rfl (by decide +kernel) ?_
    refine wx_blk (pc' := 98) (L' := [some (.ref 14)]) (st' := [.int (1 : Int32), .int (μ8 14 2)]) [.iconst 1] (by decide +kernel) rfl rfl ?_
    refine wx_ic_ne 116 (off := 18) (by decide +kernel) (by decide) ?_ ?_
    · refine wx_blk (pc' := 117) (L' := [some (.ref 14)]) (st' := [.ref 14]) [.aload_n 0] (by decide +kernel) rfl rfl ?_
      refine wx_geti is_14 ff_10_26 rfl (by decide +kernel) ?_
      refine wx_blk (pc' := 121) (L' := [some (.ref 14)]) (st' := [.int (2 : Int32), .int (μ8 14 2)]) [.iconst 2] (by decide +kernel) rfl rfl ?_
      refine wx_ic_ne 143 (off := 22) (by decide +kernel) (by decide) ?_ ?_
      · refine wx_blk (pc' := 145) (L' := [some (.ref 14)]) (st' := [.ref 14, .ref 14]) [.aload_n 0, .aload_n 0] (by decide +kernel) rfl rfl ?_
        refine wx_geti is_14 ff_10_23 rfl (by decide +kernel) ?_
        refine wx_blk (pc' := 150) (L' := [some (.ref 14)]) (st' := [.int ((μ8 14 3) + (1 : Int32)), .ref 14]) [.iconst 1, .iadd] (by decide +kernel) rfl rfl ?_
        refine wx_put is_14 ff_10_17 fp_10_4 ⟨rfl, rfl⟩ (by decide +kernel) (fun μ9 => ?_)
        exact wx_vret rfl rfl (by decide +kernel)
      · refine wx_blk (pc' := 130) (L' := [some (.ref 14)]) (st' := [.int (57 : Int32), .int (48 : Int32), .ref 14, .ref 14]) [.aload_n 0, .aload_n 0, .bipush 48, .bipush 57] (by decide +kernel) rfl rfl ?_
        refine wx_callV (d1 := 0) (As := [.int (48 : Int32), .int (57 : Int32)]) (rest := [.ref 14]) (by omega) is_14 (by decide) rfl cv_10_33 rfl (Nat.le_of_ble_eq_true rfl) (l_f10_endOfRun G 0 (by omega) μ8 (48 : Int32) (57 : Int32)) rfl (by decide +kernel) (fun x10 => ?_)
        refine wx_put is_14 ff_10_17 fp_10_4 ⟨rfl, rfl⟩ (by decide +kernel) (fun μ11 => ?_)
        refine wx_blk (pc' := 137) (L' := [some (.ref 14)]) (st' := [.ref 14]) [.aload_n 0] (by decide +kernel) rfl rfl ?_
        refine wx_callV (d1 := 0) (As := []) (rest := []) (by omega) is_14 (by decide) rfl cv_10_37 rfl (Nat.le_of_ble_eq_true rfl) (l_f10_valueNumber G 0 (by omega) μ11) rfl (by decide +kernel) (fun μ12 => ?_)
        refine wx_goto 153 (off := 13) (by decide +kernel) (by decide) ?_
        exact wx_vret rfl rfl (by decide +kernel)
    · refine wx_blk (pc' := 107) (L' := [some (.ref 14)]) (st' := [.int (122 : Int32), .int (97 : Int32), .ref 14, .ref 14]) [.aload_n 0, .aload_n 0, .bipush 97, .bipush 122] (by decide +kernel) rfl rfl ?_
      refine wx_callV (d1 := 0) (As := [.int (97 : Int32), .int (122 : Int32)]) (rest := [.ref 14]) (by omega) is_14 (by decide) rfl cv_10_33 rfl (Nat.le_of_ble_eq_true rfl) (l_f10_endOfRun G 0 (by omega) μ8 (97 : Int32) (122 : Int32)) rfl (by decide +kernel) (fun x13 => ?_)
      refine wx_put is_14 ff_10_17 fp_10_4 ⟨rfl, rfl⟩ (by decide +kernel) (fun μ14 => ?_)
      refine wx_goto 153 (off := 40) (by decide +kernel) (by decide) ?_
      exact wx_vret rfl rfl (by decide +kernel)
  · refine wx_blk (pc' := 73) (L' := [some (.ref 14)]) (st' := [.int (4 : Int32), .ref 14]) [.aload_n 0, .iconst 4] (by decide +kernel) rfl rfl ?_
    refine wx_put is_14 ff_10_26 fp_10_2 ⟨rfl, rfl⟩ (by decide +kernel) (fun μ15 => ?_)
    exact wx_vret rfl rfl (by decide +kernel)
def f10_nextToken (μ : xMu) : Option xMu :=
  (x_put μ 14 3 (μ 14 4) fun μ1 =>
(f10_nextToken_l8 (fun (μ5 : xMu) => (f10_nextToken_j60 μ5)) 1000 μ1))
set_option maxHeartbeats 4000000 in
set_option maxRecDepth 100000 in
theorem l_f10_nextToken (G : xG) (d : Nat) (hd : 1 ≤ d) (μ : xMu) : Mx G m10_nextToken d [.ref 14] μ x_wv (f10_nextToken μ) := by
  refine mx_enter ok10_nextToken [some (.ref 14)] rfl (Nat.le_of_ble_eq_true rfl) ?_
  unfold f10_nextToken
  refine wx_blk (pc' := 2) (L' := [some (.ref 14)]) (st' := [.ref 14, .ref 14]) [.aload_n 0, .aload_n 0] (by decide +kernel) rfl rfl ?_
  refine wx_geti is_14 ff_10_17 rfl (by decide +kernel) ?_
  refine wx_put is_14 ff_10_23 fp_10_3 ⟨rfl, rfl⟩ (by decide +kernel) (fun μ1 => ?_)
  refine l_f10_nextToken_l8 G d hd _ ?_ 1000 μ1
  · intro μ5
    refine l_f10_nextToken_j60 G d hd μ5
/-! WakingLayers$Tape.firstToken()V -/
def f10_firstToken (μ : xMu) : Option xMu :=
  (x_put μ 14 4 (0 : Int32) fun μ1 =>
((f10_nextToken μ1).bind fun μ2 =>
(some μ2)))
set_option maxHeartbeats 4000000 in
set_option maxRecDepth 100000 in
theorem l_f10_firstToken (G : xG) (d : Nat) (hd : 2 ≤ d) (μ : xMu) : Mx G m10_firstToken d [.ref 14] μ x_wv (f10_firstToken μ) := by
  refine mx_enter ok10_firstToken [some (.ref 14)] rfl (Nat.le_of_ble_eq_true rfl) ?_
  unfold f10_firstToken
  refine wx_blk (pc' := 2) (L' := [some (.ref 14)]) (st' := [.int (0 : Int32), .ref 14]) [.aload_n 0, .iconst 0] (by decide +kernel) rfl rfl ?_
  refine wx_put is_14 ff_10_17 fp_10_4 ⟨rfl, rfl⟩ (by decide +kernel) (fun μ1 => ?_)
  refine wx_blk (pc' := 6) (L' := [some (.ref 14)]) (st' := [.ref 14]) [.aload_n 0] (by decide +kernel) rfl rfl ?_
  refine wx_callV (d1 := 1) (As := []) (rest := []) (by omega) is_14 (by decide) rfl cv_10_20 rfl (Nat.le_of_ble_eq_true rfl) (l_f10_nextToken G 1 (by omega) μ1) rfl (by decide +kernel) (fun μ2 => ?_)
  exact wx_vret rfl rfl (by decide +kernel)
/-! WakingLayers$Tape.atEnd()Z -/
def f10_atEnd (μ : xMu) : Option Int32 :=
  (if (μ 14 2) = (4 : Int32) then
(some (1 : Int32))
else
(some (0 : Int32)))
set_option maxHeartbeats 4000000 in
set_option maxRecDepth 100000 in
theorem l_f10_atEnd (G : xG) (d : Nat) (hd : 0 ≤ d) (μ : xMu) : Mx G m10_atEnd d [.ref 14] μ (x_wi μ) (f10_atEnd μ) := by
  refine mx_enter ok10_atEnd [some (.ref 14)] rfl (Nat.le_of_ble_eq_true rfl) ?_
  unfold f10_atEnd
  refine wx_blk (pc' := 1) (L' := [some (.ref 14)]) (st' := [.ref 14]) [.aload_n 0] (by decide +kernel) rfl rfl ?_
  refine wx_geti is_14 ff_10_26 rfl (by decide +kernel) ?_
  refine wx_blk (pc' := 5) (L' := [some (.ref 14)]) (st' := [.int (4 : Int32), .int (μ 14 2)]) [.iconst 4] (by decide +kernel) rfl rfl ?_
  refine wx_ic_ne 12 (off := 7) (by decide +kernel) (by decide) ?_ ?_
  · refine wx_blk (pc' := 13) (L' := [some (.ref 14)]) (st' := [.int (0 : Int32)]) [.iconst 0] (by decide +kernel) rfl rfl ?_
    exact wx_zret rfl rfl (by decide) (by decide +kernel)
  · refine wx_blk (pc' := 9) (L' := [some (.ref 14)]) (st' := [.int (1 : Int32)]) [.iconst 1] (by decide +kernel) rfl rfl ?_
    refine wx_goto 13 (off := 4) (by decide +kernel) (by decide) ?_
    exact wx_zret rfl rfl (by decide) (by decide +kernel)
/-! WakingLayers$Tape.matches(Ljava/lang/String;I)Z -/
def f10_matches_l2 (μ : xMu) (k44 : Option Int32) : Nat → Nat → Int32 → Int32 → Option Int32
  | 0, _, _, _ => none
  | n + 1, v1, v2, v3 =>
  (if ((μ 14 4) - (μ 14 3)) ≤ v3 then
(k44)
else
(x_ald μ 15 600 ((μ 14 3) + v3) fun x1 =>
((x_schar v1 (v2 + v3)).bind fun x2 =>
(if x1 = x2 then
((f10_matches_l2 μ k44 n) v1 v2 (v3 + (1 : Int32)))
else
(some (0 : Int32))))))
set_option maxHeartbeats 4000000 in
set_option maxRecDepth 100000 in
theorem l_f10_matches_l2 (G : xG) (d : Nat) (hd : 4 ≤ d) (μ : xMu) (k44 : Option Int32) (h44 : Wx G m10_matches d 44 [none, none, none, none] [] μ (x_wi μ) (k44)) : ∀ (n : Nat) (v1 : Nat) (v2 : Int32) (v3 : Int32), Wx G m10_matches d 2 [some (.ref 14), some (.ref v1), some (.int v2), some (.int v3)] [] μ (x_wi μ) (f10_matches_l2 μ k44 n v1 v2 v3) := by
  intro n
  induction n with
  | zero => intro v1 v2 v3; exact wx_none
  | succ n h2 =>
    intro v1 v2 v3
    unfold f10_matches_l2
    refine wx_blk (pc' := 4) (L' := [some (.ref 14), some (.ref v1), some (.int v2), some (.int v3)]) (st' := [.ref 14, .int v3]) [.iload_n 3, .aload_n 0] (by decide +kernel) rfl rfl ?_
    refine wx_geti is_14 ff_10_17 rfl (by decide +kernel) ?_
    refine wx_blk (pc' := 8) (L' := [some (.ref 14), some (.ref v1), some (.int v2), some (.int v3)]) (st' := [.ref 14, .int (μ 14 4), .int v3]) [.aload_n 0] (by decide +kernel) rfl rfl ?_
    refine wx_geti is_14 ff_10_23 rfl (by decide +kernel) ?_
    refine wx_blk (pc' := 12) (L' := [some (.ref 14), some (.ref v1), some (.int v2), some (.int v3)]) (st' := [.int ((μ 14 4) - (μ 14 3)), .int v3]) [.isub] (by decide +kernel) rfl rfl ?_
    refine wx_ic_ge 44 (off := 32) (by decide +kernel) (by decide) ?_ ?_
    · refine wx_weak (L' := [none, none, none, none]) trivial ?_
      exact h44
    · refine wx_blk (pc' := 16) (L' := [some (.ref 14), some (.ref v1), some (.int v2), some (.int v3)]) (st' := [.ref 14]) [.aload_n 0] (by decide +kernel) rfl rfl ?_
      refine wx_getr is_14 ff_10_9 rfl rf_14_0 (by decide +kernel) ?_
      refine wx_blk (pc' := 20) (L' := [some (.ref 14), some (.ref v1), some (.int v2), some (.int v3)]) (st' := [.ref 14, .ref 15]) [.aload_n 0] (by decide +kernel) rfl rfl ?_
      refine wx_geti is_14 ff_10_23 rfl (by decide +kernel) ?_
      refine wx_blk (pc' := 25) (L' := [some (.ref 14), some (.ref v1), some (.int v2), some (.int v3)]) (st' := [.int ((μ 14 3) + v3), .ref 15]) [.iload_n 3, .iadd] (by decide +kernel) rfl rfl ?_
      refine wx_ald is_15 sz_15 (by decide +kernel) (fun x1 => ?_)
      refine wx_blk (pc' := 30) (L' := [some (.ref 14), some (.ref v1), some (.int v2), some (.int v3)]) (st' := [.int (v2 + v3), .ref v1, .int x1]) [.aload_n 1, .iload_n 2, .iload_n 3, .iadd] (by decide +kernel) rfl rfl ?_
      refine wx_schar (by omega) xw_633 (Nat.le_of_ble_eq_true rfl) (by decide +kernel) (fun x2 => ?_)
      refine wx_ic_eq 38 (off := 5) (by decide +kernel) (by decide) ?_ ?_
      · refine wx_blk (pc' := 41) (L' := [some (.ref 14), some (.ref v1), some (.int v2), some (.int (v3 + (1 : Int32)))]) (st' := []) [.iinc 3 1] (by decide +kernel) rfl rfl ?_
        refine wx_goto 2 (off := -39) (by decide +kernel) (by decide) ?_
        exact h2 v1 v2 (v3 + (1 : Int32))
      · refine wx_blk (pc' := 37) (L' := [some (.ref 14), some (.ref v1), some (.int v2), some (.int v3)]) (st' := [.int (0 : Int32)]) [.iconst 0] (by decide +kernel) rfl rfl ?_
        exact wx_zret rfl rfl (by decide) (by decide +kernel)
def f10_matches (μ : xMu) (v1 : Nat) (v2 : Int32) : Option Int32 :=
  (f10_matches_l2 μ (some (1 : Int32)) 1000 v1 v2 (0 : Int32))
set_option maxHeartbeats 4000000 in
set_option maxRecDepth 100000 in
theorem l_f10_matches (G : xG) (d : Nat) (hd : 4 ≤ d) (μ : xMu) (v1 : Nat) (v2 : Int32) : Mx G m10_matches d [.ref 14, .ref v1, .int v2] μ (x_wi μ) (f10_matches μ v1 v2) := by
  refine mx_enter ok10_matches [some (.ref 14), some (.ref v1), some (.int v2), none] rfl (Nat.le_of_ble_eq_true rfl) ?_
  unfold f10_matches
  refine wx_blk (pc' := 2) (L' := [some (.ref 14), some (.ref v1), some (.int v2), some (.int (0 : Int32))]) (st' := []) [.iconst 0, .istore_n 3] (by decide +kernel) rfl rfl ?_
  refine l_f10_matches_l2 G d hd μ _ ?_ 1000 v1 v2 (0 : Int32)
  · refine wx_blk (pc' := 45) (L' := [none, none, none, none]) (st' := [.int (1 : Int32)]) [.iconst 1] (by decide +kernel) rfl rfl ?_
    exact wx_zret rfl rfl (by decide) (by decide +kernel)
/-! WakingLayers$Tape.nameAmong(Ljava/lang/String;)I -/
def f10_nameAmong_l29 (μ : xMu) (k55 : Nat → Int32 → Int32 → Int32 → Option Int32) : Nat → Nat → Int32 → Int32 → Int32 → Option Int32
  | 0, _, _, _, _ => none
  | n + 1, v1, v2, v3, v4 =>
  ((x_slen v1).bind fun x2 =>
(if x2 ≤ v4 then
(k55 v1 v2 v3 v4)
else
((x_schar v1 v4).bind fun x3 =>
(if x3 = (32 : Int32) then
(k55 v1 v2 v3 v4)
else
((f10_nameAmong_l29 μ k55 n) v1 v2 v3 (v4 + (1 : Int32)))))))
set_option maxHeartbeats 4000000 in
set_option maxRecDepth 100000 in
theorem l_f10_nameAmong_l29 (G : xG) (d : Nat) (hd : 5 ≤ d) (μ : xMu) (k55 : Nat → Int32 → Int32 → Int32 → Option Int32) (h55 : ∀ (v1 : Nat) (v2 : Int32) (v3 : Int32) (v4 : Int32), Wx G m10_nameAmong d 55 [some (.ref 14), some (.ref v1), some (.int v2), some (.int v3), some (.int v4)] [] μ (x_wi μ) (k55 v1 v2 v3 v4)) : ∀ (n : Nat) (v1 : Nat) (v2 : Int32) (v3 : Int32) (v4 : Int32), Wx G m10_nameAmong d 29 [some (.ref 14), some (.ref v1), some (.int v2), some (.int v3), some (.int v4)] [] μ (x_wi μ) (f10_nameAmong_l29 μ k55 n v1 v2 v3 v4) := by
  intro n
  induction n with
  | zero => intro v1 v2 v3 v4; exact wx_none
  | succ n h29 =>
    intro v1 v2 v3 v4
    unfold f10_nameAmong_l29
    refine wx_blk (pc' := 32) (L' := [some (.ref 14), some (.ref v1), some (.int v2), some (.int v3), some (.int v4)]) (st' := [.ref v1, .int v4]) [.iload 4, .aload_n 1] (by decide +kernel) rfl rfl ?_
    refine wx_slen (by omega) xw_623 (Nat.le_of_ble_eq_true rfl) (by decide +kernel) (fun x2 => ?_)
    refine wx_ic_ge 55 (off := 20) (by decide +kernel) (by decide) ?_ ?_
    · exact h55 v1 v2 v3 v4
    · refine wx_blk (pc' := 41) (L' := [some (.ref 14), some (.ref v1), some (.int v2), some (.int v3), some (.int v4)]) (st' := [.int v4, .ref v1]) [.aload_n 1, .iload 4] (by decide +kernel) rfl rfl ?_
      refine wx_schar (by omega) xw_633 (Nat.le_of_ble_eq_true rfl) (by decide +kernel) (fun x3 => ?_)
      refine wx_blk (pc' := 46) (L' := [some (.ref 14), some (.ref v1), some (.int v2), some (.int v3), some (.int v4)]) (st' := [.int (32 : Int32), .int x3]) [.bipush 32] (by decide +kernel) rfl rfl ?_
      refine wx_ic_eq 55 (off := 9) (by decide +kernel) (by decide) ?_ ?_
      · exact h55 v1 v2 v3 v4
      · refine wx_blk (pc' := 52) (L' := [some (.ref 14), some (.ref v1), some (.int v2), some (.int v3), some (.int (v4 + (1 : Int32)))]) (st' := []) [.iinc 4 1] (by decide +kernel) rfl rfl ?_
        refine wx_goto 29 (off := -23) (by decide +kernel) (by decide) ?_
        exact h29 v1 v2 v3 (v4 + (1 : Int32))
def f10_nameAmong_j82 (μ : xMu) (k4 : Nat → Int32 → Int32 → Option Int32) (v1 : Nat) (v3 : Int32) (v4 : Int32) : Option Int32 :=
  (k4 v1 (v4 + (1 : Int32)) (v3 + (1 : Int32)))
set_option maxHeartbeats 4000000 in
set_option maxRecDepth 100000 in
theorem l_f10_nameAmong_j82 (G : xG) (d : Nat) (hd : 5 ≤ d) (μ : xMu) (k4 : Nat → Int32 → Int32 → Option Int32) (h4 : ∀ (v1 : Nat) (v2 : Int32) (v3 : Int32), Wx G m10_nameAmong d 4 [some (.ref 14), some (.ref v1), some (.int v2), some (.int v3), none] [] μ (x_wi μ) (k4 v1 v2 v3)) (v1 : Nat) (v3 : Int32) (v4 : Int32) : Wx G m10_nameAmong d 82 [some (.ref 14), some (.ref v1), none, some (.int v3), some (.int v4)] [] μ (x_wi μ) (f10_nameAmong_j82 μ k4 v1 v3 v4) := by
  unfold f10_nameAmong_j82
  refine wx_blk (pc' := 90) (L' := [some (.ref 14), some (.ref v1), some (.int (v4 + (1 : Int32))), some (.int (v3 + (1 : Int32))), some (.int v4)]) (st' := []) [.iload 4, .iconst 1, .iadd, .istore_n 2, .iinc 3 1] (by decide +kernel) rfl rfl ?_
  refine wx_goto 4 (off := -86) (by decide +kernel) (by decide) ?_
  refine wx_weak (L' := [some (.ref 14), some (.ref v1), some (.int (v4 + (1 : Int32))), some (.int (v3 + (1 : Int32))), none]) ⟨rfl, ⟨rfl, ⟨rfl, ⟨rfl, trivial⟩⟩⟩⟩ ?_
  exact h4 v1 (v4 + (1 : Int32)) (v3 + (1 : Int32))
def f10_nameAmong_j55 (μ : xMu) (k4 : Nat → Int32 → Int32 → Option Int32) (v1 : Nat) (v2 : Int32) (v3 : Int32) (v4 : Int32) : Option Int32 :=
  (if (v4 - v2) = ((μ 14 4) - (μ 14 3)) then
((f10_matches μ v1 v2).bind fun x8 =>
(if x8 = 0 then
(f10_nameAmong_j82 μ k4 v1 v3 v4)
else
(some v3)))
else
(f10_nameAmong_j82 μ k4 v1 v3 v4))
set_option maxHeartbeats 4000000 in
set_option maxRecDepth 100000 in
theorem l_f10_nameAmong_j55 (G : xG) (d : Nat) (hd : 5 ≤ d) (μ : xMu) (k4 : Nat → Int32 → Int32 → Option Int32) (h4 : ∀ (v1 : Nat) (v2 : Int32) (v3 : Int32), Wx G m10_nameAmong d 4 [some (.ref 14), some (.ref v1), some (.int v2), some (.int v3), none] [] μ (x_wi μ) (k4 v1 v2 v3)) (v1 : Nat) (v2 : Int32) (v3 : Int32) (v4 : Int32) : Wx G m10_nameAmong d 55 [some (.ref 14), some (.ref v1), some (.int v2), some (.int v3), some (.int v4)] [] μ (x_wi μ) (f10_nameAmong_j55 μ k4 v1 v2 v3 v4) := by
  unfold f10_nameAmong_j55
  refine wx_blk (pc' := 60) (L' := [some (.ref 14), some (.ref v1), some (.int v2), some (.int v3), some (.int v4)]) (st' := [.ref 14, .int (v4 - v2)]) [.iload 4, .iload_n 2, .isub, .aload_n 0] (by decide +kernel) rfl rfl ?_
  refine wx_geti is_14 ff_10_17 rfl (by decide +kernel) ?_
  refine wx_blk (pc' := 64) (L' := [some (.ref 14), some (.ref v1), some (.int v2), some (.int v3), some (.int v4)]) (st' := [.ref 14, .int (μ 14 4), .int (v4 - v2)]) [.aload_n 0] (by decide +kernel) rfl rfl ?_
  refine wx_geti is_14 ff_10_23 rfl (by decide +kernel) ?_
  refine wx_blk (pc' := 68) (L' := [some (.ref 14), some (.ref v1), some (.int v2), some (.int v3), some (.int v4)]) (st' := [.int ((μ 14 4) - (μ 14 3)), .int (v4 - v2)]) [.isub] (by decide +kernel) rfl rfl ?_
  refine wx_ic_ne 82 (off := 14) (by decide +kernel) (by decide) ?_ ?_
  · refine wx_weak (L' := [some (.ref 14), some (.ref v1), none, some (.int v3), some (.int v4)]) ⟨rfl, ⟨rfl, ⟨rfl, ⟨rfl, trivial⟩⟩⟩⟩ ?_
    refine l_f10_nameAmong_j82 G d hd μ _ h4 v1 v3 v4
  · refine wx_blk (pc' := 74) (L' := [some (.ref 14), some (.ref v1), some (.int v2), some (.int v3), some (.int v4)]) (st' := [.int v2, .ref v1, .ref 14]) [.aload_n 0, .aload_n 1, .iload_n 2] (by decide +kernel) rfl rfl ?_
    refine wx_callV (d1 := 4) (As := [.ref v1, .int v2]) (rest := []) (by omega) is_14 (by decide) rfl cv_10_48 rfl (Nat.le_of_ble_eq_true rfl) (l_f10_matches G 4 (by omega) μ v1 v2) rfl (by decide +kernel) (fun x8 => ?_)
    refine wx_if_eq 82 (off := 5) (by decide +kernel) (by decide) ?_ ?_
    · refine wx_weak (L' := [some (.ref 14), some (.ref v1), none, some (.int v3), some (.int v4)]) ⟨rfl, ⟨rfl, ⟨rfl, ⟨rfl, trivial⟩⟩⟩⟩ ?_
      refine l_f10_nameAmong_j82 G d hd μ _ h4 v1 v3 v4
    · refine wx_blk (pc' := 81) (L' := [some (.ref 14), some (.ref v1), some (.int v2), some (.int v3), some (.int v4)]) (st' := [.int v3]) [.iload_n 3] (by decide +kernel) rfl rfl ?_
      exact wx_iret rfl rfl (by decide +kernel)
def f10_nameAmong_l4 (μ : xMu) (k93 : Option Int32) : Nat → Nat → Int32 → Int32 → Option Int32
  | 0, _, _, _ => none
  | n + 1, v1, v2, v3 =>
  (if (8 : Int32) ≤ v3 then
(k93)
else
(if (μ 14 2) = (1 : Int32) then
((x_slen v1).bind fun x1 =>
(if x1 ≤ v2 then
(k93)
else
(f10_nameAmong_l29 μ (fun (y4 : Nat) (y5 : Int32) (y6 : Int32) (y7 : Int32) => (f10_nameAmong_j55 μ (f10_nameAmong_l4 μ k93 n) y4 y5 y6 y7)) 1000 v1 v2 v3 v2)))
else
(k93)))
set_option maxHeartbeats 4000000 in
set_option maxRecDepth 100000 in
theorem l_f10_nameAmong_l4 (G : xG) (d : Nat) (hd : 5 ≤ d) (μ : xMu) (k93 : Option Int32) (h93 : Wx G m10_nameAmong d 93 [none, none, none, none, none] [] μ (x_wi μ) (k93)) : ∀ (n : Nat) (v1 : Nat) (v2 : Int32) (v3 : Int32), Wx G m10_nameAmong d 4 [some (.ref 14), some (.ref v1), some (.int v2), some (.int v3), none] [] μ (x_wi μ) (f10_nameAmong_l4 μ k93 n v1 v2 v3) := by
  intro n
  induction n with
  | zero => intro v1 v2 v3; exact wx_none
  | succ n h4 =>
    intro v1 v2 v3
    unfold f10_nameAmong_l4
    refine wx_blk (pc' := 7) (L' := [some (.ref 14), some (.ref v1), some (.int v2), some (.int v3), none]) (st' := [.int (8 : Int32), .int v3]) [.iload_n 3, .bipush 8] (by decide +kernel) rfl rfl ?_
    refine wx_ic_ge 93 (off := 86) (by decide +kernel) (by decide) ?_ ?_
    · refine wx_weak (L' := [none, none, none, none, none]) trivial ?_
      exact h93
    · refine wx_blk (pc' := 11) (L' := [some (.ref 14), some (.ref v1), some (.int v2), some (.int v3), none]) (st' := [.ref 14]) [.aload_n 0] (by decide +kernel) rfl rfl ?_
      refine wx_geti is_14 ff_10_26 rfl (by decide +kernel) ?_
      refine wx_blk (pc' := 15) (L' := [some (.ref 14), some (.ref v1), some (.int v2), some (.int v3), none]) (st' := [.int (1 : Int32), .int (μ 14 2)]) [.iconst 1] (by decide +kernel) rfl rfl ?_
      refine wx_ic_ne 93 (off := 78) (by decide +kernel) (by decide) ?_ ?_
      · refine wx_weak (L' := [none, none, none, none, none]) trivial ?_
        exact h93
      · refine wx_blk (pc' := 20) (L' := [some (.ref 14), some (.ref v1), some (.int v2), some (.int v3), none]) (st' := [.ref v1, .int v2]) [.iload_n 2, .aload_n 1] (by decide +kernel) rfl rfl ?_
        refine wx_slen (by omega) xw_623 (Nat.le_of_ble_eq_true rfl) (by decide +kernel) (fun x1 => ?_)
        refine wx_ic_ge 93 (off := 70) (by decide +kernel) (by decide) ?_ ?_
        · refine wx_weak (L' := [none, none, none, none, none]) trivial ?_
          exact h93
        · refine wx_blk (pc' := 29) (L' := [some (.ref 14), some (.ref v1), some (.int v2), some (.int v3), some (.int v2)]) (st' := []) [.iload_n 2, .istore 4] (by decide +kernel) rfl rfl ?_
          refine l_f10_nameAmong_l29 G d hd μ _ ?_ 1000 v1 v2 v3 v2
          · intro y4 y5 y6 y7
            refine l_f10_nameAmong_j55 G d hd μ _ h4 y4 y5 y6 y7
def f10_nameAmong (μ : xMu) (v1 : Nat) : Option Int32 :=
  (f10_nameAmong_l4 μ (some (-1 : Int32)) 1000 v1 (0 : Int32) (0 : Int32))
set_option maxHeartbeats 4000000 in
set_option maxRecDepth 100000 in
theorem l_f10_nameAmong (G : xG) (d : Nat) (hd : 5 ≤ d) (μ : xMu) (v1 : Nat) : Mx G m10_nameAmong d [.ref 14, .ref v1] μ (x_wi μ) (f10_nameAmong μ v1) := by
  refine mx_enter ok10_nameAmong [some (.ref 14), some (.ref v1), none, none, none] rfl (Nat.le_of_ble_eq_true rfl) ?_
  unfold f10_nameAmong
  refine wx_blk (pc' := 4) (L' := [some (.ref 14), some (.ref v1), some (.int (0 : Int32)), some (.int (0 : Int32)), none]) (st' := []) [.iconst 0, .istore_n 2, .iconst 0, .istore_n 3] (by decide +kernel) rfl rfl ?_
  refine l_f10_nameAmong_l4 G d hd μ _ ?_ 1000 v1 (0 : Int32) (0 : Int32)
  · refine wx_blk (pc' := 94) (L' := [none, none, none, none, none]) (st' := [.int (-1 : Int32)]) [.iconst (-1)] (by decide +kernel) rfl rfl ?_
    exact wx_iret rfl rfl (by decide +kernel)
/-! WakingLayers$Tape.tokenStart()I -/
def f10_tokenStart (μ : xMu) : Option Int32 :=
  (some (μ 14 3))
set_option maxHeartbeats 4000000 in
set_option maxRecDepth 100000 in
theorem l_f10_tokenStart (G : xG) (d : Nat) (hd : 0 ≤ d) (μ : xMu) : Mx G m10_tokenStart d [.ref 14] μ (x_wi μ) (f10_tokenStart μ) := by
  refine mx_enter ok10_tokenStart [some (.ref 14)] rfl (Nat.le_of_ble_eq_true rfl) ?_
  unfold f10_tokenStart
  refine wx_blk (pc' := 1) (L' := [some (.ref 14)]) (st' := [.ref 14]) [.aload_n 0] (by decide +kernel) rfl rfl ?_
  refine wx_geti is_14 ff_10_23 rfl (by decide +kernel) ?_
  exact wx_iret rfl rfl (by decide +kernel)
/-! WakingLayers$Reader.refuse(I)V -/
def f5_refuse (v1 : Int32) (μ : xMu) : Option xMu :=
  (if (μ 126 2) = 0 then
(x_put μ 126 2 (1 : Int32) fun μ1 =>
(x_put μ1 126 4 v1 fun μ2 =>
((f10_tokenStart μ2).bind fun x3 =>
(x_put μ2 126 3 x3 fun μ4 =>
(some μ4)))))
else
(some μ))
set_option maxHeartbeats 4000000 in
set_option maxRecDepth 100000 in
theorem l_f5_refuse (G : xG) (d : Nat) (hd : 1 ≤ d) (v1 : Int32) (μ : xMu) : Mx G m5_refuse d [.ref 126, .int v1] μ x_wv (f5_refuse v1 μ) := by
  refine mx_enter ok5_refuse [some (.ref 126), some (.int v1)] rfl (Nat.le_of_ble_eq_true rfl) ?_
  unfold f5_refuse
  refine wx_blk (pc' := 1) (L' := [some (.ref 126), some (.int v1)]) (st' := [.ref 126]) [.aload_n 0] (by decide +kernel) rfl rfl ?_
  refine wx_geti is_126 ff_5_23 rfl (by decide +kernel) ?_
  refine wx_if_ne 28 (off := 24) (by decide +kernel) (by decide) ?_ ?_
  · exact wx_vret rfl rfl (by decide +kernel)
  · refine wx_blk (pc' := 9) (L' := [some (.ref 126), some (.int v1)]) (st' := [.int (1 : Int32), .ref 126]) [.aload_n 0, .iconst 1] (by decide +kernel) rfl rfl ?_
    refine wx_put is_126 ff_5_23 fp_5_2 ⟨by decide, by decide⟩ (by decide +kernel) (fun μ1 => ?_)
    refine wx_blk (pc' := 14) (L' := [some (.ref 126), some (.int v1)]) (st' := [.int v1, .ref 126]) [.aload_n 0, .iload_n 1] (by decide +kernel) rfl rfl ?_
    refine wx_put is_126 ff_5_19 fp_5_4 ⟨rfl, rfl⟩ (by decide +kernel) (fun μ2 => ?_)
    refine wx_blk (pc' := 19) (L' := [some (.ref 126), some (.int v1)]) (st' := [.ref 126, .ref 126]) [.aload_n 0, .aload_n 0] (by decide +kernel) rfl rfl ?_
    refine wx_getr is_126 ff_5_9 rfl rf_126_0 (by decide +kernel) ?_
    refine wx_callV (d1 := 0) (As := []) (rest := [.ref 126]) (by omega) is_14 (by decide) rfl cv_5_204 rfl (Nat.le_of_ble_eq_true rfl) (l_f10_tokenStart G 0 (by omega) μ2) rfl (by decide +kernel) (fun x3 => ?_)
    refine wx_put is_126 ff_5_50 fp_5_3 ⟨rfl, rfl⟩ (by decide +kernel) (fun μ4 => ?_)
    exact wx_vret rfl rfl (by decide +kernel)
/-! WakingLayers$Reader.takeFirstWord(II)V -/
def f5_takeFirstWord (v1 : Int32) (v2 : Int32) (μ : xMu) : Option xMu :=
  (if v1 < v2 then
((f10_nextToken μ).bind fun μ1 =>
(some μ1))
else
((f5_refuse (3 : Int32) μ).bind fun μ2 =>
(some μ2)))
set_option maxHeartbeats 4000000 in
set_option maxRecDepth 100000 in
theorem l_f5_takeFirstWord (G : xG) (d : Nat) (hd : 2 ≤ d) (v1 : Int32) (v2 : Int32) (μ : xMu) : Mx G m5_takeFirstWord d [.ref 126, .int v1, .int v2] μ x_wv (f5_takeFirstWord v1 v2 μ) := by
  refine mx_enter ok5_takeFirstWord [some (.ref 126), some (.int v1), some (.int v2)] rfl (Nat.le_of_ble_eq_true rfl) ?_
  unfold f5_takeFirstWord
  refine wx_blk (pc' := 2) (L' := [some (.ref 126), some (.int v1), some (.int v2)]) (st' := [.int v2, .int v1]) [.iload_n 1, .iload_n 2] (by decide +kernel) rfl rfl ?_
  refine wx_ic_lt 13 (off := 11) (by decide +kernel) (by decide) ?_ ?_
  · refine wx_blk (pc' := 14) (L' := [some (.ref 126), some (.int v1), some (.int v2)]) (st' := [.ref 126]) [.aload_n 0] (by decide +kernel) rfl rfl ?_
    refine wx_getr is_126 ff_5_9 rfl rf_126_0 (by decide +kernel) ?_
    refine wx_callV (d1 := 1) (As := []) (rest := []) (by omega) is_14 (by decide) rfl cv_5_88 rfl (Nat.le_of_ble_eq_true rfl) (l_f10_nextToken G 1 (by omega) μ) rfl (by decide +kernel) (fun μ1 => ?_)
    exact wx_vret rfl rfl (by decide +kernel)
  · refine wx_blk (pc' := 7) (L' := [some (.ref 126), some (.int v1), some (.int v2)]) (st' := [.int (3 : Int32), .ref 126]) [.aload_n 0, .iconst 3] (by decide +kernel) rfl rfl ?_
    refine wx_callV (d1 := 1) (As := [.int (3 : Int32)]) (rest := []) (by omega) is_126 (by decide) rfl cv_5_71 rfl (Nat.le_of_ble_eq_true rfl) (l_f5_refuse G 1 (by omega) (3 : Int32) μ) rfl (by decide +kernel) (fun μ2 => ?_)
    refine wx_goto 20 (off := 10) (by decide +kernel) (by decide) ?_
    exact wx_vret rfl rfl (by decide +kernel)
/-! WakingLayers$Tape.atName(Ljava/lang/String;)Z -/
def f10_atName (μ : xMu) (v1 : Nat) : Option Int32 :=
  (if (μ 14 2) = (1 : Int32) then
((x_slen v1).bind fun x1 =>
(if ((μ 14 4) - (μ 14 3)) = x1 then
((f10_matches μ v1 (0 : Int32)).bind fun x2 =>
(if x2 = 0 then
(some (0 : Int32))
else
(some (1 : Int32))))
else
(some (0 : Int32))))
else
(some (0 : Int32)))
set_option maxHeartbeats 4000000 in
set_option maxRecDepth 100000 in
theorem l_f10_atName (G : xG) (d : Nat) (hd : 5 ≤ d) (μ : xMu) (v1 : Nat) : Mx G m10_atName d [.ref 14, .ref v1] μ (x_wi μ) (f10_atName μ v1) := by
  refine mx_enter ok10_atName [some (.ref 14), some (.ref v1)] rfl (Nat.le_of_ble_eq_true rfl) ?_
  unfold f10_atName
  refine wx_blk (pc' := 1) (L' := [some (.ref 14), some (.ref v1)]) (st' := [.ref 14]) [.aload_n 0] (by decide +kernel) rfl rfl ?_
  refine wx_geti is_14 ff_10_26 rfl (by decide +kernel) ?_
  refine wx_blk (pc' := 5) (L' := [some (.ref 14), some (.ref v1)]) (st' := [.int (1 : Int32), .int (μ 14 2)]) [.iconst 1] (by decide +kernel) rfl rfl ?_
  refine wx_ic_ne 37 (off := 32) (by decide +kernel) (by decide) ?_ ?_
  · refine wx_blk (pc' := 38) (L' := [some (.ref 14), some (.ref v1)]) (st' := [.int (0 : Int32)]) [.iconst 0] (by decide +kernel) rfl rfl ?_
    exact wx_zret rfl rfl (by decide) (by decide +kernel)
  · refine wx_blk (pc' := 9) (L' := [some (.ref 14), some (.ref v1)]) (st' := [.ref 14]) [.aload_n 0] (by decide +kernel) rfl rfl ?_
    refine wx_geti is_14 ff_10_17 rfl (by decide +kernel) ?_
    refine wx_blk (pc' := 13) (L' := [some (.ref 14), some (.ref v1)]) (st' := [.ref 14, .int (μ 14 4)]) [.aload_n 0] (by decide +kernel) rfl rfl ?_
    refine wx_geti is_14 ff_10_23 rfl (by decide +kernel) ?_
    refine wx_blk (pc' := 18) (L' := [some (.ref 14), some (.ref v1)]) (st' := [.ref v1, .int ((μ 14 4) - (μ 14 3))]) [.isub, .aload_n 1] (by decide +kernel) rfl rfl ?_
    refine wx_slen (by omega) xw_623 (Nat.le_of_ble_eq_true rfl) (by decide +kernel) (fun x1 => ?_)
    refine wx_ic_ne 37 (off := 16) (by decide +kernel) (by decide) ?_ ?_
    · refine wx_blk (pc' := 38) (L' := [some (.ref 14), some (.ref v1)]) (st' := [.int (0 : Int32)]) [.iconst 0] (by decide +kernel) rfl rfl ?_
      exact wx_zret rfl rfl (by decide) (by decide +kernel)
    · refine wx_blk (pc' := 27) (L' := [some (.ref 14), some (.ref v1)]) (st' := [.int (0 : Int32), .ref v1, .ref 14]) [.aload_n 0, .aload_n 1, .iconst 0] (by decide +kernel) rfl rfl ?_
      refine wx_callV (d1 := 4) (As := [.ref v1, .int (0 : Int32)]) (rest := []) (by omega) is_14 (by decide) rfl cv_10_48 rfl (Nat.le_of_ble_eq_true rfl) (l_f10_matches G 4 (by omega) μ v1 (0 : Int32)) rfl (by decide +kernel) (fun x2 => ?_)
      refine wx_if_eq 37 (off := 7) (by decide +kernel) (by decide) ?_ ?_
      · refine wx_blk (pc' := 38) (L' := [some (.ref 14), some (.ref v1)]) (st' := [.int (0 : Int32)]) [.iconst 0] (by decide +kernel) rfl rfl ?_
        exact wx_zret rfl rfl (by decide) (by decide +kernel)
      · refine wx_blk (pc' := 34) (L' := [some (.ref 14), some (.ref v1)]) (st' := [.int (1 : Int32)]) [.iconst 1] (by decide +kernel) rfl rfl ?_
        refine wx_goto 38 (off := 4) (by decide +kernel) (by decide) ?_
        exact wx_zret rfl rfl (by decide) (by decide +kernel)
/-! WakingLayers$Tape.atNumber()Z -/
def f10_atNumber (μ : xMu) : Option Int32 :=
  (if (μ 14 2) = (2 : Int32) then
(some (1 : Int32))
else
(some (0 : Int32)))
set_option maxHeartbeats 4000000 in
set_option maxRecDepth 100000 in
theorem l_f10_atNumber (G : xG) (d : Nat) (hd : 0 ≤ d) (μ : xMu) : Mx G m10_atNumber d [.ref 14] μ (x_wi μ) (f10_atNumber μ) := by
  refine mx_enter ok10_atNumber [some (.ref 14)] rfl (Nat.le_of_ble_eq_true rfl) ?_
  unfold f10_atNumber
  refine wx_blk (pc' := 1) (L' := [some (.ref 14)]) (st' := [.ref 14]) [.aload_n 0] (by decide +kernel) rfl rfl ?_
  refine wx_geti is_14 ff_10_26 rfl (by decide +kernel) ?_
  refine wx_blk (pc' := 5) (L' := [some (.ref 14)]) (st' := [.int (2 : Int32), .int (μ 14 2)]) [.iconst 2] (by decide +kernel) rfl rfl ?_
  refine wx_ic_ne 12 (off := 7) (by decide +kernel) (by decide) ?_ ?_
  · refine wx_blk (pc' := 13) (L' := [some (.ref 14)]) (st' := [.int (0 : Int32)]) [.iconst 0] (by decide +kernel) rfl rfl ?_
    exact wx_zret rfl rfl (by decide) (by decide +kernel)
  · refine wx_blk (pc' := 9) (L' := [some (.ref 14)]) (st' := [.int (1 : Int32)]) [.iconst 1] (by decide +kernel) rfl rfl ?_
    refine wx_goto 13 (off := 4) (by decide +kernel) (by decide) ?_
    exact wx_zret rfl rfl (by decide) (by decide +kernel)
/-! WakingLayers$Tape.number()I -/
def f10_number (μ : xMu) : Option Int32 :=
  (some (μ 14 5))
set_option maxHeartbeats 4000000 in
set_option maxRecDepth 100000 in
theorem l_f10_number (G : xG) (d : Nat) (hd : 0 ≤ d) (μ : xMu) : Mx G m10_number d [.ref 14] μ (x_wi μ) (f10_number μ) := by
  refine mx_enter ok10_number [some (.ref 14)] rfl (Nat.le_of_ble_eq_true rfl) ?_
  unfold f10_number
  refine wx_blk (pc' := 1) (L' := [some (.ref 14)]) (st' := [.ref 14]) [.aload_n 0] (by decide +kernel) rfl rfl ?_
  refine wx_geti is_14 ff_10_40 rfl (by decide +kernel) ?_
  exact wx_iret rfl rfl (by decide +kernel)
/-! WakingLayers$Reader.takeNumber(I)I -/
def f5_takeNumber (v1 : Int32) (μ : xMu) : Option (Int32 × xMu) :=
  (if (μ 126 2) = 0 then
((f10_atNumber μ).bind fun x1 =>
(if x1 = 0 then
((f5_refuse (1 : Int32) μ).bind fun μ5 =>
(some ((0 : Int32), μ5)))
else
((f10_number μ).bind fun x2 =>
(if x2 < v1 then
((f10_nextToken μ).bind fun μ3 =>
(some (x2, μ3)))
else
((f5_refuse (2 : Int32) μ).bind fun μ4 =>
(some ((0 : Int32), μ4)))))))
else
(some ((0 : Int32), μ)))
set_option maxHeartbeats 4000000 in
set_option maxRecDepth 100000 in
theorem l_f5_takeNumber (G : xG) (d : Nat) (hd : 2 ≤ d) (v1 : Int32) (μ : xMu) : Mx G m5_takeNumber d [.ref 126, .int v1] μ x_wim (f5_takeNumber v1 μ) := by
  refine mx_enter ok5_takeNumber [some (.ref 126), some (.int v1), none] rfl (Nat.le_of_ble_eq_true rfl) ?_
  unfold f5_takeNumber
  refine wx_blk (pc' := 1) (L' := [some (.ref 126), some (.int v1), none]) (st' := [.ref 126]) [.aload_n 0] (by decide +kernel) rfl rfl ?_
  refine wx_geti is_126 ff_5_23 rfl (by decide +kernel) ?_
  refine wx_if_eq 9 (off := 5) (by decide +kernel) (by decide) ?_ ?_
  · refine wx_blk (pc' := 10) (L' := [some (.ref 126), some (.int v1), none]) (st' := [.ref 126]) [.aload_n 0] (by decide +kernel) rfl rfl ?_
    refine wx_getr is_126 ff_5_9 rfl rf_126_0 (by decide +kernel) ?_
    refine wx_callV (d1 := 0) (As := []) (rest := []) (by omega) is_14 (by decide) rfl cv_5_125 rfl (Nat.le_of_ble_eq_true rfl) (l_f10_atNumber G 0 (by omega) μ) rfl (by decide +kernel) (fun x1 => ?_)
    refine wx_if_ne 26 (off := 10) (by decide +kernel) (by decide) ?_ ?_
    · refine wx_blk (pc' := 27) (L' := [some (.ref 126), some (.int v1), none]) (st' := [.ref 126]) [.aload_n 0] (by decide +kernel) rfl rfl ?_
      refine wx_getr is_126 ff_5_9 rfl rf_126_0 (by decide +kernel) ?_
      refine wx_callV (d1 := 0) (As := []) (rest := []) (by omega) is_14 (by decide) rfl cv_5_194 rfl (Nat.le_of_ble_eq_true rfl) (l_f10_number G 0 (by omega) μ) rfl (by decide +kernel) (fun x2 => ?_)
      refine wx_blk (pc' := 36) (L' := [some (.ref 126), some (.int v1), some (.int x2)]) (st' := [.int v1, .int x2]) [.istore_n 2, .iload_n 2, .iload_n 1] (by decide +kernel) rfl rfl ?_
      refine wx_ic_lt 46 (off := 10) (by decide +kernel) (by decide) ?_ ?_
      · refine wx_blk (pc' := 47) (L' := [some (.ref 126), some (.int v1), some (.int x2)]) (st' := [.ref 126]) [.aload_n 0] (by decide +kernel) rfl rfl ?_
        refine wx_getr is_126 ff_5_9 rfl rf_126_0 (by decide +kernel) ?_
        refine wx_callV (d1 := 1) (As := []) (rest := []) (by omega) is_14 (by decide) rfl cv_5_88 rfl (Nat.le_of_ble_eq_true rfl) (l_f10_nextToken G 1 (by omega) μ) rfl (by decide +kernel) (fun μ3 => ?_)
        refine wx_blk (pc' := 54) (L' := [some (.ref 126), some (.int v1), some (.int x2)]) (st' := [.int x2]) [.iload_n 2] (by decide +kernel) rfl rfl ?_
        exact wx_iret rfl rfl (by decide +kernel)
      · refine wx_blk (pc' := 41) (L' := [some (.ref 126), some (.int v1), some (.int x2)]) (st' := [.int (2 : Int32), .ref 126]) [.aload_n 0, .iconst 2] (by decide +kernel) rfl rfl ?_
        refine wx_callV (d1 := 1) (As := [.int (2 : Int32)]) (rest := []) (by omega) is_126 (by decide) rfl cv_5_71 rfl (Nat.le_of_ble_eq_true rfl) (l_f5_refuse G 1 (by omega) (2 : Int32) μ) rfl (by decide +kernel) (fun μ4 => ?_)
        refine wx_blk (pc' := 45) (L' := [some (.ref 126), some (.int v1), some (.int x2)]) (st' := [.int (0 : Int32)]) [.iconst 0] (by decide +kernel) rfl rfl ?_
        exact wx_iret rfl rfl (by decide +kernel)
    · refine wx_blk (pc' := 21) (L' := [some (.ref 126), some (.int v1), none]) (st' := [.int (1 : Int32), .ref 126]) [.aload_n 0, .iconst 1] (by decide +kernel) rfl rfl ?_
      refine wx_callV (d1 := 1) (As := [.int (1 : Int32)]) (rest := []) (by omega) is_126 (by decide) rfl cv_5_71 rfl (Nat.le_of_ble_eq_true rfl) (l_f5_refuse G 1 (by omega) (1 : Int32) μ) rfl (by decide +kernel) (fun μ5 => ?_)
      refine wx_blk (pc' := 25) (L' := [some (.ref 126), some (.int v1), none]) (st' := [.int (0 : Int32)]) [.iconst 0] (by decide +kernel) rfl rfl ?_
      exact wx_iret rfl rfl (by decide +kernel)
  · refine wx_blk (pc' := 8) (L' := [some (.ref 126), some (.int v1), none]) (st' := [.int (0 : Int32)]) [.iconst 0] (by decide +kernel) rfl rfl ?_
    exact wx_iret rfl rfl (by decide +kernel)
/-! WakingLayers$Tape.atSign(C)Z -/
def f10_atSign (μ : xMu) (v1 : Int32) : Option Int32 :=
  (if (μ 14 2) = (3 : Int32) then
(x_ald μ 15 600 (μ 14 3) fun x1 =>
(if x1 = v1 then
(some (1 : Int32))
else
(some (0 : Int32))))
else
(some (0 : Int32)))
set_option maxHeartbeats 4000000 in
set_option maxRecDepth 100000 in
theorem l_f10_atSign (G : xG) (d : Nat) (hd : 0 ≤ d) (μ : xMu) (v1 : Int32) : Mx G m10_atSign d [.ref 14, .int v1] μ (x_wi μ) (f10_atSign μ v1) := by
  refine mx_enter ok10_atSign [some (.ref 14), some (.int v1)] rfl (Nat.le_of_ble_eq_true rfl) ?_
  unfold f10_atSign
  refine wx_blk (pc' := 1) (L' := [some (.ref 14), some (.int v1)]) (st' := [.ref 14]) [.aload_n 0] (by decide +kernel) rfl rfl ?_
  refine wx_geti is_14 ff_10_26 rfl (by decide +kernel) ?_
  refine wx_blk (pc' := 5) (L' := [some (.ref 14), some (.int v1)]) (st' := [.int (3 : Int32), .int (μ 14 2)]) [.iconst 3] (by decide +kernel) rfl rfl ?_
  refine wx_ic_ne 25 (off := 20) (by decide +kernel) (by decide) ?_ ?_
  · refine wx_blk (pc' := 26) (L' := [some (.ref 14), some (.int v1)]) (st' := [.int (0 : Int32)]) [.iconst 0] (by decide +kernel) rfl rfl ?_
    exact wx_zret rfl rfl (by decide) (by decide +kernel)
  · refine wx_blk (pc' := 9) (L' := [some (.ref 14), some (.int v1)]) (st' := [.ref 14]) [.aload_n 0] (by decide +kernel) rfl rfl ?_
    refine wx_getr is_14 ff_10_9 rfl rf_14_0 (by decide +kernel) ?_
    refine wx_blk (pc' := 13) (L' := [some (.ref 14), some (.int v1)]) (st' := [.ref 14, .ref 15]) [.aload_n 0] (by decide +kernel) rfl rfl ?_
    refine wx_geti is_14 ff_10_23 rfl (by decide +kernel) ?_
    refine wx_ald is_15 sz_15 (by decide +kernel) (fun x1 => ?_)
    refine wx_blk (pc' := 18) (L' := [some (.ref 14), some (.int v1)]) (st' := [.int v1, .int x1]) [.iload_n 1] (by decide +kernel) rfl rfl ?_
    refine wx_ic_ne 25 (off := 7) (by decide +kernel) (by decide) ?_ ?_
    · refine wx_blk (pc' := 26) (L' := [some (.ref 14), some (.int v1)]) (st' := [.int (0 : Int32)]) [.iconst 0] (by decide +kernel) rfl rfl ?_
      exact wx_zret rfl rfl (by decide) (by decide +kernel)
    · refine wx_blk (pc' := 22) (L' := [some (.ref 14), some (.int v1)]) (st' := [.int (1 : Int32)]) [.iconst 1] (by decide +kernel) rfl rfl ?_
      refine wx_goto 26 (off := 4) (by decide +kernel) (by decide) ?_
      exact wx_zret rfl rfl (by decide) (by decide +kernel)
/-! WakingLayers$Reader.takeSign(C)V -/
def f5_takeSign (v1 : Int32) (μ : xMu) : Option xMu :=
  (if (μ 126 2) = 0 then
((f10_atSign μ v1).bind fun x1 =>
(if x1 = 0 then
((f5_refuse (1 : Int32) μ).bind fun μ2 =>
(some μ2))
else
((f10_nextToken μ).bind fun μ3 =>
(some μ3))))
else
(some μ))
set_option maxHeartbeats 4000000 in
set_option maxRecDepth 100000 in
theorem l_f5_takeSign (G : xG) (d : Nat) (hd : 2 ≤ d) (v1 : Int32) (μ : xMu) : Mx G m5_takeSign d [.ref 126, .int v1] μ x_wv (f5_takeSign v1 μ) := by
  refine mx_enter ok5_takeSign [some (.ref 126), some (.int v1)] rfl (Nat.le_of_ble_eq_true rfl) ?_
  unfold f5_takeSign
  refine wx_blk (pc' := 1) (L' := [some (.ref 126), some (.int v1)]) (st' := [.ref 126]) [.aload_n 0] (by decide +kernel) rfl rfl ?_
  refine wx_geti is_126 ff_5_23 rfl (by decide +kernel) ?_
  refine wx_if_eq 8 (off := 4) (by decide +kernel) (by decide) ?_ ?_
  · refine wx_blk (pc' := 9) (L' := [some (.ref 126), some (.int v1)]) (st' := [.ref 126]) [.aload_n 0] (by decide +kernel) rfl rfl ?_
    refine wx_getr is_126 ff_5_9 rfl rf_126_0 (by decide +kernel) ?_
    refine wx_blk (pc' := 13) (L' := [some (.ref 126), some (.int v1)]) (st' := [.int v1, .ref 14]) [.iload_n 1] (by decide +kernel) rfl rfl ?_
    refine wx_callV (d1 := 0) (As := [.int v1]) (rest := []) (by omega) is_14 (by decide) rfl cv_5_137 rfl (Nat.le_of_ble_eq_true rfl) (l_f10_atSign G 0 (by omega) μ v1) rfl (by decide +kernel) (fun x1 => ?_)
    refine wx_if_eq 29 (off := 13) (by decide +kernel) (by decide) ?_ ?_
    · refine wx_blk (pc' := 31) (L' := [some (.ref 126), some (.int v1)]) (st' := [.int (1 : Int32), .ref 126]) [.aload_n 0, .iconst 1] (by decide +kernel) rfl rfl ?_
      refine wx_callV (d1 := 1) (As := [.int (1 : Int32)]) (rest := []) (by omega) is_126 (by decide) rfl cv_5_71 rfl (Nat.le_of_ble_eq_true rfl) (l_f5_refuse G 1 (by omega) (1 : Int32) μ) rfl (by decide +kernel) (fun μ2 => ?_)
      exact wx_vret rfl rfl (by decide +kernel)
    · refine wx_blk (pc' := 20) (L' := [some (.ref 126), some (.int v1)]) (st' := [.ref 126]) [.aload_n 0] (by decide +kernel) rfl rfl ?_
      refine wx_getr is_126 ff_5_9 rfl rf_126_0 (by decide +kernel) ?_
      refine wx_callV (d1 := 1) (As := []) (rest := []) (by omega) is_14 (by decide) rfl cv_5_88 rfl (Nat.le_of_ble_eq_true rfl) (l_f10_nextToken G 1 (by omega) μ) rfl (by decide +kernel) (fun μ3 => ?_)
      refine wx_goto 34 (off := 8) (by decide +kernel) (by decide) ?_
      exact wx_vret rfl rfl (by decide +kernel)
  · exact wx_vret rfl rfl (by decide +kernel)
/-! WakingLayers$Program.addKind(I)V -/
def f4_addKind (v1 : Int32) (μ : xMu) : Option xMu :=
  (x_ast μ 17 8 (μ 16 5) v1 fun μ1 =>
(x_put μ1 16 5 ((μ1 16 5) + (1 : Int32)) fun μ2 =>
(some μ2)))
set_option maxHeartbeats 4000000 in
set_option maxRecDepth 100000 in
theorem l_f4_addKind (G : xG) (d : Nat) (hd : 0 ≤ d) (v1 : Int32) (μ : xMu) : Mx G m4_addKind d [.ref 16, .int v1] μ x_wv (f4_addKind v1 μ) := by
  refine mx_enter ok4_addKind [some (.ref 16), some (.int v1)] rfl (Nat.le_of_ble_eq_true rfl) ?_
  unfold f4_addKind
  refine wx_blk (pc' := 1) (L' := [some (.ref 16), some (.int v1)]) (st' := [.ref 16]) [.aload_n 0] (by decide +kernel) rfl rfl ?_
  refine wx_getr is_16 ff_4_9 rfl rf_16_0 (by decide +kernel) ?_
  refine wx_blk (pc' := 5) (L' := [some (.ref 16), some (.int v1)]) (st' := [.ref 16, .ref 17]) [.aload_n 0] (by decide +kernel) rfl rfl ?_
  refine wx_geti is_16 ff_4_40 rfl (by decide +kernel) ?_
  refine wx_blk (pc' := 9) (L' := [some (.ref 16), some (.int v1)]) (st' := [.int v1, .int (μ 16 5), .ref 17]) [.iload_n 1] (by decide +kernel) rfl rfl ?_
  refine wx_ast is_17 sz_17 (by decide +kernel) (fun μ1 => ?_)
  refine wx_blk (pc' := 12) (L' := [some (.ref 16), some (.int v1)]) (st' := [.ref 16, .ref 16]) [.aload_n 0, .dup] (by decide +kernel) rfl rfl ?_
  refine wx_geti is_16 ff_4_40 rfl (by decide +kernel) ?_
  refine wx_blk (pc' := 17) (L' := [some (.ref 16), some (.int v1)]) (st' := [.int ((μ1 16 5) + (1 : Int32)), .ref 16]) [.iconst 1, .iadd] (by decide +kernel) rfl rfl ?_
  refine wx_put is_16 ff_4_40 fp_4_5 ⟨rfl, rfl⟩ (by decide +kernel) (fun μ2 => ?_)
  exact wx_vret rfl rfl (by decide +kernel)
/-! WakingLayers$Reader.readKind()V -/
def f5_readKind_j53 (v1 : Int32) (μ : xMu) : Option xMu :=
  ((f5_takeSign (59 : Int32) μ).bind fun μ2 =>
(if (μ2 126 2) = 0 then
((f4_addKind v1 μ2).bind fun μ3 =>
(some μ3))
else
(some μ2)))
set_option maxHeartbeats 4000000 in
set_option maxRecDepth 100000 in
theorem l_f5_readKind_j53 (G : xG) (d : Nat) (hd : 6 ≤ d) (v1 : Int32) (μ : xMu) : Wx G m5_readKind d 53 [some (.ref 126), some (.int v1)] [] μ x_wv (f5_readKind_j53 v1 μ) := by
  unfold f5_readKind_j53
  refine wx_blk (pc' := 56) (L' := [some (.ref 126), some (.int v1)]) (st' := [.int (59 : Int32), .ref 126]) [.aload_n 0, .bipush 59] (by decide +kernel) rfl rfl ?_
  refine wx_callV (d1 := 2) (As := [.int (59 : Int32)]) (rest := []) (by omega) is_126 (by decide) rfl cv_5_95 rfl (Nat.le_of_ble_eq_true rfl) (l_f5_takeSign G 2 (by omega) (59 : Int32) μ) rfl (by decide +kernel) (fun μ2 => ?_)
  refine wx_blk (pc' := 60) (L' := [some (.ref 126), some (.int v1)]) (st' := [.ref 126]) [.aload_n 0] (by decide +kernel) rfl rfl ?_
  refine wx_geti is_126 ff_5_23 rfl (by decide +kernel) ?_
  refine wx_if_ne 74 (off := 11) (by decide +kernel) (by decide) ?_ ?_
  · exact wx_vret rfl rfl (by decide +kernel)
  · refine wx_blk (pc' := 67) (L' := [some (.ref 126), some (.int v1)]) (st' := [.ref 126]) [.aload_n 0] (by decide +kernel) rfl rfl ?_
    refine wx_getr is_126 ff_5_15 rfl rf_126_1 (by decide +kernel) ?_
    refine wx_blk (pc' := 71) (L' := [some (.ref 126), some (.int v1)]) (st' := [.int v1, .ref 16]) [.iload_n 1] (by decide +kernel) rfl rfl ?_
    refine wx_callV (d1 := 0) (As := [.int v1]) (rest := []) (by omega) is_16 (by decide) rfl cv_5_99 rfl (Nat.le_of_ble_eq_true rfl) (l_f4_addKind G 0 (by omega) v1 μ2) rfl (by decide +kernel) (fun μ3 => ?_)
    exact wx_vret rfl rfl (by decide +kernel)
def f5_readKind (μ : xMu) : Option xMu :=
  ((f5_takeFirstWord (μ 16 5) (8 : Int32) μ).bind fun μ1 =>
(if (μ1 126 2) = 0 then
((f10_atName μ1 911).bind fun x4 =>
(if x4 = 0 then
(f5_readKind_j53 (-1 : Int32) μ1)
else
((f10_nextToken μ1).bind fun μ5 =>
((f5_takeNumber (μ5 16 5) μ5).bind fun q6 =>
(f5_readKind_j53 q6.1 q6.2)))))
else
(f5_readKind_j53 (-1 : Int32) μ1)))
set_option maxHeartbeats 4000000 in
set_option maxRecDepth 100000 in
theorem l_f5_readKind (G : xG) (d : Nat) (hd : 6 ≤ d) (μ : xMu) : Mx G m5_readKind d [.ref 126] μ x_wv (f5_readKind μ) := by
  refine mx_enter ok5_readKind [some (.ref 126), none] rfl (Nat.le_of_ble_eq_true rfl) ?_
  unfold f5_readKind
  refine wx_blk (pc' := 2) (L' := [some (.ref 126), none]) (st' := [.ref 126, .ref 126]) [.aload_n 0, .aload_n 0] (by decide +kernel) rfl rfl ?_
  refine wx_getr is_126 ff_5_15 rfl rf_126_1 (by decide +kernel) ?_
  refine wx_geti is_16 ff_5_75 rfl (by decide +kernel) ?_
  refine wx_blk (pc' := 10) (L' := [some (.ref 126), none]) (st' := [.int (8 : Int32), .int (μ 16 5), .ref 126]) [.bipush 8] (by decide +kernel) rfl rfl ?_
  refine wx_callV (d1 := 2) (As := [.int (μ 16 5), .int (8 : Int32)]) (rest := []) (by omega) is_126 (by decide) rfl cv_5_78 rfl (Nat.le_of_ble_eq_true rfl) (l_f5_takeFirstWord G 2 (by omega) (μ 16 5) (8 : Int32) μ) rfl (by decide +kernel) (fun μ1 => ?_)
  refine wx_blk (pc' := 16) (L' := [some (.ref 126), some (.int (-1 : Int32))]) (st' := [.ref 126]) [.iconst (-1), .istore_n 1, .aload_n 0] (by decide +kernel) rfl rfl ?_
  refine wx_geti is_126 ff_5_23 rfl (by decide +kernel) ?_
  refine wx_if_ne 53 (off := 34) (by decide +kernel) (by decide) ?_ ?_
  · refine l_f5_readKind_j53 G d hd (-1 : Int32) μ1
  · refine wx_blk (pc' := 23) (L' := [some (.ref 126), some (.int (-1 : Int32))]) (st' := [.ref 126]) [.aload_n 0] (by decide +kernel) rfl rfl ?_
    refine wx_getr is_126 ff_5_9 rfl rf_126_0 (by decide +kernel) ?_
    refine wx_ldcs 1 (by decide) rfl (by decide +kernel) ?_
    refine wx_callV (d1 := 5) (As := [.ref 911]) (rest := []) (by omega) is_14 (by decide) rfl cv_5_84 rfl (Nat.le_of_ble_eq_true rfl) (l_f10_atName G 5 (by omega) μ1 911) rfl (by decide +kernel) (fun x4 => ?_)
    refine wx_if_eq 53 (off := 22) (by decide +kernel) (by decide) ?_ ?_
    · refine l_f5_readKind_j53 G d hd (-1 : Int32) μ1
    · refine wx_blk (pc' := 35) (L' := [some (.ref 126), some (.int (-1 : Int32))]) (st' := [.ref 126]) [.aload_n 0] (by decide +kernel) rfl rfl ?_
      refine wx_getr is_126 ff_5_9 rfl rf_126_0 (by decide +kernel) ?_
      refine wx_callV (d1 := 1) (As := []) (rest := []) (by omega) is_14 (by decide) rfl cv_5_88 rfl (Nat.le_of_ble_eq_true rfl) (l_f10_nextToken G 1 (by omega) μ1) rfl (by decide +kernel) (fun μ5 => ?_)
      refine wx_blk (pc' := 43) (L' := [some (.ref 126), some (.int (-1 : Int32))]) (st' := [.ref 126, .ref 126]) [.aload_n 0, .aload_n 0] (by decide +kernel) rfl rfl ?_
      refine wx_getr is_126 ff_5_15 rfl rf_126_1 (by decide +kernel) ?_
      refine wx_geti is_16 ff_5_75 rfl (by decide +kernel) ?_
      refine wx_callV (d1 := 2) (As := [.int (μ5 16 5)]) (rest := []) (by omega) is_126 (by decide) rfl cv_5_91 rfl (Nat.le_of_ble_eq_true rfl) (l_f5_takeNumber G 2 (by omega) (μ5 16 5) μ5) rfl (by decide +kernel) (fun q6 => ?_)
      refine wx_blk (pc' := 53) (L' := [some (.ref 126), some (.int q6.1)]) (st' := []) [.istore_n 1] (by decide +kernel) rfl rfl ?_
      refine l_f5_readKind_j53 G d hd q6.1 q6.2
