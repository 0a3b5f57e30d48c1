/-! WakingLayers$SmallWorld.gatheredAt(I)I -/
def f9_gatheredAt_j29 (μ : xMu) (k4 : Int32 → Int32 → Option Int32) (v2 : Int32) (v3 : Int32) : Option Int32 :=
  (k4 v2 (v3 + (1 : Int32)))
set_option maxHeartbeats 4000000 in
set_option maxRecDepth 100000 in
theorem l_f9_gatheredAt_j29 (G : xG) (d : Nat) (hd : 0 ≤ d) (μ : xMu) (k4 : Int32 → Int32 → Option Int32) (h4 : ∀ (v2 : Int32) (v3 : Int32), Wx G m9_gatheredAt d 4 [some (.ref 146), none, some (.int v2), some (.int v3)] [] μ (x_wi μ) (k4 v2 v3)) (v2 : Int32) (v3 : Int32) : Wx G m9_gatheredAt d 29 [some (.ref 146), none, some (.int v2), some (.int v3)] [] μ (x_wi μ) (f9_gatheredAt_j29 μ k4 v2 v3) := by
  unfold f9_gatheredAt_j29
  refine wx_blk (pc' := 32) (L' := [some (.ref 146), none, some (.int v2), some (.int (v3 + (1 : Int32)))]) (st' := []) [.iinc 3 1] (by decide +kernel) rfl rfl ?_
  refine wx_goto 4 (off := -28) (by decide +kernel) (by decide) ?_
  exact h4 v2 (v3 + (1 : Int32))
def f9_gatheredAt_l4 (μ : xMu) (k35 : Option Int32) : Nat → Int32 → Int32 → Option Int32
  | 0, _, _ => none
  | n + 1, v2, v3 =>
  (if (256 : Int32) ≤ v3 then
(k35)
else
(x_ald μ 159 256 v3 fun x1 =>
(if x1 = 0 then
(f9_gatheredAt_j29 μ (f9_gatheredAt_l4 μ k35 n) v2 v3)
else
(if v2 = 0 then
(some v3)
else
(f9_gatheredAt_j29 μ (f9_gatheredAt_l4 μ k35 n) (v2 + (-1 : Int32)) v3)))))
set_option maxHeartbeats 4000000 in
set_option maxRecDepth 100000 in
theorem l_f9_gatheredAt_l4 (G : xG) (d : Nat) (hd : 0 ≤ d) (μ : xMu) (k35 : Option Int32) (h35 : Wx G m9_gatheredAt d 35 [none, none, none, none] [] μ (x_wi μ) (k35)) : ∀ (n : Nat) (v2 : Int32) (v3 : Int32), Wx G m9_gatheredAt d 4 [some (.ref 146), none, some (.int v2), some (.int v3)] [] μ (x_wi μ) (f9_gatheredAt_l4 μ k35 n v2 v3) := by
  intro n
  induction n with
  | zero => intro v2 v3; exact wx_none
  | succ n h4 =>
    intro v2 v3
    unfold f9_gatheredAt_l4
    refine wx_blk (pc' := 8) (L' := [some (.ref 146), none, some (.int v2), some (.int v3)]) (st' := [.int (256 : Int32), .int v3]) [.iload_n 3, .sipush 256] (by decide +kernel) rfl rfl ?_
    refine wx_ic_ge 35 (off := 27) (by decide +kernel) (by decide) ?_ ?_
    · refine wx_weak (L' := [none, none, none, none]) trivial ?_
      exact h35
    · refine wx_blk (pc' := 12) (L' := [some (.ref 146), none, some (.int v2), some (.int v3)]) (st' := [.ref 146]) [.aload_n 0] (by decide +kernel) rfl rfl ?_
      refine wx_getr is_146 ff_9_17 rfl rf_146_4 (by decide +kernel) ?_
      refine wx_blk (pc' := 16) (L' := [some (.ref 146), none, some (.int v2), some (.int v3)]) (st' := [.int v3, .ref 159]) [.iload_n 3] (by decide +kernel) rfl rfl ?_
      refine wx_zald is_159 sz_159 (by decide +kernel) (fun x1 => ?_)
      refine wx_if_eq 29 (off := 12) (by decide +kernel) (by decide) ?_ ?_
      · refine l_f9_gatheredAt_j29 G d hd μ _ h4 v2 v3
      · refine wx_blk (pc' := 21) (L' := [some (.ref 146), none, some (.int v2), some (.int v3)]) (st' := [.int v2]) [.iload_n 2] (by decide +kernel) rfl rfl ?_
        refine wx_if_ne 26 (off := 5) (by decide +kernel) (by decide) ?_ ?_
        · refine wx_blk (pc' := 29) (L' := [some (.ref 146), none, some (.int (v2 + (-1 : Int32))), some (.int v3)]) (st' := []) [.iinc 2 (-1)] (by decide +kernel) rfl rfl ?_
          refine l_f9_gatheredAt_j29 G d hd μ _ h4 (v2 + (-1 : Int32)) v3
        · refine wx_blk (pc' := 25) (L' := [some (.ref 146), none, some (.int v2), some (.int v3)]) (st' := [.int v3]) [.iload_n 3] (by decide +kernel) rfl rfl ?_
          exact wx_iret rfl rfl (by decide +kernel)
def f9_gatheredAt (μ : xMu) (v1 : Int32) : Option Int32 :=
  (f9_gatheredAt_l4 μ (some (-1000000 : Int32)) 1000 v1 (0 : Int32))
set_option maxHeartbeats 4000000 in
set_option maxRecDepth 100000 in
theorem l_f9_gatheredAt (G : xG) (d : Nat) (hd : 0 ≤ d) (μ : xMu) (v1 : Int32) : Mx G m9_gatheredAt d [.ref 146, .int v1] μ (x_wi μ) (f9_gatheredAt μ v1) := by
  refine mx_enter ok9_gatheredAt [some (.ref 146), some (.int v1), none, none] rfl (Nat.le_of_ble_eq_true rfl) ?_
  unfold f9_gatheredAt
  refine wx_blk (pc' := 4) (L' := [some (.ref 146), some (.int v1), some (.int v1), some (.int (0 : Int32))]) (st' := []) [.iload_n 1, .istore_n 2, .iconst 0, .istore_n 3] (by decide +kernel) rfl rfl ?_
  refine wx_weak (L' := [some (.ref 146), none, some (.int v1), some (.int (0 : Int32))]) ⟨rfl, ⟨rfl, ⟨rfl, trivial⟩⟩⟩ ?_
  refine l_f9_gatheredAt_l4 G d hd μ _ ?_ 1000 v1 (0 : Int32)
  · refine wx_ldc (v := -1000000) xw_1024 (by decide +kernel) ?_
    exact wx_iret rfl rfl (by decide +kernel)
/-! WakingLayers.together(II)I -/
def f11_together (v1 : Int32) (v2 : Int32) (μ : xMu) : Option (Int32 × xMu) :=
  ((f9_isGreatest v1).bind fun x1 =>
(if x1 = 0 then
(some ((-1000001 : Int32), μ))
else
(if (-1 : Int32) ≤ v2 then
((f9_gather v1 μ).bind fun q2 =>
(if v2 = (-1 : Int32) then
(some (q2.1, q2.2))
else
((f9_gatheredAt q2.2 v2).bind fun x3 =>
(some (x3, q2.2)))))
else
(some ((-1000001 : Int32), μ)))))
set_option maxHeartbeats 4000000 in
set_option maxRecDepth 100000 in
theorem l_f11_together (G : xG) (d : Nat) (hd : 4 ≤ d) (v1 : Int32) (v2 : Int32) (μ : xMu) : Mx G m11_together d [.ref 0, .int v1, .int v2] μ x_wim (f11_together v1 v2 μ) := by
  refine mx_enter ok11_together [some (.ref 0), some (.int v1), some (.int v2), none] rfl (Nat.le_of_ble_eq_true rfl) ?_
  unfold f11_together
  refine wx_blk (pc' := 1) (L' := [some (.ref 0), some (.int v1), some (.int v2), none]) (st' := [.int v1]) [.iload_n 1] (by decide +kernel) rfl rfl ?_
  refine wx_callS (d1 := 0) (As := [.int v1]) (rest := []) (by omega) cs_11_224 rfl (Nat.le_of_ble_eq_true rfl) (l_f9_isGreatest G 0 (by omega) μ v1) rfl (by decide +kernel) (fun x1 => ?_)
  refine wx_if_eq 12 (off := 8) (by decide +kernel) (by decide) ?_ ?_
  · refine wx_ldc (v := -1000001) xw_513 (by decide +kernel) ?_
    exact wx_iret rfl rfl (by decide +kernel)
  · refine wx_blk (pc' := 9) (L' := [some (.ref 0), some (.int v1), some (.int v2), none]) (st' := [.int (-1 : Int32), .int v2]) [.iload_n 2, .iconst (-1)] (by decide +kernel) rfl rfl ?_
    refine wx_ic_ge 15 (off := 6) (by decide +kernel) (by decide) ?_ ?_
    · refine wx_blk (pc' := 16) (L' := [some (.ref 0), some (.int v1), some (.int v2), none]) (st' := [.ref 0]) [.aload_n 0] (by decide +kernel) rfl rfl ?_
      refine wx_getr is_0 ff_11_75 rfl rf_0_8 (by decide +kernel) ?_
      refine wx_blk (pc' := 20) (L' := [some (.ref 0), some (.int v1), some (.int v2), none]) (st' := [.int v1, .ref 146]) [.iload_n 1] (by decide +kernel) rfl rfl ?_
      refine wx_callV (d1 := 3) (As := [.int v1]) (rest := []) (by omega) is_146 (by decide) rfl cv_11_227 rfl (Nat.le_of_ble_eq_true rfl) (l_f9_gather G 3 (by omega) v1 μ) rfl (by decide +kernel) (fun q2 => ?_)
      refine wx_blk (pc' := 26) (L' := [some (.ref 0), some (.int v1), some (.int v2), some (.int q2.1)]) (st' := [.int (-1 : Int32), .int v2]) [.istore_n 3, .iload_n 2, .iconst (-1)] (by decide +kernel) rfl rfl ?_
      refine wx_ic_ne 33 (off := 7) (by decide +kernel) (by decide) ?_ ?_
      · refine wx_blk (pc' := 34) (L' := [some (.ref 0), some (.int v1), some (.int v2), some (.int q2.1)]) (st' := [.ref 0]) [.aload_n 0] (by decide +kernel) rfl rfl ?_
        refine wx_getr is_0 ff_11_75 rfl rf_0_8 (by decide +kernel) ?_
        refine wx_blk (pc' := 38) (L' := [some (.ref 0), some (.int v1), some (.int v2), some (.int q2.1)]) (st' := [.int v2, .ref 146]) [.iload_n 2] (by decide +kernel) rfl rfl ?_
        refine wx_callV (d1 := 0) (As := [.int v2]) (rest := []) (by omega) is_146 (by decide) rfl cv_11_230 rfl (Nat.le_of_ble_eq_true rfl) (l_f9_gatheredAt G 0 (by omega) q2.2 v2) rfl (by decide +kernel) (fun x3 => ?_)
        exact wx_iret rfl rfl (by decide +kernel)
      · refine wx_blk (pc' := 30) (L' := [some (.ref 0), some (.int v1), some (.int v2), some (.int q2.1)]) (st' := [.int q2.1]) [.iload_n 3] (by decide +kernel) rfl rfl ?_
        refine wx_goto 41 (off := 11) (by decide +kernel) (by decide) ?_
        exact wx_iret rfl rfl (by decide +kernel)
    · refine wx_ldc (v := -1000001) xw_513 (by decide +kernel) ?_
      exact wx_iret rfl rfl (by decide +kernel)
/-! WakingLayers$Circumstances.foundSet()I -/
def f2_foundSet (μ : xMu) : Option Int32 :=
  (some (μ 127 5))
set_option maxHeartbeats 4000000 in
set_option maxRecDepth 100000 in
theorem l_f2_foundSet (G : xG) (d : Nat) (hd : 0 ≤ d) (μ : xMu) : Mx G m2_foundSet d [.ref 127] μ (x_wi μ) (f2_foundSet μ) := by
  refine mx_enter ok2_foundSet [some (.ref 127)] rfl (Nat.le_of_ble_eq_true rfl) ?_
  unfold f2_foundSet
  refine wx_blk (pc' := 1) (L' := [some (.ref 127)]) (st' := [.ref 127]) [.aload_n 0] (by decide +kernel) rfl rfl ?_
  refine wx_geti is_127 ff_2_29 rfl (by decide +kernel) ?_
  exact wx_iret rfl rfl (by decide +kernel)
/-! WakingLayers$Circumstances.setFound(I)V -/
def f2_setFound (v1 : Int32) (μ : xMu) : Option xMu :=
  (x_put μ 127 5 v1 fun μ1 =>
(some μ1))
set_option maxHeartbeats 4000000 in
set_option maxRecDepth 100000 in
theorem l_f2_setFound (G : xG) (d : Nat) (hd : 0 ≤ d) (v1 : Int32) (μ : xMu) : Mx G m2_setFound d [.ref 127, .int v1] μ x_wv (f2_setFound v1 μ) := by
  refine mx_enter ok2_setFound [some (.ref 127), some (.int v1)] rfl (Nat.le_of_ble_eq_true rfl) ?_
  unfold f2_setFound
  refine wx_blk (pc' := 2) (L' := [some (.ref 127), some (.int v1)]) (st' := [.int v1, .ref 127]) [.aload_n 0, .iload_n 1] (by decide +kernel) rfl rfl ?_
  refine wx_put is_127 ff_2_29 fp_2_5 ⟨rfl, rfl⟩ (by decide +kernel) (fun μ1 => ?_)
  exact wx_vret rfl rfl (by decide +kernel)
/-! WakingLayers$SmallWorld.changesNothing(IIII)Z -/
def f9_changesNothing_j121 (k20 : Int32 → Int32 → Int32 → Int32 → Int32 → Int32 → Int32 → xMu → Option (Int32 × xMu)) (v2 : Int32) (v3 : Int32) (v4 : Int32) (v5 : Int32) (v6 : Int32) (v7 : Int32) (v8 : Int32) (μ : xMu) : Option (Int32 × xMu) :=
  (k20 v2 v3 v4 v5 v6 v7 (v8 + (1 : Int32)) μ)
set_option maxHeartbeats 4000000 in
set_option maxRecDepth 100000 in
theorem l_f9_changesNothing_j121 (G : xG) (d : Nat) (hd : 453 ≤ d) (k20 : Int32 → Int32 → Int32 → Int32 → Int32 → Int32 → Int32 → xMu → Option (Int32 × xMu)) (h20 : ∀ (v2 : Int32) (v3 : Int32) (v4 : Int32) (v5 : Int32) (v6 : Int32) (v7 : Int32) (v8 : Int32) (μ1 : xMu), Wx G m9_changesNothing d 20 [some (.ref 146), none, some (.int v2), some (.int v3), some (.int v4), some (.int v5), some (.int v6), some (.int v7), some (.int v8), none, none] [] μ1 x_wim (k20 v2 v3 v4 v5 v6 v7 v8 μ1)) (v2 : Int32) (v3 : Int32) (v4 : Int32) (v5 : Int32) (v6 : Int32) (v7 : Int32) (v8 : Int32) (μ : xMu) : Wx G m9_changesNothing d 121 [some (.ref 146), none, some (.int v2), some (.int v3), some (.int v4), some (.int v5), some (.int v6), some (.int v7), some (.int v8), none, none] [] μ x_wim (f9_changesNothing_j121 k20 v2 v3 v4 v5 v6 v7 v8 μ) := by
  unfold f9_changesNothing_j121
  refine wx_blk (pc' := 124) (L' := [some (.ref 146), none, some (.int v2), some (.int v3), some (.int v4), some (.int v5), some (.int v6), some (.int v7), some (.int (v8 + (1 : Int32))), none, none]) (st' := []) [.iinc 8 1] (by decide +kernel) rfl rfl ?_
  refine wx_goto 20 (off := -104) (by decide +kernel) (by decide) ?_
  exact h20 v2 v3 v4 v5 v6 v7 (v8 + (1 : Int32)) μ
def f9_changesNothing_j119 (k20 : Int32 → Int32 → Int32 → Int32 → Int32 → Int32 → Int32 → xMu → Option (Int32 × xMu)) (v2 : Int32) (v3 : Int32) (v4 : Int32) (v5 : Int32) (v6 : Int32) (v8 : Int32) (s0 : Int32) (μ : xMu) : Option (Int32 × xMu) :=
  (f9_changesNothing_j121 k20 v2 v3 v4 v5 v6 s0 v8 μ)
set_option maxHeartbeats 4000000 in
set_option maxRecDepth 100000 in
theorem l_f9_changesNothing_j119 (G : xG) (d : Nat) (hd : 453 ≤ d) (k20 : Int32 → Int32 → Int32 → Int32 → Int32 → Int32 → Int32 → xMu → Option (Int32 × xMu)) (h20 : ∀ (v2 : Int32) (v3 : Int32) (v4 : Int32) (v5 : Int32) (v6 : Int32) (v7 : Int32) (v8 : Int32) (μ1 : xMu), Wx G m9_changesNothing d 20 [some (.ref 146), none, some (.int v2), some (.int v3), some (.int v4), some (.int v5), some (.int v6), some (.int v7), some (.int v8), none, none] [] μ1 x_wim (k20 v2 v3 v4 v5 v6 v7 v8 μ1)) (v2 : Int32) (v3 : Int32) (v4 : Int32) (v5 : Int32) (v6 : Int32) (v8 : Int32) (s0 : Int32) (μ : xMu) : Wx G m9_changesNothing d 119 [some (.ref 146), none, some (.int v2), some (.int v3), some (.int v4), some (.int v5), some (.int v6), none, some (.int v8), none, none] [.int s0] μ x_wim (f9_changesNothing_j119 k20 v2 v3 v4 v5 v6 v8 s0 μ) := by
  unfold f9_changesNothing_j119
  refine wx_blk (pc' := 121) (L' := [some (.ref 146), none, some (.int v2), some (.int v3), some (.int v4), some (.int v5), some (.int v6), some (.int s0), some (.int v8), none, none]) (st' := []) [.istore 7] (by decide +kernel) rfl rfl ?_
  refine l_f9_changesNothing_j121 G d hd _ h20 v2 v3 v4 v5 v6 s0 v8 μ
def f9_changesNothing_l20 (k127 : Int32 → Int32 → xMu → Option (Int32 × xMu)) : Nat → Int32 → Int32 → Int32 → Int32 → Int32 → Int32 → Int32 → xMu → Option (Int32 × xMu)
  | 0, _, _, _, _, _, _, _, _ => none
  | n + 1, v2, v3, v4, v5, v6, v7, v8, μ =>
  (if (256 : Int32) ≤ v8 then
(k127 v5 v7 μ)
else
(if v7 = 0 then
(k127 v5 v7 μ)
else
(x_ald μ 159 256 v8 fun x2 =>
(if x2 = 0 then
(f9_changesNothing_j121 (f9_changesNothing_l20 k127 n) v2 v3 v4 v5 v6 v7 v8 μ)
else
(if (v8 &&& v6) = 0 then
(f9_changesNothing_j121 (f9_changesNothing_l20 k127 n) v2 v3 v4 v5 v6 v7 v8 μ)
else
((f2_setFound v8 μ).bind fun μ3 =>
((f7_callOutermost 147 v2 v3 v4 μ3).bind fun q4 =>
((f2_settled q4.2 (v8 &&& (v6 ^^^ (-1 : Int32)))).bind fun x5 =>
((f2_setFound x5 q4.2).bind fun μ6 =>
((f7_callOutermost 147 v2 v3 v4 μ6).bind fun q7 =>
(if q4.1 = q7.1 then
(f9_changesNothing_j119 (f9_changesNothing_l20 k127 n) v2 v3 v4 v5 v6 v8 (1 : Int32) q7.2)
else
(f9_changesNothing_j119 (f9_changesNothing_l20 k127 n) v2 v3 v4 v5 v6 v8 (0 : Int32) q7.2))))))))))))
set_option maxHeartbeats 4000000 in
set_option maxRecDepth 100000 in
theorem l_f9_changesNothing_l20 (G : xG) (d : Nat) (hd : 453 ≤ d) (k127 : Int32 → Int32 → xMu → Option (Int32 × xMu)) (h127 : ∀ (v5 : Int32) (v7 : Int32) (μ1 : xMu), Wx G m9_changesNothing d 127 [some (.ref 146), none, none, none, none, some (.int v5), none, some (.int v7), none, none, none] [] μ1 x_wim (k127 v5 v7 μ1)) : ∀ (n : Nat) (v2 : Int32) (v3 : Int32) (v4 : Int32) (v5 : Int32) (v6 : Int32) (v7 : Int32) (v8 : Int32) (μ : xMu), Wx G m9_changesNothing d 20 [some (.ref 146), none, some (.int v2), some (.int v3), some (.int v4), some (.int v5), some (.int v6), some (.int v7), some (.int v8), none, none] [] μ x_wim (f9_changesNothing_l20 k127 n v2 v3 v4 v5 v6 v7 v8 μ) := by
  intro n
  induction n with
  | zero => intro v2 v3 v4 v5 v6 v7 v8 μ; exact wx_none
  | succ n h20 =>
    intro v2 v3 v4 v5 v6 v7 v8 μ
    unfold f9_changesNothing_l20
    refine wx_blk (pc' := 25) (L' := [some (.ref 146), none, some (.int v2), some (.int v3), some (.int v4), some (.int v5), some (.int v6), some (.int v7), some (.int v8), none, none]) (st' := [.int (256 : Int32), .int v8]) [.iload 8, .sipush 256] (by decide +kernel) rfl rfl ?_
    refine wx_ic_ge 127 (off := 102) (by decide +kernel) (by decide) ?_ ?_
    · refine wx_weak (L' := [some (.ref 146), none, none, none, none, some (.int v5), none, some (.int v7), none, none, none]) ⟨rfl, ⟨rfl, ⟨rfl, trivial⟩⟩⟩ ?_
      exact h127 v5 v7 μ
    · refine wx_blk (pc' := 30) (L' := [some (.ref 146), none, some (.int v2), some (.int v3), some (.int v4), some (.int v5), some (.int v6), some (.int v7), some (.int v8), none, none]) (st' := [.int v7]) [.iload 7] (by decide +kernel) rfl rfl ?_
      refine wx_if_eq 127 (off := 97) (by decide +kernel) (by decide) ?_ ?_
      · refine wx_weak (L' := [some (.ref 146), none, none, none, none, some (.int v5), none, some (.int v7), none, none, none]) ⟨rfl, ⟨rfl, ⟨rfl, trivial⟩⟩⟩ ?_
        exact h127 v5 v7 μ
      · refine wx_blk (pc' := 34) (L' := [some (.ref 146), none, some (.int v2), some (.int v3), some (.int v4), some (.int v5), some (.int v6), some (.int v7), some (.int v8), none, none]) (st' := [.ref 146]) [.aload_n 0] (by decide +kernel) rfl rfl ?_
        refine wx_getr is_146 ff_9_17 rfl rf_146_4 (by decide +kernel) ?_
        refine wx_blk (pc' := 39) (L' := [some (.ref 146), none, some (.int v2), some (.int v3), some (.int v4), some (.int v5), some (.int v6), some (.int v7), some (.int v8), none, none]) (st' := [.int v8, .ref 159]) [.iload 8] (by decide +kernel) rfl rfl ?_
        refine wx_zald is_159 sz_159 (by decide +kernel) (fun x2 => ?_)
        refine wx_if_eq 121 (off := 81) (by decide +kernel) (by decide) ?_ ?_
        · refine l_f9_changesNothing_j121 G d hd _ h20 v2 v3 v4 v5 v6 v7 v8 μ
        · refine wx_blk (pc' := 48) (L' := [some (.ref 146), none, some (.int v2), some (.int v3), some (.int v4), some (.int v5), some (.int v6), some (.int v7), some (.int v8), none, none]) (st' := [.int (v8 &&& v6)]) [.iload 8, .iload 6, .iand] (by decide +kernel) rfl rfl ?_
          refine wx_if_eq 121 (off := 73) (by decide +kernel) (by decide) ?_ ?_
          · refine l_f9_changesNothing_j121 G d hd _ h20 v2 v3 v4 v5 v6 v7 v8 μ
          · refine wx_blk (pc' := 52) (L' := [some (.ref 146), none, some (.int v2), some (.int v3), some (.int v4), some (.int v5), some (.int v6), some (.int v7), some (.int v8), none, none]) (st' := [.ref 146]) [.aload_n 0] (by decide +kernel) rfl rfl ?_
            refine wx_getr is_146 ff_9_25 rfl rf_146_1 (by decide +kernel) ?_
            refine wx_blk (pc' := 57) (L' := [some (.ref 146), none, some (.int v2), some (.int v3), some (.int v4), some (.int v5), some (.int v6), some (.int v7), some (.int v8), none, none]) (st' := [.int v8, .ref 127]) [.iload 8] (by decide +kernel) rfl rfl ?_
            refine wx_callV (d1 := 0) (As := [.int v8]) (rest := []) (by omega) is_127 (by decide) rfl cv_9_46 rfl (Nat.le_of_ble_eq_true rfl) (l_f2_setFound G 0 (by omega) v8 μ) rfl (by decide +kernel) (fun μ3 => ?_)
            refine wx_blk (pc' := 61) (L' := [some (.ref 146), none, some (.int v2), some (.int v3), some (.int v4), some (.int v5), some (.int v6), some (.int v7), some (.int v8), none, none]) (st' := [.ref 146]) [.aload_n 0] (by decide +kernel) rfl rfl ?_
            refine wx_getr is_146 ff_9_29 rfl rf_146_2 (by decide +kernel) ?_
            refine wx_blk (pc' := 68) (L' := [some (.ref 146), none, some (.int v2), some (.int v3), some (.int v4), some (.int v5), some (.int v6), some (.int v7), some (.int v8), none, none]) (st' := [.int v4, .int v3, .int v2, .ref 147]) [.iload_n 2, .iload_n 3, .iload 4] (by decide +kernel) rfl rfl ?_
            refine wx_callV (d1 := 452) (As := [.int v2, .int v3, .int v4]) (rest := []) (by omega) is_147 (by decide) rfl cv_9_50 rfl (Nat.le_of_ble_eq_true rfl) (l_f7_callOutermost G 452 (by omega) 147 v2 v3 v4 μ3) rfl (by decide +kernel) (fun q4 => ?_)
            refine wx_blk (pc' := 74) (L' := [some (.ref 146), none, some (.int v2), some (.int v3), some (.int v4), some (.int v5), some (.int v6), some (.int v7), some (.int v8), some (.int q4.1), none]) (st' := [.ref 146]) [.istore 9, .aload_n 0] (by decide +kernel) rfl rfl ?_
            refine wx_getr is_146 ff_9_25 rfl rf_146_1 (by decide +kernel) ?_
            refine wx_blk (pc' := 78) (L' := [some (.ref 146), none, some (.int v2), some (.int v3), some (.int v4), some (.int v5), some (.int v6), some (.int v7), some (.int v8), some (.int q4.1), none]) (st' := [.ref 146, .ref 127]) [.aload_n 0] (by decide +kernel) rfl rfl ?_
            refine wx_getr is_146 ff_9_25 rfl rf_146_1 (by decide +kernel) ?_
            refine wx_blk (pc' := 88) (L' := [some (.ref 146), none, some (.int v2), some (.int v3), some (.int v4), some (.int v5), some (.int v6), some (.int v7), some (.int v8), some (.int q4.1), none]) (st' := [.int (v8 &&& (v6 ^^^ (-1 : Int32))), .ref 127, .ref 127]) [.iload 8, .iload 6, .iconst (-1), .ixor, .iand] (by decide +kernel) rfl rfl ?_
            refine wx_callV (d1 := 1) (As := [.int (v8 &&& (v6 ^^^ (-1 : Int32)))]) (rest := [.ref 127]) (by omega) is_127 (by decide) rfl cv_9_56 rfl (Nat.le_of_ble_eq_true rfl) (l_f2_settled G 1 (by omega) q4.2 (v8 &&& (v6 ^^^ (-1 : Int32)))) rfl (by decide +kernel) (fun x5 => ?_)
            refine wx_callV (d1 := 0) (As := [.int x5]) (rest := []) (by omega) is_127 (by decide) rfl cv_9_46 rfl (Nat.le_of_ble_eq_true rfl) (l_f2_setFound G 0 (by omega) x5 q4.2) rfl (by decide +kernel) (fun μ6 => ?_)
            refine wx_blk (pc' := 95) (L' := [some (.ref 146), none, some (.int v2), some (.int v3), some (.int v4), some (.int v5), some (.int v6), some (.int v7), some (.int v8), some (.int q4.1), none]) (st' := [.ref 146]) [.aload_n 0] (by decide +kernel) rfl rfl ?_
            refine wx_getr is_146 ff_9_29 rfl rf_146_2 (by decide +kernel) ?_
            refine wx_blk (pc' := 102) (L' := [some (.ref 146), none, some (.int v2), some (.int v3), some (.int v4), some (.int v5), some (.int v6), some (.int v7), some (.int v8), some (.int q4.1), none]) (st' := [.int v4, .int v3, .int v2, .ref 147]) [.iload_n 2, .iload_n 3, .iload 4] (by decide +kernel) rfl rfl ?_
            refine wx_callV (d1 := 452) (As := [.int v2, .int v3, .int v4]) (rest := []) (by omega) is_147 (by decide) rfl cv_9_50 rfl (Nat.le_of_ble_eq_true rfl) (l_f7_callOutermost G 452 (by omega) 147 v2 v3 v4 μ6) rfl (by decide +kernel) (fun q7 => ?_)
            refine wx_blk (pc' := 111) (L' := [some (.ref 146), none, some (.int v2), some (.int v3), some (.int v4), some (.int v5), some (.int v6), some (.int v7), some (.int v8), some (.int q4.1), some (.int q7.1)]) (st' := [.int q7.1, .int q4.1]) [.istore 10, .iload 9, .iload 10] (by decide +kernel) rfl rfl ?_
            refine wx_ic_ne 118 (off := 7) (by decide +kernel) (by decide) ?_ ?_
            · refine wx_blk (pc' := 119) (L' := [some (.ref 146), none, some (.int v2), some (.int v3), some (.int v4), some (.int v5), some (.int v6), some (.int v7), some (.int v8), some (.int q4.1), some (.int q7.1)]) (st' := [.int (0 : Int32)]) [.iconst 0] (by decide +kernel) rfl rfl ?_
              refine wx_weak (L' := [some (.ref 146), none, some (.int v2), some (.int v3), some (.int v4), some (.int v5), some (.int v6), none, some (.int v8), none, none]) ⟨rfl, ⟨rfl, ⟨rfl, ⟨rfl, ⟨rfl, ⟨rfl, ⟨rfl, trivial⟩⟩⟩⟩⟩⟩⟩ ?_
              refine l_f9_changesNothing_j119 G d hd _ h20 v2 v3 v4 v5 v6 v8 (0 : Int32) q7.2
            · refine wx_blk (pc' := 115) (L' := [some (.ref 146), none, some (.int v2), some (.int v3), some (.int v4), some (.int v5), some (.int v6), some (.int v7), some (.int v8), some (.int q4.1), some (.int q7.1)]) (st' := [.int (1 : Int32)]) [.iconst 1] (by decide +kernel) rfl rfl ?_
              refine wx_goto 119 (off := 4) (by decide +kernel) (by decide) ?_
              refine wx_weak (L' := [some (.ref 146), none, some (.int v2), some (.int v3), some (.int v4), some (.int v5), some (.int v6), none, some (.int v8), none, none]) ⟨rfl, ⟨rfl, ⟨rfl, ⟨rfl, ⟨rfl, ⟨rfl, ⟨rfl, trivial⟩⟩⟩⟩⟩⟩⟩ ?_
              refine l_f9_changesNothing_j119 G d hd _ h20 v2 v3 v4 v5 v6 v8 (1 : Int32) q7.2
def f9_changesNothing_j127 (v5 : Int32) (v7 : Int32) (μ : xMu) : Option (Int32 × xMu) :=
  ((f2_setFound v5 μ).bind fun μ11 =>
(x_tst (x_zok v7) (some (v7, μ11))))
set_option maxHeartbeats 4000000 in
set_option maxRecDepth 100000 in
theorem l_f9_changesNothing_j127 (G : xG) (d : Nat) (hd : 453 ≤ d) (v5 : Int32) (v7 : Int32) (μ : xMu) : Wx G m9_changesNothing d 127 [some (.ref 146), none, none, none, none, some (.int v5), none, some (.int v7), none, none, none] [] μ x_wim (f9_changesNothing_j127 v5 v7 μ) := by
  unfold f9_changesNothing_j127
  refine wx_blk (pc' := 128) (L' := [some (.ref 146), none, none, none, none, some (.int v5), none, some (.int v7), none, none, none]) (st' := [.ref 146]) [.aload_n 0] (by decide +kernel) rfl rfl ?_
  refine wx_getr is_146 ff_9_25 rfl rf_146_1 (by decide +kernel) ?_
  refine wx_blk (pc' := 133) (L' := [some (.ref 146), none, none, none, none, some (.int v5), none, some (.int v7), none, none, none]) (st' := [.int v5, .ref 127]) [.iload 5] (by decide +kernel) rfl rfl ?_
  refine wx_callV (d1 := 0) (As := [.int v5]) (rest := []) (by omega) is_127 (by decide) rfl cv_9_46 rfl (Nat.le_of_ble_eq_true rfl) (l_f2_setFound G 0 (by omega) v5 μ) rfl (by decide +kernel) (fun μ11 => ?_)
  refine wx_blk (pc' := 138) (L' := [some (.ref 146), none, none, none, none, some (.int v5), none, some (.int v7), none, none, none]) (st' := [.int v7]) [.iload 7] (by decide +kernel) rfl rfl ?_
  exact wx_tst (fun hx12 => wx_zret rfl rfl hx12 (by decide +kernel))
def f9_changesNothing (v1 : Int32) (v2 : Int32) (v3 : Int32) (v4 : Int32) (μ : xMu) : Option (Int32 × xMu) :=
  ((f2_foundSet μ).bind fun x1 =>
(f9_changesNothing_l20 (fun (y8 : Int32) (y9 : Int32) (μ10 : xMu) => (f9_changesNothing_j127 y8 y9 μ10)) 1000 v2 v3 v4 x1 ((1 : Int32) <<< (v1 &&& 31)) (1 : Int32) (0 : Int32) μ))
set_option maxHeartbeats 4000000 in
set_option maxRecDepth 100000 in
theorem l_f9_changesNothing (G : xG) (d : Nat) (hd : 453 ≤ d) (v1 : Int32) (v2 : Int32) (v3 : Int32) (v4 : Int32) (μ : xMu) : Mx G m9_changesNothing d [.ref 146, .int v1, .int v2, .int v3, .int v4] μ x_wim (f9_changesNothing v1 v2 v3 v4 μ) := by
  refine mx_enter ok9_changesNothing [some (.ref 146), some (.int v1), some (.int v2), some (.int v3), some (.int v4), none, none, none, none, none, none] rfl (Nat.le_of_ble_eq_true rfl) ?_
  unfold f9_changesNothing
  refine wx_blk (pc' := 1) (L' := [some (.ref 146), some (.int v1), some (.int v2), some (.int v3), some (.int v4), none, none, none, none, none, none]) (st' := [.ref 146]) [.aload_n 0] (by decide +kernel) rfl rfl ?_
  refine wx_getr is_146 ff_9_25 rfl rf_146_1 (by decide +kernel) ?_
  refine wx_callV (d1 := 0) (As := []) (rest := []) (by omega) is_127 (by decide) rfl cv_9_42 rfl (Nat.le_of_ble_eq_true rfl) (l_f2_foundSet G 0 (by omega) μ) rfl (by decide +kernel) (fun x1 => ?_)
  refine wx_blk (pc' := 20) (L' := [some (.ref 146), some (.int v1), some (.int v2), some (.int v3), some (.int v4), some (.int x1), some (.int ((1 : Int32) <<< (v1 &&& 31))), some (.int (1 : Int32)), some (.int (0 : Int32)), none, none]) (st' := []) [.istore 5, .iconst 1, .iload_n 1, .ishl, .istore 6, .iconst 1, .istore 7, .iconst 0, .istore 8] (by decide +kernel) rfl rfl ?_
  refine wx_weak (L' := [some (.ref 146), none, some (.int v2), some (.int v3), some (.int v4), some (.int x1), some (.int ((1 : Int32) <<< (v1 &&& 31))), some (.int (1 : Int32)), some (.int (0 : Int32)), none, none]) ⟨rfl, ⟨rfl, ⟨rfl, ⟨rfl, ⟨rfl, ⟨rfl, ⟨rfl, ⟨rfl, trivial⟩⟩⟩⟩⟩⟩⟩⟩ ?_
  refine l_f9_changesNothing_l20 G d hd _ ?_ 1000 v2 v3 v4 x1 ((1 : Int32) <<< (v1 &&& 31)) (1 : Int32) (0 : Int32) μ
  · intro y8 y9 μ10
    refine l_f9_changesNothing_j127 G d hd y8 y9 μ10
/-! WakingLayers.same(IIIII)I -/
def f11_same (v1 : Int32) (v2 : Int32) (v3 : Int32) (v4 : Int32) (v5 : Int32) (μ : xMu) : Option (Int32 × xMu) :=
  ((f4_isLayer μ v1).bind fun x1 =>
(if x1 = 0 then
(some ((-1000001 : Int32), μ))
else
(x_rld 20 8 v1 fun r2 =>
(x_chk r2 3 (if (μ r2 0) = (2 : Int32) then
((f11_isCall μ v2 v3 v4).bind fun x4 =>
(if x4 = 0 then
(some ((-1000001 : Int32), μ))
else
((f9_isGreatest v5).bind fun x5 =>
(if x5 = 0 then
(some ((-1000001 : Int32), μ))
else
((f9_gather v5 μ).bind fun q6 =>
((f9_changesNothing v1 v2 v3 v4 q6.2).bind fun q7 =>
(if q7.1 = 0 then
(some ((0 : Int32), q7.2))
else
(some ((1 : Int32), q7.2)))))))))
else
(some ((-1000001 : Int32), μ)))))))
set_option maxHeartbeats 4000000 in
set_option maxRecDepth 100000 in
theorem l_f11_same (G : xG) (d : Nat) (hd : 454 ≤ d) (v1 : Int32) (v2 : Int32) (v3 : Int32) (v4 : Int32) (v5 : Int32) (μ : xMu) : Mx G m11_same d [.ref 0, .int v1, .int v2, .int v3, .int v4, .int v5] μ x_wim (f11_same v1 v2 v3 v4 v5 μ) := by
  refine mx_enter ok11_same [some (.ref 0), some (.int v1), some (.int v2), some (.int v3), some (.int v4), some (.int v5)] rfl (Nat.le_of_ble_eq_true rfl) ?_
  unfold f11_same
  refine wx_blk (pc' := 1) (L' := [some (.ref 0), some (.int v1), some (.int v2), some (.int v3), some (.int v4), some (.int v5)]) (st' := [.ref 0]) [.aload_n 0] (by decide +kernel) rfl rfl ?_
  refine wx_getr is_0 ff_11_26 rfl rf_0_2 (by decide +kernel) ?_
  refine wx_blk (pc' := 5) (L' := [some (.ref 0), some (.int v1), some (.int v2), some (.int v3), some (.int v4), some (.int v5)]) (st' := [.int v1, .ref 16]) [.iload_n 1] (by decide +kernel) rfl rfl ?_
  refine wx_callV (d1 := 0) (As := [.int v1]) (rest := []) (by omega) is_16 (by decide) rfl cv_11_147 rfl (Nat.le_of_ble_eq_true rfl) (l_f4_isLayer G 0 (by omega) μ v1) rfl (by decide +kernel) (fun x1 => ?_)
  refine wx_if_eq 27 (off := 19) (by decide +kernel) (by decide) ?_ ?_
  · refine wx_ldc (v := -1000001) xw_513 (by decide +kernel) ?_
    exact wx_iret rfl rfl (by decide +kernel)
  · refine wx_blk (pc' := 12) (L' := [some (.ref 0), some (.int v1), some (.int v2), some (.int v3), some (.int v4), some (.int v5)]) (st' := [.ref 0]) [.aload_n 0] (by decide +kernel) rfl rfl ?_
    refine wx_getr is_0 ff_11_26 rfl rf_0_2 (by decide +kernel) ?_
    refine wx_getr is_16 ff_11_150 rfl rf_16_3 (by decide +kernel) ?_
    refine wx_blk (pc' := 19) (L' := [some (.ref 0), some (.int v1), some (.int v2), some (.int v3), some (.int v4), some (.int v5)]) (st' := [.int v1, .ref 20]) [.iload_n 1] (by decide +kernel) rfl rfl ?_
    refine wx_rld is_20 (by decide) sz_20 (by decide +kernel) (fun r2 => ?_)
    refine wx_chk (fun hx3 => ?_)
    refine wx_geti hx3 ff_11_154 rfl (by decide +kernel) ?_
    refine wx_blk (pc' := 24) (L' := [some (.ref 0), some (.int v1), some (.int v2), some (.int v3), some (.int v4), some (.int v5)]) (st' := [.int (2 : Int32), .int (μ r2 0)]) [.iconst 2] (by decide +kernel) rfl rfl ?_
    refine wx_ic_eq 30 (off := 6) (by decide +kernel) (by decide) ?_ ?_
    · refine wx_blk (pc' := 35) (L' := [some (.ref 0), some (.int v1), some (.int v2), some (.int v3), some (.int v4), some (.int v5)]) (st' := [.int v4, .int v3, .int v2, .ref 0]) [.aload_n 0, .iload_n 2, .iload_n 3, .iload 4] (by decide +kernel) rfl rfl ?_
      refine wx_callV (d1 := 1) (As := [.int v2, .int v3, .int v4]) (rest := []) (by omega) is_0 (by decide) rfl cv_11_212 rfl (Nat.le_of_ble_eq_true rfl) (l_f11_isCall G 1 (by omega) μ v2 v3 v4) rfl (by decide +kernel) (fun x4 => ?_)
      refine wx_if_eq 49 (off := 11) (by decide +kernel) (by decide) ?_ ?_
      · refine wx_ldc (v := -1000001) xw_513 (by decide +kernel) ?_
        exact wx_iret rfl rfl (by decide +kernel)
      · refine wx_blk (pc' := 43) (L' := [some (.ref 0), some (.int v1), some (.int v2), some (.int v3), some (.int v4), some (.int v5)]) (st' := [.int v5]) [.iload 5] (by decide +kernel) rfl rfl ?_
        refine wx_callS (d1 := 0) (As := [.int v5]) (rest := []) (by omega) cs_11_224 rfl (Nat.le_of_ble_eq_true rfl) (l_f9_isGreatest G 0 (by omega) μ v5) rfl (by decide +kernel) (fun x5 => ?_)
        refine wx_if_ne 52 (off := 6) (by decide +kernel) (by decide) ?_ ?_
        · refine wx_blk (pc' := 53) (L' := [some (.ref 0), some (.int v1), some (.int v2), some (.int v3), some (.int v4), some (.int v5)]) (st' := [.ref 0]) [.aload_n 0] (by decide +kernel) rfl rfl ?_
          refine wx_getr is_0 ff_11_75 rfl rf_0_8 (by decide +kernel) ?_
          refine wx_blk (pc' := 58) (L' := [some (.ref 0), some (.int v1), some (.int v2), some (.int v3), some (.int v4), some (.int v5)]) (st' := [.int v5, .ref 146]) [.iload 5] (by decide +kernel) rfl rfl ?_
          refine wx_callV (d1 := 3) (As := [.int v5]) (rest := []) (by omega) is_146 (by decide) rfl cv_11_227 rfl (Nat.le_of_ble_eq_true rfl) (l_f9_gather G 3 (by omega) v5 μ) rfl (by decide +kernel) (fun q6 => ?_)
          refine wx_blk (pc' := 63) (L' := [some (.ref 0), some (.int v1), some (.int v2), some (.int v3), some (.int v4), some (.int v5)]) (st' := [.ref 0]) [.pop, .aload_n 0] (by decide +kernel) rfl rfl ?_
          refine wx_getr is_0 ff_11_75 rfl rf_0_8 (by decide +kernel) ?_
          refine wx_blk (pc' := 71) (L' := [some (.ref 0), some (.int v1), some (.int v2), some (.int v3), some (.int v4), some (.int v5)]) (st' := [.int v4, .int v3, .int v2, .int v1, .ref 146]) [.iload_n 1, .iload_n 2, .iload_n 3, .iload 4] (by decide +kernel) rfl rfl ?_
          refine wx_callV (d1 := 453) (As := [.int v1, .int v2, .int v3, .int v4]) (rest := []) (by omega) is_146 (by decide) rfl cv_11_233 rfl (Nat.le_of_ble_eq_true rfl) (l_f9_changesNothing G 453 (by omega) v1 v2 v3 v4 q6.2) rfl (by decide +kernel) (fun q7 => ?_)
          refine wx_if_eq 81 (off := 7) (by decide +kernel) (by decide) ?_ ?_
          · refine wx_blk (pc' := 82) (L' := [some (.ref 0), some (.int v1), some (.int v2), some (.int v3), some (.int v4), some (.int v5)]) (st' := [.int (0 : Int32)]) [.iconst 0] (by decide +kernel) rfl rfl ?_
            exact wx_iret rfl rfl (by decide +kernel)
          · refine wx_blk (pc' := 78) (L' := [some (.ref 0), some (.int v1), some (.int v2), some (.int v3), some (.int v4), some (.int v5)]) (st' := [.int (1 : Int32)]) [.iconst 1] (by decide +kernel) rfl rfl ?_
            refine wx_goto 82 (off := 4) (by decide +kernel) (by decide) ?_
            exact wx_iret rfl rfl (by decide +kernel)
        · refine wx_ldc (v := -1000001) xw_513 (by decide +kernel) ?_
          exact wx_iret rfl rfl (by decide +kernel)
    · refine wx_ldc (v := -1000001) xw_513 (by decide +kernel) ?_
      exact wx_iret rfl rfl (by decide +kernel)
/-! WakingLayers$Asker.kindOf(LWakingLayers$Layer;)I -/
def f0_kindOf (μ : xMu) (v0 : Nat) : Option Int32 :=
  (x_chk v0 3 (x_sw (μ v0 0) (nI 0) [
(some (1 : Int32)),
(some (2 : Int32)),
(if (μ v0 2) = 0 then
(some (3 : Int32))
else
(some (4 : Int32)))] 
(some (5 : Int32))))
set_option maxHeartbeats 4000000 in
set_option maxRecDepth 100000 in
theorem l_f0_kindOf (G : xG) (d : Nat) (hd : 0 ≤ d) (μ : xMu) (v0 : Nat) : Mx G m0_kindOf d [.ref v0] μ (x_wi μ) (f0_kindOf μ v0) := by
  refine mx_enter ok0_kindOf [some (.ref v0)] rfl (Nat.le_of_ble_eq_true rfl) ?_
  unfold f0_kindOf
  refine wx_blk (pc' := 1) (L' := [some (.ref v0)]) (st' := [.ref v0]) [.aload_n 0] (by decide +kernel) rfl rfl ?_
  refine wx_chk (fun hx1 => ?_)
  refine wx_geti hx1 ff_0_23 rfl (by decide +kernel) ?_
  refine wx_tsw [32, 34, 36] 49 0 (dflt := 45) (lo := 0) (hi := 2) (offs := #[28, 30, 32]) (len := 28) (by decide +kernel) rfl rfl (by decide) rfl rfl ⟨?_, ?_, ?_, trivial⟩ ?_
  · refine wx_blk (pc' := 33) (L' := [some (.ref v0)]) (st' := [.int (1 : Int32)]) [.iconst 1] (by decide +kernel) rfl rfl ?_
    exact wx_iret rfl rfl (by decide +kernel)
  · refine wx_blk (pc' := 35) (L' := [some (.ref v0)]) (st' := [.int (2 : Int32)]) [.iconst 2] (by decide +kernel) rfl rfl ?_
    exact wx_iret rfl rfl (by decide +kernel)
  · refine wx_blk (pc' := 37) (L' := [some (.ref v0)]) (st' := [.ref v0]) [.aload_n 0] (by decide +kernel) rfl rfl ?_
    refine wx_geti hx1 ff_0_29 rfl (by decide +kernel) ?_
    refine wx_if_ne 47 (off := 7) (by decide +kernel) (by decide) ?_ ?_
    · refine wx_blk (pc' := 48) (L' := [some (.ref v0)]) (st' := [.int (4 : Int32)]) [.iconst 4] (by decide +kernel) rfl rfl ?_
      exact wx_iret rfl rfl (by decide +kernel)
    · refine wx_blk (pc' := 44) (L' := [some (.ref v0)]) (st' := [.int (3 : Int32)]) [.iconst 3] (by decide +kernel) rfl rfl ?_
      refine wx_goto 48 (off := 4) (by decide +kernel) (by decide) ?_
      exact wx_iret rfl rfl (by decide +kernel)
  · refine wx_blk (pc' := 50) (L' := [some (.ref v0)]) (st' := [.int (5 : Int32)]) [.iconst 5] (by decide +kernel) rfl rfl ?_
    exact wx_iret rfl rfl (by decide +kernel)
/-! WakingLayers.kind(I)I -/
def f11_kind (μ : xMu) (v1 : Int32) : Option Int32 :=
  ((f4_isLayer μ v1).bind fun x1 =>
(if x1 = 0 then
(some (-1000001 : Int32))
else
(x_rld 20 8 v1 fun r2 =>
((f0_kindOf μ r2).bind fun x3 =>
(some x3)))))
set_option maxHeartbeats 4000000 in
set_option maxRecDepth 100000 in
theorem l_f11_kind (G : xG) (d : Nat) (hd : 1 ≤ d) (μ : xMu) (v1 : Int32) : Mx G m11_kind d [.ref 0, .int v1] μ (x_wi μ) (f11_kind μ v1) := by
  refine mx_enter ok11_kind [some (.ref 0), some (.int v1)] rfl (Nat.le_of_ble_eq_true rfl) ?_
  unfold f11_kind
  refine wx_blk (pc' := 1) (L' := [some (.ref 0), some (.int v1)]) (st' := [.ref 0]) [.aload_n 0] (by decide +kernel) rfl rfl ?_
  refine wx_getr is_0 ff_11_26 rfl rf_0_2 (by decide +kernel) ?_
  refine wx_blk (pc' := 5) (L' := [some (.ref 0), some (.int v1)]) (st' := [.int v1, .ref 16]) [.iload_n 1] (by decide +kernel) rfl rfl ?_
  refine wx_callV (d1 := 0) (As := [.int v1]) (rest := []) (by omega) is_16 (by decide) rfl cv_11_147 rfl (Nat.le_of_ble_eq_true rfl) (l_f4_isLayer G 0 (by omega) μ v1) rfl (by decide +kernel) (fun x1 => ?_)
  refine wx_if_eq 26 (off := 18) (by decide +kernel) (by decide) ?_ ?_
  · refine wx_ldc (v := -1000001) xw_513 (by decide +kernel) ?_
    exact wx_iret rfl rfl (by decide +kernel)
  · refine wx_blk (pc' := 12) (L' := [some (.ref 0), some (.int v1)]) (st' := [.ref 0]) [.aload_n 0] (by decide +kernel) rfl rfl ?_
    refine wx_getr is_0 ff_11_26 rfl rf_0_2 (by decide +kernel) ?_
    refine wx_getr is_16 ff_11_150 rfl rf_16_3 (by decide +kernel) ?_
    refine wx_blk (pc' := 19) (L' := [some (.ref 0), some (.int v1)]) (st' := [.int v1, .ref 20]) [.iload_n 1] (by decide +kernel) rfl rfl ?_
    refine wx_rld is_20 (by decide) sz_20 (by decide +kernel) (fun r2 => ?_)
    refine wx_callS (d1 := 0) (As := [.ref r2]) (rest := []) (by omega) cs_11_237 rfl (Nat.le_of_ble_eq_true rfl) (l_f0_kindOf G 0 (by omega) μ r2) rfl (by decide +kernel) (fun x3 => ?_)
    refine wx_goto 28 (off := 5) (by decide +kernel) (by decide) ?_
    exact wx_iret rfl rfl (by decide +kernel)
/-! WakingLayers$Asker.isKind(I)Z -/
def f0_isKind (v0 : Int32) : Option Int32 :=
  (if v0 < 0 then
(some (0 : Int32))
else
(if (5 : Int32) < v0 then
(some (0 : Int32))
else
(some (1 : Int32))))
set_option maxHeartbeats 4000000 in
set_option maxRecDepth 100000 in
theorem l_f0_isKind (G : xG) (d : Nat) (hd : 0 ≤ d) (μ : xMu) (v0 : Int32) : Mx G m0_isKind d [.int v0] μ (x_wi μ) (f0_isKind v0) := by
  refine mx_enter ok0_isKind [some (.int v0)] rfl (Nat.le_of_ble_eq_true rfl) ?_
  unfold f0_isKind
  refine wx_blk (pc' := 1) (L' := [some (.int v0)]) (st' := [.int v0]) [.iload_n 0] (by decide +kernel) rfl rfl ?_
  refine wx_if_lt 13 (off := 12) (by decide +kernel) (by decide) ?_ ?_
  · refine wx_blk (pc' := 14) (L' := [some (.int v0)]) (st' := [.int (0 : Int32)]) [.iconst 0] (by decide +kernel) rfl rfl ?_
    exact wx_zret rfl rfl (by decide) (by decide +kernel)
  · refine wx_blk (pc' := 6) (L' := [some (.int v0)]) (st' := [.int (5 : Int32), .int v0]) [.iload_n 0, .iconst 5] (by decide +kernel) rfl rfl ?_
    refine wx_ic_gt 13 (off := 7) (by decide +kernel) (by decide) ?_ ?_
    · refine wx_blk (pc' := 14) (L' := [some (.int v0)]) (st' := [.int (0 : Int32)]) [.iconst 0] (by decide +kernel) rfl rfl ?_
      exact wx_zret rfl rfl (by decide) (by decide +kernel)
    · refine wx_blk (pc' := 10) (L' := [some (.int v0)]) (st' := [.int (1 : Int32)]) [.iconst 1] (by decide +kernel) rfl rfl ?_
      refine wx_goto 14 (off := 4) (by decide +kernel) (by decide) ?_
      exact wx_zret rfl rfl (by decide) (by decide +kernel)
/-! WakingLayers$Asker.isOne(II)Z -/
def f0_isOne_l4 (μ : xMu) (k34 : Int32 → Int32 → Option Int32) : Nat → Int32 → Int32 → Int32 → Option Int32
  | 0, _, _, _ => none
  | n + 1, v1, v2, v3 =>
  (if (6 : Int32) ≤ v3 then
(k34 v1 v2)
else
(if v2 = (-1 : Int32) then
(k34 v1 v2)
else
(if v2 = v1 then
(k34 v1 v2)
else
(x_abo v2 fun x1 =>
((f0_isOne_l4 μ k34 n) v1 x1 (v3 + (1 : Int32)))))))
set_option maxHeartbeats 4000000 in
set_option maxRecDepth 100000 in
theorem l_f0_isOne_l4 (G : xG) (d : Nat) (hd : 0 ≤ d) (μ : xMu) (k34 : Int32 → Int32 → Option Int32) (h34 : ∀ (v1 : Int32) (v2 : Int32), Wx G m0_isOne d 34 [none, some (.int v1), some (.int v2), none] [] μ (x_wi μ) (k34 v1 v2)) : ∀ (n : Nat) (v1 : Int32) (v2 : Int32) (v3 : Int32), Wx G m0_isOne d 4 [none, some (.int v1), some (.int v2), some (.int v3)] [] μ (x_wi μ) (f0_isOne_l4 μ k34 n v1 v2 v3) := by
  intro n
  induction n with
  | zero => intro v1 v2 v3; exact wx_none
  | succ n h4 =>
    intro v1 v2 v3
    unfold f0_isOne_l4
    refine wx_blk (pc' := 5) (L' := [none, some (.int v1), some (.int v2), some (.int v3)]) (st' := [.int v3]) [.iload_n 3] (by decide +kernel) rfl rfl ?_
    refine wx_abo xw_1060 (by decide +kernel) ?_
    refine wx_abolen (by decide +kernel) ?_
    refine wx_ic_ge 34 (off := 25) (by decide +kernel) (by decide) ?_ ?_
    · refine wx_weak (L' := [none, some (.int v1), some (.int v2), none]) ⟨rfl, ⟨rfl, trivial⟩⟩ ?_
      exact h34 v1 v2
    · refine wx_blk (pc' := 14) (L' := [none, some (.int v1), some (.int v2), some (.int v3)]) (st' := [.int (-1 : Int32), .int v2]) [.iload_n 2, .iconst (-1)] (by decide +kernel) rfl rfl ?_
      refine wx_ic_eq 34 (off := 20) (by decide +kernel) (by decide) ?_ ?_
      · refine wx_weak (L' := [none, some (.int v1), some (.int v2), none]) ⟨rfl, ⟨rfl, trivial⟩⟩ ?_
        exact h34 v1 v2
      · refine wx_blk (pc' := 19) (L' := [none, some (.int v1), some (.int v2), some (.int v3)]) (st' := [.int v1, .int v2]) [.iload_n 2, .iload_n 1] (by decide +kernel) rfl rfl ?_
        refine wx_ic_eq 34 (off := 15) (by decide +kernel) (by decide) ?_ ?_
        · refine wx_weak (L' := [none, some (.int v1), some (.int v2), none]) ⟨rfl, ⟨rfl, trivial⟩⟩ ?_
          exact h34 v1 v2
        · refine wx_abo xw_1060 (by decide +kernel) ?_
          refine wx_blk (pc' := 26) (L' := [none, some (.int v1), some (.int v2), some (.int v3)]) (st' := [.int v2, .ref 900]) [.iload_n 2] (by decide +kernel) rfl rfl ?_
          refine wx_abold (by decide +kernel) (fun x1 => ?_)
          refine wx_blk (pc' := 31) (L' := [none, some (.int v1), some (.int x1), some (.int (v3 + (1 : Int32)))]) (st' := []) [.istore_n 2, .iinc 3 1] (by decide +kernel) rfl rfl ?_
          refine wx_goto 4 (off := -27) (by decide +kernel) (by decide) ?_
          exact h4 v1 x1 (v3 + (1 : Int32))
def f0_isOne_j34 (μ : xMu) (v1 : Int32) (v2 : Int32) : Option Int32 :=
  (if v2 = v1 then
(some (1 : Int32))
else
(some (0 : Int32)))
set_option maxHeartbeats 4000000 in
set_option maxRecDepth 100000 in
theorem l_f0_isOne_j34 (G : xG) (d : Nat) (hd : 0 ≤ d) (μ : xMu) (v1 : Int32) (v2 : Int32) : Wx G m0_isOne d 34 [none, some (.int v1), some (.int v2), none] [] μ (x_wi μ) (f0_isOne_j34 μ v1 v2) := by
  unfold f0_isOne_j34
  refine wx_blk (pc' := 36) (L' := [none, some (.int v1), some (.int v2), none]) (st' := [.int v1, .int v2]) [.iload_n 2, .iload_n 1] (by decide +kernel) rfl rfl ?_
  refine wx_ic_ne 43 (off := 7) (by decide +kernel) (by decide) ?_ ?_
  · refine wx_blk (pc' := 44) (L' := [none, some (.int v1), some (.int v2), none]) (st' := [.int (0 : Int32)]) [.iconst 0] (by decide +kernel) rfl rfl ?_
    exact wx_zret rfl rfl (by decide) (by decide +kernel)
  · refine wx_blk (pc' := 40) (L' := [none, some (.int v1), some (.int v2), none]) (st' := [.int (1 : Int32)]) [.iconst 1] (by decide +kernel) rfl rfl ?_
    refine wx_goto 44 (off := 4) (by decide +kernel) (by decide) ?_
    exact wx_zret rfl rfl (by decide) (by decide +kernel)
def f0_isOne (μ : xMu) (v0 : Int32) (v1 : Int32) : Option Int32 :=
  (f0_isOne_l4 μ (fun (y2 : Int32) (y3 : Int32) => (f0_isOne_j34 μ y2 y3)) 1000 v1 v0 (0 : Int32))
set_option maxHeartbeats 4000000 in
set_option maxRecDepth 100000 in
theorem l_f0_isOne (G : xG) (d : Nat) (hd : 0 ≤ d) (μ : xMu) (v0 : Int32) (v1 : Int32) : Mx G m0_isOne d [.int v0, .int v1] μ (x_wi μ) (f0_isOne μ v0 v1) := by
  refine mx_enter ok0_isOne [some (.int v0), some (.int v1), none, none] rfl (Nat.le_of_ble_eq_true rfl) ?_
  unfold f0_isOne
  refine wx_blk (pc' := 4) (L' := [some (.int v0), some (.int v1), some (.int v0), some (.int (0 : Int32))]) (st' := []) [.iload_n 0, .istore_n 2, .iconst 0, .istore_n 3] (by decide +kernel) rfl rfl ?_
  refine wx_weak (L' := [none, some (.int v1), some (.int v0), some (.int (0 : Int32))]) ⟨rfl, ⟨rfl, ⟨rfl, trivial⟩⟩⟩ ?_
  refine l_f0_isOne_l4 G d hd μ _ ?_ 1000 v1 v0 (0 : Int32)
  · intro y2 y3
    refine l_f0_isOne_j34 G d hd μ y2 y3
/-! WakingLayers.as(II)I -/
def f11_as (v1 : Int32) (v2 : Int32) (μ : xMu) : Option (Int32 × xMu) :=
  ((f4_isLayer μ v1).bind fun x1 =>
(if x1 = 0 then
(some ((-1000001 : Int32), μ))
else
((f0_isKind v2).bind fun x2 =>
(if x2 = 0 then
(some ((-1000001 : Int32), μ))
else
(x_rld 20 8 v1 fun r3 =>
((f0_kindOf μ r3).bind fun x4 =>
((f0_isOne μ x4 v2).bind fun x5 =>
(if x5 = 0 then
((f11_finding (3 : Int32) μ).bind fun q9 =>
(some (q9.1, q9.2)))
else
(x_rld 20 8 v1 fun r6 =>
(x_chk r6 3 ((f11_withoutFinding (μ r6 1) μ).bind fun q8 =>
(some (q8.1, q8.2)))))))))))))
set_option maxHeartbeats 4000000 in
set_option maxRecDepth 100000 in
theorem l_f11_as (G : xG) (d : Nat) (hd : 1 ≤ d) (v1 : Int32) (v2 : Int32) (μ : xMu) : Mx G m11_as d [.ref 0, .int v1, .int v2] μ x_wim (f11_as v1 v2 μ) := by
  refine mx_enter ok11_as [some (.ref 0), some (.int v1), some (.int v2)] rfl (Nat.le_of_ble_eq_true rfl) ?_
  unfold f11_as
  refine wx_blk (pc' := 1) (L' := [some (.ref 0), some (.int v1), some (.int v2)]) (st' := [.ref 0]) [.aload_n 0] (by decide +kernel) rfl rfl ?_
  refine wx_getr is_0 ff_11_26 rfl rf_0_2 (by decide +kernel) ?_
  refine wx_blk (pc' := 5) (L' := [some (.ref 0), some (.int v1), some (.int v2)]) (st' := [.int v1, .ref 16]) [.iload_n 1] (by decide +kernel) rfl rfl ?_
  refine wx_callV (d1 := 0) (As := [.int v1]) (rest := []) (by omega) is_16 (by decide) rfl cv_11_147 rfl (Nat.le_of_ble_eq_true rfl) (l_f4_isLayer G 0 (by omega) μ v1) rfl (by decide +kernel) (fun x1 => ?_)
  refine wx_if_eq 18 (off := 10) (by decide +kernel) (by decide) ?_ ?_
  · refine wx_ldc (v := -1000001) xw_513 (by decide +kernel) ?_
    exact wx_iret rfl rfl (by decide +kernel)
  · refine wx_blk (pc' := 12) (L' := [some (.ref 0), some (.int v1), some (.int v2)]) (st' := [.int v2]) [.iload_n 2] (by decide +kernel) rfl rfl ?_
    refine wx_callS (d1 := 0) (As := [.int v2]) (rest := []) (by omega) cs_11_241 rfl (Nat.le_of_ble_eq_true rfl) (l_f0_isKind G 0 (by omega) μ v2) rfl (by decide +kernel) (fun x2 => ?_)
    refine wx_if_ne 21 (off := 6) (by decide +kernel) (by decide) ?_ ?_
    · refine wx_blk (pc' := 22) (L' := [some (.ref 0), some (.int v1), some (.int v2)]) (st' := [.ref 0]) [.aload_n 0] (by decide +kernel) rfl rfl ?_
      refine wx_getr is_0 ff_11_26 rfl rf_0_2 (by decide +kernel) ?_
      refine wx_getr is_16 ff_11_150 rfl rf_16_3 (by decide +kernel) ?_
      refine wx_blk (pc' := 29) (L' := [some (.ref 0), some (.int v1), some (.int v2)]) (st' := [.int v1, .ref 20]) [.iload_n 1] (by decide +kernel) rfl rfl ?_
      refine wx_rld is_20 (by decide) sz_20 (by decide +kernel) (fun r3 => ?_)
      refine wx_callS (d1 := 0) (As := [.ref r3]) (rest := []) (by omega) cs_11_237 rfl (Nat.le_of_ble_eq_true rfl) (l_f0_kindOf G 0 (by omega) μ r3) rfl (by decide +kernel) (fun x4 => ?_)
      refine wx_blk (pc' := 34) (L' := [some (.ref 0), some (.int v1), some (.int v2)]) (st' := [.int v2, .int x4]) [.iload_n 2] (by decide +kernel) rfl rfl ?_
      refine wx_callS (d1 := 0) (As := [.int x4, .int v2]) (rest := []) (by omega) cs_11_244 rfl (Nat.le_of_ble_eq_true rfl) (l_f0_isOne G 0 (by omega) μ x4 v2) rfl (by decide +kernel) (fun x5 => ?_)
      refine wx_if_ne 46 (off := 9) (by decide +kernel) (by decide) ?_ ?_
      · refine wx_blk (pc' := 48) (L' := [some (.ref 0), some (.int v1), some (.int v2)]) (st' := [.ref 0, .ref 0]) [.aload_n 0, .aload_n 0] (by decide +kernel) rfl rfl ?_
        refine wx_getr is_0 ff_11_26 rfl rf_0_2 (by decide +kernel) ?_
        refine wx_getr is_16 ff_11_150 rfl rf_16_3 (by decide +kernel) ?_
        refine wx_blk (pc' := 55) (L' := [some (.ref 0), some (.int v1), some (.int v2)]) (st' := [.int v1, .ref 20, .ref 0]) [.iload_n 1] (by decide +kernel) rfl rfl ?_
        refine wx_rld is_20 (by decide) sz_20 (by decide +kernel) (fun r6 => ?_)
        refine wx_chk (fun hx7 => ?_)
        refine wx_geti hx7 ff_11_159 rfl (by decide +kernel) ?_
        refine wx_callV (d1 := 0) (As := [.int (μ r6 1)]) (rest := []) (by omega) is_0 (by decide) rfl cv_11_102 rfl (Nat.le_of_ble_eq_true rfl) (l_f11_withoutFinding G 0 (by omega) (μ r6 1) μ) rfl (by decide +kernel) (fun q8 => ?_)
        exact wx_iret rfl rfl (by decide +kernel)
      · refine wx_blk (pc' := 42) (L' := [some (.ref 0), some (.int v1), some (.int v2)]) (st' := [.int (3 : Int32), .ref 0]) [.aload_n 0, .iconst 3] (by decide +kernel) rfl rfl ?_
        refine wx_callV (d1 := 0) (As := [.int (3 : Int32)]) (rest := []) (by omega) is_0 (by decide) rfl cv_11_94 rfl (Nat.le_of_ble_eq_true rfl) (l_f11_finding G 0 (by omega) (3 : Int32) μ) rfl (by decide +kernel) (fun q9 => ?_)
        exact wx_iret rfl rfl (by decide +kernel)
    · refine wx_ldc (v := -1000001) xw_513 (by decide +kernel) ?_
      exact wx_iret rfl rfl (by decide +kernel)
/-! WakingLayers$Asker.isAsk(I)Z -/
def f0_isAsk_j9 : Option Int32 :=
  (some (1 : Int32))
set_option maxHeartbeats 4000000 in
set_option maxRecDepth 100000 in
theorem l_f0_isAsk_j9 (G : xG) (d : Nat) (hd : 0 ≤ d) (μ : xMu) : Wx G m0_isAsk d 9 [none] [] μ (x_wi μ) (f0_isAsk_j9) := by
  unfold f0_isAsk_j9
  refine wx_blk (pc' := 10) (L' := [none]) (st' := [.int (1 : Int32)]) [.iconst 1] (by decide +kernel) rfl rfl ?_
  refine wx_goto 14 (off := 4) (by decide +kernel) (by decide) ?_
  exact wx_zret rfl rfl (by decide) (by decide +kernel)
def f0_isAsk (v0 : Int32) : Option Int32 :=
  (if v0 = 0 then
(f0_isAsk_j9)
else
(if v0 = (1 : Int32) then
(f0_isAsk_j9)
else
(some (0 : Int32))))
set_option maxHeartbeats 4000000 in
set_option maxRecDepth 100000 in
theorem l_f0_isAsk (G : xG) (d : Nat) (hd : 0 ≤ d) (μ : xMu) (v0 : Int32) : Mx G m0_isAsk d [.int v0] μ (x_wi μ) (f0_isAsk v0) := by
  refine mx_enter ok0_isAsk [some (.int v0)] rfl (Nat.le_of_ble_eq_true rfl) ?_
  unfold f0_isAsk
  refine wx_blk (pc' := 1) (L' := [some (.int v0)]) (st' := [.int v0]) [.iload_n 0] (by decide +kernel) rfl rfl ?_
  refine wx_if_eq 9 (off := 8) (by decide +kernel) (by decide) ?_ ?_
  · refine wx_weak (L' := [none]) trivial ?_
    refine l_f0_isAsk_j9 G d hd μ
  · refine wx_blk (pc' := 6) (L' := [some (.int v0)]) (st' := [.int (1 : Int32), .int v0]) [.iload_n 0, .iconst 1] (by decide +kernel) rfl rfl ?_
    refine wx_ic_ne 13 (off := 7) (by decide +kernel) (by decide) ?_ ?_
    · refine wx_blk (pc' := 14) (L' := [some (.int v0)]) (st' := [.int (0 : Int32)]) [.iconst 0] (by decide +kernel) rfl rfl ?_
      exact wx_zret rfl rfl (by decide) (by decide +kernel)
    · refine wx_weak (L' := [none]) trivial ?_
      refine l_f0_isAsk_j9 G d hd μ
/-! WakingLayers$Asker.clearTrace()V -/
def f0_clearTrace (μ : xMu) : Option xMu :=
  (x_put μ 160 3 (0 : Int32) fun μ1 =>
(some μ1))
set_option maxHeartbeats 4000000 in
set_option maxRecDepth 100000 in
theorem l_f0_clearTrace (G : xG) (d : Nat) (hd : 0 ≤ d) (μ : xMu) : Mx G m0_clearTrace d [.ref 160] μ x_wv (f0_clearTrace μ) := by
  refine mx_enter ok0_clearTrace [some (.ref 160)] rfl (Nat.le_of_ble_eq_true rfl) ?_
  unfold f0_clearTrace
  refine wx_blk (pc' := 2) (L' := [some (.ref 160)]) (st' := [.int (0 : Int32), .ref 160]) [.aload_n 0, .iconst 0] (by decide +kernel) rfl rfl ?_
  refine wx_put is_160 ff_0_35 fp_0_3 ⟨rfl, rfl⟩ (by decide +kernel) (fun μ1 => ?_)
  exact wx_vret rfl rfl (by decide +kernel)
/-! WakingLayers$Asker.leave(I)V -/
def f0_leave (v1 : Int32) (μ : xMu) : Option xMu :=
  (if (16 : Int32) ≤ (μ 160 3) then
(some μ)
else
(x_ast μ 161 16 (μ 160 3) v1 fun μ1 =>
(x_put μ1 160 3 ((μ1 160 3) + (1 : Int32)) fun μ2 =>
(some μ2))))
set_option maxHeartbeats 4000000 in
set_option maxRecDepth 100000 in
theorem l_f0_leave (G : xG) (d : Nat) (hd : 0 ≤ d) (v1 : Int32) (μ : xMu) : Mx G m0_leave d [.ref 160, .int v1] μ x_wv (f0_leave v1 μ) := by
  refine mx_enter ok0_leave [some (.ref 160), some (.int v1)] rfl (Nat.le_of_ble_eq_true rfl) ?_
  unfold f0_leave
  refine wx_blk (pc' := 1) (L' := [some (.ref 160), some (.int v1)]) (st' := [.ref 160]) [.aload_n 0] (by decide +kernel) rfl rfl ?_
  refine wx_geti is_160 ff_0_35 rfl (by decide +kernel) ?_
  refine wx_blk (pc' := 6) (L' := [some (.ref 160), some (.int v1)]) (st' := [.int (16 : Int32), .int (μ 160 3)]) [.bipush 16] (by decide +kernel) rfl rfl ?_
  refine wx_ic_ge 29 (off := 23) (by decide +kernel) (by decide) ?_ ?_
  · exact wx_vret rfl rfl (by decide +kernel)
  · refine wx_blk (pc' := 10) (L' := [some (.ref 160), some (.int v1)]) (st' := [.ref 160]) [.aload_n 0] (by decide +kernel) rfl rfl ?_
    refine wx_getr is_160 ff_0_11 rfl rf_160_2 (by decide +kernel) ?_
    refine wx_blk (pc' := 14) (L' := [some (.ref 160), some (.int v1)]) (st' := [.ref 160, .ref 161]) [.aload_n 0] (by decide +kernel) rfl rfl ?_
    refine wx_geti is_160 ff_0_35 rfl (by decide +kernel) ?_
    refine wx_blk (pc' := 18) (L' := [some (.ref 160), some (.int v1)]) (st' := [.int v1, .int (μ 160 3), .ref 161]) [.iload_n 1] (by decide +kernel) rfl rfl ?_
    refine wx_ast is_161 sz_161 (by decide +kernel) (fun μ1 => ?_)
    refine wx_blk (pc' := 21) (L' := [some (.ref 160), some (.int v1)]) (st' := [.ref 160, .ref 160]) [.aload_n 0, .dup] (by decide +kernel) rfl rfl ?_
    refine wx_geti is_160 ff_0_35 rfl (by decide +kernel) ?_
    refine wx_blk (pc' := 26) (L' := [some (.ref 160), some (.int v1)]) (st' := [.int ((μ1 160 3) + (1 : Int32)), .ref 160]) [.iconst 1, .iadd] (by decide +kernel) rfl rfl ?_
    refine wx_put is_160 ff_0_35 fp_0_3 ⟨rfl, rfl⟩ (by decide +kernel) (fun μ2 => ?_)
    exact wx_vret rfl rfl (by decide +kernel)
/-! WakingLayers$Asker.lentSize(I)I -/
def f0_lentSize (v1 : Int32) (μ : xMu) : Option (Int32 × xMu) :=
  ((f0_leave (10 : Int32) μ).bind fun μ1 =>
(x_rld 20 8 v1 fun r2 =>
(x_chk r2 3 (some ((μ1 r2 1), μ1)))))
set_option maxHeartbeats 4000000 in
set_option maxRecDepth 100000 in
theorem l_f0_lentSize (G : xG) (d : Nat) (hd : 1 ≤ d) (v1 : Int32) (μ : xMu) : Mx G m0_lentSize d [.ref 160, .int v1] μ x_wim (f0_lentSize v1 μ) := by
  refine mx_enter ok0_lentSize [some (.ref 160), some (.int v1)] rfl (Nat.le_of_ble_eq_true rfl) ?_
  unfold f0_lentSize
  refine wx_blk (pc' := 3) (L' := [some (.ref 160), some (.int v1)]) (st' := [.int (10 : Int32), .ref 160]) [.aload_n 0, .bipush 10] (by decide +kernel) rfl rfl ?_
  refine wx_callV (d1 := 0) (As := [.int (10 : Int32)]) (rest := []) (by omega) is_160 (by decide) rfl cv_0_74 rfl (Nat.le_of_ble_eq_true rfl) (l_f0_leave G 0 (by omega) (10 : Int32) μ) rfl (by decide +kernel) (fun μ1 => ?_)
  refine wx_blk (pc' := 7) (L' := [some (.ref 160), some (.int v1)]) (st' := [.ref 160]) [.aload_n 0] (by decide +kernel) rfl rfl ?_
  refine wx_getr is_160 ff_0_15 rfl rf_160_0 (by decide +kernel) ?_
  refine wx_getr is_16 ff_0_39 rfl rf_16_3 (by decide +kernel) ?_
  refine wx_blk (pc' := 14) (L' := [some (.ref 160), some (.int v1)]) (st' := [.int v1, .ref 20]) [.iload_n 1] (by decide +kernel) rfl rfl ?_
  refine wx_rld is_20 (by decide) sz_20 (by decide +kernel) (fun r2 => ?_)
  refine wx_chk (fun hx3 => ?_)
  refine wx_geti hx3 ff_0_78 rfl (by decide +kernel) ?_
  exact wx_iret rfl rfl (by decide +kernel)
/-! WakingLayers$Asker.sizeOfSpanned(I)I -/
def f0_sizeOfSpanned (v1 : Int32) (μ : xMu) : Option (Int32 × xMu) :=
  ((f0_leave (11 : Int32) μ).bind fun μ1 =>
((f0_lentSize v1 μ1).bind fun q2 =>
((f2_openOf q2.2 v1).bind fun x3 =>
(some ((q2.1 + x3), q2.2)))))
set_option maxHeartbeats 4000000 in
set_option maxRecDepth 100000 in
theorem l_f0_sizeOfSpanned (G : xG) (d : Nat) (hd : 2 ≤ d) (v1 : Int32) (μ : xMu) : Mx G m0_sizeOfSpanned d [.ref 160, .int v1] μ x_wim (f0_sizeOfSpanned v1 μ) := by
  refine mx_enter ok0_sizeOfSpanned [some (.ref 160), some (.int v1)] rfl (Nat.le_of_ble_eq_true rfl) ?_
  unfold f0_sizeOfSpanned
  refine wx_blk (pc' := 3) (L' := [some (.ref 160), some (.int v1)]) (st' := [.int (11 : Int32), .ref 160]) [.aload_n 0, .bipush 11] (by decide +kernel) rfl rfl ?_
  refine wx_callV (d1 := 0) (As := [.int (11 : Int32)]) (rest := []) (by omega) is_160 (by decide) rfl cv_0_74 rfl (Nat.le_of_ble_eq_true rfl) (l_f0_leave G 0 (by omega) (11 : Int32) μ) rfl (by decide +kernel) (fun μ1 => ?_)
  refine wx_blk (pc' := 8) (L' := [some (.ref 160), some (.int v1)]) (st' := [.int v1, .ref 160]) [.aload_n 0, .iload_n 1] (by decide +kernel) rfl rfl ?_
  refine wx_callV (d1 := 1) (As := [.int v1]) (rest := []) (by omega) is_160 (by decide) rfl cv_0_62 rfl (Nat.le_of_ble_eq_true rfl) (l_f0_lentSize G 1 (by omega) v1 μ1) rfl (by decide +kernel) (fun q2 => ?_)
  refine wx_blk (pc' := 12) (L' := [some (.ref 160), some (.int v1)]) (st' := [.ref 160, .int q2.1]) [.aload_n 0] (by decide +kernel) rfl rfl ?_
  refine wx_getr is_160 ff_0_19 rfl rf_160_1 (by decide +kernel) ?_
  refine wx_blk (pc' := 16) (L' := [some (.ref 160), some (.int v1)]) (st' := [.int v1, .ref 127, .int q2.1]) [.iload_n 1] (by decide +kernel) rfl rfl ?_
  refine wx_callV (d1 := 0) (As := [.int v1]) (rest := [.int q2.1]) (by omega) is_127 (by decide) rfl cv_0_81 rfl (Nat.le_of_ble_eq_true rfl) (l_f2_openOf G 0 (by omega) q2.2 v1) rfl (by decide +kernel) (fun x3 => ?_)
  refine wx_blk (pc' := 20) (L' := [some (.ref 160), some (.int v1)]) (st' := [.int (q2.1 + x3)]) [.iadd] (by decide +kernel) rfl rfl ?_
  exact wx_iret rfl rfl (by decide +kernel)
/-! WakingLayers$Asker.sizeOfOwned(I)I -/
def f0_sizeOfOwned (v1 : Int32) (μ : xMu) : Option (Int32 × xMu) :=
  ((f0_leave (12 : Int32) μ).bind fun μ1 =>
((f0_sizeOfSpanned v1 μ1).bind fun q2 =>
(some (((2 : Int32) * q2.1), q2.2))))
set_option maxHeartbeats 4000000 in
set_option maxRecDepth 100000 in
theorem l_f0_sizeOfOwned (G : xG) (d : Nat) (hd : 3 ≤ d) (v1 : Int32) (μ : xMu) : Mx G m0_sizeOfOwned d [.ref 160, .int v1] μ x_wim (f0_sizeOfOwned v1 μ) := by
  refine mx_enter ok0_sizeOfOwned [some (.ref 160), some (.int v1)] rfl (Nat.le_of_ble_eq_true rfl) ?_
  unfold f0_sizeOfOwned
  refine wx_blk (pc' := 3) (L' := [some (.ref 160), some (.int v1)]) (st' := [.int (12 : Int32), .ref 160]) [.aload_n 0, .bipush 12] (by decide +kernel) rfl rfl ?_
  refine wx_callV (d1 := 0) (As := [.int (12 : Int32)]) (rest := []) (by omega) is_160 (by decide) rfl cv_0_74 rfl (Nat.le_of_ble_eq_true rfl) (l_f0_leave G 0 (by omega) (12 : Int32) μ) rfl (by decide +kernel) (fun μ1 => ?_)
  refine wx_blk (pc' := 9) (L' := [some (.ref 160), some (.int v1)]) (st' := [.int v1, .ref 160, .int (2 : Int32)]) [.iconst 2, .aload_n 0, .iload_n 1] (by decide +kernel) rfl rfl ?_
  refine wx_callV (d1 := 2) (As := [.int v1]) (rest := [.int (2 : Int32)]) (by omega) is_160 (by decide) rfl cv_0_49 rfl (Nat.le_of_ble_eq_true rfl) (l_f0_sizeOfSpanned G 2 (by omega) v1 μ1) rfl (by decide +kernel) (fun q2 => ?_)
  refine wx_blk (pc' := 13) (L' := [some (.ref 160), some (.int v1)]) (st' := [.int ((2 : Int32) * q2.1)]) [.imul] (by decide +kernel) rfl rfl ?_
  exact wx_iret rfl rfl (by decide +kernel)
/-! WakingLayers$Program.bodiesOf(I)I -/
def f4_bodiesOf_j28 (μ : xMu) (k4 : Int32 → Int32 → Int32 → Option Int32) (v1 : Int32) (v2 : Int32) (v3 : Int32) : Option Int32 :=
  (k4 v1 v2 (v3 + (1 : Int32)))
set_option maxHeartbeats 4000000 in
set_option maxRecDepth 100000 in
theorem l_f4_bodiesOf_j28 (G : xG) (d : Nat) (hd : 0 ≤ d) (μ : xMu) (k4 : Int32 → Int32 → Int32 → Option Int32) (h4 : ∀ (v1 : Int32) (v2 : Int32) (v3 : Int32), Wx G m4_bodiesOf d 4 [some (.ref 16), some (.int v1), some (.int v2), some (.int v3)] [] μ (x_wi μ) (k4 v1 v2 v3)) (v1 : Int32) (v2 : Int32) (v3 : Int32) : Wx G m4_bodiesOf d 28 [some (.ref 16), some (.int v1), some (.int v2), some (.int v3)] [] μ (x_wi μ) (f4_bodiesOf_j28 μ k4 v1 v2 v3) := by
  unfold f4_bodiesOf_j28
  refine wx_blk (pc' := 31) (L' := [some (.ref 16), some (.int v1), some (.int v2), some (.int (v3 + (1 : Int32)))]) (st' := []) [.iinc 3 1] (by decide +kernel) rfl rfl ?_
  refine wx_goto 4 (off := -27) (by decide +kernel) (by decide) ?_
  exact h4 v1 v2 (v3 + (1 : Int32))
def f4_bodiesOf_l4 (μ : xMu) (k34 : Int32 → Option Int32) : Nat → Int32 → Int32 → Int32 → Option Int32
  | 0, _, _, _ => none
  | n + 1, v1, v2, v3 =>
  (if (μ 16 8) ≤ v3 then
(k34 v2)
else
(x_rld 21 24 v3 fun r1 =>
(x_chk r1 1 (if (μ r1 4) = v1 then
(f4_bodiesOf_j28 μ (f4_bodiesOf_l4 μ k34 n) v1 (v2 + (1 : Int32)) v3)
else
(f4_bodiesOf_j28 μ (f4_bodiesOf_l4 μ k34 n) v1 v2 v3)))))
set_option maxHeartbeats 4000000 in
set_option maxRecDepth 100000 in
theorem l_f4_bodiesOf_l4 (G : xG) (d : Nat) (hd : 0 ≤ d) (μ : xMu) (k34 : Int32 → Option Int32) (h34 : ∀ (v2 : Int32), Wx G m4_bodiesOf d 34 [none, none, some (.int v2), none] [] μ (x_wi μ) (k34 v2)) : ∀ (n : Nat) (v1 : Int32) (v2 : Int32) (v3 : Int32), Wx G m4_bodiesOf d 4 [some (.ref 16), some (.int v1), some (.int v2), some (.int v3)] [] μ (x_wi μ) (f4_bodiesOf_l4 μ k34 n v1 v2 v3) := by
  intro n
  induction n with
  | zero => intro v1 v2 v3; exact wx_none
  | succ n h4 =>
    intro v1 v2 v3
    unfold f4_bodiesOf_l4
    refine wx_blk (pc' := 6) (L' := [some (.ref 16), some (.int v1), some (.int v2), some (.int v3)]) (st' := [.ref 16, .int v3]) [.iload_n 3, .aload_n 0] (by decide +kernel) rfl rfl ?_
    refine wx_geti is_16 ff_4_52 rfl (by decide +kernel) ?_
    refine wx_ic_ge 34 (off := 25) (by decide +kernel) (by decide) ?_ ?_
    · refine wx_weak (L' := [none, none, some (.int v2), none]) ⟨rfl, trivial⟩ ?_
      exact h34 v2
    · refine wx_blk (pc' := 13) (L' := [some (.ref 16), some (.int v1), some (.int v2), some (.int v3)]) (st' := [.ref 16]) [.aload_n 0] (by decide +kernel) rfl rfl ?_
      refine wx_getr is_16 ff_4_27 rfl rf_16_4 (by decide +kernel) ?_
      refine wx_blk (pc' := 17) (L' := [some (.ref 16), some (.int v1), some (.int v2), some (.int v3)]) (st' := [.int v3, .ref 21]) [.iload_n 3] (by decide +kernel) rfl rfl ?_
      refine wx_rld is_21 (by decide) sz_21 (by decide +kernel) (fun r1 => ?_)
      refine wx_chk (fun hx2 => ?_)
      refine wx_geti hx2 ff_4_58 rfl (by decide +kernel) ?_
      refine wx_blk (pc' := 22) (L' := [some (.ref 16), some (.int v1), some (.int v2), some (.int v3)]) (st' := [.int v1, .int (μ r1 4)]) [.iload_n 1] (by decide +kernel) rfl rfl ?_
      refine wx_ic_ne 28 (off := 6) (by decide +kernel) (by decide) ?_ ?_
      · refine l_f4_bodiesOf_j28 G d hd μ _ h4 v1 v2 v3
      · refine wx_blk (pc' := 28) (L' := [some (.ref 16), some (.int v1), some (.int (v2 + (1 : Int32))), some (.int v3)]) (st' := []) [.iinc 2 1] (by decide +kernel) rfl rfl ?_
        refine l_f4_bodiesOf_j28 G d hd μ _ h4 v1 (v2 + (1 : Int32)) v3
def f4_bodiesOf (μ : xMu) (v1 : Int32) : Option Int32 :=
  (f4_bodiesOf_l4 μ (fun (y3 : Int32) => (some y3)) 1000 v1 (0 : Int32) (0 : Int32))
set_option maxHeartbeats 4000000 in
set_option maxRecDepth 100000 in
theorem l_f4_bodiesOf (G : xG) (d : Nat) (hd : 0 ≤ d) (μ : xMu) (v1 : Int32) : Mx G m4_bodiesOf d [.ref 16, .int v1] μ (x_wi μ) (f4_bodiesOf μ v1) := by
  refine mx_enter ok4_bodiesOf [some (.ref 16), some (.int v1), none, none] rfl (Nat.le_of_ble_eq_true rfl) ?_
  unfold f4_bodiesOf
  refine wx_blk (pc' := 4) (L' := [some (.ref 16), some (.int v1), some (.int (0 : Int32)), some (.int (0 : Int32))]) (st' := []) [.iconst 0, .istore_n 2, .iconst 0, .istore_n 3] (by decide +kernel) rfl rfl ?_
  refine l_f4_bodiesOf_l4 G d hd μ _ ?_ 1000 v1 (0 : Int32) (0 : Int32)
  · intro y3
    refine wx_blk (pc' := 35) (L' := [none, none, some (.int y3), none]) (st' := [.int y3]) [.iload_n 2] (by decide +kernel) rfl rfl ?_
    exact wx_iret rfl rfl (by decide +kernel)
