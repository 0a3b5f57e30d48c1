/-! WakingLayers$Circumstances.latestOpen(II)I -/
def f2_latestOpen_j56 (μ : xMu) (k7 : Int32 → Int32 → Int32 → Option Int32) (v1 : Int32) (v2 : Int32) (v3 : Int32) : Option Int32 :=
  (k7 v1 v2 (v3 + (-1 : Int32)))
set_option maxHeartbeats 4000000 in
set_option maxRecDepth 100000 in
theorem l_f2_latestOpen_j56 (G : xG) (d : Nat) (hd : 0 ≤ d) (μ : xMu) (k7 : Int32 → Int32 → Int32 → Option Int32) (h7 : ∀ (v1 : Int32) (v2 : Int32) (v3 : Int32), Wx G m2_latestOpen d 7 [some (.ref 127), some (.int v1), some (.int v2), some (.int v3), none] [] μ (x_wi μ) (k7 v1 v2 v3)) (v1 : Int32) (v2 : Int32) (v3 : Int32) : Wx G m2_latestOpen d 56 [some (.ref 127), some (.int v1), some (.int v2), some (.int v3), none] [] μ (x_wi μ) (f2_latestOpen_j56 μ k7 v1 v2 v3) := by
  unfold f2_latestOpen_j56
  refine wx_blk (pc' := 59) (L' := [some (.ref 127), some (.int v1), some (.int v2), some (.int (v3 + (-1 : Int32))), none]) (st' := []) [.iinc 3 (-1)] (by decide +kernel) rfl rfl ?_
  refine wx_goto 7 (off := -52) (by decide +kernel) (by decide) ?_
  exact h7 v1 v2 (v3 + (-1 : Int32))
def f2_latestOpen_j37 (μ : xMu) (k7 : Int32 → Int32 → Int32 → Option Int32) (v1 : Int32) (v2 : Int32) (v3 : Int32) (s0 : Int32) : Option Int32 :=
  (if s0 = 0 then
(f2_latestOpen_j56 μ k7 v1 v2 v3)
else
(x_ald μ 129 16 v3 fun x2 =>
(if x2 = v1 then
(some v3)
else
(f2_latestOpen_j56 μ k7 v1 v2 v3))))
set_option maxHeartbeats 4000000 in
set_option maxRecDepth 100000 in
theorem l_f2_latestOpen_j37 (G : xG) (d : Nat) (hd : 0 ≤ d) (μ : xMu) (k7 : Int32 → Int32 → Int32 → Option Int32) (h7 : ∀ (v1 : Int32) (v2 : Int32) (v3 : Int32), Wx G m2_latestOpen d 7 [some (.ref 127), some (.int v1), some (.int v2), some (.int v3), none] [] μ (x_wi μ) (k7 v1 v2 v3)) (v1 : Int32) (v2 : Int32) (v3 : Int32) (s0 : Int32) : Wx G m2_latestOpen d 37 [some (.ref 127), some (.int v1), some (.int v2), some (.int v3), none] [.int s0] μ (x_wi μ) (f2_latestOpen_j37 μ k7 v1 v2 v3 s0) := by
  unfold f2_latestOpen_j37
  refine wx_blk (pc' := 41) (L' := [some (.ref 127), some (.int v1), some (.int v2), some (.int v3), some (.int s0)]) (st' := [.int s0]) [.istore 4, .iload 4] (by decide +kernel) rfl rfl ?_
  refine wx_if_eq 56 (off := 15) (by decide +kernel) (by decide) ?_ ?_
  · refine wx_weak (L' := [some (.ref 127), some (.int v1), some (.int v2), some (.int v3), none]) ⟨rfl, ⟨rfl, ⟨rfl, ⟨rfl, trivial⟩⟩⟩⟩ ?_
    refine l_f2_latestOpen_j56 G d hd μ _ h7 v1 v2 v3
  · refine wx_blk (pc' := 45) (L' := [some (.ref 127), some (.int v1), some (.int v2), some (.int v3), some (.int s0)]) (st' := [.ref 127]) [.aload_n 0] (by decide +kernel) rfl rfl ?_
    refine wx_getr is_127 ff_2_15 rfl rf_127_2 (by decide +kernel) ?_
    refine wx_blk (pc' := 49) (L' := [some (.ref 127), some (.int v1), some (.int v2), some (.int v3), some (.int s0)]) (st' := [.int v3, .ref 129]) [.iload_n 3] (by decide +kernel) rfl rfl ?_
    refine wx_ald is_129 sz_129 (by decide +kernel) (fun x2 => ?_)
    refine wx_blk (pc' := 51) (L' := [some (.ref 127), some (.int v1), some (.int v2), some (.int v3), some (.int s0)]) (st' := [.int v1, .int x2]) [.iload_n 1] (by decide +kernel) rfl rfl ?_
    refine wx_ic_ne 56 (off := 5) (by decide +kernel) (by decide) ?_ ?_
    · refine wx_weak (L' := [some (.ref 127), some (.int v1), some (.int v2), some (.int v3), none]) ⟨rfl, ⟨rfl, ⟨rfl, ⟨rfl, trivial⟩⟩⟩⟩ ?_
      refine l_f2_latestOpen_j56 G d hd μ _ h7 v1 v2 v3
    · refine wx_blk (pc' := 55) (L' := [some (.ref 127), some (.int v1), some (.int v2), some (.int v3), some (.int s0)]) (st' := [.int v3]) [.iload_n 3] (by decide +kernel) rfl rfl ?_
      exact wx_iret rfl rfl (by decide +kernel)
def f2_latestOpen_j32 (μ : xMu) (k7 : Int32 → Int32 → Int32 → Option Int32) (v1 : Int32) (v2 : Int32) (v3 : Int32) : Option Int32 :=
  (f2_latestOpen_j37 μ k7 v1 v2 v3 (1 : Int32))
set_option maxHeartbeats 4000000 in
set_option maxRecDepth 100000 in
theorem l_f2_latestOpen_j32 (G : xG) (d : Nat) (hd : 0 ≤ d) (μ : xMu) (k7 : Int32 → Int32 → Int32 → Option Int32) (h7 : ∀ (v1 : Int32) (v2 : Int32) (v3 : Int32), Wx G m2_latestOpen d 7 [some (.ref 127), some (.int v1), some (.int v2), some (.int v3), none] [] μ (x_wi μ) (k7 v1 v2 v3)) (v1 : Int32) (v2 : Int32) (v3 : Int32) : Wx G m2_latestOpen d 32 [some (.ref 127), some (.int v1), some (.int v2), some (.int v3), none] [] μ (x_wi μ) (f2_latestOpen_j32 μ k7 v1 v2 v3) := by
  unfold f2_latestOpen_j32
  refine wx_blk (pc' := 33) (L' := [some (.ref 127), some (.int v1), some (.int v2), some (.int v3), none]) (st' := [.int (1 : Int32)]) [.iconst 1] (by decide +kernel) rfl rfl ?_
  refine wx_goto 37 (off := 4) (by decide +kernel) (by decide) ?_
  refine l_f2_latestOpen_j37 G d hd μ _ h7 v1 v2 v3 (1 : Int32)
def f2_latestOpen_l7 (μ : xMu) (k62 : Option Int32) : Nat → Int32 → Int32 → Int32 → Option Int32
  | 0, _, _, _ => none
  | n + 1, v1, v2, v3 =>
  (if v3 < 0 then
(k62)
else
(x_ald μ 130 16 v3 fun x1 =>
(if x1 = (-1000000 : Int32) then
(f2_latestOpen_j32 μ (f2_latestOpen_l7 μ k62 n) v1 v2 v3)
else
(x_ald μ 130 16 v3 fun x3 =>
(if x3 = v2 then
(f2_latestOpen_j32 μ (f2_latestOpen_l7 μ k62 n) v1 v2 v3)
else
(f2_latestOpen_j37 μ (f2_latestOpen_l7 μ k62 n) v1 v2 v3 (0 : Int32)))))))
set_option maxHeartbeats 4000000 in
set_option maxRecDepth 100000 in
theorem l_f2_latestOpen_l7 (G : xG) (d : Nat) (hd : 0 ≤ d) (μ : xMu) (k62 : Option Int32) (h62 : Wx G m2_latestOpen d 62 [none, none, none, none, none] [] μ (x_wi μ) (k62)) : ∀ (n : Nat) (v1 : Int32) (v2 : Int32) (v3 : Int32), Wx G m2_latestOpen d 7 [some (.ref 127), some (.int v1), some (.int v2), some (.int v3), none] [] μ (x_wi μ) (f2_latestOpen_l7 μ k62 n v1 v2 v3) := by
  intro n
  induction n with
  | zero => intro v1 v2 v3; exact wx_none
  | succ n h7 =>
    intro v1 v2 v3
    unfold f2_latestOpen_l7
    refine wx_blk (pc' := 8) (L' := [some (.ref 127), some (.int v1), some (.int v2), some (.int v3), none]) (st' := [.int v3]) [.iload_n 3] (by decide +kernel) rfl rfl ?_
    refine wx_if_lt 62 (off := 54) (by decide +kernel) (by decide) ?_ ?_
    · refine wx_weak (L' := [none, none, none, none, none]) trivial ?_
      exact h62
    · refine wx_blk (pc' := 12) (L' := [some (.ref 127), some (.int v1), some (.int v2), some (.int v3), none]) (st' := [.ref 127]) [.aload_n 0] (by decide +kernel) rfl rfl ?_
      refine wx_getr is_127 ff_2_18 rfl rf_127_3 (by decide +kernel) ?_
      refine wx_blk (pc' := 16) (L' := [some (.ref 127), some (.int v1), some (.int v2), some (.int v3), none]) (st' := [.int v3, .ref 130]) [.iload_n 3] (by decide +kernel) rfl rfl ?_
      refine wx_ald is_130 sz_130 (by decide +kernel) (fun x1 => ?_)
      refine wx_ldc (v := -1000000) xw_924 (by decide +kernel) ?_
      refine wx_ic_eq 32 (off := 13) (by decide +kernel) (by decide) ?_ ?_
      · refine l_f2_latestOpen_j32 G d hd μ _ h7 v1 v2 v3
      · refine wx_blk (pc' := 23) (L' := [some (.ref 127), some (.int v1), some (.int v2), some (.int v3), none]) (st' := [.ref 127]) [.aload_n 0] (by decide +kernel) rfl rfl ?_
        refine wx_getr is_127 ff_2_18 rfl rf_127_3 (by decide +kernel) ?_
        refine wx_blk (pc' := 27) (L' := [some (.ref 127), some (.int v1), some (.int v2), some (.int v3), none]) (st' := [.int v3, .ref 130]) [.iload_n 3] (by decide +kernel) rfl rfl ?_
        refine wx_ald is_130 sz_130 (by decide +kernel) (fun x3 => ?_)
        refine wx_blk (pc' := 29) (L' := [some (.ref 127), some (.int v1), some (.int v2), some (.int v3), none]) (st' := [.int v2, .int x3]) [.iload_n 2] (by decide +kernel) rfl rfl ?_
        refine wx_ic_ne 36 (off := 7) (by decide +kernel) (by decide) ?_ ?_
        · refine wx_blk (pc' := 37) (L' := [some (.ref 127), some (.int v1), some (.int v2), some (.int v3), none]) (st' := [.int (0 : Int32)]) [.iconst 0] (by decide +kernel) rfl rfl ?_
          refine l_f2_latestOpen_j37 G d hd μ _ h7 v1 v2 v3 (0 : Int32)
        · refine l_f2_latestOpen_j32 G d hd μ _ h7 v1 v2 v3
def f2_latestOpen (μ : xMu) (v1 : Int32) (v2 : Int32) : Option Int32 :=
  (f2_latestOpen_l7 μ (some (-1 : Int32)) 1000 v1 v2 ((μ 127 4) - (1 : Int32)))
set_option maxHeartbeats 4000000 in
set_option maxRecDepth 100000 in
theorem l_f2_latestOpen (G : xG) (d : Nat) (hd : 0 ≤ d) (μ : xMu) (v1 : Int32) (v2 : Int32) : Mx G m2_latestOpen d [.ref 127, .int v1, .int v2] μ (x_wi μ) (f2_latestOpen μ v1 v2) := by
  refine mx_enter ok2_latestOpen [some (.ref 127), some (.int v1), some (.int v2), none, none] rfl (Nat.le_of_ble_eq_true rfl) ?_
  unfold f2_latestOpen
  refine wx_blk (pc' := 1) (L' := [some (.ref 127), some (.int v1), some (.int v2), none, none]) (st' := [.ref 127]) [.aload_n 0] (by decide +kernel) rfl rfl ?_
  refine wx_geti is_127 ff_2_25 rfl (by decide +kernel) ?_
  refine wx_blk (pc' := 7) (L' := [some (.ref 127), some (.int v1), some (.int v2), some (.int ((μ 127 4) - (1 : Int32))), none]) (st' := []) [.iconst 1, .isub, .istore_n 3] (by decide +kernel) rfl rfl ?_
  refine l_f2_latestOpen_l7 G d hd μ _ ?_ 1000 v1 v2 ((μ 127 4) - (1 : Int32))
  · refine wx_blk (pc' := 63) (L' := [none, none, none, none, none]) (st' := [.int (-1 : Int32)]) [.iconst (-1)] (by decide +kernel) rfl rfl ?_
    exact wx_iret rfl rfl (by decide +kernel)
/-! WakingLayers$Circumstances.isFound(I)Z -/
def f2_isFound (μ : xMu) (v1 : Int32) : Option Int32 :=
  (if (((μ 127 5) >>> (v1 &&& 31)) &&& (1 : Int32)) = (1 : Int32) then
(some (1 : Int32))
else
(some (0 : Int32)))
set_option maxHeartbeats 4000000 in
set_option maxRecDepth 100000 in
theorem l_f2_isFound (G : xG) (d : Nat) (hd : 0 ≤ d) (μ : xMu) (v1 : Int32) : Mx G m2_isFound d [.ref 127, .int v1] μ (x_wi μ) (f2_isFound μ v1) := by
  refine mx_enter ok2_isFound [some (.ref 127), some (.int v1)] rfl (Nat.le_of_ble_eq_true rfl) ?_
  unfold f2_isFound
  refine wx_blk (pc' := 1) (L' := [some (.ref 127), some (.int v1)]) (st' := [.ref 127]) [.aload_n 0] (by decide +kernel) rfl rfl ?_
  refine wx_geti is_127 ff_2_29 rfl (by decide +kernel) ?_
  refine wx_blk (pc' := 9) (L' := [some (.ref 127), some (.int v1)]) (st' := [.int (1 : Int32), .int (((μ 127 5) >>> (v1 &&& 31)) &&& (1 : Int32))]) [.iload_n 1, .ishr, .iconst 1, .iand, .iconst 1] (by decide +kernel) rfl rfl ?_
  refine wx_ic_ne 16 (off := 7) (by decide +kernel) (by decide) ?_ ?_
  · refine wx_blk (pc' := 17) (L' := [some (.ref 127), some (.int v1)]) (st' := [.int (0 : Int32)]) [.iconst 0] (by decide +kernel) rfl rfl ?_
    exact wx_zret rfl rfl (by decide) (by decide +kernel)
  · refine wx_blk (pc' := 13) (L' := [some (.ref 127), some (.int v1)]) (st' := [.int (1 : Int32)]) [.iconst 1] (by decide +kernel) rfl rfl ?_
    refine wx_goto 17 (off := 4) (by decide +kernel) (by decide) ?_
    exact wx_zret rfl rfl (by decide) (by decide +kernel)
/-! WakingLayers$Rows.weight(II)I -/
def f6_weight_j72 (μ : xMu) (v1 : Int32) (v3 : Nat) : Option Int32 :=
  (x_chk v3 3 (some (((((μ v3 1) * (32 : Int32)) + (8 : Int32)) - (1 : Int32)) - v1)))
set_option maxHeartbeats 4000000 in
set_option maxRecDepth 100000 in
theorem l_f6_weight_j72 (G : xG) (d : Nat) (hd : 1 ≤ d) (μ : xMu) (v1 : Int32) (v3 : Nat) : Wx G m6_weight d 72 [none, some (.int v1), none, some (.ref v3), none] [] μ (x_wi μ) (f6_weight_j72 μ v1 v3) := by
  unfold f6_weight_j72
  refine wx_blk (pc' := 73) (L' := [none, some (.int v1), none, some (.ref v3), none]) (st' := [.ref v3]) [.aload_n 3] (by decide +kernel) rfl rfl ?_
  refine wx_chk (fun hx4 => ?_)
  refine wx_geti hx4 ff_6_69 rfl (by decide +kernel) ?_
  refine wx_blk (pc' := 86) (L' := [none, some (.int v1), none, some (.ref v3), none]) (st' := [.int (((((μ v3 1) * (32 : Int32)) + (8 : Int32)) - (1 : Int32)) - v1)]) [.bipush 32, .imul, .bipush 8, .iadd, .iconst 1, .isub, .iload_n 1, .isub] (by decide +kernel) rfl rfl ?_
  exact wx_iret rfl rfl (by decide +kernel)
def f6_weight (μ : xMu) (v1 : Int32) (v2 : Int32) : Option Int32 :=
  (x_rld 20 8 v1 fun r1 =>
(x_chk r1 3 ((f3_isWoken μ r1).bind fun x3 =>
(if x3 = 0 then
(if (μ r1 0) = (2 : Int32) then
((f2_isFound μ v1).bind fun x5 =>
(if x5 = 0 then
(some (-1 : Int32))
else
(f6_weight_j72 μ v1 r1)))
else
(f6_weight_j72 μ v1 r1))
else
((f2_latestOpen μ v1 v2).bind fun x6 =>
(if 0 ≤ x6 then
(some ((((μ r1 1) * (32 : Int32)) + (8 : Int32)) + x6))
else
(some (-1 : Int32))))))))
set_option maxHeartbeats 4000000 in
set_option maxRecDepth 100000 in
theorem l_f6_weight (G : xG) (d : Nat) (hd : 1 ≤ d) (μ : xMu) (v1 : Int32) (v2 : Int32) : Mx G m6_weight d [.ref 131, .int v1, .int v2] μ (x_wi μ) (f6_weight μ v1 v2) := by
  refine mx_enter ok6_weight [some (.ref 131), some (.int v1), some (.int v2), none, none] rfl (Nat.le_of_ble_eq_true rfl) ?_
  unfold f6_weight
  refine wx_blk (pc' := 1) (L' := [some (.ref 131), some (.int v1), some (.int v2), none, none]) (st' := [.ref 131]) [.aload_n 0] (by decide +kernel) rfl rfl ?_
  refine wx_getr is_131 ff_6_18 rfl rf_131_0 (by decide +kernel) ?_
  refine wx_getr is_16 ff_6_54 rfl rf_16_3 (by decide +kernel) ?_
  refine wx_blk (pc' := 8) (L' := [some (.ref 131), some (.int v1), some (.int v2), none, none]) (st' := [.int v1, .ref 20]) [.iload_n 1] (by decide +kernel) rfl rfl ?_
  refine wx_rld is_20 (by decide) sz_20 (by decide +kernel) (fun r1 => ?_)
  refine wx_blk (pc' := 11) (L' := [some (.ref 131), some (.int v1), some (.int v2), some (.ref r1), none]) (st' := [.ref r1]) [.astore_n 3, .aload_n 3] (by decide +kernel) rfl rfl ?_
  refine wx_chk (fun hx2 => ?_)
  refine wx_callV (d1 := 0) (As := []) (rest := []) (by omega) hx2 (by decide) rfl cv_6_58 rfl (Nat.le_of_ble_eq_true rfl) (l_f3_isWoken G 0 (by omega) μ r1) rfl (by decide +kernel) (fun x3 => ?_)
  refine wx_if_eq 51 (off := 37) (by decide +kernel) (by decide) ?_ ?_
  · refine wx_blk (pc' := 52) (L' := [some (.ref 131), some (.int v1), some (.int v2), some (.ref r1), none]) (st' := [.ref r1]) [.aload_n 3] (by decide +kernel) rfl rfl ?_
    refine wx_geti hx2 ff_6_72 rfl (by decide +kernel) ?_
    refine wx_blk (pc' := 56) (L' := [some (.ref 131), some (.int v1), some (.int v2), some (.ref r1), none]) (st' := [.int (2 : Int32), .int (μ r1 0)]) [.iconst 2] (by decide +kernel) rfl rfl ?_
    refine wx_ic_ne 72 (off := 16) (by decide +kernel) (by decide) ?_ ?_
    · refine wx_weak (L' := [none, some (.int v1), none, some (.ref r1), none]) ⟨rfl, ⟨rfl, trivial⟩⟩ ?_
      refine l_f6_weight_j72 G d hd μ v1 r1
    · refine wx_blk (pc' := 60) (L' := [some (.ref 131), some (.int v1), some (.int v2), some (.ref r1), none]) (st' := [.ref 131]) [.aload_n 0] (by decide +kernel) rfl rfl ?_
      refine wx_getr is_131 ff_6_22 rfl rf_131_1 (by decide +kernel) ?_
      refine wx_blk (pc' := 64) (L' := [some (.ref 131), some (.int v1), some (.int v2), some (.ref r1), none]) (st' := [.int v1, .ref 127]) [.iload_n 1] (by decide +kernel) rfl rfl ?_
      refine wx_callV (d1 := 0) (As := [.int v1]) (rest := []) (by omega) is_127 (by decide) rfl cv_6_75 rfl (Nat.le_of_ble_eq_true rfl) (l_f2_isFound G 0 (by omega) μ v1) rfl (by decide +kernel) (fun x5 => ?_)
      refine wx_if_ne 72 (off := 5) (by decide +kernel) (by decide) ?_ ?_
      · refine wx_weak (L' := [none, some (.int v1), none, some (.ref r1), none]) ⟨rfl, ⟨rfl, trivial⟩⟩ ?_
        refine l_f6_weight_j72 G d hd μ v1 r1
      · refine wx_blk (pc' := 71) (L' := [some (.ref 131), some (.int v1), some (.int v2), some (.ref r1), none]) (st' := [.int (-1 : Int32)]) [.iconst (-1)] (by decide +kernel) rfl rfl ?_
        exact wx_iret rfl rfl (by decide +kernel)
  · refine wx_blk (pc' := 18) (L' := [some (.ref 131), some (.int v1), some (.int v2), some (.ref r1), none]) (st' := [.ref 131]) [.aload_n 0] (by decide +kernel) rfl rfl ?_
    refine wx_getr is_131 ff_6_22 rfl rf_131_1 (by decide +kernel) ?_
    refine wx_blk (pc' := 23) (L' := [some (.ref 131), some (.int v1), some (.int v2), some (.ref r1), none]) (st' := [.int v2, .int v1, .ref 127]) [.iload_n 1, .iload_n 2] (by decide +kernel) rfl rfl ?_
    refine wx_callV (d1 := 0) (As := [.int v1, .int v2]) (rest := []) (by omega) is_127 (by decide) rfl cv_6_64 rfl (Nat.le_of_ble_eq_true rfl) (l_f2_latestOpen G 0 (by omega) μ v1 v2) rfl (by decide +kernel) (fun x6 => ?_)
    refine wx_blk (pc' := 30) (L' := [some (.ref 131), some (.int v1), some (.int v2), some (.ref r1), some (.int x6)]) (st' := [.int x6]) [.istore 4, .iload 4] (by decide +kernel) rfl rfl ?_
    refine wx_if_ge 37 (off := 7) (by decide +kernel) (by decide) ?_ ?_
    · refine wx_blk (pc' := 38) (L' := [some (.ref 131), some (.int v1), some (.int v2), some (.ref r1), some (.int x6)]) (st' := [.ref r1]) [.aload_n 3] (by decide +kernel) rfl rfl ?_
      refine wx_geti hx2 ff_6_69 rfl (by decide +kernel) ?_
      refine wx_blk (pc' := 50) (L' := [some (.ref 131), some (.int v1), some (.int v2), some (.ref r1), some (.int x6)]) (st' := [.int ((((μ r1 1) * (32 : Int32)) + (8 : Int32)) + x6)]) [.bipush 32, .imul, .bipush 8, .iadd, .iload 4, .iadd] (by decide +kernel) rfl rfl ?_
      exact wx_iret rfl rfl (by decide +kernel)
    · refine wx_blk (pc' := 34) (L' := [some (.ref 131), some (.int v1), some (.int v2), some (.ref r1), some (.int x6)]) (st' := [.int (-1 : Int32)]) [.iconst (-1)] (by decide +kernel) rfl rfl ?_
      refine wx_goto 50 (off := 16) (by decide +kernel) (by decide) ?_
      exact wx_iret rfl rfl (by decide +kernel)
/-! WakingLayers$Rows.takeHeaviest()I -/
def f6_takeHeaviest_j36 (k6 : Int32 → Int32 → Int32 → xMu → Option (Int32 × xMu)) (v1 : Int32) (v2 : Int32) (v3 : Int32) (μ : xMu) : Option (Int32 × xMu) :=
  (k6 v1 v2 (v3 + (1 : Int32)) μ)
set_option maxHeartbeats 4000000 in
set_option maxRecDepth 100000 in
theorem l_f6_takeHeaviest_j36 (G : xG) (d : Nat) (hd : 0 ≤ d) (k6 : Int32 → Int32 → Int32 → xMu → Option (Int32 × xMu)) (h6 : ∀ (v1 : Int32) (v2 : Int32) (v3 : Int32) (μ1 : xMu), Wx G m6_takeHeaviest d 6 [some (.ref 131), some (.int v1), some (.int v2), some (.int v3)] [] μ1 x_wim (k6 v1 v2 v3 μ1)) (v1 : Int32) (v2 : Int32) (v3 : Int32) (μ : xMu) : Wx G m6_takeHeaviest d 36 [some (.ref 131), some (.int v1), some (.int v2), some (.int v3)] [] μ x_wim (f6_takeHeaviest_j36 k6 v1 v2 v3 μ) := by
  unfold f6_takeHeaviest_j36
  refine wx_blk (pc' := 39) (L' := [some (.ref 131), some (.int v1), some (.int v2), some (.int (v3 + (1 : Int32)))]) (st' := []) [.iinc 3 1] (by decide +kernel) rfl rfl ?_
  refine wx_goto 6 (off := -33) (by decide +kernel) (by decide) ?_
  exact h6 v1 v2 (v3 + (1 : Int32)) μ
def f6_takeHeaviest_l6 (k42 : Int32 → xMu → Option (Int32 × xMu)) : Nat → Int32 → Int32 → Int32 → xMu → Option (Int32 × xMu)
  | 0, _, _, _, _ => none
  | n + 1, v1, v2, v3, μ =>
  (if (μ 16 7) ≤ v3 then
(k42 v1 μ)
else
(x_ald μ 132 8 v3 fun x1 =>
(if x1 ≤ v2 then
(f6_takeHeaviest_j36 (f6_takeHeaviest_l6 k42 n) v1 v2 v3 μ)
else
(x_ald μ 132 8 v3 fun x2 =>
(f6_takeHeaviest_j36 (f6_takeHeaviest_l6 k42 n) v3 x2 v3 μ)))))
set_option maxHeartbeats 4000000 in
set_option maxRecDepth 100000 in
theorem l_f6_takeHeaviest_l6 (G : xG) (d : Nat) (hd : 0 ≤ d) (k42 : Int32 → xMu → Option (Int32 × xMu)) (h42 : ∀ (v1 : Int32) (μ1 : xMu), Wx G m6_takeHeaviest d 42 [some (.ref 131), some (.int v1), none, none] [] μ1 x_wim (k42 v1 μ1)) : ∀ (n : Nat) (v1 : Int32) (v2 : Int32) (v3 : Int32) (μ : xMu), Wx G m6_takeHeaviest d 6 [some (.ref 131), some (.int v1), some (.int v2), some (.int v3)] [] μ x_wim (f6_takeHeaviest_l6 k42 n v1 v2 v3 μ) := by
  intro n
  induction n with
  | zero => intro v1 v2 v3 μ; exact wx_none
  | succ n h6 =>
    intro v1 v2 v3 μ
    unfold f6_takeHeaviest_l6
    refine wx_blk (pc' := 8) (L' := [some (.ref 131), some (.int v1), some (.int v2), some (.int v3)]) (st' := [.ref 131, .int v3]) [.iload_n 3, .aload_n 0] (by decide +kernel) rfl rfl ?_
    refine wx_getr is_131 ff_6_18 rfl rf_131_0 (by decide +kernel) ?_
    refine wx_geti is_16 ff_6_37 rfl (by decide +kernel) ?_
    refine wx_ic_ge 42 (off := 28) (by decide +kernel) (by decide) ?_ ?_
    · refine wx_weak (L' := [some (.ref 131), some (.int v1), none, none]) ⟨rfl, ⟨rfl, trivial⟩⟩ ?_
      exact h42 v1 μ
    · refine wx_blk (pc' := 18) (L' := [some (.ref 131), some (.int v1), some (.int v2), some (.int v3)]) (st' := [.ref 131]) [.aload_n 0] (by decide +kernel) rfl rfl ?_
      refine wx_getr is_131 ff_6_9 rfl rf_131_2 (by decide +kernel) ?_
      refine wx_blk (pc' := 22) (L' := [some (.ref 131), some (.int v1), some (.int v2), some (.int v3)]) (st' := [.int v3, .ref 132]) [.iload_n 3] (by decide +kernel) rfl rfl ?_
      refine wx_ald is_132 sz_132 (by decide +kernel) (fun x1 => ?_)
      refine wx_blk (pc' := 24) (L' := [some (.ref 131), some (.int v1), some (.int v2), some (.int v3)]) (st' := [.int v2, .int x1]) [.iload_n 2] (by decide +kernel) rfl rfl ?_
      refine wx_ic_le 36 (off := 12) (by decide +kernel) (by decide) ?_ ?_
      · refine l_f6_takeHeaviest_j36 G d hd _ h6 v1 v2 v3 μ
      · refine wx_blk (pc' := 28) (L' := [some (.ref 131), some (.int v1), some (.int v2), some (.int v3)]) (st' := [.ref 131]) [.aload_n 0] (by decide +kernel) rfl rfl ?_
        refine wx_getr is_131 ff_6_9 rfl rf_131_2 (by decide +kernel) ?_
        refine wx_blk (pc' := 32) (L' := [some (.ref 131), some (.int v1), some (.int v2), some (.int v3)]) (st' := [.int v3, .ref 132]) [.iload_n 3] (by decide +kernel) rfl rfl ?_
        refine wx_ald is_132 sz_132 (by decide +kernel) (fun x2 => ?_)
        refine wx_blk (pc' := 36) (L' := [some (.ref 131), some (.int v3), some (.int x2), some (.int v3)]) (st' := []) [.istore_n 2, .iload_n 3, .istore_n 1] (by decide +kernel) rfl rfl ?_
        refine l_f6_takeHeaviest_j36 G d hd _ h6 v3 x2 v3 μ
def f6_takeHeaviest (μ : xMu) : Option (Int32 × xMu) :=
  (f6_takeHeaviest_l6 (fun (y3 : Int32) (μ4 : xMu) => (if y3 < 0 then
(some (y3, μ4))
else
(x_ast μ4 132 8 y3 (-1 : Int32) fun μ5 =>
(some (y3, μ5))))) 1000 (-1 : Int32) (-1 : Int32) (0 : Int32) μ)
set_option maxHeartbeats 4000000 in
set_option maxRecDepth 100000 in
theorem l_f6_takeHeaviest (G : xG) (d : Nat) (hd : 0 ≤ d) (μ : xMu) : Mx G m6_takeHeaviest d [.ref 131] μ x_wim (f6_takeHeaviest μ) := by
  refine mx_enter ok6_takeHeaviest [some (.ref 131), none, none, none] rfl (Nat.le_of_ble_eq_true rfl) ?_
  unfold f6_takeHeaviest
  refine wx_blk (pc' := 6) (L' := [some (.ref 131), some (.int (-1 : Int32)), some (.int (-1 : Int32)), some (.int (0 : Int32))]) (st' := []) [.iconst (-1), .istore_n 1, .iconst (-1), .istore_n 2, .iconst 0, .istore_n 3] (by decide +kernel) rfl rfl ?_
  refine l_f6_takeHeaviest_l6 G d hd _ ?_ 1000 (-1 : Int32) (-1 : Int32) (0 : Int32) μ
  · intro y3 μ4
    refine wx_blk (pc' := 43) (L' := [some (.ref 131), some (.int y3), none, none]) (st' := [.int y3]) [.iload_n 1] (by decide +kernel) rfl rfl ?_
    refine wx_if_lt 53 (off := 10) (by decide +kernel) (by decide) ?_ ?_
    · refine wx_blk (pc' := 54) (L' := [some (.ref 131), some (.int y3), none, none]) (st' := [.int y3]) [.iload_n 1] (by decide +kernel) rfl rfl ?_
      exact wx_iret rfl rfl (by decide +kernel)
    · refine wx_blk (pc' := 47) (L' := [some (.ref 131), some (.int y3), none, none]) (st' := [.ref 131]) [.aload_n 0] (by decide +kernel) rfl rfl ?_
      refine wx_getr is_131 ff_6_9 rfl rf_131_2 (by decide +kernel) ?_
      refine wx_blk (pc' := 52) (L' := [some (.ref 131), some (.int y3), none, none]) (st' := [.int (-1 : Int32), .int y3, .ref 132]) [.iload_n 1, .iconst (-1)] (by decide +kernel) rfl rfl ?_
      refine wx_ast is_132 sz_132 (by decide +kernel) (fun μ5 => ?_)
      refine wx_blk (pc' := 54) (L' := [some (.ref 131), some (.int y3), none, none]) (st' := [.int y3]) [.iload_n 1] (by decide +kernel) rfl rfl ?_
      exact wx_iret rfl rfl (by decide +kernel)
/-! WakingLayers$Rows.isEnded([II)Z -/
def f6_isEnded (μ : xMu) (v1 : Nat) (v2 : Int32) : Option Int32 :=
  (if v2 ≤ 0 then
(some (0 : Int32))
else
(x_chk v1 13 (x_ald μ v1 (x_sz v1) (v2 - (1 : Int32)) fun x1 =>
(x_rld 21 24 x1 fun r3 =>
(x_chk r3 1 (if (μ r3 5) = (3 : Int32) then
(some (1 : Int32))
else
(some (0 : Int32))))))))
set_option maxHeartbeats 4000000 in
set_option maxRecDepth 100000 in
theorem l_f6_isEnded (G : xG) (d : Nat) (hd : 0 ≤ d) (μ : xMu) (v1 : Nat) (v2 : Int32) : Mx G m6_isEnded d [.ref 131, .ref v1, .int v2] μ (x_wi μ) (f6_isEnded μ v1 v2) := by
  refine mx_enter ok6_isEnded [some (.ref 131), some (.ref v1), some (.int v2)] rfl (Nat.le_of_ble_eq_true rfl) ?_
  unfold f6_isEnded
  refine wx_blk (pc' := 1) (L' := [some (.ref 131), some (.ref v1), some (.int v2)]) (st' := [.int v2]) [.iload_n 2] (by decide +kernel) rfl rfl ?_
  refine wx_if_le 28 (off := 27) (by decide +kernel) (by decide) ?_ ?_
  · refine wx_blk (pc' := 29) (L' := [some (.ref 131), some (.ref v1), some (.int v2)]) (st' := [.int (0 : Int32)]) [.iconst 0] (by decide +kernel) rfl rfl ?_
    exact wx_zret rfl rfl (by decide) (by decide +kernel)
  · refine wx_blk (pc' := 5) (L' := [some (.ref 131), some (.ref v1), some (.int v2)]) (st' := [.ref 131]) [.aload_n 0] (by decide +kernel) rfl rfl ?_
    refine wx_getr is_131 ff_6_18 rfl rf_131_0 (by decide +kernel) ?_
    refine wx_getr is_16 ff_6_82 rfl rf_16_4 (by decide +kernel) ?_
    refine wx_blk (pc' := 15) (L' := [some (.ref 131), some (.ref v1), some (.int v2)]) (st' := [.int (v2 - (1 : Int32)), .ref v1, .ref 21]) [.aload_n 1, .iload_n 2, .iconst 1, .isub] (by decide +kernel) rfl rfl ?_
    refine wx_chk (fun hx2 => ?_)
    refine wx_ald hx2 rfl (by decide +kernel) (fun x1 => ?_)
    refine wx_rld is_21 (by decide) sz_21 (by decide +kernel) (fun r3 => ?_)
    refine wx_chk (fun hx4 => ?_)
    refine wx_geti hx4 ff_6_100 rfl (by decide +kernel) ?_
    refine wx_blk (pc' := 21) (L' := [some (.ref 131), some (.ref v1), some (.int v2)]) (st' := [.int (3 : Int32), .int (μ r3 5)]) [.iconst 3] (by decide +kernel) rfl rfl ?_
    refine wx_ic_ne 28 (off := 7) (by decide +kernel) (by decide) ?_ ?_
    · refine wx_blk (pc' := 29) (L' := [some (.ref 131), some (.ref v1), some (.int v2)]) (st' := [.int (0 : Int32)]) [.iconst 0] (by decide +kernel) rfl rfl ?_
      exact wx_zret rfl rfl (by decide) (by decide +kernel)
    · refine wx_blk (pc' := 25) (L' := [some (.ref 131), some (.ref v1), some (.int v2)]) (st' := [.int (1 : Int32)]) [.iconst 1] (by decide +kernel) rfl rfl ?_
      refine wx_goto 29 (off := 4) (by decide +kernel) (by decide) ?_
      exact wx_zret rfl rfl (by decide) (by decide +kernel)
/-! WakingLayers$Rows.addBodies([III)I -/
def f6_addBodies_j61 (k6 : Nat → Int32 → Int32 → Int32 → xMu → Option (Int32 × xMu)) (v1 : Nat) (v3 : Int32) (v4 : Int32) (v5 : Int32) (μ : xMu) : Option (Int32 × xMu) :=
  (k6 v1 v3 v4 (v5 + (1 : Int32)) μ)
set_option maxHeartbeats 4000000 in
set_option maxRecDepth 100000 in
theorem l_f6_addBodies_j61 (G : xG) (d : Nat) (hd : 1 ≤ d) (k6 : Nat → Int32 → Int32 → Int32 → xMu → Option (Int32 × xMu)) (h6 : ∀ (v1 : Nat) (v3 : Int32) (v4 : Int32) (v5 : Int32) (μ1 : xMu), Wx G m6_addBodies d 6 [some (.ref 131), some (.ref v1), none, some (.int v3), some (.int v4), some (.int v5)] [] μ1 x_wim (k6 v1 v3 v4 v5 μ1)) (v1 : Nat) (v3 : Int32) (v4 : Int32) (v5 : Int32) (μ : xMu) : Wx G m6_addBodies d 61 [some (.ref 131), some (.ref v1), none, some (.int v3), some (.int v4), some (.int v5)] [] μ x_wim (f6_addBodies_j61 k6 v1 v3 v4 v5 μ) := by
  unfold f6_addBodies_j61
  refine wx_blk (pc' := 64) (L' := [some (.ref 131), some (.ref v1), none, some (.int v3), some (.int v4), some (.int (v5 + (1 : Int32)))]) (st' := []) [.iinc 5 1] (by decide +kernel) rfl rfl ?_
  refine wx_goto 6 (off := -58) (by decide +kernel) (by decide) ?_
  exact h6 v1 v3 v4 (v5 + (1 : Int32)) μ
def f6_addBodies_l6 (k67 : Int32 → xMu → Option (Int32 × xMu)) : Nat → Nat → Int32 → Int32 → Int32 → xMu → Option (Int32 × xMu)
  | 0, _, _, _, _, _ => none
  | n + 1, v1, v3, v4, v5, μ =>
  (if (μ 131 4) ≤ v5 then
(k67 v4 μ)
else
((f6_isEnded μ v1 v4).bind fun x1 =>
(if x1 = 0 then
(x_ald μ 133 24 v5 fun x2 =>
(x_rld 21 24 x2 fun r3 =>
(x_chk r3 1 (if (μ r3 4) = v3 then
(x_ald μ 133 24 v5 fun x5 =>
(x_chk v1 13 (x_ast μ v1 (x_sz v1) v4 x5 fun μ7 =>
(f6_addBodies_j61 (f6_addBodies_l6 k67 n) v1 v3 (v4 + (1 : Int32)) v5 μ7))))
else
(f6_addBodies_j61 (f6_addBodies_l6 k67 n) v1 v3 v4 v5 μ)))))
else
(k67 v4 μ))))
set_option maxHeartbeats 4000000 in
set_option maxRecDepth 100000 in
theorem l_f6_addBodies_l6 (G : xG) (d : Nat) (hd : 1 ≤ d) (k67 : Int32 → xMu → Option (Int32 × xMu)) (h67 : ∀ (v4 : Int32) (μ1 : xMu), Wx G m6_addBodies d 67 [none, none, none, none, some (.int v4), none] [] μ1 x_wim (k67 v4 μ1)) : ∀ (n : Nat) (v1 : Nat) (v3 : Int32) (v4 : Int32) (v5 : Int32) (μ : xMu), Wx G m6_addBodies d 6 [some (.ref 131), some (.ref v1), none, some (.int v3), some (.int v4), some (.int v5)] [] μ x_wim (f6_addBodies_l6 k67 n v1 v3 v4 v5 μ) := by
  intro n
  induction n with
  | zero => intro v1 v3 v4 v5 μ; exact wx_none
  | succ n h6 =>
    intro v1 v3 v4 v5 μ
    unfold f6_addBodies_l6
    refine wx_blk (pc' := 9) (L' := [some (.ref 131), some (.ref v1), none, some (.int v3), some (.int v4), some (.int v5)]) (st' := [.ref 131, .int v5]) [.iload 5, .aload_n 0] (by decide +kernel) rfl rfl ?_
    refine wx_geti is_131 ff_6_33 rfl (by decide +kernel) ?_
    refine wx_ic_ge 67 (off := 55) (by decide +kernel) (by decide) ?_ ?_
    · refine wx_weak (L' := [none, none, none, none, some (.int v4), none]) ⟨rfl, trivial⟩ ?_
      exact h67 v4 μ
    · refine wx_blk (pc' := 19) (L' := [some (.ref 131), some (.ref v1), none, some (.int v3), some (.int v4), some (.int v5)]) (st' := [.int v4, .ref v1, .ref 131]) [.aload_n 0, .aload_n 1, .iload 4] (by decide +kernel) rfl rfl ?_
      refine wx_callV (d1 := 0) (As := [.ref v1, .int v4]) (rest := []) (by omega) is_131 (by decide) rfl cv_6_93 rfl (Nat.le_of_ble_eq_true rfl) (l_f6_isEnded G 0 (by omega) μ v1 v4) rfl (by decide +kernel) (fun x1 => ?_)
      refine wx_if_ne 67 (off := 45) (by decide +kernel) (by decide) ?_ ?_
      · refine wx_weak (L' := [none, none, none, none, some (.int v4), none]) ⟨rfl, trivial⟩ ?_
        exact h67 v4 μ
      · refine wx_blk (pc' := 26) (L' := [some (.ref 131), some (.ref v1), none, some (.int v3), some (.int v4), some (.int v5)]) (st' := [.ref 131]) [.aload_n 0] (by decide +kernel) rfl rfl ?_
        refine wx_getr is_131 ff_6_18 rfl rf_131_0 (by decide +kernel) ?_
        refine wx_getr is_16 ff_6_82 rfl rf_16_4 (by decide +kernel) ?_
        refine wx_blk (pc' := 33) (L' := [some (.ref 131), some (.ref v1), none, some (.int v3), some (.int v4), some (.int v5)]) (st' := [.ref 131, .ref 21]) [.aload_n 0] (by decide +kernel) rfl rfl ?_
        refine wx_getr is_131 ff_6_15 rfl rf_131_3 (by decide +kernel) ?_
        refine wx_blk (pc' := 38) (L' := [some (.ref 131), some (.ref v1), none, some (.int v3), some (.int v4), some (.int v5)]) (st' := [.int v5, .ref 133, .ref 21]) [.iload 5] (by decide +kernel) rfl rfl ?_
        refine wx_ald is_133 sz_133 (by decide +kernel) (fun x2 => ?_)
        refine wx_rld is_21 (by decide) sz_21 (by decide +kernel) (fun r3 => ?_)
        refine wx_chk (fun hx4 => ?_)
        refine wx_geti hx4 ff_6_97 rfl (by decide +kernel) ?_
        refine wx_blk (pc' := 44) (L' := [some (.ref 131), some (.ref v1), none, some (.int v3), some (.int v4), some (.int v5)]) (st' := [.int v3, .int (μ r3 4)]) [.iload_n 3] (by decide +kernel) rfl rfl ?_
        refine wx_ic_ne 61 (off := 17) (by decide +kernel) (by decide) ?_ ?_
        · refine l_f6_addBodies_j61 G d hd _ h6 v1 v3 v4 v5 μ
        · refine wx_blk (pc' := 51) (L' := [some (.ref 131), some (.ref v1), none, some (.int v3), some (.int v4), some (.int v5)]) (st' := [.ref 131, .int v4, .ref v1]) [.aload_n 1, .iload 4, .aload_n 0] (by decide +kernel) rfl rfl ?_
          refine wx_getr is_131 ff_6_15 rfl rf_131_3 (by decide +kernel) ?_
          refine wx_blk (pc' := 56) (L' := [some (.ref 131), some (.ref v1), none, some (.int v3), some (.int v4), some (.int v5)]) (st' := [.int v5, .ref 133, .int v4, .ref v1]) [.iload 5] (by decide +kernel) rfl rfl ?_
          refine wx_ald is_133 sz_133 (by decide +kernel) (fun x5 => ?_)
          refine wx_chk (fun hx6 => ?_)
          refine wx_ast hx6 rfl (by decide +kernel) (fun μ7 => ?_)
          refine wx_blk (pc' := 61) (L' := [some (.ref 131), some (.ref v1), none, some (.int v3), some (.int (v4 + (1 : Int32))), some (.int v5)]) (st' := []) [.iinc 4 1] (by decide +kernel) rfl rfl ?_
          refine l_f6_addBodies_j61 G d hd _ h6 v1 v3 (v4 + (1 : Int32)) v5 μ7
def f6_addBodies (v1 : Nat) (v2 : Int32) (v3 : Int32) (μ : xMu) : Option (Int32 × xMu) :=
  (f6_addBodies_l6 (fun (y8 : Int32) (μ9 : xMu) => (some (y8, μ9))) 1000 v1 v3 v2 (0 : Int32) μ)
set_option maxHeartbeats 4000000 in
set_option maxRecDepth 100000 in
theorem l_f6_addBodies (G : xG) (d : Nat) (hd : 1 ≤ d) (v1 : Nat) (v2 : Int32) (v3 : Int32) (μ : xMu) : Mx G m6_addBodies d [.ref 131, .ref v1, .int v2, .int v3] μ x_wim (f6_addBodies v1 v2 v3 μ) := by
  refine mx_enter ok6_addBodies [some (.ref 131), some (.ref v1), some (.int v2), some (.int v3), none, none] rfl (Nat.le_of_ble_eq_true rfl) ?_
  unfold f6_addBodies
  refine wx_blk (pc' := 6) (L' := [some (.ref 131), some (.ref v1), some (.int v2), some (.int v3), some (.int v2), some (.int (0 : Int32))]) (st' := []) [.iload_n 2, .istore 4, .iconst 0, .istore 5] (by decide +kernel) rfl rfl ?_
  refine wx_weak (L' := [some (.ref 131), some (.ref v1), none, some (.int v3), some (.int v2), some (.int (0 : Int32))]) ⟨rfl, ⟨rfl, ⟨rfl, ⟨rfl, ⟨rfl, trivial⟩⟩⟩⟩⟩ ?_
  refine l_f6_addBodies_l6 G d hd _ ?_ 1000 v1 v3 v2 (0 : Int32) μ
  · intro y8 μ9
    refine wx_blk (pc' := 69) (L' := [none, none, none, none, some (.int y8), none]) (st' := [.int y8]) [.iload 4] (by decide +kernel) rfl rfl ?_
    exact wx_iret rfl rfl (by decide +kernel)
/-! WakingLayers$Rows.fill([III)I -/
def f6_fill_l26 (k58 : Nat → xMu → Option (Int32 × xMu)) : Nat → Nat → Int32 → Int32 → xMu → Option (Int32 × xMu)
  | 0, _, _, _, _ => none
  | n + 1, v1, v2, v4, μ =>
  (if (μ 16 7) ≤ v4 then
(k58 v1 μ)
else
((f6_weight μ v4 v2).bind fun x3 =>
(x_ast μ 132 8 v4 x3 fun μ4 =>
((f6_fill_l26 k58 n) v1 v2 (v4 + (1 : Int32)) μ4))))
set_option maxHeartbeats 4000000 in
set_option maxRecDepth 100000 in
theorem l_f6_fill_l26 (G : xG) (d : Nat) (hd : 2 ≤ d) (k58 : Nat → xMu → Option (Int32 × xMu)) (h58 : ∀ (v1 : Nat) (μ1 : xMu), Wx G m6_fill d 58 [some (.ref 131), some (.ref v1), none, none, none, none, none] [] μ1 x_wim (k58 v1 μ1)) : ∀ (n : Nat) (v1 : Nat) (v2 : Int32) (v4 : Int32) (μ : xMu), Wx G m6_fill d 26 [some (.ref 131), some (.ref v1), some (.int v2), none, some (.int v4), none, none] [] μ x_wim (f6_fill_l26 k58 n v1 v2 v4 μ) := by
  intro n
  induction n with
  | zero => intro v1 v2 v4 μ; exact wx_none
  | succ n h26 =>
    intro v1 v2 v4 μ
    unfold f6_fill_l26
    refine wx_blk (pc' := 29) (L' := [some (.ref 131), some (.ref v1), some (.int v2), none, some (.int v4), none, none]) (st' := [.ref 131, .int v4]) [.iload 4, .aload_n 0] (by decide +kernel) rfl rfl ?_
    refine wx_getr is_131 ff_6_18 rfl rf_131_0 (by decide +kernel) ?_
    refine wx_geti is_16 ff_6_37 rfl (by decide +kernel) ?_
    refine wx_ic_ge 58 (off := 23) (by decide +kernel) (by decide) ?_ ?_
    · refine wx_weak (L' := [some (.ref 131), some (.ref v1), none, none, none, none, none]) ⟨rfl, ⟨rfl, trivial⟩⟩ ?_
      exact h58 v1 μ
    · refine wx_blk (pc' := 39) (L' := [some (.ref 131), some (.ref v1), some (.int v2), none, some (.int v4), none, none]) (st' := [.ref 131]) [.aload_n 0] (by decide +kernel) rfl rfl ?_
      refine wx_getr is_131 ff_6_9 rfl rf_131_2 (by decide +kernel) ?_
      refine wx_blk (pc' := 48) (L' := [some (.ref 131), some (.ref v1), some (.int v2), none, some (.int v4), none, none]) (st' := [.int v2, .int v4, .ref 131, .int v4, .ref 132]) [.iload 4, .aload_n 0, .iload 4, .iload_n 2] (by decide +kernel) rfl rfl ?_
      refine wx_callV (d1 := 1) (As := [.int v4, .int v2]) (rest := [.int v4, .ref 132]) (by omega) is_131 (by decide) rfl cv_6_40 rfl (Nat.le_of_ble_eq_true rfl) (l_f6_weight G 1 (by omega) μ v4 v2) rfl (by decide +kernel) (fun x3 => ?_)
      refine wx_ast is_132 sz_132 (by decide +kernel) (fun μ4 => ?_)
      refine wx_blk (pc' := 55) (L' := [some (.ref 131), some (.ref v1), some (.int v2), none, some (.int (v4 + (1 : Int32))), none, none]) (st' := []) [.iinc 4 1] (by decide +kernel) rfl rfl ?_
      refine wx_goto 26 (off := -29) (by decide +kernel) (by decide) ?_
      exact h26 v1 v2 (v4 + (1 : Int32)) μ4
def f6_fill_j98 (k64 : Nat → Int32 → Int32 → xMu → Option (Int32 × xMu)) (v1 : Nat) (v4 : Int32) (v5 : Int32) (μ : xMu) : Option (Int32 × xMu) :=
  (k64 v1 v4 (v5 + (1 : Int32)) μ)
set_option maxHeartbeats 4000000 in
set_option maxRecDepth 100000 in
theorem l_f6_fill_j98 (G : xG) (d : Nat) (hd : 2 ≤ d) (k64 : Nat → Int32 → Int32 → xMu → Option (Int32 × xMu)) (h64 : ∀ (v1 : Nat) (v4 : Int32) (v5 : Int32) (μ1 : xMu), Wx G m6_fill d 64 [some (.ref 131), some (.ref v1), none, none, some (.int v4), some (.int v5), none] [] μ1 x_wim (k64 v1 v4 v5 μ1)) (v1 : Nat) (v4 : Int32) (v5 : Int32) (μ : xMu) : Wx G m6_fill d 98 [some (.ref 131), some (.ref v1), none, none, some (.int v4), some (.int v5), none] [] μ x_wim (f6_fill_j98 k64 v1 v4 v5 μ) := by
  unfold f6_fill_j98
  refine wx_blk (pc' := 101) (L' := [some (.ref 131), some (.ref v1), none, none, some (.int v4), some (.int (v5 + (1 : Int32))), none]) (st' := []) [.iinc 5 1] (by decide +kernel) rfl rfl ?_
  refine wx_goto 64 (off := -37) (by decide +kernel) (by decide) ?_
  exact h64 v1 v4 (v5 + (1 : Int32)) μ
def f6_fill_l64 (k104 : Nat → Int32 → xMu → Option (Int32 × xMu)) : Nat → Nat → Int32 → Int32 → xMu → Option (Int32 × xMu)
  | 0, _, _, _, _ => none
  | n + 1, v1, v4, v5, μ =>
  (if (μ 16 7) ≤ v5 then
(k104 v1 v4 μ)
else
((f6_takeHeaviest μ).bind fun q7 =>
(if q7.1 < 0 then
(f6_fill_j98 (f6_fill_l64 k104 n) v1 v4 v5 q7.2)
else
((f6_addBodies v1 v4 q7.1 q7.2).bind fun q8 =>
(f6_fill_j98 (f6_fill_l64 k104 n) v1 q8.1 v5 q8.2)))))
set_option maxHeartbeats 4000000 in
set_option maxRecDepth 100000 in
theorem l_f6_fill_l64 (G : xG) (d : Nat) (hd : 2 ≤ d) (k104 : Nat → Int32 → xMu → Option (Int32 × xMu)) (h104 : ∀ (v1 : Nat) (v4 : Int32) (μ1 : xMu), Wx G m6_fill d 104 [some (.ref 131), some (.ref v1), none, none, some (.int v4), none, none] [] μ1 x_wim (k104 v1 v4 μ1)) : ∀ (n : Nat) (v1 : Nat) (v4 : Int32) (v5 : Int32) (μ : xMu), Wx G m6_fill d 64 [some (.ref 131), some (.ref v1), none, none, some (.int v4), some (.int v5), none] [] μ x_wim (f6_fill_l64 k104 n v1 v4 v5 μ) := by
  intro n
  induction n with
  | zero => intro v1 v4 v5 μ; exact wx_none
  | succ n h64 =>
    intro v1 v4 v5 μ
    unfold f6_fill_l64
    refine wx_blk (pc' := 67) (L' := [some (.ref 131), some (.ref v1), none, none, some (.int v4), some (.int v5), none]) (st' := [.ref 131, .int v5]) [.iload 5, .aload_n 0] (by decide +kernel) rfl rfl ?_
    refine wx_getr is_131 ff_6_18 rfl rf_131_0 (by decide +kernel) ?_
    refine wx_geti is_16 ff_6_37 rfl (by decide +kernel) ?_
    refine wx_ic_ge 104 (off := 31) (by decide +kernel) (by decide) ?_ ?_
    · refine wx_weak (L' := [some (.ref 131), some (.ref v1), none, none, some (.int v4), none, none]) ⟨rfl, ⟨rfl, ⟨rfl, trivial⟩⟩⟩ ?_
      exact h104 v1 v4 μ
    · refine wx_blk (pc' := 77) (L' := [some (.ref 131), some (.ref v1), none, none, some (.int v4), some (.int v5), none]) (st' := [.ref 131]) [.aload_n 0] (by decide +kernel) rfl rfl ?_
      refine wx_callV (d1 := 0) (As := []) (rest := []) (by omega) is_131 (by decide) rfl cv_6_44 rfl (Nat.le_of_ble_eq_true rfl) (l_f6_takeHeaviest G 0 (by omega) μ) rfl (by decide +kernel) (fun q7 => ?_)
      refine wx_blk (pc' := 84) (L' := [some (.ref 131), some (.ref v1), none, none, some (.int v4), some (.int v5), some (.int q7.1)]) (st' := [.int q7.1]) [.istore 6, .iload 6] (by decide +kernel) rfl rfl ?_
      refine wx_if_lt 98 (off := 14) (by decide +kernel) (by decide) ?_ ?_
      · refine wx_weak (L' := [some (.ref 131), some (.ref v1), none, none, some (.int v4), some (.int v5), none]) ⟨rfl, ⟨rfl, ⟨rfl, ⟨rfl, trivial⟩⟩⟩⟩ ?_
        refine l_f6_fill_j98 G d hd _ h64 v1 v4 v5 q7.2
      · refine wx_blk (pc' := 93) (L' := [some (.ref 131), some (.ref v1), none, none, some (.int v4), some (.int v5), some (.int q7.1)]) (st' := [.int q7.1, .int v4, .ref v1, .ref 131]) [.aload_n 0, .aload_n 1, .iload 4, .iload 6] (by decide +kernel) rfl rfl ?_
        refine wx_callV (d1 := 1) (As := [.ref v1, .int v4, .int q7.1]) (rest := []) (by omega) is_131 (by decide) rfl cv_6_48 rfl (Nat.le_of_ble_eq_true rfl) (l_f6_addBodies G 1 (by omega) v1 v4 q7.1 q7.2) rfl (by decide +kernel) (fun q8 => ?_)
        refine wx_blk (pc' := 98) (L' := [some (.ref 131), some (.ref v1), none, none, some (.int q8.1), some (.int v5), some (.int q7.1)]) (st' := []) [.istore 4] (by decide +kernel) rfl rfl ?_
        refine wx_weak (L' := [some (.ref 131), some (.ref v1), none, none, some (.int q8.1), some (.int v5), none]) ⟨rfl, ⟨rfl, ⟨rfl, ⟨rfl, trivial⟩⟩⟩⟩ ?_
        refine l_f6_fill_j98 G d hd _ h64 v1 q8.1 v5 q8.2
def f6_fill (v1 : Nat) (v2 : Int32) (v3 : Int32) (μ : xMu) : Option (Int32 × xMu) :=
  (x_ald μ 18 8 v2 fun x1 =>
((f6_gatherFitting x1 v3 μ).bind fun μ2 =>
(if (μ2 131 4) = 0 then
(some ((0 : Int32), μ2))
else
(f6_fill_l26 (fun (y5 : Nat) (μ6 : xMu) => (f6_fill_l64 (fun (y9 : Nat) (y10 : Int32) (μ11 : xMu) => ((f6_addBodies y9 y10 (-1 : Int32) μ11).bind fun q12 =>
(some (q12.1, q12.2)))) 1000 y5 (0 : Int32) (0 : Int32) μ6)) 1000 v1 v2 (0 : Int32) μ2))))
set_option maxHeartbeats 4000000 in
set_option maxRecDepth 100000 in
theorem l_f6_fill (G : xG) (d : Nat) (hd : 2 ≤ d) (v1 : Nat) (v2 : Int32) (v3 : Int32) (μ : xMu) : Mx G m6_fill d [.ref 131, .ref v1, .int v2, .int v3] μ x_wim (f6_fill v1 v2 v3 μ) := by
  refine mx_enter ok6_fill [some (.ref 131), some (.ref v1), some (.int v2), some (.int v3), none, none, none] rfl (Nat.le_of_ble_eq_true rfl) ?_
  unfold f6_fill
  refine wx_blk (pc' := 2) (L' := [some (.ref 131), some (.ref v1), some (.int v2), some (.int v3), none, none, none]) (st' := [.ref 131, .ref 131]) [.aload_n 0, .aload_n 0] (by decide +kernel) rfl rfl ?_
  refine wx_getr is_131 ff_6_18 rfl rf_131_0 (by decide +kernel) ?_
  refine wx_getr is_16 ff_6_26 rfl rf_16_1 (by decide +kernel) ?_
  refine wx_blk (pc' := 9) (L' := [some (.ref 131), some (.ref v1), some (.int v2), some (.int v3), none, none, none]) (st' := [.int v2, .ref 18, .ref 131]) [.iload_n 2] (by decide +kernel) rfl rfl ?_
  refine wx_ald is_18 sz_18 (by decide +kernel) (fun x1 => ?_)
  refine wx_blk (pc' := 11) (L' := [some (.ref 131), some (.ref v1), some (.int v2), some (.int v3), none, none, none]) (st' := [.int v3, .int x1, .ref 131]) [.iload_n 3] (by decide +kernel) rfl rfl ?_
  refine wx_callV (d1 := 1) (As := [.int x1, .int v3]) (rest := []) (by omega) is_131 (by decide) rfl cv_6_29 rfl (Nat.le_of_ble_eq_true rfl) (l_f6_gatherFitting G 1 (by omega) x1 v3 μ) rfl (by decide +kernel) (fun μ2 => ?_)
  refine wx_blk (pc' := 15) (L' := [some (.ref 131), some (.ref v1), some (.int v2), some (.int v3), none, none, none]) (st' := [.ref 131]) [.aload_n 0] (by decide +kernel) rfl rfl ?_
  refine wx_geti is_131 ff_6_33 rfl (by decide +kernel) ?_
  refine wx_if_ne 23 (off := 5) (by decide +kernel) (by decide) ?_ ?_
  · refine wx_blk (pc' := 26) (L' := [some (.ref 131), some (.ref v1), some (.int v2), some (.int v3), some (.int (0 : Int32)), none, none]) (st' := []) [.iconst 0, .istore 4] (by decide +kernel) rfl rfl ?_
    refine wx_weak (L' := [some (.ref 131), some (.ref v1), some (.int v2), none, some (.int (0 : Int32)), none, none]) ⟨rfl, ⟨rfl, ⟨rfl, ⟨rfl, trivial⟩⟩⟩⟩ ?_
    refine l_f6_fill_l26 G d hd _ ?_ 1000 v1 v2 (0 : Int32) μ2
    · intro y5 μ6
      refine wx_blk (pc' := 64) (L' := [some (.ref 131), some (.ref y5), none, none, some (.int (0 : Int32)), some (.int (0 : Int32)), none]) (st' := []) [.iconst 0, .istore 4, .iconst 0, .istore 5] (by decide +kernel) rfl rfl ?_
      refine l_f6_fill_l64 G d hd _ ?_ 1000 y5 (0 : Int32) (0 : Int32) μ6
      · intro y9 y10 μ11
        refine wx_blk (pc' := 109) (L' := [some (.ref 131), some (.ref y9), none, none, some (.int y10), none, none]) (st' := [.int (-1 : Int32), .int y10, .ref y9, .ref 131]) [.aload_n 0, .aload_n 1, .iload 4, .iconst (-1)] (by decide +kernel) rfl rfl ?_
        refine wx_callV (d1 := 1) (As := [.ref y9, .int y10, .int (-1 : Int32)]) (rest := []) (by omega) is_131 (by decide) rfl cv_6_48 rfl (Nat.le_of_ble_eq_true rfl) (l_f6_addBodies G 1 (by omega) y9 y10 (-1 : Int32) μ11) rfl (by decide +kernel) (fun q12 => ?_)
        exact wx_iret rfl rfl (by decide +kernel)
  · refine wx_blk (pc' := 22) (L' := [some (.ref 131), some (.ref v1), some (.int v2), some (.int v3), none, none, none]) (st' := [.int (0 : Int32)]) [.iconst 0] (by decide +kernel) rfl rfl ?_
    exact wx_iret rfl rfl (by decide +kernel)
/-! WakingLayers.row(III)I -/
def f11_row (v1 : Int32) (v2 : Int32) (v3 : Int32) (μ : xMu) : Option (Int32 × xMu) :=
  ((f4_isThing μ v1).bind fun x1 =>
(if x1 = 0 then
(some ((-1000001 : Int32), μ))
else
((f11_isRoutine v2).bind fun x2 =>
(if x2 = 0 then
(some ((-1000001 : Int32), μ))
else
(if (-1 : Int32) ≤ v3 then
((f6_fill 134 v1 v2 μ).bind fun q3 =>
(if v3 = (-1 : Int32) then
(some (q3.1, q3.2))
else
(if q3.1 ≤ v3 then
(some ((-1000000 : Int32), q3.2))
else
(x_ald q3.2 134 24 v3 fun x4 =>
(some (x4, q3.2))))))
else
(some ((-1000001 : Int32), μ)))))))
set_option maxHeartbeats 4000000 in
set_option maxRecDepth 100000 in
theorem l_f11_row (G : xG) (d : Nat) (hd : 3 ≤ d) (v1 : Int32) (v2 : Int32) (v3 : Int32) (μ : xMu) : Mx G m11_row d [.ref 0, .int v1, .int v2, .int v3] μ x_wim (f11_row v1 v2 v3 μ) := by
  refine mx_enter ok11_row [some (.ref 0), some (.int v1), some (.int v2), some (.int v3), none] rfl (Nat.le_of_ble_eq_true rfl) ?_
  unfold f11_row
  refine wx_blk (pc' := 1) (L' := [some (.ref 0), some (.int v1), some (.int v2), some (.int v3), none]) (st' := [.ref 0]) [.aload_n 0] (by decide +kernel) rfl rfl ?_
  refine wx_getr is_0 ff_11_26 rfl rf_0_2 (by decide +kernel) ?_
  refine wx_blk (pc' := 5) (L' := [some (.ref 0), some (.int v1), some (.int v2), some (.int v3), none]) (st' := [.int v1, .ref 16]) [.iload_n 1] (by decide +kernel) rfl rfl ?_
  refine wx_callV (d1 := 0) (As := [.int v1]) (rest := []) (by omega) is_16 (by decide) rfl cv_11_191 rfl (Nat.le_of_ble_eq_true rfl) (l_f4_isThing G 0 (by omega) μ v1) rfl (by decide +kernel) (fun x1 => ?_)
  refine wx_if_eq 23 (off := 15) (by decide +kernel) (by decide) ?_ ?_
  · refine wx_ldc (v := -1000001) xw_513 (by decide +kernel) ?_
    exact wx_iret rfl rfl (by decide +kernel)
  · refine wx_blk (pc' := 12) (L' := [some (.ref 0), some (.int v1), some (.int v2), some (.int v3), none]) (st' := [.int v2]) [.iload_n 2] (by decide +kernel) rfl rfl ?_
    refine wx_callS (d1 := 0) (As := [.int v2]) (rest := []) (by omega) cs_11_205 rfl (Nat.le_of_ble_eq_true rfl) (l_f11_isRoutine G 0 (by omega) μ v2) rfl (by decide +kernel) (fun x2 => ?_)
    refine wx_if_eq 23 (off := 8) (by decide +kernel) (by decide) ?_ ?_
    · refine wx_ldc (v := -1000001) xw_513 (by decide +kernel) ?_
      exact wx_iret rfl rfl (by decide +kernel)
    · refine wx_blk (pc' := 20) (L' := [some (.ref 0), some (.int v1), some (.int v2), some (.int v3), none]) (st' := [.int (-1 : Int32), .int v3]) [.iload_n 3, .iconst (-1)] (by decide +kernel) rfl rfl ?_
      refine wx_ic_ge 26 (off := 6) (by decide +kernel) (by decide) ?_ ?_
      · refine wx_blk (pc' := 27) (L' := [some (.ref 0), some (.int v1), some (.int v2), some (.int v3), none]) (st' := [.ref 0]) [.aload_n 0] (by decide +kernel) rfl rfl ?_
        refine wx_getr is_0 ff_11_53 rfl rf_0_5 (by decide +kernel) ?_
        refine wx_blk (pc' := 31) (L' := [some (.ref 0), some (.int v1), some (.int v2), some (.int v3), none]) (st' := [.ref 0, .ref 131]) [.aload_n 0] (by decide +kernel) rfl rfl ?_
        refine wx_getr is_0 ff_11_57 rfl rf_0_6 (by decide +kernel) ?_
        refine wx_blk (pc' := 36) (L' := [some (.ref 0), some (.int v1), some (.int v2), some (.int v3), none]) (st' := [.int v2, .int v1, .ref 134, .ref 131]) [.iload_n 1, .iload_n 2] (by decide +kernel) rfl rfl ?_
        refine wx_callV (d1 := 2) (As := [.ref 134, .int v1, .int v2]) (rest := []) (by omega) is_131 (by decide) rfl cv_11_208 rfl (Nat.le_of_ble_eq_true rfl) (l_f6_fill G 2 (by omega) 134 v1 v2 μ) rfl (by decide +kernel) (fun q3 => ?_)
        refine wx_blk (pc' := 43) (L' := [some (.ref 0), some (.int v1), some (.int v2), some (.int v3), some (.int q3.1)]) (st' := [.int (-1 : Int32), .int v3]) [.istore 4, .iload_n 3, .iconst (-1)] (by decide +kernel) rfl rfl ?_
        refine wx_ic_ne 49 (off := 6) (by decide +kernel) (by decide) ?_ ?_
        · refine wx_blk (pc' := 52) (L' := [some (.ref 0), some (.int v1), some (.int v2), some (.int v3), some (.int q3.1)]) (st' := [.int q3.1, .int v3]) [.iload_n 3, .iload 4] (by decide +kernel) rfl rfl ?_
          refine wx_ic_ge 64 (off := 12) (by decide +kernel) (by decide) ?_ ?_
          · refine wx_ldc (v := -1000000) xw_878 (by decide +kernel) ?_
            exact wx_iret rfl rfl (by decide +kernel)
          · refine wx_blk (pc' := 56) (L' := [some (.ref 0), some (.int v1), some (.int v2), some (.int v3), some (.int q3.1)]) (st' := [.ref 0]) [.aload_n 0] (by decide +kernel) rfl rfl ?_
            refine wx_getr is_0 ff_11_57 rfl rf_0_6 (by decide +kernel) ?_
            refine wx_blk (pc' := 60) (L' := [some (.ref 0), some (.int v1), some (.int v2), some (.int v3), some (.int q3.1)]) (st' := [.int v3, .ref 134]) [.iload_n 3] (by decide +kernel) rfl rfl ?_
            refine wx_ald is_134 sz_134 (by decide +kernel) (fun x4 => ?_)
            refine wx_goto 66 (off := 5) (by decide +kernel) (by decide) ?_
            exact wx_iret rfl rfl (by decide +kernel)
        · refine wx_blk (pc' := 48) (L' := [some (.ref 0), some (.int v1), some (.int v2), some (.int v3), some (.int q3.1)]) (st' := [.int q3.1]) [.iload 4] (by decide +kernel) rfl rfl ?_
          exact wx_iret rfl rfl (by decide +kernel)
      · refine wx_ldc (v := -1000001) xw_513 (by decide +kernel) ?_
        exact wx_iret rfl rfl (by decide +kernel)
/-! WakingLayers.isCall(III)Z -/
def f11_isCall (μ : xMu) (v1 : Int32) (v2 : Int32) (v3 : Int32) : Option Int32 :=
  ((f4_isThing μ v1).bind fun x1 =>
(if x1 = 0 then
(some (0 : Int32))
else
((f11_isRoutine v2).bind fun x2 =>
(if x2 = 0 then
(some (0 : Int32))
else
(if v3 < 0 then
(some (0 : Int32))
else
(if (1000003 : Int32) ≤ v3 then
(some (0 : Int32))
else
(some (1 : Int32))))))))
set_option maxHeartbeats 4000000 in
set_option maxRecDepth 100000 in
theorem l_f11_isCall (G : xG) (d : Nat) (hd : 1 ≤ d) (μ : xMu) (v1 : Int32) (v2 : Int32) (v3 : Int32) : Mx G m11_isCall d [.ref 0, .int v1, .int v2, .int v3] μ (x_wi μ) (f11_isCall μ v1 v2 v3) := by
  refine mx_enter ok11_isCall [some (.ref 0), some (.int v1), some (.int v2), some (.int v3)] rfl (Nat.le_of_ble_eq_true rfl) ?_
  unfold f11_isCall
  refine wx_blk (pc' := 1) (L' := [some (.ref 0), some (.int v1), some (.int v2), some (.int v3)]) (st' := [.ref 0]) [.aload_n 0] (by decide +kernel) rfl rfl ?_
  refine wx_getr is_0 ff_11_26 rfl rf_0_2 (by decide +kernel) ?_
  refine wx_blk (pc' := 5) (L' := [some (.ref 0), some (.int v1), some (.int v2), some (.int v3)]) (st' := [.int v1, .ref 16]) [.iload_n 1] (by decide +kernel) rfl rfl ?_
  refine wx_callV (d1 := 0) (As := [.int v1]) (rest := []) (by omega) is_16 (by decide) rfl cv_11_191 rfl (Nat.le_of_ble_eq_true rfl) (l_f4_isThing G 0 (by omega) μ v1) rfl (by decide +kernel) (fun x1 => ?_)
  refine wx_if_eq 33 (off := 25) (by decide +kernel) (by decide) ?_ ?_
  · refine wx_blk (pc' := 34) (L' := [some (.ref 0), some (.int v1), some (.int v2), some (.int v3)]) (st' := [.int (0 : Int32)]) [.iconst 0] (by decide +kernel) rfl rfl ?_
    exact wx_zret rfl rfl (by decide) (by decide +kernel)
  · refine wx_blk (pc' := 12) (L' := [some (.ref 0), some (.int v1), some (.int v2), some (.int v3)]) (st' := [.int v2]) [.iload_n 2] (by decide +kernel) rfl rfl ?_
    refine wx_callS (d1 := 0) (As := [.int v2]) (rest := []) (by omega) cs_11_205 rfl (Nat.le_of_ble_eq_true rfl) (l_f11_isRoutine G 0 (by omega) μ v2) rfl (by decide +kernel) (fun x2 => ?_)
    refine wx_if_eq 33 (off := 18) (by decide +kernel) (by decide) ?_ ?_
    · refine wx_blk (pc' := 34) (L' := [some (.ref 0), some (.int v1), some (.int v2), some (.int v3)]) (st' := [.int (0 : Int32)]) [.iconst 0] (by decide +kernel) rfl rfl ?_
      exact wx_zret rfl rfl (by decide) (by decide +kernel)
    · refine wx_blk (pc' := 19) (L' := [some (.ref 0), some (.int v1), some (.int v2), some (.int v3)]) (st' := [.int v3]) [.iload_n 3] (by decide +kernel) rfl rfl ?_
      refine wx_if_lt 33 (off := 14) (by decide +kernel) (by decide) ?_ ?_
      · refine wx_blk (pc' := 34) (L' := [some (.ref 0), some (.int v1), some (.int v2), some (.int v3)]) (st' := [.int (0 : Int32)]) [.iconst 0] (by decide +kernel) rfl rfl ?_
        exact wx_zret rfl rfl (by decide) (by decide +kernel)
      · refine wx_blk (pc' := 23) (L' := [some (.ref 0), some (.int v1), some (.int v2), some (.int v3)]) (st' := [.int v3]) [.iload_n 3] (by decide +kernel) rfl rfl ?_
        refine wx_ldcw (v := 1000003) xw_949 (by decide +kernel) ?_
        refine wx_ic_ge 33 (off := 7) (by decide +kernel) (by decide) ?_ ?_
        · refine wx_blk (pc' := 34) (L' := [some (.ref 0), some (.int v1), some (.int v2), some (.int v3)]) (st' := [.int (0 : Int32)]) [.iconst 0] (by decide +kernel) rfl rfl ?_
          exact wx_zret rfl rfl (by decide) (by decide +kernel)
        · refine wx_blk (pc' := 30) (L' := [some (.ref 0), some (.int v1), some (.int v2), some (.int v3)]) (st' := [.int (1 : Int32)]) [.iconst 1] (by decide +kernel) rfl rfl ?_
          refine wx_goto 34 (off := 4) (by decide +kernel) (by decide) ?_
          exact wx_zret rfl rfl (by decide) (by decide +kernel)
/-! WakingLayers$Runner.noteBegun(I)V -/
def f7_noteBegun_j19 (v0 : Nat) (μ : xMu) : Option xMu :=
  (x_chk v0 7 (x_put μ v0 7 ((μ v0 7) + (1 : Int32)) fun μ3 =>
(some μ3)))
set_option maxHeartbeats 4000000 in
set_option maxRecDepth 100000 in
theorem l_f7_noteBegun_j19 (G : xG) (d : Nat) (hd : 0 ≤ d) (v0 : Nat) (μ : xMu) : Wx G m7_noteBegun d 19 [some (.ref v0), none] [] μ x_wv (f7_noteBegun_j19 v0 μ) := by
  unfold f7_noteBegun_j19
  refine wx_blk (pc' := 21) (L' := [some (.ref v0), none]) (st' := [.ref v0, .ref v0]) [.aload_n 0, .dup] (by decide +kernel) rfl rfl ?_
  refine wx_chk (fun hx2 => ?_)
  refine wx_geti hx2 ff_7_40 rfl (by decide +kernel) ?_
  refine wx_blk (pc' := 26) (L' := [some (.ref v0), none]) (st' := [.int ((μ v0 7) + (1 : Int32)), .ref v0]) [.iconst 1, .iadd] (by decide +kernel) rfl rfl ?_
  refine wx_put hx2 ff_7_40 fp_7_7 ⟨rfl, rfl⟩ (by decide +kernel) (fun μ3 => ?_)
  exact wx_vret rfl rfl (by decide +kernel)
def f7_noteBegun (v0 : Nat) (v1 : Int32) (μ : xMu) : Option xMu :=
  (x_chk v0 7 (if (40 : Int32) ≤ (μ v0 7) then
(f7_noteBegun_j19 v0 μ)
else
(x_rfd v0 6 fun r4 =>
(x_chk r4 13 (x_ast μ r4 (x_sz r4) (μ v0 7) v1 fun μ6 =>
(f7_noteBegun_j19 v0 μ6))))))
set_option maxHeartbeats 4000000 in
set_option maxRecDepth 100000 in
theorem l_f7_noteBegun (G : xG) (d : Nat) (hd : 0 ≤ d) (v0 : Nat) (v1 : Int32) (μ : xMu) : Mx G m7_noteBegun d [.ref v0, .int v1] μ x_wv (f7_noteBegun v0 v1 μ) := by
  refine mx_enter ok7_noteBegun [some (.ref v0), some (.int v1)] rfl (Nat.le_of_ble_eq_true rfl) ?_
  unfold f7_noteBegun
  refine wx_blk (pc' := 1) (L' := [some (.ref v0), some (.int v1)]) (st' := [.ref v0]) [.aload_n 0] (by decide +kernel) rfl rfl ?_
  refine wx_chk (fun hx1 => ?_)
  refine wx_geti hx1 ff_7_40 rfl (by decide +kernel) ?_
  refine wx_blk (pc' := 6) (L' := [some (.ref v0), some (.int v1)]) (st' := [.int (40 : Int32), .int (μ v0 7)]) [.bipush 40] (by decide +kernel) rfl rfl ?_
  refine wx_ic_ge 19 (off := 13) (by decide +kernel) (by decide) ?_ ?_
  · refine wx_weak (L' := [some (.ref v0), none]) ⟨rfl, trivial⟩ ?_
    refine l_f7_noteBegun_j19 G d hd v0 μ
  · refine wx_blk (pc' := 10) (L' := [some (.ref v0), some (.int v1)]) (st' := [.ref v0]) [.aload_n 0] (by decide +kernel) rfl rfl ?_
    refine wx_rfd hx1 ff_7_25 rfl (by decide +kernel) (fun r4 => ?_)
    refine wx_blk (pc' := 14) (L' := [some (.ref v0), some (.int v1)]) (st' := [.ref v0, .ref r4]) [.aload_n 0] (by decide +kernel) rfl rfl ?_
    refine wx_geti hx1 ff_7_40 rfl (by decide +kernel) ?_
    refine wx_blk (pc' := 18) (L' := [some (.ref v0), some (.int v1)]) (st' := [.int v1, .int (μ v0 7), .ref r4]) [.iload_n 1] (by decide +kernel) rfl rfl ?_
    refine wx_chk (fun hx5 => ?_)
    refine wx_ast hx5 rfl (by decide +kernel) (fun μ6 => ?_)
    refine wx_weak (L' := [some (.ref v0), none]) ⟨rfl, trivial⟩ ?_
    refine l_f7_noteBegun_j19 G d hd v0 μ6
/-! WakingLayers$Runner.wokenThing(II)I -/
def f7_wokenThing (μ : xMu) (v0 : Nat) (v1 : Int32) (v2 : Int32) : Option Int32 :=
  (x_chk v0 7 (x_rld 20 8 v1 fun r2 =>
(x_chk r2 3 (if (μ r2 0) = (1 : Int32) then
(x_rfd v0 5 fun r4 =>
(x_chk r4 13 (x_ald μ r4 (x_sz r4) v2 fun x5 =>
(some x5))))
else
(some (-1000000 : Int32))))))
set_option maxHeartbeats 4000000 in
set_option maxRecDepth 100000 in
theorem l_f7_wokenThing (G : xG) (d : Nat) (hd : 0 ≤ d) (μ : xMu) (v0 : Nat) (v1 : Int32) (v2 : Int32) : Mx G m7_wokenThing d [.ref v0, .int v1, .int v2] μ (x_wi μ) (f7_wokenThing μ v0 v1 v2) := by
  refine mx_enter ok7_wokenThing [some (.ref v0), some (.int v1), some (.int v2)] rfl (Nat.le_of_ble_eq_true rfl) ?_
  unfold f7_wokenThing
  refine wx_blk (pc' := 1) (L' := [some (.ref v0), some (.int v1), some (.int v2)]) (st' := [.ref v0]) [.aload_n 0] (by decide +kernel) rfl rfl ?_
  refine wx_chk (fun hx1 => ?_)
  refine wx_getr hx1 ff_7_28 rfl (rfc_7_0 _ hx1) (by decide +kernel) ?_
  refine wx_getr is_16 ff_7_120 rfl rf_16_3 (by decide +kernel) ?_
  refine wx_blk (pc' := 8) (L' := [some (.ref v0), some (.int v1), some (.int v2)]) (st' := [.int v1, .ref 20]) [.iload_n 1] (by decide +kernel) rfl rfl ?_
  refine wx_rld is_20 (by decide) sz_20 (by decide +kernel) (fun r2 => ?_)
  refine wx_chk (fun hx3 => ?_)
  refine wx_geti hx3 ff_7_124 rfl (by decide +kernel) ?_
  refine wx_blk (pc' := 13) (L' := [some (.ref v0), some (.int v1), some (.int v2)]) (st' := [.int (1 : Int32), .int (μ r2 0)]) [.iconst 1] (by decide +kernel) rfl rfl ?_
  refine wx_ic_ne 25 (off := 12) (by decide +kernel) (by decide) ?_ ?_
  · refine wx_ldc (v := -1000000) xw_982 (by decide +kernel) ?_
    exact wx_iret rfl rfl (by decide +kernel)
  · refine wx_blk (pc' := 17) (L' := [some (.ref v0), some (.int v1), some (.int v2)]) (st' := [.ref v0]) [.aload_n 0] (by decide +kernel) rfl rfl ?_
    refine wx_rfd hx1 ff_7_22 rfl (by decide +kernel) (fun r4 => ?_)
    refine wx_blk (pc' := 21) (L' := [some (.ref v0), some (.int v1), some (.int v2)]) (st' := [.int v2, .ref r4]) [.iload_n 2] (by decide +kernel) rfl rfl ?_
    refine wx_chk (fun hx6 => ?_)
    refine wx_ald hx6 rfl (by decide +kernel) (fun x5 => ?_)
    refine wx_goto 27 (off := 5) (by decide +kernel) (by decide) ?_
    exact wx_iret rfl rfl (by decide +kernel)
/-! WakingLayers$Circumstances.closeDownTo(I)V -/
def f2_closeDownTo (v1 : Int32) (μ : xMu) : Option xMu :=
  (if (μ 127 4) ≤ v1 then
(some μ)
else
(x_put μ 127 4 v1 fun μ1 =>
((f2_settled μ1 (μ1 127 5)).bind fun x2 =>
(x_put μ1 127 5 x2 fun μ3 =>
(some μ3)))))
set_option maxHeartbeats 4000000 in
set_option maxRecDepth 100000 in
theorem l_f2_closeDownTo (G : xG) (d : Nat) (hd : 2 ≤ d) (v1 : Int32) (μ : xMu) : Mx G m2_closeDownTo d [.ref 127, .int v1] μ x_wv (f2_closeDownTo v1 μ) := by
  refine mx_enter ok2_closeDownTo [some (.ref 127), some (.int v1)] rfl (Nat.le_of_ble_eq_true rfl) ?_
  unfold f2_closeDownTo
  refine wx_blk (pc' := 1) (L' := [some (.ref 127), some (.int v1)]) (st' := [.ref 127]) [.aload_n 0] (by decide +kernel) rfl rfl ?_
  refine wx_geti is_127 ff_2_25 rfl (by decide +kernel) ?_
  refine wx_blk (pc' := 5) (L' := [some (.ref 127), some (.int v1)]) (st' := [.int v1, .int (μ 127 4)]) [.iload_n 1] (by decide +kernel) rfl rfl ?_
  refine wx_ic_le 25 (off := 20) (by decide +kernel) (by decide) ?_ ?_
  · exact wx_vret rfl rfl (by decide +kernel)
  · refine wx_blk (pc' := 10) (L' := [some (.ref 127), some (.int v1)]) (st' := [.int v1, .ref 127]) [.aload_n 0, .iload_n 1] (by decide +kernel) rfl rfl ?_
    refine wx_put is_127 ff_2_25 fp_2_4 ⟨rfl, rfl⟩ (by decide +kernel) (fun μ1 => ?_)
    refine wx_blk (pc' := 16) (L' := [some (.ref 127), some (.int v1)]) (st' := [.ref 127, .ref 127, .ref 127]) [.aload_n 0, .aload_n 0, .aload_n 0] (by decide +kernel) rfl rfl ?_
    refine wx_geti is_127 ff_2_29 rfl (by decide +kernel) ?_
    refine wx_callV (d1 := 1) (As := [.int (μ1 127 5)]) (rest := [.ref 127]) (by omega) is_127 (by decide) rfl cv_2_32 rfl (Nat.le_of_ble_eq_true rfl) (l_f2_settled G 1 (by omega) μ1 (μ1 127 5)) rfl (by decide +kernel) (fun x2 => ?_)
    refine wx_put is_127 ff_2_29 fp_2_5 ⟨rfl, rfl⟩ (by decide +kernel) (fun μ3 => ?_)
    exact wx_vret rfl rfl (by decide +kernel)
