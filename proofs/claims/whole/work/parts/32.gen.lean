/-! WakingLayersModel.fault()I -/
def f12_fault (μ : xMu) : Option (Int32 × xMu) :=
  (x_put μ 162 0 (0 : Int32) fun μ1 =>
(some ((μ1 162 27), μ1)))
set_option maxHeartbeats 4000000 in
set_option maxRecDepth 100000 in
theorem l_f12_fault (G : xG) (d : Nat) (hd : 0 ≤ d) (μ : xMu) : Mx G m12_fault d [.ref 162] μ x_wim (f12_fault μ) := by
  refine mx_enter ok12_fault [some (.ref 162)] rfl (Nat.le_of_ble_eq_true rfl) ?_
  unfold f12_fault
  refine wx_blk (pc' := 2) (L' := [some (.ref 162)]) (st' := [.int (0 : Int32), .ref 162]) [.aload_n 0, .iconst 0] (by decide +kernel) rfl rfl ?_
  refine wx_put is_162 ff_12_131 fp_12_0 ⟨rfl, rfl⟩ (by decide +kernel) (fun μ1 => ?_)
  refine wx_blk (pc' := 6) (L' := [some (.ref 162)]) (st' := [.ref 162]) [.aload_n 0] (by decide +kernel) rfl rfl ?_
  refine wx_geti is_162 ff_12_312 rfl (by decide +kernel) ?_
  exact wx_iret rfl rfl (by decide +kernel)
/-! WakingLayersModel.isLayer(I)Z -/
def f12_isLayer (μ : xMu) (v1 : Int32) : Option Int32 :=
  ((f12_in (Int32.toInt64 v1) (0 : Int64) (Int32.toInt64 ((μ 162 10) - (1 : Int32)))).bind fun x1 =>
(x_tst (x_zok x1) (some x1)))
set_option maxHeartbeats 4000000 in
set_option maxRecDepth 100000 in
theorem l_f12_isLayer (G : xG) (d : Nat) (hd : 1 ≤ d) (μ : xMu) (v1 : Int32) : Mx G m12_isLayer d [.ref 162, .int v1] μ (x_wi μ) (f12_isLayer μ v1) := by
  refine mx_enter ok12_isLayer [some (.ref 162), some (.int v1)] rfl (Nat.le_of_ble_eq_true rfl) ?_
  unfold f12_isLayer
  refine wx_blk (pc' := 4) (L' := [some (.ref 162), some (.int v1)]) (st' := [.ref 162, .long (0 : Int64), .long (Int32.toInt64 v1)]) [.iload_n 1, .i2l, .lconst 0, .aload_n 0] (by decide +kernel) rfl rfl ?_
  refine wx_geti is_162 ff_12_288 rfl (by decide +kernel) ?_
  refine wx_blk (pc' := 10) (L' := [some (.ref 162), some (.int v1)]) (st' := [.long (Int32.toInt64 ((μ 162 10) - (1 : Int32))), .long (0 : Int64), .long (Int32.toInt64 v1)]) [.iconst 1, .isub, .i2l] (by decide +kernel) rfl rfl ?_
  refine wx_callS (d1 := 0) (As := [.long (Int32.toInt64 v1), .long (0 : Int64), .long (Int32.toInt64 ((μ 162 10) - (1 : Int32)))]) (rest := []) (by omega) cs_12_141 rfl (Nat.le_of_ble_eq_true rfl) (l_f12_in G 0 (by omega) μ (Int32.toInt64 v1) (0 : Int64) (Int32.toInt64 ((μ 162 10) - (1 : Int32)))) rfl (by decide +kernel) (fun x1 => ?_)
  exact wx_tst (fun hx2 => wx_zret rfl rfl hx2 (by decide +kernel))
/-! WakingLayersModel.isThing(I)Z -/
def f12_isThing (μ : xMu) (v1 : Int32) : Option Int32 :=
  ((f12_in (Int32.toInt64 v1) (0 : Int64) (Int32.toInt64 ((μ 162 7) - (1 : Int32)))).bind fun x1 =>
(x_tst (x_zok x1) (some x1)))
set_option maxHeartbeats 4000000 in
set_option maxRecDepth 100000 in
theorem l_f12_isThing (G : xG) (d : Nat) (hd : 1 ≤ d) (μ : xMu) (v1 : Int32) : Mx G m12_isThing d [.ref 162, .int v1] μ (x_wi μ) (f12_isThing μ v1) := by
  refine mx_enter ok12_isThing [some (.ref 162), some (.int v1)] rfl (Nat.le_of_ble_eq_true rfl) ?_
  unfold f12_isThing
  refine wx_blk (pc' := 4) (L' := [some (.ref 162), some (.int v1)]) (st' := [.ref 162, .long (0 : Int64), .long (Int32.toInt64 v1)]) [.iload_n 1, .i2l, .lconst 0, .aload_n 0] (by decide +kernel) rfl rfl ?_
  refine wx_geti is_162 ff_12_285 rfl (by decide +kernel) ?_
  refine wx_blk (pc' := 10) (L' := [some (.ref 162), some (.int v1)]) (st' := [.long (Int32.toInt64 ((μ 162 7) - (1 : Int32))), .long (0 : Int64), .long (Int32.toInt64 v1)]) [.iconst 1, .isub, .i2l] (by decide +kernel) rfl rfl ?_
  refine wx_callS (d1 := 0) (As := [.long (Int32.toInt64 v1), .long (0 : Int64), .long (Int32.toInt64 ((μ 162 7) - (1 : Int32)))]) (rest := []) (by omega) cs_12_141 rfl (Nat.le_of_ble_eq_true rfl) (l_f12_in G 0 (by omega) μ (Int32.toInt64 v1) (0 : Int64) (Int32.toInt64 ((μ 162 7) - (1 : Int32)))) rfl (by decide +kernel) (fun x1 => ?_)
  exact wx_tst (fun hx2 => wx_zret rfl rfl hx2 (by decide +kernel))
/-! WakingLayersModel.openOf(I)I -/
def f12_openOf_j28 (μ : xMu) (k4 : Int32 → Int32 → Int32 → Option Int32) (v1 : Int32) (v3 : Int32) (s0 : Int32) (s1 : Int32) : Option Int32 :=
  (k4 v1 (s0 + s1) (v3 + (1 : Int32)))
set_option maxHeartbeats 4000000 in
set_option maxRecDepth 100000 in
theorem l_f12_openOf_j28 (G : xG) (d : Nat) (hd : 0 ≤ d) (μ : xMu) (k4 : Int32 → Int32 → Int32 → Option Int32) (h4 : ∀ (v1 : Int32) (v2 : Int32) (v3 : Int32), Wx G m12_openOf d 4 [some (.ref 162), some (.int v1), some (.int v2), some (.int v3)] [] μ (x_wi μ) (k4 v1 v2 v3)) (v1 : Int32) (v3 : Int32) (s0 : Int32) (s1 : Int32) : Wx G m12_openOf d 28 [some (.ref 162), some (.int v1), none, some (.int v3)] [.int s1, .int s0] μ (x_wi μ) (f12_openOf_j28 μ k4 v1 v3 s0 s1) := by
  unfold f12_openOf_j28
  refine wx_blk (pc' := 33) (L' := [some (.ref 162), some (.int v1), some (.int (s0 + s1)), some (.int (v3 + (1 : Int32)))]) (st' := []) [.iadd, .istore_n 2, .iinc 3 1] (by decide +kernel) rfl rfl ?_
  refine wx_goto 4 (off := -29) (by decide +kernel) (by decide) ?_
  exact h4 v1 (s0 + s1) (v3 + (1 : Int32))
def f12_openOf_l4 (μ : xMu) (k36 : Int32 → Option Int32) : Nat → Int32 → Int32 → Int32 → Option Int32
  | 0, _, _, _ => none
  | n + 1, v1, v2, v3 =>
  (if (μ 162 41) ≤ v3 then
(k36 v2)
else
(x_ald μ 185 16 v3 fun x1 =>
(if x1 = v1 then
(f12_openOf_j28 μ (f12_openOf_l4 μ k36 n) v1 v3 v2 (1 : Int32))
else
(f12_openOf_j28 μ (f12_openOf_l4 μ k36 n) v1 v3 v2 (0 : Int32)))))
set_option maxHeartbeats 4000000 in
set_option maxRecDepth 100000 in
theorem l_f12_openOf_l4 (G : xG) (d : Nat) (hd : 0 ≤ d) (μ : xMu) (k36 : Int32 → Option Int32) (h36 : ∀ (v2 : Int32), Wx G m12_openOf d 36 [none, none, some (.int v2), none] [] μ (x_wi μ) (k36 v2)) : ∀ (n : Nat) (v1 : Int32) (v2 : Int32) (v3 : Int32), Wx G m12_openOf d 4 [some (.ref 162), some (.int v1), some (.int v2), some (.int v3)] [] μ (x_wi μ) (f12_openOf_l4 μ k36 n v1 v2 v3) := by
  intro n
  induction n with
  | zero => intro v1 v2 v3; exact wx_none
  | succ n h4 =>
    intro v1 v2 v3
    unfold f12_openOf_l4
    refine wx_blk (pc' := 6) (L' := [some (.ref 162), some (.int v1), some (.int v2), some (.int v3)]) (st' := [.ref 162, .int v3]) [.iload_n 3, .aload_n 0] (by decide +kernel) rfl rfl ?_
    refine wx_geti is_162 ff_12_316 rfl (by decide +kernel) ?_
    refine wx_ic_ge 36 (off := 27) (by decide +kernel) (by decide) ?_ ?_
    · refine wx_weak (L' := [none, none, some (.int v2), none]) ⟨rfl, trivial⟩ ?_
      exact h36 v2
    · refine wx_blk (pc' := 14) (L' := [some (.ref 162), some (.int v1), some (.int v2), some (.int v3)]) (st' := [.ref 162, .int v2]) [.iload_n 2, .aload_n 0] (by decide +kernel) rfl rfl ?_
      refine wx_getr is_162 ff_12_76 rfl rf_162_42 (by decide +kernel) ?_
      refine wx_blk (pc' := 18) (L' := [some (.ref 162), some (.int v1), some (.int v2), some (.int v3)]) (st' := [.int v3, .ref 185, .int v2]) [.iload_n 3] (by decide +kernel) rfl rfl ?_
      refine wx_ald is_185 sz_185 (by decide +kernel) (fun x1 => ?_)
      refine wx_blk (pc' := 20) (L' := [some (.ref 162), some (.int v1), some (.int v2), some (.int v3)]) (st' := [.int v1, .int x1, .int v2]) [.iload_n 1] (by decide +kernel) rfl rfl ?_
      refine wx_ic_ne 27 (off := 7) (by decide +kernel) (by decide) ?_ ?_
      · refine wx_blk (pc' := 28) (L' := [some (.ref 162), some (.int v1), some (.int v2), some (.int v3)]) (st' := [.int (0 : Int32), .int v2]) [.iconst 0] (by decide +kernel) rfl rfl ?_
        refine wx_weak (L' := [some (.ref 162), some (.int v1), none, some (.int v3)]) ⟨rfl, ⟨rfl, ⟨rfl, trivial⟩⟩⟩ ?_
        refine l_f12_openOf_j28 G d hd μ _ h4 v1 v3 v2 (0 : Int32)
      · refine wx_blk (pc' := 24) (L' := [some (.ref 162), some (.int v1), some (.int v2), some (.int v3)]) (st' := [.int (1 : Int32), .int v2]) [.iconst 1] (by decide +kernel) rfl rfl ?_
        refine wx_goto 28 (off := 4) (by decide +kernel) (by decide) ?_
        refine wx_weak (L' := [some (.ref 162), some (.int v1), none, some (.int v3)]) ⟨rfl, ⟨rfl, ⟨rfl, trivial⟩⟩⟩ ?_
        refine l_f12_openOf_j28 G d hd μ _ h4 v1 v3 v2 (1 : Int32)
def f12_openOf (μ : xMu) (v1 : Int32) : Option Int32 :=
  (f12_openOf_l4 μ (fun (y2 : Int32) => (some y2)) 1000 v1 (0 : Int32) (0 : Int32))
set_option maxHeartbeats 4000000 in
set_option maxRecDepth 100000 in
theorem l_f12_openOf (G : xG) (d : Nat) (hd : 0 ≤ d) (μ : xMu) (v1 : Int32) : Mx G m12_openOf d [.ref 162, .int v1] μ (x_wi μ) (f12_openOf μ v1) := by
  refine mx_enter ok12_openOf [some (.ref 162), some (.int v1), none, none] rfl (Nat.le_of_ble_eq_true rfl) ?_
  unfold f12_openOf
  refine wx_blk (pc' := 4) (L' := [some (.ref 162), some (.int v1), some (.int (0 : Int32)), some (.int (0 : Int32))]) (st' := []) [.iconst 0, .istore_n 2, .iconst 0, .istore_n 3] (by decide +kernel) rfl rfl ?_
  refine l_f12_openOf_l4 G d hd μ _ ?_ 1000 v1 (0 : Int32) (0 : Int32)
  · intro y2
    refine wx_blk (pc' := 37) (L' := [none, none, some (.int y2), none]) (st' := [.int y2]) [.iload_n 2] (by decide +kernel) rfl rfl ?_
    exact wx_iret rfl rfl (by decide +kernel)
/-! WakingLayersModel.isAwake(I)Z -/
def f12_isAwake_j50 (μ : xMu) : Option Int32 :=
  (some (1 : Int32))
set_option maxHeartbeats 4000000 in
set_option maxRecDepth 100000 in
theorem l_f12_isAwake_j50 (G : xG) (d : Nat) (hd : 1 ≤ d) (μ : xMu) : Wx G m12_isAwake d 50 [none, none] [] μ (x_wi μ) (f12_isAwake_j50 μ) := by
  unfold f12_isAwake_j50
  refine wx_blk (pc' := 51) (L' := [none, none]) (st' := [.int (1 : Int32)]) [.iconst 1] (by decide +kernel) rfl rfl ?_
  refine wx_goto 55 (off := 4) (by decide +kernel) (by decide) ?_
  exact wx_zret rfl rfl (by decide) (by decide +kernel)
def f12_isAwake_j32 (μ : xMu) (v1 : Int32) : Option Int32 :=
  (x_ald μ 169 8 v1 fun x3 =>
(if (2 : Int32) ≤ x3 then
(some (0 : Int32))
else
((f12_openOf μ v1).bind fun x4 =>
(if x4 ≤ 0 then
(some (0 : Int32))
else
(f12_isAwake_j50 μ)))))
set_option maxHeartbeats 4000000 in
set_option maxRecDepth 100000 in
theorem l_f12_isAwake_j32 (G : xG) (d : Nat) (hd : 1 ≤ d) (μ : xMu) (v1 : Int32) : Wx G m12_isAwake d 32 [some (.ref 162), some (.int v1)] [] μ (x_wi μ) (f12_isAwake_j32 μ v1) := by
  unfold f12_isAwake_j32
  refine wx_blk (pc' := 33) (L' := [some (.ref 162), some (.int v1)]) (st' := [.ref 162]) [.aload_n 0] (by decide +kernel) rfl rfl ?_
  refine wx_getr is_162 ff_12_28 rfl rf_162_11 (by decide +kernel) ?_
  refine wx_blk (pc' := 37) (L' := [some (.ref 162), some (.int v1)]) (st' := [.int v1, .ref 169]) [.iload_n 1] (by decide +kernel) rfl rfl ?_
  refine wx_ald is_169 sz_169 (by decide +kernel) (fun x3 => ?_)
  refine wx_blk (pc' := 39) (L' := [some (.ref 162), some (.int v1)]) (st' := [.int (2 : Int32), .int x3]) [.iconst 2] (by decide +kernel) rfl rfl ?_
  refine wx_ic_ge 54 (off := 15) (by decide +kernel) (by decide) ?_ ?_
  · refine wx_blk (pc' := 55) (L' := [some (.ref 162), some (.int v1)]) (st' := [.int (0 : Int32)]) [.iconst 0] (by decide +kernel) rfl rfl ?_
    exact wx_zret rfl rfl (by decide) (by decide +kernel)
  · refine wx_blk (pc' := 44) (L' := [some (.ref 162), some (.int v1)]) (st' := [.int v1, .ref 162]) [.aload_n 0, .iload_n 1] (by decide +kernel) rfl rfl ?_
    refine wx_callV (d1 := 0) (As := [.int v1]) (rest := []) (by omega) is_162 (by decide) rfl cv_12_322 rfl (Nat.le_of_ble_eq_true rfl) (l_f12_openOf G 0 (by omega) μ v1) rfl (by decide +kernel) (fun x4 => ?_)
    refine wx_if_le 54 (off := 7) (by decide +kernel) (by decide) ?_ ?_
    · refine wx_blk (pc' := 55) (L' := [some (.ref 162), some (.int v1)]) (st' := [.int (0 : Int32)]) [.iconst 0] (by decide +kernel) rfl rfl ?_
      exact wx_zret rfl rfl (by decide) (by decide +kernel)
    · refine wx_weak (L' := [none, none]) trivial ?_
      refine l_f12_isAwake_j50 G d hd μ
def f12_isAwake (μ : xMu) (v1 : Int32) : Option Int32 :=
  (x_ald μ 169 8 v1 fun x1 =>
(if x1 = (3 : Int32) then
(f12_isAwake_j50 μ)
else
(x_ald μ 169 8 v1 fun x2 =>
(if x2 = (2 : Int32) then
(if (((μ 162 44) >>> (v1 &&& 31)) &&& (1 : Int32)) = (1 : Int32) then
(f12_isAwake_j50 μ)
else
(f12_isAwake_j32 μ v1))
else
(f12_isAwake_j32 μ v1)))))
set_option maxHeartbeats 4000000 in
set_option maxRecDepth 100000 in
theorem l_f12_isAwake (G : xG) (d : Nat) (hd : 1 ≤ d) (μ : xMu) (v1 : Int32) : Mx G m12_isAwake d [.ref 162, .int v1] μ (x_wi μ) (f12_isAwake μ v1) := by
  refine mx_enter ok12_isAwake [some (.ref 162), some (.int v1)] rfl (Nat.le_of_ble_eq_true rfl) ?_
  unfold f12_isAwake
  refine wx_blk (pc' := 1) (L' := [some (.ref 162), some (.int v1)]) (st' := [.ref 162]) [.aload_n 0] (by decide +kernel) rfl rfl ?_
  refine wx_getr is_162 ff_12_28 rfl rf_162_11 (by decide +kernel) ?_
  refine wx_blk (pc' := 5) (L' := [some (.ref 162), some (.int v1)]) (st' := [.int v1, .ref 169]) [.iload_n 1] (by decide +kernel) rfl rfl ?_
  refine wx_ald is_169 sz_169 (by decide +kernel) (fun x1 => ?_)
  refine wx_blk (pc' := 7) (L' := [some (.ref 162), some (.int v1)]) (st' := [.int (3 : Int32), .int x1]) [.iconst 3] (by decide +kernel) rfl rfl ?_
  refine wx_ic_eq 50 (off := 43) (by decide +kernel) (by decide) ?_ ?_
  · refine wx_weak (L' := [none, none]) trivial ?_
    refine l_f12_isAwake_j50 G d hd μ
  · refine wx_blk (pc' := 11) (L' := [some (.ref 162), some (.int v1)]) (st' := [.ref 162]) [.aload_n 0] (by decide +kernel) rfl rfl ?_
    refine wx_getr is_162 ff_12_28 rfl rf_162_11 (by decide +kernel) ?_
    refine wx_blk (pc' := 15) (L' := [some (.ref 162), some (.int v1)]) (st' := [.int v1, .ref 169]) [.iload_n 1] (by decide +kernel) rfl rfl ?_
    refine wx_ald is_169 sz_169 (by decide +kernel) (fun x2 => ?_)
    refine wx_blk (pc' := 17) (L' := [some (.ref 162), some (.int v1)]) (st' := [.int (2 : Int32), .int x2]) [.iconst 2] (by decide +kernel) rfl rfl ?_
    refine wx_ic_ne 32 (off := 15) (by decide +kernel) (by decide) ?_ ?_
    · refine l_f12_isAwake_j32 G d hd μ v1
    · refine wx_blk (pc' := 21) (L' := [some (.ref 162), some (.int v1)]) (st' := [.ref 162]) [.aload_n 0] (by decide +kernel) rfl rfl ?_
      refine wx_geti is_162 ff_12_319 rfl (by decide +kernel) ?_
      refine wx_blk (pc' := 29) (L' := [some (.ref 162), some (.int v1)]) (st' := [.int (1 : Int32), .int (((μ 162 44) >>> (v1 &&& 31)) &&& (1 : Int32))]) [.iload_n 1, .ishr, .iconst 1, .iand, .iconst 1] (by decide +kernel) rfl rfl ?_
      refine wx_ic_eq 50 (off := 21) (by decide +kernel) (by decide) ?_ ?_
      · refine wx_weak (L' := [none, none]) trivial ?_
        refine l_f12_isAwake_j50 G d hd μ
      · refine l_f12_isAwake_j32 G d hd μ v1
/-! WakingLayersModel.hasNeeds(I)Z -/
def f12_hasNeeds_j42 (μ : xMu) (k4 : Int32 → Int32 → Int32 → Option Int32) (v1 : Int32) (v3 : Int32) (s0 : Int32) : Option Int32 :=
  (k4 v1 s0 (v3 + (1 : Int32)))
set_option maxHeartbeats 4000000 in
set_option maxRecDepth 100000 in
theorem l_f12_hasNeeds_j42 (G : xG) (d : Nat) (hd : 2 ≤ d) (μ : xMu) (k4 : Int32 → Int32 → Int32 → Option Int32) (h4 : ∀ (v1 : Int32) (v2 : Int32) (v3 : Int32), Wx G m12_hasNeeds d 4 [some (.ref 162), some (.int v1), some (.int v2), some (.int v3)] [] μ (x_wi μ) (k4 v1 v2 v3)) (v1 : Int32) (v3 : Int32) (s0 : Int32) : Wx G m12_hasNeeds d 42 [some (.ref 162), some (.int v1), none, some (.int v3)] [.int s0] μ (x_wi μ) (f12_hasNeeds_j42 μ k4 v1 v3 s0) := by
  unfold f12_hasNeeds_j42
  refine wx_blk (pc' := 46) (L' := [some (.ref 162), some (.int v1), some (.int s0), some (.int (v3 + (1 : Int32)))]) (st' := []) [.istore_n 2, .iinc 3 1] (by decide +kernel) rfl rfl ?_
  refine wx_goto 4 (off := -42) (by decide +kernel) (by decide) ?_
  exact h4 v1 s0 (v3 + (1 : Int32))
def f12_hasNeeds_j41 (μ : xMu) (k4 : Int32 → Int32 → Int32 → Option Int32) (v1 : Int32) (v3 : Int32) : Option Int32 :=
  (f12_hasNeeds_j42 μ k4 v1 v3 (0 : Int32))
set_option maxHeartbeats 4000000 in
set_option maxRecDepth 100000 in
theorem l_f12_hasNeeds_j41 (G : xG) (d : Nat) (hd : 2 ≤ d) (μ : xMu) (k4 : Int32 → Int32 → Int32 → Option Int32) (h4 : ∀ (v1 : Int32) (v2 : Int32) (v3 : Int32), Wx G m12_hasNeeds d 4 [some (.ref 162), some (.int v1), some (.int v2), some (.int v3)] [] μ (x_wi μ) (k4 v1 v2 v3)) (v1 : Int32) (v3 : Int32) : Wx G m12_hasNeeds d 41 [some (.ref 162), some (.int v1), none, some (.int v3)] [] μ (x_wi μ) (f12_hasNeeds_j41 μ k4 v1 v3) := by
  unfold f12_hasNeeds_j41
  refine wx_blk (pc' := 42) (L' := [some (.ref 162), some (.int v1), none, some (.int v3)]) (st' := [.int (0 : Int32)]) [.iconst 0] (by decide +kernel) rfl rfl ?_
  refine l_f12_hasNeeds_j42 G d hd μ _ h4 v1 v3 (0 : Int32)
def f12_hasNeeds_j37 (μ : xMu) (k4 : Int32 → Int32 → Int32 → Option Int32) (v1 : Int32) (v3 : Int32) : Option Int32 :=
  (f12_hasNeeds_j42 μ k4 v1 v3 (1 : Int32))
set_option maxHeartbeats 4000000 in
set_option maxRecDepth 100000 in
theorem l_f12_hasNeeds_j37 (G : xG) (d : Nat) (hd : 2 ≤ d) (μ : xMu) (k4 : Int32 → Int32 → Int32 → Option Int32) (h4 : ∀ (v1 : Int32) (v2 : Int32) (v3 : Int32), Wx G m12_hasNeeds d 4 [some (.ref 162), some (.int v1), some (.int v2), some (.int v3)] [] μ (x_wi μ) (k4 v1 v2 v3)) (v1 : Int32) (v3 : Int32) : Wx G m12_hasNeeds d 37 [some (.ref 162), some (.int v1), none, some (.int v3)] [] μ (x_wi μ) (f12_hasNeeds_j37 μ k4 v1 v3) := by
  unfold f12_hasNeeds_j37
  refine wx_blk (pc' := 38) (L' := [some (.ref 162), some (.int v1), none, some (.int v3)]) (st' := [.int (1 : Int32)]) [.iconst 1] (by decide +kernel) rfl rfl ?_
  refine wx_goto 42 (off := 4) (by decide +kernel) (by decide) ?_
  refine l_f12_hasNeeds_j42 G d hd μ _ h4 v1 v3 (1 : Int32)
def f12_hasNeeds_l4 (μ : xMu) (k49 : Int32 → Option Int32) : Nat → Int32 → Int32 → Int32 → Option Int32
  | 0, _, _, _ => none
  | n + 1, v1, v2, v3 =>
  (if (μ 162 10) ≤ v3 then
(k49 v2)
else
(if v2 = 0 then
(f12_hasNeeds_j41 μ (f12_hasNeeds_l4 μ k49 n) v1 v3)
else
(x_ald μ 174 8 v1 fun x1 =>
(if ((x1 >>> (v3 &&& 31)) &&& (1 : Int32)) = 0 then
(f12_hasNeeds_j37 μ (f12_hasNeeds_l4 μ k49 n) v1 v3)
else
((f12_isAwake μ v3).bind fun x2 =>
(if x2 = 0 then
(f12_hasNeeds_j41 μ (f12_hasNeeds_l4 μ k49 n) v1 v3)
else
(f12_hasNeeds_j37 μ (f12_hasNeeds_l4 μ k49 n) v1 v3)))))))
set_option maxHeartbeats 4000000 in
set_option maxRecDepth 100000 in
theorem l_f12_hasNeeds_l4 (G : xG) (d : Nat) (hd : 2 ≤ d) (μ : xMu) (k49 : Int32 → Option Int32) (h49 : ∀ (v2 : Int32), Wx G m12_hasNeeds d 49 [none, none, some (.int v2), none] [] μ (x_wi μ) (k49 v2)) : ∀ (n : Nat) (v1 : Int32) (v2 : Int32) (v3 : Int32), Wx G m12_hasNeeds d 4 [some (.ref 162), some (.int v1), some (.int v2), some (.int v3)] [] μ (x_wi μ) (f12_hasNeeds_l4 μ k49 n v1 v2 v3) := by
  intro n
  induction n with
  | zero => intro v1 v2 v3; exact wx_none
  | succ n h4 =>
    intro v1 v2 v3
    unfold f12_hasNeeds_l4
    refine wx_blk (pc' := 6) (L' := [some (.ref 162), some (.int v1), some (.int v2), some (.int v3)]) (st' := [.ref 162, .int v3]) [.iload_n 3, .aload_n 0] (by decide +kernel) rfl rfl ?_
    refine wx_geti is_162 ff_12_288 rfl (by decide +kernel) ?_
    refine wx_ic_ge 49 (off := 40) (by decide +kernel) (by decide) ?_ ?_
    · refine wx_weak (L' := [none, none, some (.int v2), none]) ⟨rfl, trivial⟩ ?_
      exact h49 v2
    · refine wx_blk (pc' := 13) (L' := [some (.ref 162), some (.int v1), some (.int v2), some (.int v3)]) (st' := [.int v2]) [.iload_n 2] (by decide +kernel) rfl rfl ?_
      refine wx_if_eq 41 (off := 28) (by decide +kernel) (by decide) ?_ ?_
      · refine wx_weak (L' := [some (.ref 162), some (.int v1), none, some (.int v3)]) ⟨rfl, ⟨rfl, ⟨rfl, trivial⟩⟩⟩ ?_
        refine l_f12_hasNeeds_j41 G d hd μ _ h4 v1 v3
      · refine wx_blk (pc' := 17) (L' := [some (.ref 162), some (.int v1), some (.int v2), some (.int v3)]) (st' := [.ref 162]) [.aload_n 0] (by decide +kernel) rfl rfl ?_
        refine wx_getr is_162 ff_12_43 rfl rf_162_16 (by decide +kernel) ?_
        refine wx_blk (pc' := 21) (L' := [some (.ref 162), some (.int v1), some (.int v2), some (.int v3)]) (st' := [.int v1, .ref 174]) [.iload_n 1] (by decide +kernel) rfl rfl ?_
        refine wx_ald is_174 sz_174 (by decide +kernel) (fun x1 => ?_)
        refine wx_blk (pc' := 26) (L' := [some (.ref 162), some (.int v1), some (.int v2), some (.int v3)]) (st' := [.int ((x1 >>> (v3 &&& 31)) &&& (1 : Int32))]) [.iload_n 3, .ishr, .iconst 1, .iand] (by decide +kernel) rfl rfl ?_
        refine wx_if_eq 37 (off := 11) (by decide +kernel) (by decide) ?_ ?_
        · refine wx_weak (L' := [some (.ref 162), some (.int v1), none, some (.int v3)]) ⟨rfl, ⟨rfl, ⟨rfl, trivial⟩⟩⟩ ?_
          refine l_f12_hasNeeds_j37 G d hd μ _ h4 v1 v3
        · refine wx_blk (pc' := 31) (L' := [some (.ref 162), some (.int v1), some (.int v2), some (.int v3)]) (st' := [.int v3, .ref 162]) [.aload_n 0, .iload_n 3] (by decide +kernel) rfl rfl ?_
          refine wx_callV (d1 := 1) (As := [.int v3]) (rest := []) (by omega) is_162 (by decide) rfl cv_12_325 rfl (Nat.le_of_ble_eq_true rfl) (l_f12_isAwake G 1 (by omega) μ v3) rfl (by decide +kernel) (fun x2 => ?_)
          refine wx_if_eq 41 (off := 7) (by decide +kernel) (by decide) ?_ ?_
          · refine wx_weak (L' := [some (.ref 162), some (.int v1), none, some (.int v3)]) ⟨rfl, ⟨rfl, ⟨rfl, trivial⟩⟩⟩ ?_
            refine l_f12_hasNeeds_j41 G d hd μ _ h4 v1 v3
          · refine wx_weak (L' := [some (.ref 162), some (.int v1), none, some (.int v3)]) ⟨rfl, ⟨rfl, ⟨rfl, trivial⟩⟩⟩ ?_
            refine l_f12_hasNeeds_j37 G d hd μ _ h4 v1 v3
def f12_hasNeeds (μ : xMu) (v1 : Int32) : Option Int32 :=
  (f12_hasNeeds_l4 μ (fun (y3 : Int32) => (x_tst (x_zok y3) (some y3))) 1000 v1 (1 : Int32) (0 : Int32))
set_option maxHeartbeats 4000000 in
set_option maxRecDepth 100000 in
theorem l_f12_hasNeeds (G : xG) (d : Nat) (hd : 2 ≤ d) (μ : xMu) (v1 : Int32) : Mx G m12_hasNeeds d [.ref 162, .int v1] μ (x_wi μ) (f12_hasNeeds μ v1) := by
  refine mx_enter ok12_hasNeeds [some (.ref 162), some (.int v1), none, none] rfl (Nat.le_of_ble_eq_true rfl) ?_
  unfold f12_hasNeeds
  refine wx_blk (pc' := 4) (L' := [some (.ref 162), some (.int v1), some (.int (1 : Int32)), some (.int (0 : Int32))]) (st' := []) [.iconst 1, .istore_n 2, .iconst 0, .istore_n 3] (by decide +kernel) rfl rfl ?_
  refine l_f12_hasNeeds_l4 G d hd μ _ ?_ 1000 v1 (1 : Int32) (0 : Int32)
  · intro y3
    refine wx_blk (pc' := 50) (L' := [none, none, some (.int y3), none]) (st' := [.int y3]) [.iload_n 2] (by decide +kernel) rfl rfl ?_
    exact wx_tst (fun hx4 => wx_zret rfl rfl hx4 (by decide +kernel))
/-! WakingLayersModel.lose()V -/
def f12_lose_j54 (k10 : Int32 → Int32 → xMu → Option xMu) (v1 : Int32) (v2 : Int32) (μ : xMu) : Option xMu :=
  (k10 v1 (v2 + (1 : Int32)) μ)
set_option maxHeartbeats 4000000 in
set_option maxRecDepth 100000 in
theorem l_f12_lose_j54 (G : xG) (d : Nat) (hd : 3 ≤ d) (k10 : Int32 → Int32 → xMu → Option xMu) (h10 : ∀ (v1 : Int32) (v2 : Int32) (μ1 : xMu), Wx G m12_lose d 10 [some (.ref 162), some (.int v1), some (.int v2)] [] μ1 x_wv (k10 v1 v2 μ1)) (v1 : Int32) (v2 : Int32) (μ : xMu) : Wx G m12_lose d 54 [some (.ref 162), some (.int v1), some (.int v2)] [] μ x_wv (f12_lose_j54 k10 v1 v2 μ) := by
  unfold f12_lose_j54
  refine wx_blk (pc' := 57) (L' := [some (.ref 162), some (.int v1), some (.int (v2 + (1 : Int32)))]) (st' := []) [.iinc 2 1] (by decide +kernel) rfl rfl ?_
  refine wx_goto 10 (off := -47) (by decide +kernel) (by decide) ?_
  exact h10 v1 (v2 + (1 : Int32)) μ
def f12_lose_l10 (k60 : Int32 → xMu → Option xMu) : Nat → Int32 → Int32 → xMu → Option xMu
  | 0, _, _, _ => none
  | n + 1, v1, v2, μ =>
  (if (μ 162 10) ≤ v2 then
(k60 v1 μ)
else
(if (((μ 162 44) >>> (v2 &&& 31)) &&& (1 : Int32)) = (1 : Int32) then
((f12_hasNeeds μ v2).bind fun x1 =>
(if x1 = 0 then
(x_put μ 162 44 ((μ 162 44) &&& (((1 : Int32) <<< (v2 &&& 31)) ^^^ (-1 : Int32))) fun μ2 =>
(f12_lose_j54 (f12_lose_l10 k60 n) (1 : Int32) v2 μ2))
else
(f12_lose_j54 (f12_lose_l10 k60 n) v1 v2 μ)))
else
(f12_lose_j54 (f12_lose_l10 k60 n) v1 v2 μ)))
set_option maxHeartbeats 4000000 in
set_option maxRecDepth 100000 in
theorem l_f12_lose_l10 (G : xG) (d : Nat) (hd : 3 ≤ d) (k60 : Int32 → xMu → Option xMu) (h60 : ∀ (v1 : Int32) (μ1 : xMu), Wx G m12_lose d 60 [some (.ref 162), some (.int v1), none] [] μ1 x_wv (k60 v1 μ1)) : ∀ (n : Nat) (v1 : Int32) (v2 : Int32) (μ : xMu), Wx G m12_lose d 10 [some (.ref 162), some (.int v1), some (.int v2)] [] μ x_wv (f12_lose_l10 k60 n v1 v2 μ) := by
  intro n
  induction n with
  | zero => intro v1 v2 μ; exact wx_none
  | succ n h10 =>
    intro v1 v2 μ
    unfold f12_lose_l10
    refine wx_blk (pc' := 12) (L' := [some (.ref 162), some (.int v1), some (.int v2)]) (st' := [.ref 162, .int v2]) [.iload_n 2, .aload_n 0] (by decide +kernel) rfl rfl ?_
    refine wx_geti is_162 ff_12_288 rfl (by decide +kernel) ?_
    refine wx_ic_ge 60 (off := 45) (by decide +kernel) (by decide) ?_ ?_
    · refine wx_weak (L' := [some (.ref 162), some (.int v1), none]) ⟨rfl, ⟨rfl, trivial⟩⟩ ?_
      exact h60 v1 μ
    · refine wx_blk (pc' := 19) (L' := [some (.ref 162), some (.int v1), some (.int v2)]) (st' := [.ref 162]) [.aload_n 0] (by decide +kernel) rfl rfl ?_
      refine wx_geti is_162 ff_12_319 rfl (by decide +kernel) ?_
      refine wx_blk (pc' := 27) (L' := [some (.ref 162), some (.int v1), some (.int v2)]) (st' := [.int (1 : Int32), .int (((μ 162 44) >>> (v2 &&& 31)) &&& (1 : Int32))]) [.iload_n 2, .ishr, .iconst 1, .iand, .iconst 1] (by decide +kernel) rfl rfl ?_
      refine wx_ic_ne 54 (off := 27) (by decide +kernel) (by decide) ?_ ?_
      · refine l_f12_lose_j54 G d hd _ h10 v1 v2 μ
      · refine wx_blk (pc' := 32) (L' := [some (.ref 162), some (.int v1), some (.int v2)]) (st' := [.int v2, .ref 162]) [.aload_n 0, .iload_n 2] (by decide +kernel) rfl rfl ?_
        refine wx_callV (d1 := 2) (As := [.int v2]) (rest := []) (by omega) is_162 (by decide) rfl cv_12_328 rfl (Nat.le_of_ble_eq_true rfl) (l_f12_hasNeeds G 2 (by omega) μ v2) rfl (by decide +kernel) (fun x1 => ?_)
        refine wx_if_ne 54 (off := 19) (by decide +kernel) (by decide) ?_ ?_
        · refine l_f12_lose_j54 G d hd _ h10 v1 v2 μ
        · refine wx_blk (pc' := 40) (L' := [some (.ref 162), some (.int v1), some (.int v2)]) (st' := [.ref 162, .ref 162]) [.aload_n 0, .dup] (by decide +kernel) rfl rfl ?_
          refine wx_geti is_162 ff_12_319 rfl (by decide +kernel) ?_
          refine wx_blk (pc' := 49) (L' := [some (.ref 162), some (.int v1), some (.int v2)]) (st' := [.int ((μ 162 44) &&& (((1 : Int32) <<< (v2 &&& 31)) ^^^ (-1 : Int32))), .ref 162]) [.iconst 1, .iload_n 2, .ishl, .iconst (-1), .ixor, .iand] (by decide +kernel) rfl rfl ?_
          refine wx_put is_162 ff_12_319 fp_12_44 ⟨rfl, rfl⟩ (by decide +kernel) (fun μ2 => ?_)
          refine wx_blk (pc' := 54) (L' := [some (.ref 162), some (.int (1 : Int32)), some (.int v2)]) (st' := []) [.iconst 1, .istore_n 1] (by decide +kernel) rfl rfl ?_
          refine l_f12_lose_j54 G d hd _ h10 (1 : Int32) v2 μ2
def f12_lose_l2 (k63 : xMu → Option xMu) : Nat → Int32 → xMu → Option xMu
  | 0, _, _ => none
  | n + 1, v1, μ =>
  (if v1 = 0 then
(k63 μ)
else
(f12_lose_l10 (fun (y3 : Int32) (μ4 : xMu) => ((f12_lose_l2 k63 n) y3 μ4)) 1000 (0 : Int32) (0 : Int32) μ))
set_option maxHeartbeats 4000000 in
set_option maxRecDepth 100000 in
theorem l_f12_lose_l2 (G : xG) (d : Nat) (hd : 3 ≤ d) (k63 : xMu → Option xMu) (h63 : ∀ (μ1 : xMu), Wx G m12_lose d 63 [none, none, none] [] μ1 x_wv (k63 μ1)) : ∀ (n : Nat) (v1 : Int32) (μ : xMu), Wx G m12_lose d 2 [some (.ref 162), some (.int v1), none] [] μ x_wv (f12_lose_l2 k63 n v1 μ) := by
  intro n
  induction n with
  | zero => intro v1 μ; exact wx_none
  | succ n h2 =>
    intro v1 μ
    unfold f12_lose_l2
    refine wx_blk (pc' := 3) (L' := [some (.ref 162), some (.int v1), none]) (st' := [.int v1]) [.iload_n 1] (by decide +kernel) rfl rfl ?_
    refine wx_if_eq 63 (off := 60) (by decide +kernel) (by decide) ?_ ?_
    · refine wx_weak (L' := [none, none, none]) trivial ?_
      exact h63 μ
    · refine wx_blk (pc' := 10) (L' := [some (.ref 162), some (.int (0 : Int32)), some (.int (0 : Int32))]) (st' := []) [.iconst 0, .istore_n 1, .iconst 0, .istore_n 2] (by decide +kernel) rfl rfl ?_
      refine l_f12_lose_l10 G d hd _ ?_ 1000 (0 : Int32) (0 : Int32) μ
      · intro y3 μ4
        refine wx_goto 2 (off := -58) (by decide +kernel) (by decide) ?_
        exact h2 y3 μ4
def f12_lose (μ : xMu) : Option xMu :=
  (f12_lose_l2 (fun (μ5 : xMu) => (some μ5)) 1000 (1 : Int32) μ)
set_option maxHeartbeats 4000000 in
set_option maxRecDepth 100000 in
theorem l_f12_lose (G : xG) (d : Nat) (hd : 3 ≤ d) (μ : xMu) : Mx G m12_lose d [.ref 162] μ x_wv (f12_lose μ) := by
  refine mx_enter ok12_lose [some (.ref 162), none, none] rfl (Nat.le_of_ble_eq_true rfl) ?_
  unfold f12_lose
  refine wx_blk (pc' := 2) (L' := [some (.ref 162), some (.int (1 : Int32)), none]) (st' := []) [.iconst 1, .istore_n 1] (by decide +kernel) rfl rfl ?_
  refine l_f12_lose_l2 G d hd _ ?_ 1000 (1 : Int32) μ
  · intro μ5
    exact wx_vret rfl rfl (by decide +kernel)
/-! WakingLayersModel.holdsTest(I)Z -/
def f12_holdsTest (μ : xMu) (v1 : Int32) : Option Int32 :=
  (x_ald μ 171 8 v1 fun x1 =>
(if x1 = (-1000000 : Int32) then
(some (1 : Int32))
else
(x_ald μ 171 8 v1 fun x2 =>
(x_ald μ 184 4 x2 fun x3 =>
(x_ald μ 172 8 v1 fun x4 =>
(if x4 = (60 : Int32) then
(x_ald μ 173 8 v1 fun x8 =>
(if x8 ≤ x3 then
(some (0 : Int32))
else
(some (1 : Int32))))
else
(x_ald μ 172 8 v1 fun x5 =>
(if x5 = (62 : Int32) then
(x_ald μ 173 8 v1 fun x7 =>
(if x3 ≤ x7 then
(some (0 : Int32))
else
(some (1 : Int32))))
else
(x_ald μ 173 8 v1 fun x6 =>
(if x3 = x6 then
(some (1 : Int32))
else
(some (0 : Int32))))))))))))
set_option maxHeartbeats 4000000 in
set_option maxRecDepth 100000 in
theorem l_f12_holdsTest (G : xG) (d : Nat) (hd : 0 ≤ d) (μ : xMu) (v1 : Int32) : Mx G m12_holdsTest d [.ref 162, .int v1] μ (x_wi μ) (f12_holdsTest μ v1) := by
  refine mx_enter ok12_holdsTest [some (.ref 162), some (.int v1), none] rfl (Nat.le_of_ble_eq_true rfl) ?_
  unfold f12_holdsTest
  refine wx_blk (pc' := 1) (L' := [some (.ref 162), some (.int v1), none]) (st' := [.ref 162]) [.aload_n 0] (by decide +kernel) rfl rfl ?_
  refine wx_getr is_162 ff_12_34 rfl rf_162_13 (by decide +kernel) ?_
  refine wx_blk (pc' := 5) (L' := [some (.ref 162), some (.int v1), none]) (st' := [.int v1, .ref 171]) [.iload_n 1] (by decide +kernel) rfl rfl ?_
  refine wx_ald is_171 sz_171 (by decide +kernel) (fun x1 => ?_)
  refine wx_ldc (v := -1000000) xw_1431 (by decide +kernel) ?_
  refine wx_ic_ne 13 (off := 5) (by decide +kernel) (by decide) ?_ ?_
  · refine wx_blk (pc' := 14) (L' := [some (.ref 162), some (.int v1), none]) (st' := [.ref 162]) [.aload_n 0] (by decide +kernel) rfl rfl ?_
    refine wx_getr is_162 ff_12_73 rfl rf_162_40 (by decide +kernel) ?_
    refine wx_blk (pc' := 18) (L' := [some (.ref 162), some (.int v1), none]) (st' := [.ref 162, .ref 184]) [.aload_n 0] (by decide +kernel) rfl rfl ?_
    refine wx_getr is_162 ff_12_34 rfl rf_162_13 (by decide +kernel) ?_
    refine wx_blk (pc' := 22) (L' := [some (.ref 162), some (.int v1), none]) (st' := [.int v1, .ref 171, .ref 184]) [.iload_n 1] (by decide +kernel) rfl rfl ?_
    refine wx_ald is_171 sz_171 (by decide +kernel) (fun x2 => ?_)
    refine wx_ald is_184 sz_184 (by decide +kernel) (fun x3 => ?_)
    refine wx_blk (pc' := 26) (L' := [some (.ref 162), some (.int v1), some (.int x3)]) (st' := [.ref 162]) [.istore_n 2, .aload_n 0] (by decide +kernel) rfl rfl ?_
    refine wx_getr is_162 ff_12_37 rfl rf_162_14 (by decide +kernel) ?_
    refine wx_blk (pc' := 30) (L' := [some (.ref 162), some (.int v1), some (.int x3)]) (st' := [.int v1, .ref 172]) [.iload_n 1] (by decide +kernel) rfl rfl ?_
    refine wx_ald is_172 sz_172 (by decide +kernel) (fun x4 => ?_)
    refine wx_blk (pc' := 33) (L' := [some (.ref 162), some (.int v1), some (.int x3)]) (st' := [.int (60 : Int32), .int x4]) [.bipush 60] (by decide +kernel) rfl rfl ?_
    refine wx_ic_ne 54 (off := 21) (by decide +kernel) (by decide) ?_ ?_
    · refine wx_blk (pc' := 55) (L' := [some (.ref 162), some (.int v1), some (.int x3)]) (st' := [.ref 162]) [.aload_n 0] (by decide +kernel) rfl rfl ?_
      refine wx_getr is_162 ff_12_37 rfl rf_162_14 (by decide +kernel) ?_
      refine wx_blk (pc' := 59) (L' := [some (.ref 162), some (.int v1), some (.int x3)]) (st' := [.int v1, .ref 172]) [.iload_n 1] (by decide +kernel) rfl rfl ?_
      refine wx_ald is_172 sz_172 (by decide +kernel) (fun x5 => ?_)
      refine wx_blk (pc' := 62) (L' := [some (.ref 162), some (.int v1), some (.int x3)]) (st' := [.int (62 : Int32), .int x5]) [.bipush 62] (by decide +kernel) rfl rfl ?_
      refine wx_ic_ne 83 (off := 21) (by decide +kernel) (by decide) ?_ ?_
      · refine wx_blk (pc' := 85) (L' := [some (.ref 162), some (.int v1), some (.int x3)]) (st' := [.ref 162, .int x3]) [.iload_n 2, .aload_n 0] (by decide +kernel) rfl rfl ?_
        refine wx_getr is_162 ff_12_40 rfl rf_162_15 (by decide +kernel) ?_
        refine wx_blk (pc' := 89) (L' := [some (.ref 162), some (.int v1), some (.int x3)]) (st' := [.int v1, .ref 173, .int x3]) [.iload_n 1] (by decide +kernel) rfl rfl ?_
        refine wx_ald is_173 sz_173 (by decide +kernel) (fun x6 => ?_)
        refine wx_ic_ne 97 (off := 7) (by decide +kernel) (by decide) ?_ ?_
        · refine wx_blk (pc' := 98) (L' := [some (.ref 162), some (.int v1), some (.int x3)]) (st' := [.int (0 : Int32)]) [.iconst 0] (by decide +kernel) rfl rfl ?_
          exact wx_zret rfl rfl (by decide) (by decide +kernel)
        · refine wx_blk (pc' := 94) (L' := [some (.ref 162), some (.int v1), some (.int x3)]) (st' := [.int (1 : Int32)]) [.iconst 1] (by decide +kernel) rfl rfl ?_
          refine wx_goto 98 (off := 4) (by decide +kernel) (by decide) ?_
          exact wx_zret rfl rfl (by decide) (by decide +kernel)
      · refine wx_blk (pc' := 67) (L' := [some (.ref 162), some (.int v1), some (.int x3)]) (st' := [.ref 162, .int x3]) [.iload_n 2, .aload_n 0] (by decide +kernel) rfl rfl ?_
        refine wx_getr is_162 ff_12_40 rfl rf_162_15 (by decide +kernel) ?_
        refine wx_blk (pc' := 71) (L' := [some (.ref 162), some (.int v1), some (.int x3)]) (st' := [.int v1, .ref 173, .int x3]) [.iload_n 1] (by decide +kernel) rfl rfl ?_
        refine wx_ald is_173 sz_173 (by decide +kernel) (fun x7 => ?_)
        refine wx_ic_le 79 (off := 7) (by decide +kernel) (by decide) ?_ ?_
        · refine wx_blk (pc' := 80) (L' := [some (.ref 162), some (.int v1), some (.int x3)]) (st' := [.int (0 : Int32)]) [.iconst 0] (by decide +kernel) rfl rfl ?_
          refine wx_goto 98 (off := 18) (by decide +kernel) (by decide) ?_
          exact wx_zret rfl rfl (by decide) (by decide +kernel)
        · refine wx_blk (pc' := 76) (L' := [some (.ref 162), some (.int v1), some (.int x3)]) (st' := [.int (1 : Int32)]) [.iconst 1] (by decide +kernel) rfl rfl ?_
          refine wx_goto 98 (off := 22) (by decide +kernel) (by decide) ?_
          exact wx_zret rfl rfl (by decide) (by decide +kernel)
    · refine wx_blk (pc' := 38) (L' := [some (.ref 162), some (.int v1), some (.int x3)]) (st' := [.ref 162, .int x3]) [.iload_n 2, .aload_n 0] (by decide +kernel) rfl rfl ?_
      refine wx_getr is_162 ff_12_40 rfl rf_162_15 (by decide +kernel) ?_
      refine wx_blk (pc' := 42) (L' := [some (.ref 162), some (.int v1), some (.int x3)]) (st' := [.int v1, .ref 173, .int x3]) [.iload_n 1] (by decide +kernel) rfl rfl ?_
      refine wx_ald is_173 sz_173 (by decide +kernel) (fun x8 => ?_)
      refine wx_ic_ge 50 (off := 7) (by decide +kernel) (by decide) ?_ ?_
      · refine wx_blk (pc' := 51) (L' := [some (.ref 162), some (.int v1), some (.int x3)]) (st' := [.int (0 : Int32)]) [.iconst 0] (by decide +kernel) rfl rfl ?_
        refine wx_goto 98 (off := 47) (by decide +kernel) (by decide) ?_
        exact wx_zret rfl rfl (by decide) (by decide +kernel)
      · refine wx_blk (pc' := 47) (L' := [some (.ref 162), some (.int v1), some (.int x3)]) (st' := [.int (1 : Int32)]) [.iconst 1] (by decide +kernel) rfl rfl ?_
        refine wx_goto 98 (off := 51) (by decide +kernel) (by decide) ?_
        exact wx_zret rfl rfl (by decide) (by decide +kernel)
  · refine wx_blk (pc' := 12) (L' := [some (.ref 162), some (.int v1), none]) (st' := [.int (1 : Int32)]) [.iconst 1] (by decide +kernel) rfl rfl ?_
    exact wx_zret rfl rfl (by decide) (by decide +kernel)
/-! WakingLayersModel.find()V -/
def f12_find_j53 (k7 : Int32 → xMu → Option xMu) (v1 : Int32) (s1 : Int32) (s2 : Int32) (μ : xMu) : Option xMu :=
  (x_put μ 162 44 (s1 ||| s2) fun μ3 =>
(k7 (v1 + (1 : Int32)) μ3))
set_option maxHeartbeats 4000000 in
set_option maxRecDepth 100000 in
theorem l_f12_find_j53 (G : xG) (d : Nat) (hd : 4 ≤ d) (k7 : Int32 → xMu → Option xMu) (h7 : ∀ (v1 : Int32) (μ1 : xMu), Wx G m12_find d 7 [some (.ref 162), some (.int v1), none] [] μ1 x_wv (k7 v1 μ1)) (v1 : Int32) (s1 : Int32) (s2 : Int32) (μ : xMu) : Wx G m12_find d 53 [some (.ref 162), some (.int v1), none] [.int s2, .int s1, .ref 162] μ x_wv (f12_find_j53 k7 v1 s1 s2 μ) := by
  unfold f12_find_j53
  refine wx_blk (pc' := 54) (L' := [some (.ref 162), some (.int v1), none]) (st' := [.int (s1 ||| s2), .ref 162]) [.ior] (by decide +kernel) rfl rfl ?_
  refine wx_put is_162 ff_12_319 fp_12_44 ⟨rfl, rfl⟩ (by decide +kernel) (fun μ3 => ?_)
  refine wx_blk (pc' := 60) (L' := [some (.ref 162), some (.int (v1 + (1 : Int32))), none]) (st' := []) [.iinc 1 1] (by decide +kernel) rfl rfl ?_
  refine wx_goto 7 (off := -53) (by decide +kernel) (by decide) ?_
  exact h7 (v1 + (1 : Int32)) μ3
def f12_find_j52 (k7 : Int32 → xMu → Option xMu) (v1 : Int32) (s1 : Int32) (μ : xMu) : Option xMu :=
  (f12_find_j53 k7 v1 s1 (0 : Int32) μ)
set_option maxHeartbeats 4000000 in
set_option maxRecDepth 100000 in
theorem l_f12_find_j52 (G : xG) (d : Nat) (hd : 4 ≤ d) (k7 : Int32 → xMu → Option xMu) (h7 : ∀ (v1 : Int32) (μ1 : xMu), Wx G m12_find d 7 [some (.ref 162), some (.int v1), none] [] μ1 x_wv (k7 v1 μ1)) (v1 : Int32) (s1 : Int32) (μ : xMu) : Wx G m12_find d 52 [some (.ref 162), some (.int v1), none] [.int s1, .ref 162] μ x_wv (f12_find_j52 k7 v1 s1 μ) := by
  unfold f12_find_j52
  refine wx_blk (pc' := 53) (L' := [some (.ref 162), some (.int v1), none]) (st' := [.int (0 : Int32), .int s1, .ref 162]) [.iconst 0] (by decide +kernel) rfl rfl ?_
  refine l_f12_find_j53 G d hd _ h7 v1 s1 (0 : Int32) μ
def f12_find_l7 (k63 : xMu → Option xMu) : Nat → Int32 → xMu → Option xMu
  | 0, _, _ => none
  | n + 1, v1, μ =>
  (if (μ 162 10) ≤ v1 then
(k63 μ)
else
(x_ald μ 169 8 v1 fun x2 =>
(if x2 = (2 : Int32) then
((f12_holdsTest μ v1).bind fun x4 =>
(if x4 = 0 then
(f12_find_j52 (f12_find_l7 k63 n) v1 (μ 162 44) μ)
else
((f12_hasNeeds μ v1).bind fun x5 =>
(if x5 = 0 then
(f12_find_j52 (f12_find_l7 k63 n) v1 (μ 162 44) μ)
else
(f12_find_j53 (f12_find_l7 k63 n) v1 (μ 162 44) ((1 : Int32) <<< (v1 &&& 31)) μ)))))
else
(f12_find_j52 (f12_find_l7 k63 n) v1 (μ 162 44) μ))))
set_option maxHeartbeats 4000000 in
set_option maxRecDepth 100000 in
theorem l_f12_find_l7 (G : xG) (d : Nat) (hd : 4 ≤ d) (k63 : xMu → Option xMu) (h63 : ∀ (μ1 : xMu), Wx G m12_find d 63 [some (.ref 162), none, none] [] μ1 x_wv (k63 μ1)) : ∀ (n : Nat) (v1 : Int32) (μ : xMu), Wx G m12_find d 7 [some (.ref 162), some (.int v1), none] [] μ x_wv (f12_find_l7 k63 n v1 μ) := by
  intro n
  induction n with
  | zero => intro v1 μ; exact wx_none
  | succ n h7 =>
    intro v1 μ
    unfold f12_find_l7
    refine wx_blk (pc' := 9) (L' := [some (.ref 162), some (.int v1), none]) (st' := [.ref 162, .int v1]) [.iload_n 1, .aload_n 0] (by decide +kernel) rfl rfl ?_
    refine wx_geti is_162 ff_12_288 rfl (by decide +kernel) ?_
    refine wx_ic_ge 63 (off := 51) (by decide +kernel) (by decide) ?_ ?_
    · refine wx_weak (L' := [some (.ref 162), none, none]) ⟨rfl, trivial⟩ ?_
      exact h63 μ
    · refine wx_blk (pc' := 17) (L' := [some (.ref 162), some (.int v1), none]) (st' := [.ref 162, .ref 162]) [.aload_n 0, .dup] (by decide +kernel) rfl rfl ?_
      refine wx_geti is_162 ff_12_319 rfl (by decide +kernel) ?_
      refine wx_blk (pc' := 21) (L' := [some (.ref 162), some (.int v1), none]) (st' := [.ref 162, .int (μ 162 44), .ref 162]) [.aload_n 0] (by decide +kernel) rfl rfl ?_
      refine wx_getr is_162 ff_12_28 rfl rf_162_11 (by decide +kernel) ?_
      refine wx_blk (pc' := 25) (L' := [some (.ref 162), some (.int v1), none]) (st' := [.int v1, .ref 169, .int (μ 162 44), .ref 162]) [.iload_n 1] (by decide +kernel) rfl rfl ?_
      refine wx_ald is_169 sz_169 (by decide +kernel) (fun x2 => ?_)
      refine wx_blk (pc' := 27) (L' := [some (.ref 162), some (.int v1), none]) (st' := [.int (2 : Int32), .int x2, .int (μ 162 44), .ref 162]) [.iconst 2] (by decide +kernel) rfl rfl ?_
      refine wx_ic_ne 52 (off := 25) (by decide +kernel) (by decide) ?_ ?_
      · refine l_f12_find_j52 G d hd _ h7 v1 (μ 162 44) μ
      · refine wx_blk (pc' := 32) (L' := [some (.ref 162), some (.int v1), none]) (st' := [.int v1, .ref 162, .int (μ 162 44), .ref 162]) [.aload_n 0, .iload_n 1] (by decide +kernel) rfl rfl ?_
        refine wx_callV (d1 := 0) (As := [.int v1]) (rest := [.int (μ 162 44), .ref 162]) (by omega) is_162 (by decide) rfl cv_12_331 rfl (Nat.le_of_ble_eq_true rfl) (l_f12_holdsTest G 0 (by omega) μ v1) rfl (by decide +kernel) (fun x4 => ?_)
        refine wx_if_eq 52 (off := 17) (by decide +kernel) (by decide) ?_ ?_
        · refine l_f12_find_j52 G d hd _ h7 v1 (μ 162 44) μ
        · refine wx_blk (pc' := 40) (L' := [some (.ref 162), some (.int v1), none]) (st' := [.int v1, .ref 162, .int (μ 162 44), .ref 162]) [.aload_n 0, .iload_n 1] (by decide +kernel) rfl rfl ?_
          refine wx_callV (d1 := 2) (As := [.int v1]) (rest := [.int (μ 162 44), .ref 162]) (by omega) is_162 (by decide) rfl cv_12_328 rfl (Nat.le_of_ble_eq_true rfl) (l_f12_hasNeeds G 2 (by omega) μ v1) rfl (by decide +kernel) (fun x5 => ?_)
          refine wx_if_eq 52 (off := 9) (by decide +kernel) (by decide) ?_ ?_
          · refine l_f12_find_j52 G d hd _ h7 v1 (μ 162 44) μ
          · refine wx_blk (pc' := 49) (L' := [some (.ref 162), some (.int v1), none]) (st' := [.int ((1 : Int32) <<< (v1 &&& 31)), .int (μ 162 44), .ref 162]) [.iconst 1, .iload_n 1, .ishl] (by decide +kernel) rfl rfl ?_
            refine wx_goto 53 (off := 4) (by decide +kernel) (by decide) ?_
            refine l_f12_find_j53 G d hd _ h7 v1 (μ 162 44) ((1 : Int32) <<< (v1 &&& 31)) μ
def f12_find_j98 (k67 : Int32 → Int32 → xMu → Option xMu) (v2 : Int32) (s0 : Int32) (s1 : Int32) (μ : xMu) : Option xMu :=
  (k67 (s0 ||| s1) (v2 + (1 : Int32)) μ)
set_option maxHeartbeats 4000000 in
set_option maxRecDepth 100000 in
theorem l_f12_find_j98 (G : xG) (d : Nat) (hd : 4 ≤ d) (k67 : Int32 → Int32 → xMu → Option xMu) (h67 : ∀ (v1 : Int32) (v2 : Int32) (μ1 : xMu), Wx G m12_find d 67 [some (.ref 162), some (.int v1), some (.int v2)] [] μ1 x_wv (k67 v1 v2 μ1)) (v2 : Int32) (s0 : Int32) (s1 : Int32) (μ : xMu) : Wx G m12_find d 98 [some (.ref 162), none, some (.int v2)] [.int s1, .int s0] μ x_wv (f12_find_j98 k67 v2 s0 s1 μ) := by
  unfold f12_find_j98
  refine wx_blk (pc' := 103) (L' := [some (.ref 162), some (.int (s0 ||| s1)), some (.int (v2 + (1 : Int32)))]) (st' := []) [.ior, .istore_n 1, .iinc 2 1] (by decide +kernel) rfl rfl ?_
  refine wx_goto 67 (off := -36) (by decide +kernel) (by decide) ?_
  exact h67 (s0 ||| s1) (v2 + (1 : Int32)) μ
def f12_find_l67 (k106 : Int32 → xMu → Option xMu) : Nat → Int32 → Int32 → xMu → Option xMu
  | 0, _, _, _ => none
  | n + 1, v1, v2, μ =>
  (if (μ 162 10) ≤ v2 then
(k106 v1 μ)
else
(if (((μ 162 44) >>> (v2 &&& 31)) &&& (1 : Int32)) = (1 : Int32) then
(x_ald μ 175 8 v2 fun x7 =>
(f12_find_j98 (f12_find_l67 k106 n) v2 v1 x7 μ))
else
(f12_find_j98 (f12_find_l67 k106 n) v2 v1 (0 : Int32) μ)))
set_option maxHeartbeats 4000000 in
set_option maxRecDepth 100000 in
theorem l_f12_find_l67 (G : xG) (d : Nat) (hd : 4 ≤ d) (k106 : Int32 → xMu → Option xMu) (h106 : ∀ (v1 : Int32) (μ1 : xMu), Wx G m12_find d 106 [some (.ref 162), some (.int v1), none] [] μ1 x_wv (k106 v1 μ1)) : ∀ (n : Nat) (v1 : Int32) (v2 : Int32) (μ : xMu), Wx G m12_find d 67 [some (.ref 162), some (.int v1), some (.int v2)] [] μ x_wv (f12_find_l67 k106 n v1 v2 μ) := by
  intro n
  induction n with
  | zero => intro v1 v2 μ; exact wx_none
  | succ n h67 =>
    intro v1 v2 μ
    unfold f12_find_l67
    refine wx_blk (pc' := 69) (L' := [some (.ref 162), some (.int v1), some (.int v2)]) (st' := [.ref 162, .int v2]) [.iload_n 2, .aload_n 0] (by decide +kernel) rfl rfl ?_
    refine wx_geti is_162 ff_12_288 rfl (by decide +kernel) ?_
    refine wx_ic_ge 106 (off := 34) (by decide +kernel) (by decide) ?_ ?_
    · refine wx_weak (L' := [some (.ref 162), some (.int v1), none]) ⟨rfl, ⟨rfl, trivial⟩⟩ ?_
      exact h106 v1 μ
    · refine wx_blk (pc' := 77) (L' := [some (.ref 162), some (.int v1), some (.int v2)]) (st' := [.ref 162, .int v1]) [.iload_n 1, .aload_n 0] (by decide +kernel) rfl rfl ?_
      refine wx_geti is_162 ff_12_319 rfl (by decide +kernel) ?_
      refine wx_blk (pc' := 85) (L' := [some (.ref 162), some (.int v1), some (.int v2)]) (st' := [.int (1 : Int32), .int (((μ 162 44) >>> (v2 &&& 31)) &&& (1 : Int32)), .int v1]) [.iload_n 2, .ishr, .iconst 1, .iand, .iconst 1] (by decide +kernel) rfl rfl ?_
      refine wx_ic_ne 97 (off := 12) (by decide +kernel) (by decide) ?_ ?_
      · refine wx_blk (pc' := 98) (L' := [some (.ref 162), some (.int v1), some (.int v2)]) (st' := [.int (0 : Int32), .int v1]) [.iconst 0] (by decide +kernel) rfl rfl ?_
        refine wx_weak (L' := [some (.ref 162), none, some (.int v2)]) ⟨rfl, ⟨rfl, trivial⟩⟩ ?_
        refine l_f12_find_j98 G d hd _ h67 v2 v1 (0 : Int32) μ
      · refine wx_blk (pc' := 89) (L' := [some (.ref 162), some (.int v1), some (.int v2)]) (st' := [.ref 162, .int v1]) [.aload_n 0] (by decide +kernel) rfl rfl ?_
        refine wx_getr is_162 ff_12_46 rfl rf_162_17 (by decide +kernel) ?_
        refine wx_blk (pc' := 93) (L' := [some (.ref 162), some (.int v1), some (.int v2)]) (st' := [.int v2, .ref 175, .int v1]) [.iload_n 2] (by decide +kernel) rfl rfl ?_
        refine wx_ald is_175 sz_175 (by decide +kernel) (fun x7 => ?_)
        refine wx_goto 98 (off := 4) (by decide +kernel) (by decide) ?_
        refine wx_weak (L' := [some (.ref 162), none, some (.int v2)]) ⟨rfl, ⟨rfl, trivial⟩⟩ ?_
        refine l_f12_find_j98 G d hd _ h67 v2 v1 x7 μ
def f12_find (μ : xMu) : Option xMu :=
  (x_put μ 162 44 (0 : Int32) fun μ1 =>
(f12_find_l7 (fun (μ6 : xMu) => (f12_find_l67 (fun (y8 : Int32) (μ9 : xMu) => (x_put μ9 162 44 ((μ9 162 44) &&& (y8 ^^^ (-1 : Int32))) fun μ10 =>
((f12_lose μ10).bind fun μ11 =>
(some μ11)))) 1000 (0 : Int32) (0 : Int32) μ6)) 1000 (0 : Int32) μ1))
set_option maxHeartbeats 4000000 in
set_option maxRecDepth 100000 in
theorem l_f12_find (G : xG) (d : Nat) (hd : 4 ≤ d) (μ : xMu) : Mx G m12_find d [.ref 162] μ x_wv (f12_find μ) := by
  refine mx_enter ok12_find [some (.ref 162), none, none] rfl (Nat.le_of_ble_eq_true rfl) ?_
  unfold f12_find
  refine wx_blk (pc' := 2) (L' := [some (.ref 162), none, none]) (st' := [.int (0 : Int32), .ref 162]) [.aload_n 0, .iconst 0] (by decide +kernel) rfl rfl ?_
  refine wx_put is_162 ff_12_319 fp_12_44 ⟨rfl, rfl⟩ (by decide +kernel) (fun μ1 => ?_)
  refine wx_blk (pc' := 7) (L' := [some (.ref 162), some (.int (0 : Int32)), none]) (st' := []) [.iconst 0, .istore_n 1] (by decide +kernel) rfl rfl ?_
  refine l_f12_find_l7 G d hd _ ?_ 1000 (0 : Int32) μ1
  · intro μ6
    refine wx_blk (pc' := 67) (L' := [some (.ref 162), some (.int (0 : Int32)), some (.int (0 : Int32))]) (st' := []) [.iconst 0, .istore_n 1, .iconst 0, .istore_n 2] (by decide +kernel) rfl rfl ?_
    refine l_f12_find_l67 G d hd _ ?_ 1000 (0 : Int32) (0 : Int32) μ6
    · intro y8 μ9
      refine wx_blk (pc' := 108) (L' := [some (.ref 162), some (.int y8), none]) (st' := [.ref 162, .ref 162]) [.aload_n 0, .dup] (by decide +kernel) rfl rfl ?_
      refine wx_geti is_162 ff_12_319 rfl (by decide +kernel) ?_
      refine wx_blk (pc' := 115) (L' := [some (.ref 162), some (.int y8), none]) (st' := [.int ((μ9 162 44) &&& (y8 ^^^ (-1 : Int32))), .ref 162]) [.iload_n 1, .iconst (-1), .ixor, .iand] (by decide +kernel) rfl rfl ?_
      refine wx_put is_162 ff_12_319 fp_12_44 ⟨rfl, rfl⟩ (by decide +kernel) (fun μ10 => ?_)
      refine wx_blk (pc' := 119) (L' := [some (.ref 162), some (.int y8), none]) (st' := [.ref 162]) [.aload_n 0] (by decide +kernel) rfl rfl ?_
      refine wx_callV (d1 := 3) (As := []) (rest := []) (by omega) is_162 (by decide) rfl cv_12_334 rfl (Nat.le_of_ble_eq_true rfl) (l_f12_lose G 3 (by omega) μ10) rfl (by decide +kernel) (fun μ11 => ?_)
      exact wx_vret rfl rfl (by decide +kernel)
/-! WakingLayersModel.layer(II)I -/
def f12_layer (v1 : Int32) (v2 : Int32) (μ : xMu) : Option (Int32 × xMu) :=
  (x_put μ 162 0 (0 : Int32) fun μ1 =>
((f12_isLayer μ1 v1).bind fun x2 =>
(if x2 = 0 then
(some ((-1000001 : Int32), μ1))
else
((f12_in (Int32.toInt64 v2) (0 : Int64) (5 : Int64)).bind fun x3 =>
(if x3 = 0 then
(some ((-1000001 : Int32), μ1))
else
(if v2 = 0 then
(x_ald μ1 169 8 v1 fun x9 =>
(some (x9, μ1)))
else
(if v2 = (1 : Int32) then
(x_ald μ1 170 8 v1 fun x8 =>
(some (x8, μ1)))
else
(if v2 = (2 : Int32) then
(x_ald μ1 174 8 v1 fun x7 =>
(some (x7, μ1)))
else
(if v2 = (3 : Int32) then
(x_ald μ1 175 8 v1 fun x6 =>
(some (x6, μ1)))
else
(if v2 = (4 : Int32) then
((f12_isAwake μ1 v1).bind fun x5 =>
(if x5 = 0 then
(some ((0 : Int32), μ1))
else
(some ((1 : Int32), μ1))))
else
((f12_openOf μ1 v1).bind fun x4 =>
(some (x4, μ1)))))))))))))
set_option maxHeartbeats 4000000 in
set_option maxRecDepth 100000 in
theorem l_f12_layer (G : xG) (d : Nat) (hd : 2 ≤ d) (v1 : Int32) (v2 : Int32) (μ : xMu) : Mx G m12_layer d [.ref 162, .int v1, .int v2] μ x_wim (f12_layer v1 v2 μ) := by
  refine mx_enter ok12_layer [some (.ref 162), some (.int v1), some (.int v2)] rfl (Nat.le_of_ble_eq_true rfl) ?_
  unfold f12_layer
  refine wx_blk (pc' := 2) (L' := [some (.ref 162), some (.int v1), some (.int v2)]) (st' := [.int (0 : Int32), .ref 162]) [.aload_n 0, .iconst 0] (by decide +kernel) rfl rfl ?_
  refine wx_put is_162 ff_12_131 fp_12_0 ⟨rfl, rfl⟩ (by decide +kernel) (fun μ1 => ?_)
  refine wx_blk (pc' := 7) (L' := [some (.ref 162), some (.int v1), some (.int v2)]) (st' := [.int v1, .ref 162]) [.aload_n 0, .iload_n 1] (by decide +kernel) rfl rfl ?_
  refine wx_callV (d1 := 1) (As := [.int v1]) (rest := []) (by omega) is_162 (by decide) rfl cv_12_337 rfl (Nat.le_of_ble_eq_true rfl) (l_f12_isLayer G 1 (by omega) μ1 v1) rfl (by decide +kernel) (fun x2 => ?_)
  refine wx_if_eq 25 (off := 15) (by decide +kernel) (by decide) ?_ ?_
  · refine wx_ldc (v := -1000001) xw_1394 (by decide +kernel) ?_
    exact wx_iret rfl rfl (by decide +kernel)
  · refine wx_blk (pc' := 16) (L' := [some (.ref 162), some (.int v1), some (.int v2)]) (st' := [.long (0 : Int64), .long (Int32.toInt64 v2)]) [.iload_n 2, .i2l, .lconst 0] (by decide +kernel) rfl rfl ?_
    refine wx_ldc2 (v := 5) xw_1528 (by decide +kernel) ?_
    refine wx_callS (d1 := 0) (As := [.long (Int32.toInt64 v2), .long (0 : Int64), .long (5 : Int64)]) (rest := []) (by omega) cs_12_141 rfl (Nat.le_of_ble_eq_true rfl) (l_f12_in G 0 (by omega) μ1 (Int32.toInt64 v2) (0 : Int64) (5 : Int64)) rfl (by decide +kernel) (fun x3 => ?_)
    refine wx_if_ne 28 (off := 6) (by decide +kernel) (by decide) ?_ ?_
    · refine wx_blk (pc' := 29) (L' := [some (.ref 162), some (.int v1), some (.int v2)]) (st' := [.int v2]) [.iload_n 2] (by decide +kernel) rfl rfl ?_
      refine wx_if_ne 41 (off := 12) (by decide +kernel) (by decide) ?_ ?_
      · refine wx_blk (pc' := 43) (L' := [some (.ref 162), some (.int v1), some (.int v2)]) (st' := [.int (1 : Int32), .int v2]) [.iload_n 2, .iconst 1] (by decide +kernel) rfl rfl ?_
        refine wx_ic_ne 55 (off := 12) (by decide +kernel) (by decide) ?_ ?_
        · refine wx_blk (pc' := 57) (L' := [some (.ref 162), some (.int v1), some (.int v2)]) (st' := [.int (2 : Int32), .int v2]) [.iload_n 2, .iconst 2] (by decide +kernel) rfl rfl ?_
          refine wx_ic_ne 69 (off := 12) (by decide +kernel) (by decide) ?_ ?_
          · refine wx_blk (pc' := 71) (L' := [some (.ref 162), some (.int v1), some (.int v2)]) (st' := [.int (3 : Int32), .int v2]) [.iload_n 2, .iconst 3] (by decide +kernel) rfl rfl ?_
            refine wx_ic_ne 83 (off := 12) (by decide +kernel) (by decide) ?_ ?_
            · refine wx_blk (pc' := 85) (L' := [some (.ref 162), some (.int v1), some (.int v2)]) (st' := [.int (4 : Int32), .int v2]) [.iload_n 2, .iconst 4] (by decide +kernel) rfl rfl ?_
              refine wx_ic_ne 104 (off := 19) (by decide +kernel) (by decide) ?_ ?_
              · refine wx_blk (pc' := 106) (L' := [some (.ref 162), some (.int v1), some (.int v2)]) (st' := [.int v1, .ref 162]) [.aload_n 0, .iload_n 1] (by decide +kernel) rfl rfl ?_
                refine wx_callV (d1 := 0) (As := [.int v1]) (rest := []) (by omega) is_162 (by decide) rfl cv_12_322 rfl (Nat.le_of_ble_eq_true rfl) (l_f12_openOf G 0 (by omega) μ1 v1) rfl (by decide +kernel) (fun x4 => ?_)
                exact wx_iret rfl rfl (by decide +kernel)
              · refine wx_blk (pc' := 90) (L' := [some (.ref 162), some (.int v1), some (.int v2)]) (st' := [.int v1, .ref 162]) [.aload_n 0, .iload_n 1] (by decide +kernel) rfl rfl ?_
                refine wx_callV (d1 := 1) (As := [.int v1]) (rest := []) (by omega) is_162 (by decide) rfl cv_12_325 rfl (Nat.le_of_ble_eq_true rfl) (l_f12_isAwake G 1 (by omega) μ1 v1) rfl (by decide +kernel) (fun x5 => ?_)
                refine wx_if_eq 100 (off := 7) (by decide +kernel) (by decide) ?_ ?_
                · refine wx_blk (pc' := 101) (L' := [some (.ref 162), some (.int v1), some (.int v2)]) (st' := [.int (0 : Int32)]) [.iconst 0] (by decide +kernel) rfl rfl ?_
                  refine wx_goto 109 (off := 8) (by decide +kernel) (by decide) ?_
                  exact wx_iret rfl rfl (by decide +kernel)
                · refine wx_blk (pc' := 97) (L' := [some (.ref 162), some (.int v1), some (.int v2)]) (st' := [.int (1 : Int32)]) [.iconst 1] (by decide +kernel) rfl rfl ?_
                  refine wx_goto 109 (off := 12) (by decide +kernel) (by decide) ?_
                  exact wx_iret rfl rfl (by decide +kernel)
            · refine wx_blk (pc' := 75) (L' := [some (.ref 162), some (.int v1), some (.int v2)]) (st' := [.ref 162]) [.aload_n 0] (by decide +kernel) rfl rfl ?_
              refine wx_getr is_162 ff_12_46 rfl rf_162_17 (by decide +kernel) ?_
              refine wx_blk (pc' := 79) (L' := [some (.ref 162), some (.int v1), some (.int v2)]) (st' := [.int v1, .ref 175]) [.iload_n 1] (by decide +kernel) rfl rfl ?_
              refine wx_ald is_175 sz_175 (by decide +kernel) (fun x6 => ?_)
              refine wx_goto 109 (off := 29) (by decide +kernel) (by decide) ?_
              exact wx_iret rfl rfl (by decide +kernel)
          · refine wx_blk (pc' := 61) (L' := [some (.ref 162), some (.int v1), some (.int v2)]) (st' := [.ref 162]) [.aload_n 0] (by decide +kernel) rfl rfl ?_
            refine wx_getr is_162 ff_12_43 rfl rf_162_16 (by decide +kernel) ?_
            refine wx_blk (pc' := 65) (L' := [some (.ref 162), some (.int v1), some (.int v2)]) (st' := [.int v1, .ref 174]) [.iload_n 1] (by decide +kernel) rfl rfl ?_
            refine wx_ald is_174 sz_174 (by decide +kernel) (fun x7 => ?_)
            refine wx_goto 109 (off := 43) (by decide +kernel) (by decide) ?_
            exact wx_iret rfl rfl (by decide +kernel)
        · refine wx_blk (pc' := 47) (L' := [some (.ref 162), some (.int v1), some (.int v2)]) (st' := [.ref 162]) [.aload_n 0] (by decide +kernel) rfl rfl ?_
          refine wx_getr is_162 ff_12_31 rfl rf_162_12 (by decide +kernel) ?_
          refine wx_blk (pc' := 51) (L' := [some (.ref 162), some (.int v1), some (.int v2)]) (st' := [.int v1, .ref 170]) [.iload_n 1] (by decide +kernel) rfl rfl ?_
          refine wx_ald is_170 sz_170 (by decide +kernel) (fun x8 => ?_)
          refine wx_goto 109 (off := 57) (by decide +kernel) (by decide) ?_
          exact wx_iret rfl rfl (by decide +kernel)
      · refine wx_blk (pc' := 33) (L' := [some (.ref 162), some (.int v1), some (.int v2)]) (st' := [.ref 162]) [.aload_n 0] (by decide +kernel) rfl rfl ?_
        refine wx_getr is_162 ff_12_28 rfl rf_162_11 (by decide +kernel) ?_
        refine wx_blk (pc' := 37) (L' := [some (.ref 162), some (.int v1), some (.int v2)]) (st' := [.int v1, .ref 169]) [.iload_n 1] (by decide +kernel) rfl rfl ?_
        refine wx_ald is_169 sz_169 (by decide +kernel) (fun x9 => ?_)
        refine wx_goto 109 (off := 71) (by decide +kernel) (by decide) ?_
        exact wx_iret rfl rfl (by decide +kernel)
    · refine wx_ldc (v := -1000001) xw_1394 (by decide +kernel) ?_
      exact wx_iret rfl rfl (by decide +kernel)
/-! WakingLayersModel.fact(II)I -/
def f12_fact (v1 : Int32) (v2 : Int32) (μ : xMu) : Option (Int32 × xMu) :=
  (x_put μ 162 0 (0 : Int32) fun μ1 =>
((f12_in (Int32.toInt64 v1) (0 : Int64) (3 : Int64)).bind fun x2 =>
(if x2 = 0 then
(some ((-1000001 : Int32), μ1))
else
((f12_in (Int32.toInt64 v2) (0 : Int64) (9 : Int64)).bind fun x3 =>
(if x3 = 0 then
(some ((-1000001 : Int32), μ1))
else
(x_ald μ1 183 4 v1 fun x4 =>
(x_ast μ1 183 4 v1 v2 fun μ5 =>
(some (x4, μ5)))))))))
set_option maxHeartbeats 4000000 in
set_option maxRecDepth 100000 in
theorem l_f12_fact (G : xG) (d : Nat) (hd : 1 ≤ d) (v1 : Int32) (v2 : Int32) (μ : xMu) : Mx G m12_fact d [.ref 162, .int v1, .int v2] μ x_wim (f12_fact v1 v2 μ) := by
  refine mx_enter ok12_fact [some (.ref 162), some (.int v1), some (.int v2), none] rfl (Nat.le_of_ble_eq_true rfl) ?_
  unfold f12_fact
  refine wx_blk (pc' := 2) (L' := [some (.ref 162), some (.int v1), some (.int v2), none]) (st' := [.int (0 : Int32), .ref 162]) [.aload_n 0, .iconst 0] (by decide +kernel) rfl rfl ?_
  refine wx_put is_162 ff_12_131 fp_12_0 ⟨rfl, rfl⟩ (by decide +kernel) (fun μ1 => ?_)
  refine wx_blk (pc' := 8) (L' := [some (.ref 162), some (.int v1), some (.int v2), none]) (st' := [.long (0 : Int64), .long (Int32.toInt64 v1)]) [.iload_n 1, .i2l, .lconst 0] (by decide +kernel) rfl rfl ?_
  refine wx_ldc2 (v := 3) xw_1541 (by decide +kernel) ?_
  refine wx_callS (d1 := 0) (As := [.long (Int32.toInt64 v1), .long (0 : Int64), .long (3 : Int64)]) (rest := []) (by omega) cs_12_141 rfl (Nat.le_of_ble_eq_true rfl) (l_f12_in G 0 (by omega) μ1 (Int32.toInt64 v1) (0 : Int64) (3 : Int64)) rfl (by decide +kernel) (fun x2 => ?_)
  refine wx_if_eq 29 (off := 15) (by decide +kernel) (by decide) ?_ ?_
  · refine wx_ldc (v := -1000001) xw_1394 (by decide +kernel) ?_
    exact wx_iret rfl rfl (by decide +kernel)
  · refine wx_blk (pc' := 20) (L' := [some (.ref 162), some (.int v1), some (.int v2), none]) (st' := [.long (0 : Int64), .long (Int32.toInt64 v2)]) [.iload_n 2, .i2l, .lconst 0] (by decide +kernel) rfl rfl ?_
    refine wx_ldc2 (v := 9) xw_1542 (by decide +kernel) ?_
    refine wx_callS (d1 := 0) (As := [.long (Int32.toInt64 v2), .long (0 : Int64), .long (9 : Int64)]) (rest := []) (by omega) cs_12_141 rfl (Nat.le_of_ble_eq_true rfl) (l_f12_in G 0 (by omega) μ1 (Int32.toInt64 v2) (0 : Int64) (9 : Int64)) rfl (by decide +kernel) (fun x3 => ?_)
    refine wx_if_ne 32 (off := 6) (by decide +kernel) (by decide) ?_ ?_
    · refine wx_blk (pc' := 33) (L' := [some (.ref 162), some (.int v1), some (.int v2), none]) (st' := [.ref 162]) [.aload_n 0] (by decide +kernel) rfl rfl ?_
      refine wx_getr is_162 ff_12_70 rfl rf_162_39 (by decide +kernel) ?_
      refine wx_blk (pc' := 37) (L' := [some (.ref 162), some (.int v1), some (.int v2), none]) (st' := [.int v1, .ref 183]) [.iload_n 1] (by decide +kernel) rfl rfl ?_
      refine wx_ald is_183 sz_183 (by decide +kernel) (fun x4 => ?_)
      refine wx_blk (pc' := 40) (L' := [some (.ref 162), some (.int v1), some (.int v2), some (.int x4)]) (st' := [.ref 162]) [.istore_n 3, .aload_n 0] (by decide +kernel) rfl rfl ?_
      refine wx_getr is_162 ff_12_70 rfl rf_162_39 (by decide +kernel) ?_
      refine wx_blk (pc' := 45) (L' := [some (.ref 162), some (.int v1), some (.int v2), some (.int x4)]) (st' := [.int v2, .int v1, .ref 183]) [.iload_n 1, .iload_n 2] (by decide +kernel) rfl rfl ?_
      refine wx_ast is_183 sz_183 (by decide +kernel) (fun μ5 => ?_)
      refine wx_blk (pc' := 47) (L' := [some (.ref 162), some (.int v1), some (.int v2), some (.int x4)]) (st' := [.int x4]) [.iload_n 3] (by decide +kernel) rfl rfl ?_
      exact wx_iret rfl rfl (by decide +kernel)
    · refine wx_ldc (v := -1000001) xw_1394 (by decide +kernel) ?_
      exact wx_iret rfl rfl (by decide +kernel)
/-! WakingLayersModel.facts(III)I -/
def f12_facts_j62 (μ : xMu) : Option (Int32 × xMu) :=
  ((f12_finding (2 : Int32) μ).bind fun q5 =>
(some (q5.1, q5.2)))
set_option maxHeartbeats 4000000 in
set_option maxRecDepth 100000 in
theorem l_f12_facts_j62 (G : xG) (d : Nat) (hd : 2 ≤ d) (μ : xMu) : Wx G m12_facts d 62 [some (.ref 162), none, none, none, none] [] μ x_wim (f12_facts_j62 μ) := by
  unfold f12_facts_j62
  refine wx_blk (pc' := 64) (L' := [some (.ref 162), none, none, none, none]) (st' := [.int (2 : Int32), .ref 162]) [.aload_n 0, .iconst 2] (by decide +kernel) rfl rfl ?_
  refine wx_callV (d1 := 0) (As := [.int (2 : Int32)]) (rest := []) (by omega) is_162 (by decide) rfl cv_12_152 rfl (Nat.le_of_ble_eq_true rfl) (l_f12_finding G 0 (by omega) (2 : Int32) μ) rfl (by decide +kernel) (fun q5 => ?_)
  exact wx_iret rfl rfl (by decide +kernel)
def f12_facts_l71 (k111 : Int32 → Int32 → Int32 → xMu → Option (Int32 × xMu)) : Nat → Int32 → Int32 → Int32 → Int32 → xMu → Option (Int32 × xMu)
  | 0, _, _, _, _, _ => none
  | n + 1, v1, v2, v3, v4, μ =>
  (if v3 ≤ v4 then
(k111 v1 v2 v3 μ)
else
(x_ald μ 165 320 ((((40 : Int32) * v1) + v2) + v4) fun x7 =>
((f12_in (Int32.toInt64 x7) (0 : Int64) (9 : Int64)).bind fun x8 =>
(if x8 = 0 then
(some ((-1000001 : Int32), μ))
else
((f12_facts_l71 k111 n) v1 v2 v3 (v4 + (1 : Int32)) μ)))))
set_option maxHeartbeats 4000000 in
set_option maxRecDepth 100000 in
theorem l_f12_facts_l71 (G : xG) (d : Nat) (hd : 2 ≤ d) (k111 : Int32 → Int32 → Int32 → xMu → Option (Int32 × xMu)) (h111 : ∀ (v1 : Int32) (v2 : Int32) (v3 : Int32) (μ1 : xMu), Wx G m12_facts d 111 [some (.ref 162), some (.int v1), some (.int v2), some (.int v3), none] [] μ1 x_wim (k111 v1 v2 v3 μ1)) : ∀ (n : Nat) (v1 : Int32) (v2 : Int32) (v3 : Int32) (v4 : Int32) (μ : xMu), Wx G m12_facts d 71 [some (.ref 162), some (.int v1), some (.int v2), some (.int v3), some (.int v4)] [] μ x_wim (f12_facts_l71 k111 n v1 v2 v3 v4 μ) := by
  intro n
  induction n with
  | zero => intro v1 v2 v3 v4 μ; exact wx_none
  | succ n h71 =>
    intro v1 v2 v3 v4 μ
    unfold f12_facts_l71
    refine wx_blk (pc' := 74) (L' := [some (.ref 162), some (.int v1), some (.int v2), some (.int v3), some (.int v4)]) (st' := [.int v3, .int v4]) [.iload 4, .iload_n 3] (by decide +kernel) rfl rfl ?_
    refine wx_ic_ge 111 (off := 37) (by decide +kernel) (by decide) ?_ ?_
    · refine wx_weak (L' := [some (.ref 162), some (.int v1), some (.int v2), some (.int v3), none]) ⟨rfl, ⟨rfl, ⟨rfl, ⟨rfl, trivial⟩⟩⟩⟩ ?_
      exact h111 v1 v2 v3 μ
    · refine wx_blk (pc' := 78) (L' := [some (.ref 162), some (.int v1), some (.int v2), some (.int v3), some (.int v4)]) (st' := [.ref 162]) [.aload_n 0] (by decide +kernel) rfl rfl ?_
      refine wx_getr is_162 ff_12_16 rfl rf_162_4 (by decide +kernel) ?_
      refine wx_blk (pc' := 90) (L' := [some (.ref 162), some (.int v1), some (.int v2), some (.int v3), some (.int v4)]) (st' := [.int ((((40 : Int32) * v1) + v2) + v4), .ref 165]) [.bipush 40, .iload_n 1, .imul, .iload_n 2, .iadd, .iload 4, .iadd] (by decide +kernel) rfl rfl ?_
      refine wx_ald is_165 sz_165 (by decide +kernel) (fun x7 => ?_)
      refine wx_blk (pc' := 93) (L' := [some (.ref 162), some (.int v1), some (.int v2), some (.int v3), some (.int v4)]) (st' := [.long (0 : Int64), .long (Int32.toInt64 x7)]) [.i2l, .lconst 0] (by decide +kernel) rfl rfl ?_
      refine wx_ldc2 (v := 9) xw_1542 (by decide +kernel) ?_
      refine wx_callS (d1 := 0) (As := [.long (Int32.toInt64 x7), .long (0 : Int64), .long (9 : Int64)]) (rest := []) (by omega) cs_12_141 rfl (Nat.le_of_ble_eq_true rfl) (l_f12_in G 0 (by omega) μ (Int32.toInt64 x7) (0 : Int64) (9 : Int64)) rfl (by decide +kernel) (fun x8 => ?_)
      refine wx_if_ne 105 (off := 6) (by decide +kernel) (by decide) ?_ ?_
      · refine wx_blk (pc' := 108) (L' := [some (.ref 162), some (.int v1), some (.int v2), some (.int v3), some (.int (v4 + (1 : Int32)))]) (st' := []) [.iinc 4 1] (by decide +kernel) rfl rfl ?_
        refine wx_goto 71 (off := -37) (by decide +kernel) (by decide) ?_
        exact h71 v1 v2 v3 (v4 + (1 : Int32)) μ
      · refine wx_ldc (v := -1000001) xw_1394 (by decide +kernel) ?_
        exact wx_iret rfl rfl (by decide +kernel)
def f12_facts_l119 (k152 : Int32 → xMu → Option (Int32 × xMu)) : Nat → Int32 → Int32 → Int32 → Int32 → xMu → Option (Int32 × xMu)
  | 0, _, _, _, _, _ => none
  | n + 1, v1, v2, v3, v4, μ =>
  (if v3 ≤ v4 then
(k152 v3 μ)
else
(x_ald μ 165 320 ((((40 : Int32) * v1) + v2) + v4) fun x14 =>
(x_ast μ 183 4 v4 x14 fun μ15 =>
((f12_facts_l119 k152 n) v1 v2 v3 (v4 + (1 : Int32)) μ15))))
set_option maxHeartbeats 4000000 in
set_option maxRecDepth 100000 in
theorem l_f12_facts_l119 (G : xG) (d : Nat) (hd : 2 ≤ d) (k152 : Int32 → xMu → Option (Int32 × xMu)) (h152 : ∀ (v3 : Int32) (μ1 : xMu), Wx G m12_facts d 152 [none, none, none, some (.int v3), none] [] μ1 x_wim (k152 v3 μ1)) : ∀ (n : Nat) (v1 : Int32) (v2 : Int32) (v3 : Int32) (v4 : Int32) (μ : xMu), Wx G m12_facts d 119 [some (.ref 162), some (.int v1), some (.int v2), some (.int v3), some (.int v4)] [] μ x_wim (f12_facts_l119 k152 n v1 v2 v3 v4 μ) := by
  intro n
  induction n with
  | zero => intro v1 v2 v3 v4 μ; exact wx_none
  | succ n h119 =>
    intro v1 v2 v3 v4 μ
    unfold f12_facts_l119
    refine wx_blk (pc' := 122) (L' := [some (.ref 162), some (.int v1), some (.int v2), some (.int v3), some (.int v4)]) (st' := [.int v3, .int v4]) [.iload 4, .iload_n 3] (by decide +kernel) rfl rfl ?_
    refine wx_ic_ge 152 (off := 30) (by decide +kernel) (by decide) ?_ ?_
    · refine wx_weak (L' := [none, none, none, some (.int v3), none]) ⟨rfl, trivial⟩ ?_
      exact h152 v3 μ
    · refine wx_blk (pc' := 126) (L' := [some (.ref 162), some (.int v1), some (.int v2), some (.int v3), some (.int v4)]) (st' := [.ref 162]) [.aload_n 0] (by decide +kernel) rfl rfl ?_
      refine wx_getr is_162 ff_12_70 rfl rf_162_39 (by decide +kernel) ?_
      refine wx_blk (pc' := 132) (L' := [some (.ref 162), some (.int v1), some (.int v2), some (.int v3), some (.int v4)]) (st' := [.ref 162, .int v4, .ref 183]) [.iload 4, .aload_n 0] (by decide +kernel) rfl rfl ?_
      refine wx_getr is_162 ff_12_16 rfl rf_162_4 (by decide +kernel) ?_
      refine wx_blk (pc' := 144) (L' := [some (.ref 162), some (.int v1), some (.int v2), some (.int v3), some (.int v4)]) (st' := [.int ((((40 : Int32) * v1) + v2) + v4), .ref 165, .int v4, .ref 183]) [.bipush 40, .iload_n 1, .imul, .iload_n 2, .iadd, .iload 4, .iadd] (by decide +kernel) rfl rfl ?_
      refine wx_ald is_165 sz_165 (by decide +kernel) (fun x14 => ?_)
      refine wx_ast is_183 sz_183 (by decide +kernel) (fun μ15 => ?_)
      refine wx_blk (pc' := 149) (L' := [some (.ref 162), some (.int v1), some (.int v2), some (.int v3), some (.int (v4 + (1 : Int32)))]) (st' := []) [.iinc 4 1] (by decide +kernel) rfl rfl ?_
      refine wx_goto 119 (off := -30) (by decide +kernel) (by decide) ?_
      exact h119 v1 v2 v3 (v4 + (1 : Int32)) μ15
def f12_facts (v1 : Int32) (v2 : Int32) (v3 : Int32) (μ : xMu) : Option (Int32 × xMu) :=
  (x_put μ 162 0 (0 : Int32) fun μ1 =>
((f12_isSheet v1).bind fun x2 =>
(if x2 = 0 then
(some ((-1000001 : Int32), μ1))
else
((f12_in (Int32.toInt64 v3) (1 : Int64) (4 : Int64)).bind fun x3 =>
(if x3 = 0 then
(some ((-1000001 : Int32), μ1))
else
(x_ald μ1 163 8 v1 fun x4 =>
(if 0 ≤ x4 then
(if v2 < 0 then
(f12_facts_j62 μ1)
else
(x_ald μ1 164 8 v1 fun x6 =>
(if (lg_cmp ((Int32.toInt64 v2) + (Int32.toInt64 v3)) (Int32.toInt64 x6)) ≤ 0 then
(f12_facts_l71 (fun (y9 : Int32) (y10 : Int32) (y11 : Int32) (μ12 : xMu) => (x_put μ12 162 1 (0 : Int32) fun μ13 =>
(f12_facts_l119 (fun (y16 : Int32) (μ17 : xMu) => (some (y16, μ17))) 1000 y9 y10 y11 (0 : Int32) μ13))) 1000 v1 v2 v3 (0 : Int32) μ1)
else
(f12_facts_j62 μ1))))
else
((f12_finding (1 : Int32) μ1).bind fun q18 =>
(some (q18.1, q18.2))))))))))
set_option maxHeartbeats 4000000 in
set_option maxRecDepth 100000 in
theorem l_f12_facts (G : xG) (d : Nat) (hd : 2 ≤ d) (v1 : Int32) (v2 : Int32) (v3 : Int32) (μ : xMu) : Mx G m12_facts d [.ref 162, .int v1, .int v2, .int v3] μ x_wim (f12_facts v1 v2 v3 μ) := by
  refine mx_enter ok12_facts [some (.ref 162), some (.int v1), some (.int v2), some (.int v3), none] rfl (Nat.le_of_ble_eq_true rfl) ?_
  unfold f12_facts
  refine wx_blk (pc' := 2) (L' := [some (.ref 162), some (.int v1), some (.int v2), some (.int v3), none]) (st' := [.int (0 : Int32), .ref 162]) [.aload_n 0, .iconst 0] (by decide +kernel) rfl rfl ?_
  refine wx_put is_162 ff_12_131 fp_12_0 ⟨rfl, rfl⟩ (by decide +kernel) (fun μ1 => ?_)
  refine wx_blk (pc' := 6) (L' := [some (.ref 162), some (.int v1), some (.int v2), some (.int v3), none]) (st' := [.int v1]) [.iload_n 1] (by decide +kernel) rfl rfl ?_
  refine wx_callS (d1 := 1) (As := [.int v1]) (rest := []) (by omega) cs_12_145 rfl (Nat.le_of_ble_eq_true rfl) (l_f12_isSheet G 1 (by omega) μ1 v1) rfl (by decide +kernel) (fun x2 => ?_)
  refine wx_if_eq 24 (off := 15) (by decide +kernel) (by decide) ?_ ?_
  · refine wx_ldc (v := -1000001) xw_1394 (by decide +kernel) ?_
    exact wx_iret rfl rfl (by decide +kernel)
  · refine wx_blk (pc' := 15) (L' := [some (.ref 162), some (.int v1), some (.int v2), some (.int v3), none]) (st' := [.long (1 : Int64), .long (Int32.toInt64 v3)]) [.iload_n 3, .i2l, .lconst 1] (by decide +kernel) rfl rfl ?_
    refine wx_ldc2 (v := 4) xw_1547 (by decide +kernel) ?_
    refine wx_callS (d1 := 0) (As := [.long (Int32.toInt64 v3), .long (1 : Int64), .long (4 : Int64)]) (rest := []) (by omega) cs_12_141 rfl (Nat.le_of_ble_eq_true rfl) (l_f12_in G 0 (by omega) μ1 (Int32.toInt64 v3) (1 : Int64) (4 : Int64)) rfl (by decide +kernel) (fun x3 => ?_)
    refine wx_if_ne 27 (off := 6) (by decide +kernel) (by decide) ?_ ?_
    · refine wx_blk (pc' := 28) (L' := [some (.ref 162), some (.int v1), some (.int v2), some (.int v3), none]) (st' := [.ref 162]) [.aload_n 0] (by decide +kernel) rfl rfl ?_
      refine wx_getr is_162 ff_12_7 rfl rf_162_2 (by decide +kernel) ?_
      refine wx_blk (pc' := 32) (L' := [some (.ref 162), some (.int v1), some (.int v2), some (.int v3), none]) (st' := [.int v1, .ref 163]) [.iload_n 1] (by decide +kernel) rfl rfl ?_
      refine wx_ald is_163 sz_163 (by decide +kernel) (fun x4 => ?_)
      refine wx_if_ge 42 (off := 9) (by decide +kernel) (by decide) ?_ ?_
      · refine wx_blk (pc' := 43) (L' := [some (.ref 162), some (.int v1), some (.int v2), some (.int v3), none]) (st' := [.int v2]) [.iload_n 2] (by decide +kernel) rfl rfl ?_
        refine wx_if_lt 62 (off := 19) (by decide +kernel) (by decide) ?_ ?_
        · refine wx_weak (L' := [some (.ref 162), none, none, none, none]) ⟨rfl, trivial⟩ ?_
          refine l_f12_facts_j62 G d hd μ1
        · refine wx_blk (pc' := 52) (L' := [some (.ref 162), some (.int v1), some (.int v2), some (.int v3), none]) (st' := [.ref 162, .long ((Int32.toInt64 v2) + (Int32.toInt64 v3))]) [.iload_n 2, .i2l, .iload_n 3, .i2l, .ladd, .aload_n 0] (by decide +kernel) rfl rfl ?_
          refine wx_getr is_162 ff_12_13 rfl rf_162_3 (by decide +kernel) ?_
          refine wx_blk (pc' := 56) (L' := [some (.ref 162), some (.int v1), some (.int v2), some (.int v3), none]) (st' := [.int v1, .ref 164, .long ((Int32.toInt64 v2) + (Int32.toInt64 v3))]) [.iload_n 1] (by decide +kernel) rfl rfl ?_
          refine wx_ald is_164 sz_164 (by decide +kernel) (fun x6 => ?_)
          refine wx_blk (pc' := 59) (L' := [some (.ref 162), some (.int v1), some (.int v2), some (.int v3), none]) (st' := [.int (lg_cmp ((Int32.toInt64 v2) + (Int32.toInt64 v3)) (Int32.toInt64 x6))]) [.i2l, .lcmp] (by decide +kernel) rfl rfl ?_
          refine wx_if_le 68 (off := 9) (by decide +kernel) (by decide) ?_ ?_
          · refine wx_blk (pc' := 71) (L' := [some (.ref 162), some (.int v1), some (.int v2), some (.int v3), some (.int (0 : Int32))]) (st' := []) [.iconst 0, .istore 4] (by decide +kernel) rfl rfl ?_
            refine l_f12_facts_l71 G d hd _ ?_ 1000 v1 v2 v3 (0 : Int32) μ1
            · intro y9 y10 y11 μ12
              refine wx_blk (pc' := 113) (L' := [some (.ref 162), some (.int y9), some (.int y10), some (.int y11), none]) (st' := [.int (0 : Int32), .ref 162]) [.aload_n 0, .iconst 0] (by decide +kernel) rfl rfl ?_
              refine wx_put is_162 ff_12_135 fp_12_1 ⟨rfl, rfl⟩ (by decide +kernel) (fun μ13 => ?_)
              refine wx_blk (pc' := 119) (L' := [some (.ref 162), some (.int y9), some (.int y10), some (.int y11), some (.int (0 : Int32))]) (st' := []) [.iconst 0, .istore 4] (by decide +kernel) rfl rfl ?_
              refine l_f12_facts_l119 G d hd _ ?_ 1000 y9 y10 y11 (0 : Int32) μ13
              · intro y16 μ17
                refine wx_blk (pc' := 153) (L' := [none, none, none, some (.int y16), none]) (st' := [.int y16]) [.iload_n 3] (by decide +kernel) rfl rfl ?_
                exact wx_iret rfl rfl (by decide +kernel)
          · refine wx_weak (L' := [some (.ref 162), none, none, none, none]) ⟨rfl, trivial⟩ ?_
            refine l_f12_facts_j62 G d hd μ1
      · refine wx_blk (pc' := 38) (L' := [some (.ref 162), some (.int v1), some (.int v2), some (.int v3), none]) (st' := [.int (1 : Int32), .ref 162]) [.aload_n 0, .iconst 1] (by decide +kernel) rfl rfl ?_
        refine wx_callV (d1 := 0) (As := [.int (1 : Int32)]) (rest := []) (by omega) is_162 (by decide) rfl cv_12_152 rfl (Nat.le_of_ble_eq_true rfl) (l_f12_finding G 0 (by omega) (1 : Int32) μ1) rfl (by decide +kernel) (fun q18 => ?_)
        exact wx_iret rfl rfl (by decide +kernel)
    · refine wx_ldc (v := -1000001) xw_1394 (by decide +kernel) ?_
      exact wx_iret rfl rfl (by decide +kernel)
