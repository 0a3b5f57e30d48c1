/-! WakingLayersModel.bad(I)V -/
def f12_bad (v1 : Int32) (μ : xMu) : Option xMu :=
  (if (μ 162 33) = 0 then
(x_put μ 162 33 v1 fun μ1 =>
(x_put μ1 162 34 (μ1 162 31) fun μ2 =>
(some μ2)))
else
(some μ))
set_option maxHeartbeats 4000000 in
set_option maxRecDepth 100000 in
theorem l_f12_bad (G : xG) (d : Nat) (hd : 0 ≤ d) (v1 : Int32) (μ : xMu) : Mx G m12_bad d [.ref 162, .int v1] μ x_wv (f12_bad v1 μ) := by
  refine mx_enter ok12_bad [some (.ref 162), some (.int v1)] rfl (Nat.le_of_ble_eq_true rfl) ?_
  unfold f12_bad
  refine wx_blk (pc' := 1) (L' := [some (.ref 162), some (.int v1)]) (st' := [.ref 162]) [.aload_n 0] (by decide +kernel) rfl rfl ?_
  refine wx_geti is_162 ff_12_192 rfl (by decide +kernel) ?_
  refine wx_if_ne 20 (off := 16) (by decide +kernel) (by decide) ?_ ?_
  · exact wx_vret rfl rfl (by decide +kernel)
  · refine wx_blk (pc' := 9) (L' := [some (.ref 162), some (.int v1)]) (st' := [.int v1, .ref 162]) [.aload_n 0, .iload_n 1] (by decide +kernel) rfl rfl ?_
    refine wx_put is_162 ff_12_192 fp_12_33 ⟨rfl, rfl⟩ (by decide +kernel) (fun μ1 => ?_)
    refine wx_blk (pc' := 14) (L' := [some (.ref 162), some (.int v1)]) (st' := [.ref 162, .ref 162]) [.aload_n 0, .aload_n 0] (by decide +kernel) rfl rfl ?_
    refine wx_geti is_162 ff_12_174 rfl (by decide +kernel) ?_
    refine wx_put is_162 ff_12_195 fp_12_34 ⟨rfl, rfl⟩ (by decide +kernel) (fun μ2 => ?_)
    exact wx_vret rfl rfl (by decide +kernel)
/-! WakingLayersModel.must(Z)V -/
def f12_must_j9 (μ : xMu) : Option xMu :=
  (if (μ 162 33) = 0 then
((f12_step μ).bind fun μ1 =>
(some μ1))
else
(some μ))
set_option maxHeartbeats 4000000 in
set_option maxRecDepth 100000 in
theorem l_f12_must_j9 (G : xG) (d : Nat) (hd : 2 ≤ d) (μ : xMu) : Wx G m12_must d 9 [some (.ref 162), none] [] μ x_wv (f12_must_j9 μ) := by
  unfold f12_must_j9
  refine wx_blk (pc' := 10) (L' := [some (.ref 162), none]) (st' := [.ref 162]) [.aload_n 0] (by decide +kernel) rfl rfl ?_
  refine wx_geti is_162 ff_12_192 rfl (by decide +kernel) ?_
  refine wx_if_ne 20 (off := 7) (by decide +kernel) (by decide) ?_ ?_
  · exact wx_vret rfl rfl (by decide +kernel)
  · refine wx_blk (pc' := 17) (L' := [some (.ref 162), none]) (st' := [.ref 162]) [.aload_n 0] (by decide +kernel) rfl rfl ?_
    refine wx_callV (d1 := 1) (As := []) (rest := []) (by omega) is_162 (by decide) rfl cv_12_202 rfl (Nat.le_of_ble_eq_true rfl) (l_f12_step G 1 (by omega) μ) rfl (by decide +kernel) (fun μ1 => ?_)
    exact wx_vret rfl rfl (by decide +kernel)
def f12_must (v1 : Int32) (μ : xMu) : Option xMu :=
  (if v1 = 0 then
((f12_bad (1 : Int32) μ).bind fun μ2 =>
(f12_must_j9 μ2))
else
(f12_must_j9 μ))
set_option maxHeartbeats 4000000 in
set_option maxRecDepth 100000 in
theorem l_f12_must (G : xG) (d : Nat) (hd : 2 ≤ d) (v1 : Int32) (μ : xMu) : Mx G m12_must d [.ref 162, .int v1] μ x_wv (f12_must v1 μ) := by
  refine mx_enter ok12_must [some (.ref 162), some (.int v1)] rfl (Nat.le_of_ble_eq_true rfl) ?_
  unfold f12_must
  refine wx_blk (pc' := 1) (L' := [some (.ref 162), some (.int v1)]) (st' := [.int v1]) [.iload_n 1] (by decide +kernel) rfl rfl ?_
  refine wx_if_ne 9 (off := 8) (by decide +kernel) (by decide) ?_ ?_
  · refine wx_weak (L' := [some (.ref 162), none]) ⟨rfl, trivial⟩ ?_
    refine l_f12_must_j9 G d hd μ
  · refine wx_blk (pc' := 6) (L' := [some (.ref 162), some (.int v1)]) (st' := [.int (1 : Int32), .ref 162]) [.aload_n 0, .iconst 1] (by decide +kernel) rfl rfl ?_
    refine wx_callV (d1 := 0) (As := [.int (1 : Int32)]) (rest := []) (by omega) is_162 (by decide) rfl cv_12_198 rfl (Nat.le_of_ble_eq_true rfl) (l_f12_bad G 0 (by omega) (1 : Int32) μ) rfl (by decide +kernel) (fun μ2 => ?_)
    refine wx_weak (L' := [some (.ref 162), none]) ⟨rfl, trivial⟩ ?_
    refine l_f12_must_j9 G d hd μ2
/-! WakingLayersModel.is(I)Z -/
def f12_is (μ : xMu) (v1 : Int32) : Option Int32 :=
  (if (μ 162 30) = (4 : Int32) then
((f12_byteAt μ (μ 162 31)).bind fun x1 =>
(if x1 = v1 then
(some (1 : Int32))
else
(some (0 : Int32))))
else
(some (0 : Int32)))
set_option maxHeartbeats 4000000 in
set_option maxRecDepth 100000 in
theorem l_f12_is (G : xG) (d : Nat) (hd : 1 ≤ d) (μ : xMu) (v1 : Int32) : Mx G m12_is d [.ref 162, .int v1] μ (x_wi μ) (f12_is μ v1) := by
  refine mx_enter ok12_is [some (.ref 162), some (.int v1)] rfl (Nat.le_of_ble_eq_true rfl) ?_
  unfold f12_is
  refine wx_blk (pc' := 1) (L' := [some (.ref 162), some (.int v1)]) (st' := [.ref 162]) [.aload_n 0] (by decide +kernel) rfl rfl ?_
  refine wx_geti is_162 ff_12_177 rfl (by decide +kernel) ?_
  refine wx_blk (pc' := 5) (L' := [some (.ref 162), some (.int v1)]) (st' := [.int (4 : Int32), .int (μ 162 30)]) [.iconst 4] (by decide +kernel) rfl rfl ?_
  refine wx_ic_ne 24 (off := 19) (by decide +kernel) (by decide) ?_ ?_
  · refine wx_blk (pc' := 25) (L' := [some (.ref 162), some (.int v1)]) (st' := [.int (0 : Int32)]) [.iconst 0] (by decide +kernel) rfl rfl ?_
    exact wx_zret rfl rfl (by decide) (by decide +kernel)
  · refine wx_blk (pc' := 10) (L' := [some (.ref 162), some (.int v1)]) (st' := [.ref 162, .ref 162]) [.aload_n 0, .aload_n 0] (by decide +kernel) rfl rfl ?_
    refine wx_geti is_162 ff_12_174 rfl (by decide +kernel) ?_
    refine wx_callV (d1 := 0) (As := [.int (μ 162 31)]) (rest := []) (by omega) is_162 (by decide) rfl cv_12_171 rfl (Nat.le_of_ble_eq_true rfl) (l_f12_byteAt G 0 (by omega) μ (μ 162 31)) rfl (by decide +kernel) (fun x1 => ?_)
    refine wx_blk (pc' := 17) (L' := [some (.ref 162), some (.int v1)]) (st' := [.int v1, .int x1]) [.iload_n 1] (by decide +kernel) rfl rfl ?_
    refine wx_ic_ne 24 (off := 7) (by decide +kernel) (by decide) ?_ ?_
    · refine wx_blk (pc' := 25) (L' := [some (.ref 162), some (.int v1)]) (st' := [.int (0 : Int32)]) [.iconst 0] (by decide +kernel) rfl rfl ?_
      exact wx_zret rfl rfl (by decide) (by decide +kernel)
    · refine wx_blk (pc' := 21) (L' := [some (.ref 162), some (.int v1)]) (st' := [.int (1 : Int32)]) [.iconst 1] (by decide +kernel) rfl rfl ?_
      refine wx_goto 25 (off := 4) (by decide +kernel) (by decide) ?_
      exact wx_zret rfl rfl (by decide) (by decide +kernel)
/-! WakingLayersModel.word()J -/
def f12_word_l7 (μ : xMu) (k56 : Int64 → Option Int64) : Nat → Int64 → Int32 → Option Int64
  | 0, _, _ => none
  | n + 1, v1, v3 =>
  (if (μ 162 32) ≤ v3 then
(k56 v1)
else
(if (μ 162 30) = (2 : Int32) then
(if (8 : Int32) ≤ ((μ 162 32) - (μ 162 31)) then
(k56 v1)
else
(x_ald μ 182 600 v3 fun x1 =>
((f12_word_l7 μ k56 n) ((v1 <<< (Int32.toInt64 (8 : Int32) &&& 63)) ||| (Int32.toInt64 x1)) (v3 + (1 : Int32)))))
else
(k56 v1)))
set_option maxHeartbeats 4000000 in
set_option maxRecDepth 100000 in
theorem l_f12_word_l7 (G : xG) (d : Nat) (hd : 0 ≤ d) (μ : xMu) (k56 : Int64 → Option Int64) (h56 : ∀ (v1 : Int64), Wx G m12_word d 56 [none, some (.long v1), none, none] [] μ (x_wl μ) (k56 v1)) : ∀ (n : Nat) (v1 : Int64) (v3 : Int32), Wx G m12_word d 7 [some (.ref 162), some (.long v1), none, some (.int v3)] [] μ (x_wl μ) (f12_word_l7 μ k56 n v1 v3) := by
  intro n
  induction n with
  | zero => intro v1 v3; exact wx_none
  | succ n h7 =>
    intro v1 v3
    unfold f12_word_l7
    refine wx_blk (pc' := 9) (L' := [some (.ref 162), some (.long v1), none, some (.int v3)]) (st' := [.ref 162, .int v3]) [.iload_n 3, .aload_n 0] (by decide +kernel) rfl rfl ?_
    refine wx_geti is_162 ff_12_189 rfl (by decide +kernel) ?_
    refine wx_ic_ge 56 (off := 44) (by decide +kernel) (by decide) ?_ ?_
    · refine wx_weak (L' := [none, some (.long v1), none, none]) ⟨rfl, trivial⟩ ?_
      exact h56 v1
    · refine wx_blk (pc' := 16) (L' := [some (.ref 162), some (.long v1), none, some (.int v3)]) (st' := [.ref 162]) [.aload_n 0] (by decide +kernel) rfl rfl ?_
      refine wx_geti is_162 ff_12_177 rfl (by decide +kernel) ?_
      refine wx_blk (pc' := 20) (L' := [some (.ref 162), some (.long v1), none, some (.int v3)]) (st' := [.int (2 : Int32), .int (μ 162 30)]) [.iconst 2] (by decide +kernel) rfl rfl ?_
      refine wx_ic_ne 56 (off := 36) (by decide +kernel) (by decide) ?_ ?_
      · refine wx_weak (L' := [none, some (.long v1), none, none]) ⟨rfl, trivial⟩ ?_
        exact h56 v1
      · refine wx_blk (pc' := 24) (L' := [some (.ref 162), some (.long v1), none, some (.int v3)]) (st' := [.ref 162]) [.aload_n 0] (by decide +kernel) rfl rfl ?_
        refine wx_geti is_162 ff_12_189 rfl (by decide +kernel) ?_
        refine wx_blk (pc' := 28) (L' := [some (.ref 162), some (.long v1), none, some (.int v3)]) (st' := [.ref 162, .int (μ 162 32)]) [.aload_n 0] (by decide +kernel) rfl rfl ?_
        refine wx_geti is_162 ff_12_174 rfl (by decide +kernel) ?_
        refine wx_blk (pc' := 34) (L' := [some (.ref 162), some (.long v1), none, some (.int v3)]) (st' := [.int (8 : Int32), .int ((μ 162 32) - (μ 162 31))]) [.isub, .bipush 8] (by decide +kernel) rfl rfl ?_
        refine wx_ic_ge 56 (off := 22) (by decide +kernel) (by decide) ?_ ?_
        · refine wx_weak (L' := [none, some (.long v1), none, none]) ⟨rfl, trivial⟩ ?_
          exact h56 v1
        · refine wx_blk (pc' := 42) (L' := [some (.ref 162), some (.long v1), none, some (.int v3)]) (st' := [.ref 162, .long (v1 <<< (Int32.toInt64 (8 : Int32) &&& 63))]) [.lload_n 1, .bipush 8, .lshl, .aload_n 0] (by decide +kernel) rfl rfl ?_
          refine wx_getr is_162 ff_12_67 rfl rf_162_25 (by decide +kernel) ?_
          refine wx_blk (pc' := 46) (L' := [some (.ref 162), some (.long v1), none, some (.int v3)]) (st' := [.int v3, .ref 182, .long (v1 <<< (Int32.toInt64 (8 : Int32) &&& 63))]) [.iload_n 3] (by decide +kernel) rfl rfl ?_
          refine wx_ald is_182 sz_182 (by decide +kernel) (fun x1 => ?_)
          refine wx_blk (pc' := 53) (L' := [some (.ref 162), some (.long ((v1 <<< (Int32.toInt64 (8 : Int32) &&& 63)) ||| (Int32.toInt64 x1))), none, some (.int (v3 + (1 : Int32)))]) (st' := []) [.i2l, .lor, .lstore_n 1, .iinc 3 1] (by decide +kernel) rfl rfl ?_
          refine wx_goto 7 (off := -46) (by decide +kernel) (by decide) ?_
          exact h7 ((v1 <<< (Int32.toInt64 (8 : Int32) &&& 63)) ||| (Int32.toInt64 x1)) (v3 + (1 : Int32))
def f12_word_j56 (μ : xMu) (v1 : Int64) : Option Int64 :=
  (some v1)
set_option maxHeartbeats 4000000 in
set_option maxRecDepth 100000 in
theorem l_f12_word_j56 (G : xG) (d : Nat) (hd : 0 ≤ d) (μ : xMu) (v1 : Int64) : Wx G m12_word d 56 [none, some (.long v1), none, none] [] μ (x_wl μ) (f12_word_j56 μ v1) := by
  unfold f12_word_j56
  refine wx_blk (pc' := 57) (L' := [none, some (.long v1), none, none]) (st' := [.long v1]) [.lload_n 1] (by decide +kernel) rfl rfl ?_
  exact wx_lret rfl rfl (by decide +kernel)
def f12_word (μ : xMu) : Option Int64 :=
  (f12_word_l7 μ (fun (y2 : Int64) => (f12_word_j56 μ y2)) 1000 (0 : Int64) (μ 162 31))
set_option maxHeartbeats 4000000 in
set_option maxRecDepth 100000 in
theorem l_f12_word (G : xG) (d : Nat) (hd : 0 ≤ d) (μ : xMu) : Mx G m12_word d [.ref 162] μ (x_wl μ) (f12_word μ) := by
  refine mx_enter ok12_word [some (.ref 162), none, none, none] rfl (Nat.le_of_ble_eq_true rfl) ?_
  unfold f12_word
  refine wx_blk (pc' := 3) (L' := [some (.ref 162), some (.long (0 : Int64)), none, none]) (st' := [.ref 162]) [.lconst 0, .lstore_n 1, .aload_n 0] (by decide +kernel) rfl rfl ?_
  refine wx_geti is_162 ff_12_174 rfl (by decide +kernel) ?_
  refine wx_blk (pc' := 7) (L' := [some (.ref 162), some (.long (0 : Int64)), none, some (.int (μ 162 31))]) (st' := []) [.istore_n 3] (by decide +kernel) rfl rfl ?_
  refine l_f12_word_l7 G d hd μ _ ?_ 1000 (0 : Int64) (μ 162 31)
  · intro y2
    refine l_f12_word_j56 G d hd μ y2
/-! WakingLayersModel.numberTo(I)I -/
def f12_numberTo_l16 (k53 : Int32 → Int32 → xMu → Option (Int32 × xMu)) : Nat → Int32 → Int32 → Int32 → xMu → Option (Int32 × xMu)
  | 0, _, _, _, _ => none
  | n + 1, v1, v2, v3, μ =>
  (if (μ 162 32) ≤ v3 then
(k53 v1 v2 μ)
else
(if (μ 162 30) = (3 : Int32) then
(x_ald μ 182 600 v3 fun x1 =>
((f12_numberTo_l16 k53 n) v1 ((((10 : Int32) * v2) + x1) - (48 : Int32)) (v3 + (1 : Int32)) μ))
else
(k53 v1 v2 μ)))
set_option maxHeartbeats 4000000 in
set_option maxRecDepth 100000 in
theorem l_f12_numberTo_l16 (G : xG) (d : Nat) (hd : 3 ≤ d) (k53 : Int32 → Int32 → xMu → Option (Int32 × xMu)) (h53 : ∀ (v1 : Int32) (v2 : Int32) (μ1 : xMu), Wx G m12_numberTo d 53 [some (.ref 162), some (.int v1), some (.int v2), none] [] μ1 x_wim (k53 v1 v2 μ1)) : ∀ (n : Nat) (v1 : Int32) (v2 : Int32) (v3 : Int32) (μ : xMu), Wx G m12_numberTo d 16 [some (.ref 162), some (.int v1), some (.int v2), some (.int v3)] [] μ x_wim (f12_numberTo_l16 k53 n v1 v2 v3 μ) := by
  intro n
  induction n with
  | zero => intro v1 v2 v3 μ; exact wx_none
  | succ n h16 =>
    intro v1 v2 v3 μ
    unfold f12_numberTo_l16
    refine wx_blk (pc' := 18) (L' := [some (.ref 162), some (.int v1), some (.int v2), some (.int v3)]) (st' := [.ref 162, .int v3]) [.iload_n 3, .aload_n 0] (by decide +kernel) rfl rfl ?_
    refine wx_geti is_162 ff_12_189 rfl (by decide +kernel) ?_
    refine wx_ic_ge 53 (off := 32) (by decide +kernel) (by decide) ?_ ?_
    · refine wx_weak (L' := [some (.ref 162), some (.int v1), some (.int v2), none]) ⟨rfl, ⟨rfl, ⟨rfl, trivial⟩⟩⟩ ?_
      exact h53 v1 v2 μ
    · refine wx_blk (pc' := 25) (L' := [some (.ref 162), some (.int v1), some (.int v2), some (.int v3)]) (st' := [.ref 162]) [.aload_n 0] (by decide +kernel) rfl rfl ?_
      refine wx_geti is_162 ff_12_177 rfl (by decide +kernel) ?_
      refine wx_blk (pc' := 29) (L' := [some (.ref 162), some (.int v1), some (.int v2), some (.int v3)]) (st' := [.int (3 : Int32), .int (μ 162 30)]) [.iconst 3] (by decide +kernel) rfl rfl ?_
      refine wx_ic_ne 53 (off := 24) (by decide +kernel) (by decide) ?_ ?_
      · refine wx_weak (L' := [some (.ref 162), some (.int v1), some (.int v2), none]) ⟨rfl, ⟨rfl, ⟨rfl, trivial⟩⟩⟩ ?_
        exact h53 v1 v2 μ
      · refine wx_blk (pc' := 37) (L' := [some (.ref 162), some (.int v1), some (.int v2), some (.int v3)]) (st' := [.ref 162, .int ((10 : Int32) * v2)]) [.bipush 10, .iload_n 2, .imul, .aload_n 0] (by decide +kernel) rfl rfl ?_
        refine wx_getr is_162 ff_12_67 rfl rf_162_25 (by decide +kernel) ?_
        refine wx_blk (pc' := 41) (L' := [some (.ref 162), some (.int v1), some (.int v2), some (.int v3)]) (st' := [.int v3, .ref 182, .int ((10 : Int32) * v2)]) [.iload_n 3] (by decide +kernel) rfl rfl ?_
        refine wx_ald is_182 sz_182 (by decide +kernel) (fun x1 => ?_)
        refine wx_blk (pc' := 50) (L' := [some (.ref 162), some (.int v1), some (.int ((((10 : Int32) * v2) + x1) - (48 : Int32))), some (.int (v3 + (1 : Int32)))]) (st' := []) [.iadd, .bipush 48, .isub, .istore_n 2, .iinc 3 1] (by decide +kernel) rfl rfl ?_
        refine wx_goto 16 (off := -34) (by decide +kernel) (by decide) ?_
        exact h16 v1 ((((10 : Int32) * v2) + x1) - (48 : Int32)) (v3 + (1 : Int32)) μ
def f12_numberTo_j85 (v2 : Int32) (s1 : Int32) (μ : xMu) : Option (Int32 × xMu) :=
  ((f12_must s1 μ).bind fun μ5 =>
(some (v2, μ5)))
set_option maxHeartbeats 4000000 in
set_option maxRecDepth 100000 in
theorem l_f12_numberTo_j85 (G : xG) (d : Nat) (hd : 3 ≤ d) (v2 : Int32) (s1 : Int32) (μ : xMu) : Wx G m12_numberTo d 85 [none, none, some (.int v2), none] [.int s1, .ref 162] μ x_wim (f12_numberTo_j85 v2 s1 μ) := by
  unfold f12_numberTo_j85
  refine wx_callV (d1 := 2) (As := [.int s1]) (rest := []) (by omega) is_162 (by decide) rfl cv_12_205 rfl (Nat.le_of_ble_eq_true rfl) (l_f12_must G 2 (by omega) s1 μ) rfl (by decide +kernel) (fun μ5 => ?_)
  refine wx_blk (pc' := 89) (L' := [none, none, some (.int v2), none]) (st' := [.int v2]) [.iload_n 2] (by decide +kernel) rfl rfl ?_
  exact wx_iret rfl rfl (by decide +kernel)
def f12_numberTo_j71 (v2 : Int32) (μ : xMu) : Option (Int32 × xMu) :=
  (if (μ 162 30) = (3 : Int32) then
(f12_numberTo_j85 v2 (1 : Int32) μ)
else
(f12_numberTo_j85 v2 (0 : Int32) μ))
set_option maxHeartbeats 4000000 in
set_option maxRecDepth 100000 in
theorem l_f12_numberTo_j71 (G : xG) (d : Nat) (hd : 3 ≤ d) (v2 : Int32) (μ : xMu) : Wx G m12_numberTo d 71 [some (.ref 162), none, some (.int v2), none] [] μ x_wim (f12_numberTo_j71 v2 μ) := by
  unfold f12_numberTo_j71
  refine wx_blk (pc' := 73) (L' := [some (.ref 162), none, some (.int v2), none]) (st' := [.ref 162, .ref 162]) [.aload_n 0, .aload_n 0] (by decide +kernel) rfl rfl ?_
  refine wx_geti is_162 ff_12_177 rfl (by decide +kernel) ?_
  refine wx_blk (pc' := 77) (L' := [some (.ref 162), none, some (.int v2), none]) (st' := [.int (3 : Int32), .int (μ 162 30), .ref 162]) [.iconst 3] (by decide +kernel) rfl rfl ?_
  refine wx_ic_ne 84 (off := 7) (by decide +kernel) (by decide) ?_ ?_
  · refine wx_blk (pc' := 85) (L' := [some (.ref 162), none, some (.int v2), none]) (st' := [.int (0 : Int32), .ref 162]) [.iconst 0] (by decide +kernel) rfl rfl ?_
    refine wx_weak (L' := [none, none, some (.int v2), none]) ⟨rfl, trivial⟩ ?_
    refine l_f12_numberTo_j85 G d hd v2 (0 : Int32) μ
  · refine wx_blk (pc' := 81) (L' := [some (.ref 162), none, some (.int v2), none]) (st' := [.int (1 : Int32), .ref 162]) [.iconst 1] (by decide +kernel) rfl rfl ?_
    refine wx_goto 85 (off := 4) (by decide +kernel) (by decide) ?_
    refine wx_weak (L' := [none, none, some (.int v2), none]) ⟨rfl, trivial⟩ ?_
    refine l_f12_numberTo_j85 G d hd v2 (1 : Int32) μ
def f12_numberTo_j53 (v1 : Int32) (v2 : Int32) (μ : xMu) : Option (Int32 × xMu) :=
  (if (μ 162 30) = (3 : Int32) then
(if v2 ≤ v1 then
(f12_numberTo_j71 v2 μ)
else
((f12_bad (2 : Int32) μ).bind fun μ6 =>
(f12_numberTo_j71 v2 μ6)))
else
(f12_numberTo_j71 v2 μ))
set_option maxHeartbeats 4000000 in
set_option maxRecDepth 100000 in
theorem l_f12_numberTo_j53 (G : xG) (d : Nat) (hd : 3 ≤ d) (v1 : Int32) (v2 : Int32) (μ : xMu) : Wx G m12_numberTo d 53 [some (.ref 162), some (.int v1), some (.int v2), none] [] μ x_wim (f12_numberTo_j53 v1 v2 μ) := by
  unfold f12_numberTo_j53
  refine wx_blk (pc' := 54) (L' := [some (.ref 162), some (.int v1), some (.int v2), none]) (st' := [.ref 162]) [.aload_n 0] (by decide +kernel) rfl rfl ?_
  refine wx_geti is_162 ff_12_177 rfl (by decide +kernel) ?_
  refine wx_blk (pc' := 58) (L' := [some (.ref 162), some (.int v1), some (.int v2), none]) (st' := [.int (3 : Int32), .int (μ 162 30)]) [.iconst 3] (by decide +kernel) rfl rfl ?_
  refine wx_ic_ne 71 (off := 13) (by decide +kernel) (by decide) ?_ ?_
  · refine wx_weak (L' := [some (.ref 162), none, some (.int v2), none]) ⟨rfl, ⟨rfl, trivial⟩⟩ ?_
    refine l_f12_numberTo_j71 G d hd v2 μ
  · refine wx_blk (pc' := 63) (L' := [some (.ref 162), some (.int v1), some (.int v2), none]) (st' := [.int v1, .int v2]) [.iload_n 2, .iload_n 1] (by decide +kernel) rfl rfl ?_
    refine wx_ic_le 71 (off := 8) (by decide +kernel) (by decide) ?_ ?_
    · refine wx_weak (L' := [some (.ref 162), none, some (.int v2), none]) ⟨rfl, ⟨rfl, trivial⟩⟩ ?_
      refine l_f12_numberTo_j71 G d hd v2 μ
    · refine wx_blk (pc' := 68) (L' := [some (.ref 162), some (.int v1), some (.int v2), none]) (st' := [.int (2 : Int32), .ref 162]) [.aload_n 0, .iconst 2] (by decide +kernel) rfl rfl ?_
      refine wx_callV (d1 := 0) (As := [.int (2 : Int32)]) (rest := []) (by omega) is_162 (by decide) rfl cv_12_198 rfl (Nat.le_of_ble_eq_true rfl) (l_f12_bad G 0 (by omega) (2 : Int32) μ) rfl (by decide +kernel) (fun μ6 => ?_)
      refine wx_weak (L' := [some (.ref 162), none, some (.int v2), none]) ⟨rfl, ⟨rfl, trivial⟩⟩ ?_
      refine l_f12_numberTo_j71 G d hd v2 μ6
def f12_numberTo (v1 : Int32) (μ : xMu) : Option (Int32 × xMu) :=
  (if (μ 162 33) ≤ 0 then
(f12_numberTo_l16 (fun (y2 : Int32) (y3 : Int32) (μ4 : xMu) => (f12_numberTo_j53 y2 y3 μ4)) 1000 v1 (0 : Int32) (μ 162 31) μ)
else
(some ((0 : Int32), μ)))
set_option maxHeartbeats 4000000 in
set_option maxRecDepth 100000 in
theorem l_f12_numberTo (G : xG) (d : Nat) (hd : 3 ≤ d) (v1 : Int32) (μ : xMu) : Mx G m12_numberTo d [.ref 162, .int v1] μ x_wim (f12_numberTo v1 μ) := by
  refine mx_enter ok12_numberTo [some (.ref 162), some (.int v1), none, none] rfl (Nat.le_of_ble_eq_true rfl) ?_
  unfold f12_numberTo
  refine wx_blk (pc' := 1) (L' := [some (.ref 162), some (.int v1), none, none]) (st' := [.ref 162]) [.aload_n 0] (by decide +kernel) rfl rfl ?_
  refine wx_geti is_162 ff_12_192 rfl (by decide +kernel) ?_
  refine wx_if_le 9 (off := 5) (by decide +kernel) (by decide) ?_ ?_
  · refine wx_blk (pc' := 12) (L' := [some (.ref 162), some (.int v1), some (.int (0 : Int32)), none]) (st' := [.ref 162]) [.iconst 0, .istore_n 2, .aload_n 0] (by decide +kernel) rfl rfl ?_
    refine wx_geti is_162 ff_12_174 rfl (by decide +kernel) ?_
    refine wx_blk (pc' := 16) (L' := [some (.ref 162), some (.int v1), some (.int (0 : Int32)), some (.int (μ 162 31))]) (st' := []) [.istore_n 3] (by decide +kernel) rfl rfl ?_
    refine l_f12_numberTo_l16 G d hd _ ?_ 1000 v1 (0 : Int32) (μ 162 31) μ
    · intro y2 y3 μ4
      refine l_f12_numberTo_j53 G d hd y2 y3 μ4
  · refine wx_blk (pc' := 8) (L' := [some (.ref 162), some (.int v1), none, none]) (st' := [.int (0 : Int32)]) [.iconst 0] (by decide +kernel) rfl rfl ?_
    exact wx_iret rfl rfl (by decide +kernel)
/-! WakingLayersModel.sortOfWord()I -/
def f12_sortOfWord (μ : xMu) : Option Int32 :=
  ((f12_word μ).bind fun x1 =>
(if (lg_cmp x1 (1936744814 : Int64)) = 0 then
(some (0 : Int32))
else
(if (lg_cmp x1 (499967946343 : Int64)) = 0 then
(some (1 : Int32))
else
(if (lg_cmp x1 (6386539 : Int64)) = 0 then
(some (2 : Int32))
else
(if (lg_cmp x1 (1702258034 : Int64)) = 0 then
(some (3 : Int32))
else
(some (-1000000 : Int32)))))))
set_option maxHeartbeats 4000000 in
set_option maxRecDepth 100000 in
theorem l_f12_sortOfWord (G : xG) (d : Nat) (hd : 1 ≤ d) (μ : xMu) : Mx G m12_sortOfWord d [.ref 162] μ (x_wi μ) (f12_sortOfWord μ) := by
  refine mx_enter ok12_sortOfWord [some (.ref 162), none, none] rfl (Nat.le_of_ble_eq_true rfl) ?_
  unfold f12_sortOfWord
  refine wx_blk (pc' := 1) (L' := [some (.ref 162), none, none]) (st' := [.ref 162]) [.aload_n 0] (by decide +kernel) rfl rfl ?_
  refine wx_callV (d1 := 0) (As := []) (rest := []) (by omega) is_162 (by decide) rfl cv_12_209 rfl (Nat.le_of_ble_eq_true rfl) (l_f12_word G 0 (by omega) μ) rfl (by decide +kernel) (fun x1 => ?_)
  refine wx_blk (pc' := 6) (L' := [some (.ref 162), some (.long x1), none]) (st' := [.long x1]) [.lstore_n 1, .lload_n 1] (by decide +kernel) rfl rfl ?_
  refine wx_ldc2 (v := 1936744814) xw_1478 (by decide +kernel) ?_
  refine wx_blk (pc' := 10) (L' := [some (.ref 162), some (.long x1), none]) (st' := [.int (lg_cmp x1 (1936744814 : Int64))]) [.lcmp] (by decide +kernel) rfl rfl ?_
  refine wx_if_ne 17 (off := 7) (by decide +kernel) (by decide) ?_ ?_
  · refine wx_blk (pc' := 18) (L' := [some (.ref 162), some (.long x1), none]) (st' := [.long x1]) [.lload_n 1] (by decide +kernel) rfl rfl ?_
    refine wx_ldc2 (v := 499967946343) xw_1446 (by decide +kernel) ?_
    refine wx_blk (pc' := 22) (L' := [some (.ref 162), some (.long x1), none]) (st' := [.int (lg_cmp x1 (499967946343 : Int64))]) [.lcmp] (by decide +kernel) rfl rfl ?_
    refine wx_if_ne 29 (off := 7) (by decide +kernel) (by decide) ?_ ?_
    · refine wx_blk (pc' := 30) (L' := [some (.ref 162), some (.long x1), none]) (st' := [.long x1]) [.lload_n 1] (by decide +kernel) rfl rfl ?_
      refine wx_ldc2 (v := 6386539) xw_1479 (by decide +kernel) ?_
      refine wx_blk (pc' := 34) (L' := [some (.ref 162), some (.long x1), none]) (st' := [.int (lg_cmp x1 (6386539 : Int64))]) [.lcmp] (by decide +kernel) rfl rfl ?_
      refine wx_if_ne 41 (off := 7) (by decide +kernel) (by decide) ?_ ?_
      · refine wx_blk (pc' := 42) (L' := [some (.ref 162), some (.long x1), none]) (st' := [.long x1]) [.lload_n 1] (by decide +kernel) rfl rfl ?_
        refine wx_ldc2 (v := 1702258034) xw_1480 (by decide +kernel) ?_
        refine wx_blk (pc' := 46) (L' := [some (.ref 162), some (.long x1), none]) (st' := [.int (lg_cmp x1 (1702258034 : Int64))]) [.lcmp] (by decide +kernel) rfl rfl ?_
        refine wx_if_ne 53 (off := 7) (by decide +kernel) (by decide) ?_ ?_
        · refine wx_ldc (v := -1000000) xw_1431 (by decide +kernel) ?_
          exact wx_iret rfl rfl (by decide +kernel)
        · refine wx_blk (pc' := 50) (L' := [some (.ref 162), some (.long x1), none]) (st' := [.int (3 : Int32)]) [.iconst 3] (by decide +kernel) rfl rfl ?_
          refine wx_goto 55 (off := 5) (by decide +kernel) (by decide) ?_
          exact wx_iret rfl rfl (by decide +kernel)
      · refine wx_blk (pc' := 38) (L' := [some (.ref 162), some (.long x1), none]) (st' := [.int (2 : Int32)]) [.iconst 2] (by decide +kernel) rfl rfl ?_
        refine wx_goto 55 (off := 17) (by decide +kernel) (by decide) ?_
        exact wx_iret rfl rfl (by decide +kernel)
    · refine wx_blk (pc' := 26) (L' := [some (.ref 162), some (.long x1), none]) (st' := [.int (1 : Int32)]) [.iconst 1] (by decide +kernel) rfl rfl ?_
      refine wx_goto 55 (off := 29) (by decide +kernel) (by decide) ?_
      exact wx_iret rfl rfl (by decide +kernel)
  · refine wx_blk (pc' := 14) (L' := [some (.ref 162), some (.long x1), none]) (st' := [.int (0 : Int32)]) [.iconst 0] (by decide +kernel) rfl rfl ?_
    refine wx_goto 55 (off := 41) (by decide +kernel) (by decide) ?_
    exact wx_iret rfl rfl (by decide +kernel)
/-! WakingLayersModel.wayOfWord()I -/
def f12_wayOfWord (μ : xMu) : Option Int32 :=
  ((f12_word μ).bind fun x1 =>
(if (lg_cmp x1 (108187649798757 : Int64)) = 0 then
(some (0 : Int32))
else
(if (lg_cmp x1 (108187682958948 : Int64)) = 0 then
(some (1 : Int32))
else
(if (lg_cmp x1 (107144124132964 : Int64)) = 0 then
(some (2 : Int32))
else
(if (lg_cmp x1 (29676314707714404 : Int64)) = 0 then
(some (3 : Int32))
else
(some (-1000000 : Int32)))))))
set_option maxHeartbeats 4000000 in
set_option maxRecDepth 100000 in
theorem l_f12_wayOfWord (G : xG) (d : Nat) (hd : 1 ≤ d) (μ : xMu) : Mx G m12_wayOfWord d [.ref 162] μ (x_wi μ) (f12_wayOfWord μ) := by
  refine mx_enter ok12_wayOfWord [some (.ref 162), none, none] rfl (Nat.le_of_ble_eq_true rfl) ?_
  unfold f12_wayOfWord
  refine wx_blk (pc' := 1) (L' := [some (.ref 162), none, none]) (st' := [.ref 162]) [.aload_n 0] (by decide +kernel) rfl rfl ?_
  refine wx_callV (d1 := 0) (As := []) (rest := []) (by omega) is_162 (by decide) rfl cv_12_209 rfl (Nat.le_of_ble_eq_true rfl) (l_f12_word G 0 (by omega) μ) rfl (by decide +kernel) (fun x1 => ?_)
  refine wx_blk (pc' := 6) (L' := [some (.ref 162), some (.long x1), none]) (st' := [.long x1]) [.lstore_n 1, .lload_n 1] (by decide +kernel) rfl rfl ?_
  refine wx_ldc2 (v := 108187649798757) xw_1496 (by decide +kernel) ?_
  refine wx_blk (pc' := 10) (L' := [some (.ref 162), some (.long x1), none]) (st' := [.int (lg_cmp x1 (108187649798757 : Int64))]) [.lcmp] (by decide +kernel) rfl rfl ?_
  refine wx_if_ne 17 (off := 7) (by decide +kernel) (by decide) ?_ ?_
  · refine wx_blk (pc' := 18) (L' := [some (.ref 162), some (.long x1), none]) (st' := [.long x1]) [.lload_n 1] (by decide +kernel) rfl rfl ?_
    refine wx_ldc2 (v := 108187682958948) xw_1497 (by decide +kernel) ?_
    refine wx_blk (pc' := 22) (L' := [some (.ref 162), some (.long x1), none]) (st' := [.int (lg_cmp x1 (108187682958948 : Int64))]) [.lcmp] (by decide +kernel) rfl rfl ?_
    refine wx_if_ne 29 (off := 7) (by decide +kernel) (by decide) ?_ ?_
    · refine wx_blk (pc' := 30) (L' := [some (.ref 162), some (.long x1), none]) (st' := [.long x1]) [.lload_n 1] (by decide +kernel) rfl rfl ?_
      refine wx_ldc2 (v := 107144124132964) xw_1498 (by decide +kernel) ?_
      refine wx_blk (pc' := 34) (L' := [some (.ref 162), some (.long x1), none]) (st' := [.int (lg_cmp x1 (107144124132964 : Int64))]) [.lcmp] (by decide +kernel) rfl rfl ?_
      refine wx_if_ne 41 (off := 7) (by decide +kernel) (by decide) ?_ ?_
      · refine wx_blk (pc' := 42) (L' := [some (.ref 162), some (.long x1), none]) (st' := [.long x1]) [.lload_n 1] (by decide +kernel) rfl rfl ?_
        refine wx_ldc2 (v := 29676314707714404) xw_1499 (by decide +kernel) ?_
        refine wx_blk (pc' := 46) (L' := [some (.ref 162), some (.long x1), none]) (st' := [.int (lg_cmp x1 (29676314707714404 : Int64))]) [.lcmp] (by decide +kernel) rfl rfl ?_
        refine wx_if_ne 53 (off := 7) (by decide +kernel) (by decide) ?_ ?_
        · refine wx_ldc (v := -1000000) xw_1431 (by decide +kernel) ?_
          exact wx_iret rfl rfl (by decide +kernel)
        · refine wx_blk (pc' := 50) (L' := [some (.ref 162), some (.long x1), none]) (st' := [.int (3 : Int32)]) [.iconst 3] (by decide +kernel) rfl rfl ?_
          refine wx_goto 55 (off := 5) (by decide +kernel) (by decide) ?_
          exact wx_iret rfl rfl (by decide +kernel)
      · refine wx_blk (pc' := 38) (L' := [some (.ref 162), some (.long x1), none]) (st' := [.int (2 : Int32)]) [.iconst 2] (by decide +kernel) rfl rfl ?_
        refine wx_goto 55 (off := 17) (by decide +kernel) (by decide) ?_
        exact wx_iret rfl rfl (by decide +kernel)
    · refine wx_blk (pc' := 26) (L' := [some (.ref 162), some (.long x1), none]) (st' := [.int (1 : Int32)]) [.iconst 1] (by decide +kernel) rfl rfl ?_
      refine wx_goto 55 (off := 29) (by decide +kernel) (by decide) ?_
      exact wx_iret rfl rfl (by decide +kernel)
  · refine wx_blk (pc' := 14) (L' := [some (.ref 162), some (.long x1), none]) (st' := [.int (0 : Int32)]) [.iconst 0] (by decide +kernel) rfl rfl ?_
    refine wx_goto 55 (off := 41) (by decide +kernel) (by decide) ?_
    exact wx_iret rfl rfl (by decide +kernel)
/-! WakingLayersModel.actOfWord(I)I -/
def f12_actOfWord_j92 (μ : xMu) (v1 : Int32) (s0 : Int32) : Option Int32 :=
  (if s0 = (3 : Int32) then
(if v1 = (2 : Int32) then
(some s0)
else
(some (-1000000 : Int32)))
else
(some s0))
set_option maxHeartbeats 4000000 in
set_option maxRecDepth 100000 in
theorem l_f12_actOfWord_j92 (G : xG) (d : Nat) (hd : 1 ≤ d) (μ : xMu) (v1 : Int32) (s0 : Int32) : Wx G m12_actOfWord d 92 [none, some (.int v1), none, none, none] [.int s0] μ (x_wi μ) (f12_actOfWord_j92 μ v1 s0) := by
  unfold f12_actOfWord_j92
  refine wx_blk (pc' := 97) (L' := [none, some (.int v1), none, none, some (.int s0)]) (st' := [.int (3 : Int32), .int s0]) [.istore 4, .iload 4, .iconst 3] (by decide +kernel) rfl rfl ?_
  refine wx_ic_ne 110 (off := 13) (by decide +kernel) (by decide) ?_ ?_
  · refine wx_blk (pc' := 112) (L' := [none, some (.int v1), none, none, some (.int s0)]) (st' := [.int s0]) [.iload 4] (by decide +kernel) rfl rfl ?_
    exact wx_iret rfl rfl (by decide +kernel)
  · refine wx_blk (pc' := 102) (L' := [none, some (.int v1), none, none, some (.int s0)]) (st' := [.int (2 : Int32), .int v1]) [.iload_n 1, .iconst 2] (by decide +kernel) rfl rfl ?_
    refine wx_ic_eq 110 (off := 8) (by decide +kernel) (by decide) ?_ ?_
    · refine wx_blk (pc' := 112) (L' := [none, some (.int v1), none, none, some (.int s0)]) (st' := [.int s0]) [.iload 4] (by decide +kernel) rfl rfl ?_
      exact wx_iret rfl rfl (by decide +kernel)
    · refine wx_ldc (v := -1000000) xw_1431 (by decide +kernel) ?_
      refine wx_goto 112 (off := 5) (by decide +kernel) (by decide) ?_
      exact wx_iret rfl rfl (by decide +kernel)
def f12_actOfWord (μ : xMu) (v1 : Int32) : Option Int32 :=
  ((f12_word μ).bind fun x1 =>
(if (lg_cmp x1 (6382692 : Int64)) = 0 then
(f12_actOfWord_j92 μ v1 (0 : Int32))
else
(if (lg_cmp x1 (7173484 : Int64)) = 0 then
(f12_actOfWord_j92 μ v1 (1 : Int32))
else
(if (lg_cmp x1 (7305070 : Int64)) = 0 then
(f12_actOfWord_j92 μ v1 (2 : Int32))
else
(if (lg_cmp x1 (31651020126119268 : Int64)) = 0 then
(f12_actOfWord_j92 μ v1 (3 : Int32))
else
(if (lg_cmp x1 (1667329132 : Int64)) = 0 then
(f12_actOfWord_j92 μ v1 (4 : Int32))
else
(if (lg_cmp x1 (2002873189 : Int64)) = 0 then
(f12_actOfWord_j92 μ v1 (5 : Int32))
else
(if (lg_cmp x1 (1717660012 : Int64)) = 0 then
(f12_actOfWord_j92 μ v1 (6 : Int32))
else
(f12_actOfWord_j92 μ v1 (-1000000 : Int32))))))))))
set_option maxHeartbeats 4000000 in
set_option maxRecDepth 100000 in
theorem l_f12_actOfWord (G : xG) (d : Nat) (hd : 1 ≤ d) (μ : xMu) (v1 : Int32) : Mx G m12_actOfWord d [.ref 162, .int v1] μ (x_wi μ) (f12_actOfWord μ v1) := by
  refine mx_enter ok12_actOfWord [some (.ref 162), some (.int v1), none, none, none] rfl (Nat.le_of_ble_eq_true rfl) ?_
  unfold f12_actOfWord
  refine wx_blk (pc' := 1) (L' := [some (.ref 162), some (.int v1), none, none, none]) (st' := [.ref 162]) [.aload_n 0] (by decide +kernel) rfl rfl ?_
  refine wx_callV (d1 := 0) (As := []) (rest := []) (by omega) is_162 (by decide) rfl cv_12_209 rfl (Nat.le_of_ble_eq_true rfl) (l_f12_word G 0 (by omega) μ) rfl (by decide +kernel) (fun x1 => ?_)
  refine wx_blk (pc' := 6) (L' := [some (.ref 162), some (.int v1), some (.long x1), none, none]) (st' := [.long x1]) [.lstore_n 2, .lload_n 2] (by decide +kernel) rfl rfl ?_
  refine wx_ldc2 (v := 6382692) xw_1504 (by decide +kernel) ?_
  refine wx_blk (pc' := 10) (L' := [some (.ref 162), some (.int v1), some (.long x1), none, none]) (st' := [.int (lg_cmp x1 (6382692 : Int64))]) [.lcmp] (by decide +kernel) rfl rfl ?_
  refine wx_if_ne 17 (off := 7) (by decide +kernel) (by decide) ?_ ?_
  · refine wx_blk (pc' := 18) (L' := [some (.ref 162), some (.int v1), some (.long x1), none, none]) (st' := [.long x1]) [.lload_n 2] (by decide +kernel) rfl rfl ?_
    refine wx_ldc2 (v := 7173484) xw_1505 (by decide +kernel) ?_
    refine wx_blk (pc' := 22) (L' := [some (.ref 162), some (.int v1), some (.long x1), none, none]) (st' := [.int (lg_cmp x1 (7173484 : Int64))]) [.lcmp] (by decide +kernel) rfl rfl ?_
    refine wx_if_ne 29 (off := 7) (by decide +kernel) (by decide) ?_ ?_
    · refine wx_blk (pc' := 30) (L' := [some (.ref 162), some (.int v1), some (.long x1), none, none]) (st' := [.long x1]) [.lload_n 2] (by decide +kernel) rfl rfl ?_
      refine wx_ldc2 (v := 7305070) xw_1506 (by decide +kernel) ?_
      refine wx_blk (pc' := 34) (L' := [some (.ref 162), some (.int v1), some (.long x1), none, none]) (st' := [.int (lg_cmp x1 (7305070 : Int64))]) [.lcmp] (by decide +kernel) rfl rfl ?_
      refine wx_if_ne 41 (off := 7) (by decide +kernel) (by decide) ?_ ?_
      · refine wx_blk (pc' := 42) (L' := [some (.ref 162), some (.int v1), some (.long x1), none, none]) (st' := [.long x1]) [.lload_n 2] (by decide +kernel) rfl rfl ?_
        refine wx_ldc2 (v := 31651020126119268) xw_1507 (by decide +kernel) ?_
        refine wx_blk (pc' := 46) (L' := [some (.ref 162), some (.int v1), some (.long x1), none, none]) (st' := [.int (lg_cmp x1 (31651020126119268 : Int64))]) [.lcmp] (by decide +kernel) rfl rfl ?_
        refine wx_if_ne 53 (off := 7) (by decide +kernel) (by decide) ?_ ?_
        · refine wx_blk (pc' := 54) (L' := [some (.ref 162), some (.int v1), some (.long x1), none, none]) (st' := [.long x1]) [.lload_n 2] (by decide +kernel) rfl rfl ?_
          refine wx_ldc2 (v := 1667329132) xw_1508 (by decide +kernel) ?_
          refine wx_blk (pc' := 58) (L' := [some (.ref 162), some (.int v1), some (.long x1), none, none]) (st' := [.int (lg_cmp x1 (1667329132 : Int64))]) [.lcmp] (by decide +kernel) rfl rfl ?_
          refine wx_if_ne 65 (off := 7) (by decide +kernel) (by decide) ?_ ?_
          · refine wx_blk (pc' := 66) (L' := [some (.ref 162), some (.int v1), some (.long x1), none, none]) (st' := [.long x1]) [.lload_n 2] (by decide +kernel) rfl rfl ?_
            refine wx_ldc2 (v := 2002873189) xw_1509 (by decide +kernel) ?_
            refine wx_blk (pc' := 70) (L' := [some (.ref 162), some (.int v1), some (.long x1), none, none]) (st' := [.int (lg_cmp x1 (2002873189 : Int64))]) [.lcmp] (by decide +kernel) rfl rfl ?_
            refine wx_if_ne 77 (off := 7) (by decide +kernel) (by decide) ?_ ?_
            · refine wx_blk (pc' := 78) (L' := [some (.ref 162), some (.int v1), some (.long x1), none, none]) (st' := [.long x1]) [.lload_n 2] (by decide +kernel) rfl rfl ?_
              refine wx_ldc2 (v := 1717660012) xw_1510 (by decide +kernel) ?_
              refine wx_blk (pc' := 82) (L' := [some (.ref 162), some (.int v1), some (.long x1), none, none]) (st' := [.int (lg_cmp x1 (1717660012 : Int64))]) [.lcmp] (by decide +kernel) rfl rfl ?_
              refine wx_if_ne 90 (off := 8) (by decide +kernel) (by decide) ?_ ?_
              · refine wx_ldc (v := -1000000) xw_1431 (by decide +kernel) ?_
                refine wx_weak (L' := [none, some (.int v1), none, none, none]) ⟨rfl, trivial⟩ ?_
                refine l_f12_actOfWord_j92 G d hd μ v1 (-1000000 : Int32)
              · refine wx_blk (pc' := 87) (L' := [some (.ref 162), some (.int v1), some (.long x1), none, none]) (st' := [.int (6 : Int32)]) [.bipush 6] (by decide +kernel) rfl rfl ?_
                refine wx_goto 92 (off := 5) (by decide +kernel) (by decide) ?_
                refine wx_weak (L' := [none, some (.int v1), none, none, none]) ⟨rfl, trivial⟩ ?_
                refine l_f12_actOfWord_j92 G d hd μ v1 (6 : Int32)
            · refine wx_blk (pc' := 74) (L' := [some (.ref 162), some (.int v1), some (.long x1), none, none]) (st' := [.int (5 : Int32)]) [.iconst 5] (by decide +kernel) rfl rfl ?_
              refine wx_goto 92 (off := 18) (by decide +kernel) (by decide) ?_
              refine wx_weak (L' := [none, some (.int v1), none, none, none]) ⟨rfl, trivial⟩ ?_
              refine l_f12_actOfWord_j92 G d hd μ v1 (5 : Int32)
          · refine wx_blk (pc' := 62) (L' := [some (.ref 162), some (.int v1), some (.long x1), none, none]) (st' := [.int (4 : Int32)]) [.iconst 4] (by decide +kernel) rfl rfl ?_
            refine wx_goto 92 (off := 30) (by decide +kernel) (by decide) ?_
            refine wx_weak (L' := [none, some (.int v1), none, none, none]) ⟨rfl, trivial⟩ ?_
            refine l_f12_actOfWord_j92 G d hd μ v1 (4 : Int32)
        · refine wx_blk (pc' := 50) (L' := [some (.ref 162), some (.int v1), some (.long x1), none, none]) (st' := [.int (3 : Int32)]) [.iconst 3] (by decide +kernel) rfl rfl ?_
          refine wx_goto 92 (off := 42) (by decide +kernel) (by decide) ?_
          refine wx_weak (L' := [none, some (.int v1), none, none, none]) ⟨rfl, trivial⟩ ?_
          refine l_f12_actOfWord_j92 G d hd μ v1 (3 : Int32)
      · refine wx_blk (pc' := 38) (L' := [some (.ref 162), some (.int v1), some (.long x1), none, none]) (st' := [.int (2 : Int32)]) [.iconst 2] (by decide +kernel) rfl rfl ?_
        refine wx_goto 92 (off := 54) (by decide +kernel) (by decide) ?_
        refine wx_weak (L' := [none, some (.int v1), none, none, none]) ⟨rfl, trivial⟩ ?_
        refine l_f12_actOfWord_j92 G d hd μ v1 (2 : Int32)
    · refine wx_blk (pc' := 26) (L' := [some (.ref 162), some (.int v1), some (.long x1), none, none]) (st' := [.int (1 : Int32)]) [.iconst 1] (by decide +kernel) rfl rfl ?_
      refine wx_goto 92 (off := 66) (by decide +kernel) (by decide) ?_
      refine wx_weak (L' := [none, some (.int v1), none, none, none]) ⟨rfl, trivial⟩ ?_
      refine l_f12_actOfWord_j92 G d hd μ v1 (1 : Int32)
  · refine wx_blk (pc' := 14) (L' := [some (.ref 162), some (.int v1), some (.long x1), none, none]) (st' := [.int (0 : Int32)]) [.iconst 0] (by decide +kernel) rfl rfl ?_
    refine wx_goto 92 (off := 78) (by decide +kernel) (by decide) ?_
    refine wx_weak (L' := [none, some (.int v1), none, none, none]) ⟨rfl, trivial⟩ ?_
    refine l_f12_actOfWord_j92 G d hd μ v1 (0 : Int32)
/-! WakingLayersModel.readKind()V -/
def f12_readKind_j45 (μ : xMu) : Option xMu :=
  (x_put μ 162 35 ((μ 162 35) + (1 : Int32)) fun μ3 =>
(some μ3))
set_option maxHeartbeats 4000000 in
set_option maxRecDepth 100000 in
theorem l_f12_readKind_j45 (G : xG) (d : Nat) (hd : 4 ≤ d) (μ : xMu) : Wx G m12_readKind d 45 [some (.ref 162)] [] μ x_wv (f12_readKind_j45 μ) := by
  unfold f12_readKind_j45
  refine wx_blk (pc' := 47) (L' := [some (.ref 162)]) (st' := [.ref 162, .ref 162]) [.aload_n 0, .dup] (by decide +kernel) rfl rfl ?_
  refine wx_geti is_162 ff_12_243 rfl (by decide +kernel) ?_
  refine wx_blk (pc' := 52) (L' := [some (.ref 162)]) (st' := [.int ((μ 162 35) + (1 : Int32)), .ref 162]) [.iconst 1, .iadd] (by decide +kernel) rfl rfl ?_
  refine wx_put is_162 ff_12_243 fp_12_35 ⟨rfl, rfl⟩ (by decide +kernel) (fun μ3 => ?_)
  exact wx_vret rfl rfl (by decide +kernel)
def f12_readKind (μ : xMu) : Option xMu :=
  (x_ast μ 166 8 (μ 162 35) (-1000000 : Int32) fun μ1 =>
((f12_word μ1).bind fun x2 =>
(if (lg_cmp x2 (504363246962 : Int64)) = 0 then
((f12_step μ1).bind fun μ4 =>
((f12_numberTo ((μ4 162 35) - (1 : Int32)) μ4).bind fun q5 =>
(x_ast q5.2 166 8 (μ4 162 35) q5.1 fun μ6 =>
(f12_readKind_j45 μ6))))
else
(f12_readKind_j45 μ1))))
set_option maxHeartbeats 4000000 in
set_option maxRecDepth 100000 in
theorem l_f12_readKind (G : xG) (d : Nat) (hd : 4 ≤ d) (μ : xMu) : Mx G m12_readKind d [.ref 162] μ x_wv (f12_readKind μ) := by
  refine mx_enter ok12_readKind [some (.ref 162)] rfl (Nat.le_of_ble_eq_true rfl) ?_
  unfold f12_readKind
  refine wx_blk (pc' := 1) (L' := [some (.ref 162)]) (st' := [.ref 162]) [.aload_n 0] (by decide +kernel) rfl rfl ?_
  refine wx_getr is_162 ff_12_19 rfl rf_162_6 (by decide +kernel) ?_
  refine wx_blk (pc' := 5) (L' := [some (.ref 162)]) (st' := [.ref 162, .ref 166]) [.aload_n 0] (by decide +kernel) rfl rfl ?_
  refine wx_geti is_162 ff_12_243 rfl (by decide +kernel) ?_
  refine wx_ldc (v := -1000000) xw_1431 (by decide +kernel) ?_
  refine wx_ast is_166 sz_166 (by decide +kernel) (fun μ1 => ?_)
  refine wx_blk (pc' := 12) (L' := [some (.ref 162)]) (st' := [.ref 162]) [.aload_n 0] (by decide +kernel) rfl rfl ?_
  refine wx_callV (d1 := 0) (As := []) (rest := []) (by omega) is_162 (by decide) rfl cv_12_209 rfl (Nat.le_of_ble_eq_true rfl) (l_f12_word G 0 (by omega) μ1) rfl (by decide +kernel) (fun x2 => ?_)
  refine wx_ldc2 (v := 504363246962) xw_1461 (by decide +kernel) ?_
  refine wx_blk (pc' := 19) (L' := [some (.ref 162)]) (st' := [.int (lg_cmp x2 (504363246962 : Int64))]) [.lcmp] (by decide +kernel) rfl rfl ?_
  refine wx_if_ne 45 (off := 26) (by decide +kernel) (by decide) ?_ ?_
  · refine l_f12_readKind_j45 G d hd μ1
  · refine wx_blk (pc' := 23) (L' := [some (.ref 162)]) (st' := [.ref 162]) [.aload_n 0] (by decide +kernel) rfl rfl ?_
    refine wx_callV (d1 := 1) (As := []) (rest := []) (by omega) is_162 (by decide) rfl cv_12_202 rfl (Nat.le_of_ble_eq_true rfl) (l_f12_step G 1 (by omega) μ1) rfl (by decide +kernel) (fun μ4 => ?_)
    refine wx_blk (pc' := 27) (L' := [some (.ref 162)]) (st' := [.ref 162]) [.aload_n 0] (by decide +kernel) rfl rfl ?_
    refine wx_getr is_162 ff_12_19 rfl rf_162_6 (by decide +kernel) ?_
    refine wx_blk (pc' := 31) (L' := [some (.ref 162)]) (st' := [.ref 162, .ref 166]) [.aload_n 0] (by decide +kernel) rfl rfl ?_
    refine wx_geti is_162 ff_12_243 rfl (by decide +kernel) ?_
    refine wx_blk (pc' := 36) (L' := [some (.ref 162)]) (st' := [.ref 162, .ref 162, .int (μ4 162 35), .ref 166]) [.aload_n 0, .aload_n 0] (by decide +kernel) rfl rfl ?_
    refine wx_geti is_162 ff_12_243 rfl (by decide +kernel) ?_
    refine wx_blk (pc' := 41) (L' := [some (.ref 162)]) (st' := [.int ((μ4 162 35) - (1 : Int32)), .ref 162, .int (μ4 162 35), .ref 166]) [.iconst 1, .isub] (by decide +kernel) rfl rfl ?_
    refine wx_callV (d1 := 3) (As := [.int ((μ4 162 35) - (1 : Int32))]) (rest := [.int (μ4 162 35), .ref 166]) (by omega) is_162 (by decide) rfl cv_12_248 rfl (Nat.le_of_ble_eq_true rfl) (l_f12_numberTo G 3 (by omega) ((μ4 162 35) - (1 : Int32)) μ4) rfl (by decide +kernel) (fun q5 => ?_)
    refine wx_ast is_166 sz_166 (by decide +kernel) (fun μ6 => ?_)
    refine l_f12_readKind_j45 G d hd μ6
/-! WakingLayersModel.readThing()V -/
def f12_readThing (μ : xMu) : Option xMu :=
  ((f12_numberTo ((μ 162 35) - (1 : Int32)) μ).bind fun q1 =>
(x_ast q1.2 167 8 (μ 162 36) q1.1 fun μ2 =>
((f12_numberTo (99 : Int32) μ2).bind fun q3 =>
(x_ast q3.2 168 8 (μ2 162 36) q3.1 fun μ4 =>
(x_put μ4 162 36 ((μ4 162 36) + (1 : Int32)) fun μ5 =>
(some μ5))))))
set_option maxHeartbeats 4000000 in
set_option maxRecDepth 100000 in
theorem l_f12_readThing (G : xG) (d : Nat) (hd : 4 ≤ d) (μ : xMu) : Mx G m12_readThing d [.ref 162] μ x_wv (f12_readThing μ) := by
  refine mx_enter ok12_readThing [some (.ref 162)] rfl (Nat.le_of_ble_eq_true rfl) ?_
  unfold f12_readThing
  refine wx_blk (pc' := 1) (L' := [some (.ref 162)]) (st' := [.ref 162]) [.aload_n 0] (by decide +kernel) rfl rfl ?_
  refine wx_getr is_162 ff_12_22 rfl rf_162_8 (by decide +kernel) ?_
  refine wx_blk (pc' := 5) (L' := [some (.ref 162)]) (st' := [.ref 162, .ref 167]) [.aload_n 0] (by decide +kernel) rfl rfl ?_
  refine wx_geti is_162 ff_12_251 rfl (by decide +kernel) ?_
  refine wx_blk (pc' := 10) (L' := [some (.ref 162)]) (st' := [.ref 162, .ref 162, .int (μ 162 36), .ref 167]) [.aload_n 0, .aload_n 0] (by decide +kernel) rfl rfl ?_
  refine wx_geti is_162 ff_12_243 rfl (by decide +kernel) ?_
  refine wx_blk (pc' := 15) (L' := [some (.ref 162)]) (st' := [.int ((μ 162 35) - (1 : Int32)), .ref 162, .int (μ 162 36), .ref 167]) [.iconst 1, .isub] (by decide +kernel) rfl rfl ?_
  refine wx_callV (d1 := 3) (As := [.int ((μ 162 35) - (1 : Int32))]) (rest := [.int (μ 162 36), .ref 167]) (by omega) is_162 (by decide) rfl cv_12_248 rfl (Nat.le_of_ble_eq_true rfl) (l_f12_numberTo G 3 (by omega) ((μ 162 35) - (1 : Int32)) μ) rfl (by decide +kernel) (fun q1 => ?_)
  refine wx_ast is_167 sz_167 (by decide +kernel) (fun μ2 => ?_)
  refine wx_blk (pc' := 20) (L' := [some (.ref 162)]) (st' := [.ref 162]) [.aload_n 0] (by decide +kernel) rfl rfl ?_
  refine wx_getr is_162 ff_12_25 rfl rf_162_9 (by decide +kernel) ?_
  refine wx_blk (pc' := 24) (L' := [some (.ref 162)]) (st' := [.ref 162, .ref 168]) [.aload_n 0] (by decide +kernel) rfl rfl ?_
  refine wx_geti is_162 ff_12_251 rfl (by decide +kernel) ?_
  refine wx_blk (pc' := 30) (L' := [some (.ref 162)]) (st' := [.int (99 : Int32), .ref 162, .int (μ2 162 36), .ref 168]) [.aload_n 0, .bipush 99] (by decide +kernel) rfl rfl ?_
  refine wx_callV (d1 := 3) (As := [.int (99 : Int32)]) (rest := [.int (μ2 162 36), .ref 168]) (by omega) is_162 (by decide) rfl cv_12_248 rfl (Nat.le_of_ble_eq_true rfl) (l_f12_numberTo G 3 (by omega) (99 : Int32) μ2) rfl (by decide +kernel) (fun q3 => ?_)
  refine wx_ast is_168 sz_168 (by decide +kernel) (fun μ4 => ?_)
  refine wx_blk (pc' := 36) (L' := [some (.ref 162)]) (st' := [.ref 162, .ref 162]) [.aload_n 0, .dup] (by decide +kernel) rfl rfl ?_
  refine wx_geti is_162 ff_12_251 rfl (by decide +kernel) ?_
  refine wx_blk (pc' := 41) (L' := [some (.ref 162)]) (st' := [.int ((μ4 162 36) + (1 : Int32)), .ref 162]) [.iconst 1, .iadd] (by decide +kernel) rfl rfl ?_
  refine wx_put is_162 ff_12_251 fp_12_36 ⟨rfl, rfl⟩ (by decide +kernel) (fun μ5 => ?_)
  exact wx_vret rfl rfl (by decide +kernel)
/-! WakingLayersModel.readLayer()V -/
def f12_readLayer_j302 (k184 : Int32 → xMu → Option xMu) (v1 : Int32) (μ : xMu) : Option xMu :=
  (k184 v1 μ)
set_option maxHeartbeats 4000000 in
set_option maxRecDepth 100000 in
theorem l_f12_readLayer_j302 (G : xG) (d : Nat) (hd : 4 ≤ d) (k184 : Int32 → xMu → Option xMu) (h184 : ∀ (v1 : Int32) (μ1 : xMu), Wx G m12_readLayer d 184 [some (.ref 162), some (.int v1), none, none] [] μ1 x_wv (k184 v1 μ1)) (v1 : Int32) (μ : xMu) : Wx G m12_readLayer d 302 [some (.ref 162), some (.int v1), none, none] [] μ x_wv (f12_readLayer_j302 k184 v1 μ) := by
  unfold f12_readLayer_j302
  refine wx_goto 184 (off := -118) (by decide +kernel) (by decide) ?_
  exact h184 v1 μ
def f12_readLayer_j300 (k184 : Int32 → xMu → Option xMu) (v1 : Int32) (s1 : Int32) (s2 : Int32) (s3 : Int32) (μ : xMu) : Option xMu :=
  (x_ast μ 175 8 s1 (s2 ||| s3) fun μ18 =>
(f12_readLayer_j302 k184 v1 μ18))
set_option maxHeartbeats 4000000 in
set_option maxRecDepth 100000 in
theorem l_f12_readLayer_j300 (G : xG) (d : Nat) (hd : 4 ≤ d) (k184 : Int32 → xMu → Option xMu) (h184 : ∀ (v1 : Int32) (μ1 : xMu), Wx G m12_readLayer d 184 [some (.ref 162), some (.int v1), none, none] [] μ1 x_wv (k184 v1 μ1)) (v1 : Int32) (s1 : Int32) (s2 : Int32) (s3 : Int32) (μ : xMu) : Wx G m12_readLayer d 300 [some (.ref 162), some (.int v1), none, none] [.int s3, .int s2, .int s1, .ref 175] μ x_wv (f12_readLayer_j300 k184 v1 s1 s2 s3 μ) := by
  unfold f12_readLayer_j300
  refine wx_blk (pc' := 301) (L' := [some (.ref 162), some (.int v1), none, none]) (st' := [.int (s2 ||| s3), .int s1, .ref 175]) [.ior] (by decide +kernel) rfl rfl ?_
  refine wx_ast is_175 sz_175 (by decide +kernel) (fun μ18 => ?_)
  refine l_f12_readLayer_j302 G d hd _ h184 v1 μ18
def f12_readLayer_j280 (k184 : Int32 → xMu → Option xMu) (v1 : Int32) (v2 : Int32) (v3 : Int32) (s1 : Int32) (s2 : Int32) (s3 : Int32) (μ : xMu) : Option xMu :=
  (x_ast μ 174 8 s1 (s2 ||| s3) fun μ16 =>
(x_ald μ16 175 8 v1 fun x17 =>
(if v2 = 0 then
(f12_readLayer_j300 k184 v1 v1 x17 ((1 : Int32) <<< (v3 &&& 31)) μ16)
else
(f12_readLayer_j300 k184 v1 v1 x17 (0 : Int32) μ16))))
set_option maxHeartbeats 4000000 in
set_option maxRecDepth 100000 in
theorem l_f12_readLayer_j280 (G : xG) (d : Nat) (hd : 4 ≤ d) (k184 : Int32 → xMu → Option xMu) (h184 : ∀ (v1 : Int32) (μ1 : xMu), Wx G m12_readLayer d 184 [some (.ref 162), some (.int v1), none, none] [] μ1 x_wv (k184 v1 μ1)) (v1 : Int32) (v2 : Int32) (v3 : Int32) (s1 : Int32) (s2 : Int32) (s3 : Int32) (μ : xMu) : Wx G m12_readLayer d 280 [some (.ref 162), some (.int v1), some (.int v2), some (.int v3)] [.int s3, .int s2, .int s1, .ref 174] μ x_wv (f12_readLayer_j280 k184 v1 v2 v3 s1 s2 s3 μ) := by
  unfold f12_readLayer_j280
  refine wx_blk (pc' := 281) (L' := [some (.ref 162), some (.int v1), some (.int v2), some (.int v3)]) (st' := [.int (s2 ||| s3), .int s1, .ref 174]) [.ior] (by decide +kernel) rfl rfl ?_
  refine wx_ast is_174 sz_174 (by decide +kernel) (fun μ16 => ?_)
  refine wx_blk (pc' := 283) (L' := [some (.ref 162), some (.int v1), some (.int v2), some (.int v3)]) (st' := [.ref 162]) [.aload_n 0] (by decide +kernel) rfl rfl ?_
  refine wx_getr is_162 ff_12_46 rfl rf_162_17 (by decide +kernel) ?_
  refine wx_blk (pc' := 288) (L' := [some (.ref 162), some (.int v1), some (.int v2), some (.int v3)]) (st' := [.int v1, .ref 175, .int v1, .ref 175]) [.iload_n 1, .dup2] (by decide +kernel) rfl rfl ?_
  refine wx_ald is_175 sz_175 (by decide +kernel) (fun x17 => ?_)
  refine wx_blk (pc' := 290) (L' := [some (.ref 162), some (.int v1), some (.int v2), some (.int v3)]) (st' := [.int v2, .int x17, .int v1, .ref 175]) [.iload_n 2] (by decide +kernel) rfl rfl ?_
  refine wx_if_eq 297 (off := 7) (by decide +kernel) (by decide) ?_ ?_
  · refine wx_blk (pc' := 300) (L' := [some (.ref 162), some (.int v1), some (.int v2), some (.int v3)]) (st' := [.int ((1 : Int32) <<< (v3 &&& 31)), .int x17, .int v1, .ref 175]) [.iconst 1, .iload_n 3, .ishl] (by decide +kernel) rfl rfl ?_
    refine wx_weak (L' := [some (.ref 162), some (.int v1), none, none]) ⟨rfl, ⟨rfl, trivial⟩⟩ ?_
    refine l_f12_readLayer_j300 G d hd _ h184 v1 v1 x17 ((1 : Int32) <<< (v3 &&& 31)) μ16
  · refine wx_blk (pc' := 294) (L' := [some (.ref 162), some (.int v1), some (.int v2), some (.int v3)]) (st' := [.int (0 : Int32), .int x17, .int v1, .ref 175]) [.iconst 0] (by decide +kernel) rfl rfl ?_
    refine wx_goto 300 (off := 6) (by decide +kernel) (by decide) ?_
    refine wx_weak (L' := [some (.ref 162), some (.int v1), none, none]) ⟨rfl, ⟨rfl, trivial⟩⟩ ?_
    refine l_f12_readLayer_j300 G d hd _ h184 v1 v1 x17 (0 : Int32) μ16
def f12_readLayer_j239 (k184 : Int32 → xMu → Option xMu) (v1 : Int32) (s0 : Int32) (μ : xMu) : Option xMu :=
  ((f12_step μ).bind fun μ13 =>
((f12_numberTo ((μ13 162 37) - (1 : Int32)) μ13).bind fun q14 =>
(if (q14.2 162 33) = 0 then
(x_ald q14.2 174 8 v1 fun x15 =>
(if s0 = 0 then
(f12_readLayer_j280 k184 v1 s0 q14.1 v1 x15 (0 : Int32) q14.2)
else
(f12_readLayer_j280 k184 v1 s0 q14.1 v1 x15 ((1 : Int32) <<< (q14.1 &&& 31)) q14.2)))
else
(f12_readLayer_j302 k184 v1 q14.2))))
set_option maxHeartbeats 4000000 in
set_option maxRecDepth 100000 in
theorem l_f12_readLayer_j239 (G : xG) (d : Nat) (hd : 4 ≤ d) (k184 : Int32 → xMu → Option xMu) (h184 : ∀ (v1 : Int32) (μ1 : xMu), Wx G m12_readLayer d 184 [some (.ref 162), some (.int v1), none, none] [] μ1 x_wv (k184 v1 μ1)) (v1 : Int32) (s0 : Int32) (μ : xMu) : Wx G m12_readLayer d 239 [some (.ref 162), some (.int v1), none, none] [.int s0] μ x_wv (f12_readLayer_j239 k184 v1 s0 μ) := by
  unfold f12_readLayer_j239
  refine wx_blk (pc' := 241) (L' := [some (.ref 162), some (.int v1), some (.int s0), none]) (st' := [.ref 162]) [.istore_n 2, .aload_n 0] (by decide +kernel) rfl rfl ?_
  refine wx_callV (d1 := 1) (As := []) (rest := []) (by omega) is_162 (by decide) rfl cv_12_202 rfl (Nat.le_of_ble_eq_true rfl) (l_f12_step G 1 (by omega) μ) rfl (by decide +kernel) (fun μ13 => ?_)
  refine wx_blk (pc' := 246) (L' := [some (.ref 162), some (.int v1), some (.int s0), none]) (st' := [.ref 162, .ref 162]) [.aload_n 0, .aload_n 0] (by decide +kernel) rfl rfl ?_
  refine wx_geti is_162 ff_12_254 rfl (by decide +kernel) ?_
  refine wx_blk (pc' := 251) (L' := [some (.ref 162), some (.int v1), some (.int s0), none]) (st' := [.int ((μ13 162 37) - (1 : Int32)), .ref 162]) [.iconst 1, .isub] (by decide +kernel) rfl rfl ?_
  refine wx_callV (d1 := 3) (As := [.int ((μ13 162 37) - (1 : Int32))]) (rest := []) (by omega) is_162 (by decide) rfl cv_12_248 rfl (Nat.le_of_ble_eq_true rfl) (l_f12_numberTo G 3 (by omega) ((μ13 162 37) - (1 : Int32)) μ13) rfl (by decide +kernel) (fun q14 => ?_)
  refine wx_blk (pc' := 256) (L' := [some (.ref 162), some (.int v1), some (.int s0), some (.int q14.1)]) (st' := [.ref 162]) [.istore_n 3, .aload_n 0] (by decide +kernel) rfl rfl ?_
  refine wx_geti is_162 ff_12_192 rfl (by decide +kernel) ?_
  refine wx_if_ne 302 (off := 43) (by decide +kernel) (by decide) ?_ ?_
  · refine wx_weak (L' := [some (.ref 162), some (.int v1), none, none]) ⟨rfl, ⟨rfl, trivial⟩⟩ ?_
    refine l_f12_readLayer_j302 G d hd _ h184 v1 q14.2
  · refine wx_blk (pc' := 263) (L' := [some (.ref 162), some (.int v1), some (.int s0), some (.int q14.1)]) (st' := [.ref 162]) [.aload_n 0] (by decide +kernel) rfl rfl ?_
    refine wx_getr is_162 ff_12_43 rfl rf_162_16 (by decide +kernel) ?_
    refine wx_blk (pc' := 268) (L' := [some (.ref 162), some (.int v1), some (.int s0), some (.int q14.1)]) (st' := [.int v1, .ref 174, .int v1, .ref 174]) [.iload_n 1, .dup2] (by decide +kernel) rfl rfl ?_
    refine wx_ald is_174 sz_174 (by decide +kernel) (fun x15 => ?_)
    refine wx_blk (pc' := 270) (L' := [some (.ref 162), some (.int v1), some (.int s0), some (.int q14.1)]) (st' := [.int s0, .int x15, .int v1, .ref 174]) [.iload_n 2] (by decide +kernel) rfl rfl ?_
    refine wx_if_eq 279 (off := 9) (by decide +kernel) (by decide) ?_ ?_
    · refine wx_blk (pc' := 280) (L' := [some (.ref 162), some (.int v1), some (.int s0), some (.int q14.1)]) (st' := [.int (0 : Int32), .int x15, .int v1, .ref 174]) [.iconst 0] (by decide +kernel) rfl rfl ?_
      refine l_f12_readLayer_j280 G d hd _ h184 v1 s0 q14.1 v1 x15 (0 : Int32) q14.2
    · refine wx_blk (pc' := 276) (L' := [some (.ref 162), some (.int v1), some (.int s0), some (.int q14.1)]) (st' := [.int ((1 : Int32) <<< (q14.1 &&& 31)), .int x15, .int v1, .ref 174]) [.iconst 1, .iload_n 3, .ishl] (by decide +kernel) rfl rfl ?_
      refine wx_goto 280 (off := 4) (by decide +kernel) (by decide) ?_
      refine l_f12_readLayer_j280 G d hd _ h184 v1 s0 q14.1 v1 x15 ((1 : Int32) <<< (q14.1 &&& 31)) q14.2
def f12_readLayer_j223 (k184 : Int32 → xMu → Option xMu) (v1 : Int32) (μ : xMu) : Option xMu :=
  ((f12_word μ).bind fun x12 =>
(if (lg_cmp x12 (1852138852 : Int64)) = 0 then
(f12_readLayer_j239 k184 v1 (1 : Int32) μ)
else
(f12_readLayer_j239 k184 v1 (0 : Int32) μ)))
set_option maxHeartbeats 4000000 in
set_option maxRecDepth 100000 in
theorem l_f12_readLayer_j223 (G : xG) (d : Nat) (hd : 4 ≤ d) (k184 : Int32 → xMu → Option xMu) (h184 : ∀ (v1 : Int32) (μ1 : xMu), Wx G m12_readLayer d 184 [some (.ref 162), some (.int v1), none, none] [] μ1 x_wv (k184 v1 μ1)) (v1 : Int32) (μ : xMu) : Wx G m12_readLayer d 223 [some (.ref 162), some (.int v1), none, none] [] μ x_wv (f12_readLayer_j223 k184 v1 μ) := by
  unfold f12_readLayer_j223
  refine wx_blk (pc' := 224) (L' := [some (.ref 162), some (.int v1), none, none]) (st' := [.ref 162]) [.aload_n 0] (by decide +kernel) rfl rfl ?_
  refine wx_callV (d1 := 0) (As := []) (rest := []) (by omega) is_162 (by decide) rfl cv_12_209 rfl (Nat.le_of_ble_eq_true rfl) (l_f12_word G 0 (by omega) μ) rfl (by decide +kernel) (fun x12 => ?_)
  refine wx_ldc2 (v := 1852138852) xw_1485 (by decide +kernel) ?_
  refine wx_blk (pc' := 231) (L' := [some (.ref 162), some (.int v1), none, none]) (st' := [.int (lg_cmp x12 (1852138852 : Int64))]) [.lcmp] (by decide +kernel) rfl rfl ?_
  refine wx_if_ne 238 (off := 7) (by decide +kernel) (by decide) ?_ ?_
  · refine wx_blk (pc' := 239) (L' := [some (.ref 162), some (.int v1), none, none]) (st' := [.int (0 : Int32)]) [.iconst 0] (by decide +kernel) rfl rfl ?_
    refine l_f12_readLayer_j239 G d hd _ h184 v1 (0 : Int32) μ
  · refine wx_blk (pc' := 235) (L' := [some (.ref 162), some (.int v1), none, none]) (st' := [.int (1 : Int32)]) [.iconst 1] (by decide +kernel) rfl rfl ?_
    refine wx_goto 239 (off := 4) (by decide +kernel) (by decide) ?_
    refine l_f12_readLayer_j239 G d hd _ h184 v1 (1 : Int32) μ
def f12_readLayer_l184 (k305 : xMu → Option xMu) : Nat → Int32 → xMu → Option xMu
  | 0, _, _ => none
  | n + 1, v1, μ =>
  (if (μ 162 33) = 0 then
(x_ald μ 169 8 v1 fun x10 =>
(if x10 = (2 : Int32) then
((f12_word μ).bind fun x11 =>
(if (lg_cmp x11 (1852138852 : Int64)) = 0 then
(f12_readLayer_j223 (f12_readLayer_l184 k305 n) v1 μ)
else
((f12_word μ).bind fun x19 =>
(if (lg_cmp x19 (6447474 : Int64)) = 0 then
(f12_readLayer_j223 (f12_readLayer_l184 k305 n) v1 μ)
else
(k305 μ)))))
else
(k305 μ)))
else
(k305 μ))
set_option maxHeartbeats 4000000 in
set_option maxRecDepth 100000 in
theorem l_f12_readLayer_l184 (G : xG) (d : Nat) (hd : 4 ≤ d) (k305 : xMu → Option xMu) (h305 : ∀ (μ1 : xMu), Wx G m12_readLayer d 305 [some (.ref 162), none, none, none] [] μ1 x_wv (k305 μ1)) : ∀ (n : Nat) (v1 : Int32) (μ : xMu), Wx G m12_readLayer d 184 [some (.ref 162), some (.int v1), none, none] [] μ x_wv (f12_readLayer_l184 k305 n v1 μ) := by
  intro n
  induction n with
  | zero => intro v1 μ; exact wx_none
  | succ n h184 =>
    intro v1 μ
    unfold f12_readLayer_l184
    refine wx_blk (pc' := 185) (L' := [some (.ref 162), some (.int v1), none, none]) (st' := [.ref 162]) [.aload_n 0] (by decide +kernel) rfl rfl ?_
    refine wx_geti is_162 ff_12_192 rfl (by decide +kernel) ?_
    refine wx_if_ne 305 (off := 117) (by decide +kernel) (by decide) ?_ ?_
    · refine wx_weak (L' := [some (.ref 162), none, none, none]) ⟨rfl, trivial⟩ ?_
      exact h305 μ
    · refine wx_blk (pc' := 192) (L' := [some (.ref 162), some (.int v1), none, none]) (st' := [.ref 162]) [.aload_n 0] (by decide +kernel) rfl rfl ?_
      refine wx_getr is_162 ff_12_28 rfl rf_162_11 (by decide +kernel) ?_
      refine wx_blk (pc' := 196) (L' := [some (.ref 162), some (.int v1), none, none]) (st' := [.int v1, .ref 169]) [.iload_n 1] (by decide +kernel) rfl rfl ?_
      refine wx_ald is_169 sz_169 (by decide +kernel) (fun x10 => ?_)
      refine wx_blk (pc' := 198) (L' := [some (.ref 162), some (.int v1), none, none]) (st' := [.int (2 : Int32), .int x10]) [.iconst 2] (by decide +kernel) rfl rfl ?_
      refine wx_ic_ne 305 (off := 107) (by decide +kernel) (by decide) ?_ ?_
      · refine wx_weak (L' := [some (.ref 162), none, none, none]) ⟨rfl, trivial⟩ ?_
        exact h305 μ
      · refine wx_blk (pc' := 202) (L' := [some (.ref 162), some (.int v1), none, none]) (st' := [.ref 162]) [.aload_n 0] (by decide +kernel) rfl rfl ?_
        refine wx_callV (d1 := 0) (As := []) (rest := []) (by omega) is_162 (by decide) rfl cv_12_209 rfl (Nat.le_of_ble_eq_true rfl) (l_f12_word G 0 (by omega) μ) rfl (by decide +kernel) (fun x11 => ?_)
        refine wx_ldc2 (v := 1852138852) xw_1485 (by decide +kernel) ?_
        refine wx_blk (pc' := 209) (L' := [some (.ref 162), some (.int v1), none, none]) (st' := [.int (lg_cmp x11 (1852138852 : Int64))]) [.lcmp] (by decide +kernel) rfl rfl ?_
        refine wx_if_eq 223 (off := 14) (by decide +kernel) (by decide) ?_ ?_
        · refine l_f12_readLayer_j223 G d hd _ h184 v1 μ
        · refine wx_blk (pc' := 213) (L' := [some (.ref 162), some (.int v1), none, none]) (st' := [.ref 162]) [.aload_n 0] (by decide +kernel) rfl rfl ?_
          refine wx_callV (d1 := 0) (As := []) (rest := []) (by omega) is_162 (by decide) rfl cv_12_209 rfl (Nat.le_of_ble_eq_true rfl) (l_f12_word G 0 (by omega) μ) rfl (by decide +kernel) (fun x19 => ?_)
          refine wx_ldc2 (v := 6447474) xw_1486 (by decide +kernel) ?_
          refine wx_blk (pc' := 220) (L' := [some (.ref 162), some (.int v1), none, none]) (st' := [.int (lg_cmp x19 (6447474 : Int64))]) [.lcmp] (by decide +kernel) rfl rfl ?_
          refine wx_if_ne 305 (off := 85) (by decide +kernel) (by decide) ?_ ?_
          · refine wx_weak (L' := [some (.ref 162), none, none, none]) ⟨rfl, trivial⟩ ?_
            exact h305 μ
          · refine l_f12_readLayer_j223 G d hd _ h184 v1 μ
def f12_readLayer_j305 (μ : xMu) : Option xMu :=
  (x_put μ 162 37 ((μ 162 37) + (1 : Int32)) fun μ21 =>
(some μ21))
set_option maxHeartbeats 4000000 in
set_option maxRecDepth 100000 in
theorem l_f12_readLayer_j305 (G : xG) (d : Nat) (hd : 4 ≤ d) (μ : xMu) : Wx G m12_readLayer d 305 [some (.ref 162), none, none, none] [] μ x_wv (f12_readLayer_j305 μ) := by
  unfold f12_readLayer_j305
  refine wx_blk (pc' := 307) (L' := [some (.ref 162), none, none, none]) (st' := [.ref 162, .ref 162]) [.aload_n 0, .dup] (by decide +kernel) rfl rfl ?_
  refine wx_geti is_162 ff_12_254 rfl (by decide +kernel) ?_
  refine wx_blk (pc' := 312) (L' := [some (.ref 162), none, none, none]) (st' := [.int ((μ 162 37) + (1 : Int32)), .ref 162]) [.iconst 1, .iadd] (by decide +kernel) rfl rfl ?_
  refine wx_put is_162 ff_12_254 fp_12_37 ⟨rfl, rfl⟩ (by decide +kernel) (fun μ21 => ?_)
  exact wx_vret rfl rfl (by decide +kernel)
def f12_readLayer_j172 (v1 : Int32) (μ : xMu) : Option xMu :=
  ((f12_numberTo (9 : Int32) μ).bind fun q27 =>
(x_ast q27.2 173 8 v1 q27.1 fun μ28 =>
(f12_readLayer_l184 (fun (μ29 : xMu) => (f12_readLayer_j305 μ29)) 1000 v1 μ28)))
set_option maxHeartbeats 4000000 in
set_option maxRecDepth 100000 in
theorem l_f12_readLayer_j172 (G : xG) (d : Nat) (hd : 4 ≤ d) (v1 : Int32) (μ : xMu) : Wx G m12_readLayer d 172 [some (.ref 162), some (.int v1), none, none] [] μ x_wv (f12_readLayer_j172 v1 μ) := by
  unfold f12_readLayer_j172
  refine wx_blk (pc' := 173) (L' := [some (.ref 162), some (.int v1), none, none]) (st' := [.ref 162]) [.aload_n 0] (by decide +kernel) rfl rfl ?_
  refine wx_getr is_162 ff_12_40 rfl rf_162_15 (by decide +kernel) ?_
  refine wx_blk (pc' := 180) (L' := [some (.ref 162), some (.int v1), none, none]) (st' := [.int (9 : Int32), .ref 162, .int v1, .ref 173]) [.iload_n 1, .aload_n 0, .bipush 9] (by decide +kernel) rfl rfl ?_
  refine wx_callV (d1 := 3) (As := [.int (9 : Int32)]) (rest := [.int v1, .ref 173]) (by omega) is_162 (by decide) rfl cv_12_248 rfl (Nat.le_of_ble_eq_true rfl) (l_f12_numberTo G 3 (by omega) (9 : Int32) μ) rfl (by decide +kernel) (fun q27 => ?_)
  refine wx_ast is_173 sz_173 (by decide +kernel) (fun μ28 => ?_)
  refine l_f12_readLayer_l184 G d hd _ ?_ 1000 v1 μ28
  · intro μ29
    refine l_f12_readLayer_j305 G d hd μ29
def f12_readLayer_j166 (v1 : Int32) (v2 : Int32) (s1 : Int32) (s2 : Int32) (μ : xMu) : Option xMu :=
  (x_ast μ 172 8 s1 s2 fun μ31 =>
((f12_must v2 μ31).bind fun μ32 =>
(f12_readLayer_j172 v1 μ32)))
set_option maxHeartbeats 4000000 in
set_option maxRecDepth 100000 in
theorem l_f12_readLayer_j166 (G : xG) (d : Nat) (hd : 4 ≤ d) (v1 : Int32) (v2 : Int32) (s1 : Int32) (s2 : Int32) (μ : xMu) : Wx G m12_readLayer d 166 [some (.ref 162), some (.int v1), some (.int v2), none] [.int s2, .int s1, .ref 172] μ x_wv (f12_readLayer_j166 v1 v2 s1 s2 μ) := by
  unfold f12_readLayer_j166
  refine wx_ast is_172 sz_172 (by decide +kernel) (fun μ31 => ?_)
  refine wx_blk (pc' := 169) (L' := [some (.ref 162), some (.int v1), some (.int v2), none]) (st' := [.int v2, .ref 162]) [.aload_n 0, .iload_n 2] (by decide +kernel) rfl rfl ?_
  refine wx_callV (d1 := 2) (As := [.int v2]) (rest := []) (by omega) is_162 (by decide) rfl cv_12_205 rfl (Nat.le_of_ble_eq_true rfl) (l_f12_must G 2 (by omega) v2 μ31) rfl (by decide +kernel) (fun μ32 => ?_)
  refine wx_weak (L' := [some (.ref 162), some (.int v1), none, none]) ⟨rfl, ⟨rfl, trivial⟩⟩ ?_
  refine l_f12_readLayer_j172 G d hd v1 μ32
def f12_readLayer_j144 (v1 : Int32) (s0 : Int32) (μ : xMu) : Option xMu :=
  (if s0 = 0 then
(f12_readLayer_j166 v1 s0 v1 (0 : Int32) μ)
else
((f12_byteAt μ (μ 162 31)).bind fun x33 =>
(f12_readLayer_j166 v1 s0 v1 x33 μ)))
set_option maxHeartbeats 4000000 in
set_option maxRecDepth 100000 in
theorem l_f12_readLayer_j144 (G : xG) (d : Nat) (hd : 4 ≤ d) (v1 : Int32) (s0 : Int32) (μ : xMu) : Wx G m12_readLayer d 144 [some (.ref 162), some (.int v1), none, none] [.int s0] μ x_wv (f12_readLayer_j144 v1 s0 μ) := by
  unfold f12_readLayer_j144
  refine wx_blk (pc' := 146) (L' := [some (.ref 162), some (.int v1), some (.int s0), none]) (st' := [.ref 162]) [.istore_n 2, .aload_n 0] (by decide +kernel) rfl rfl ?_
  refine wx_getr is_162 ff_12_37 rfl rf_162_14 (by decide +kernel) ?_
  refine wx_blk (pc' := 151) (L' := [some (.ref 162), some (.int v1), some (.int s0), none]) (st' := [.int s0, .int v1, .ref 172]) [.iload_n 1, .iload_n 2] (by decide +kernel) rfl rfl ?_
  refine wx_if_eq 165 (off := 14) (by decide +kernel) (by decide) ?_ ?_
  · refine wx_blk (pc' := 166) (L' := [some (.ref 162), some (.int v1), some (.int s0), none]) (st' := [.int (0 : Int32), .int v1, .ref 172]) [.iconst 0] (by decide +kernel) rfl rfl ?_
    refine l_f12_readLayer_j166 G d hd v1 s0 v1 (0 : Int32) μ
  · refine wx_blk (pc' := 156) (L' := [some (.ref 162), some (.int v1), some (.int s0), none]) (st' := [.ref 162, .ref 162, .int v1, .ref 172]) [.aload_n 0, .aload_n 0] (by decide +kernel) rfl rfl ?_
    refine wx_geti is_162 ff_12_174 rfl (by decide +kernel) ?_
    refine wx_callV (d1 := 0) (As := [.int (μ 162 31)]) (rest := [.int v1, .ref 172]) (by omega) is_162 (by decide) rfl cv_12_171 rfl (Nat.le_of_ble_eq_true rfl) (l_f12_byteAt G 0 (by omega) μ (μ 162 31)) rfl (by decide +kernel) (fun x33 => ?_)
    refine wx_goto 166 (off := 4) (by decide +kernel) (by decide) ?_
    refine l_f12_readLayer_j166 G d hd v1 s0 v1 x33 μ
def f12_readLayer_j139 (v1 : Int32) (μ : xMu) : Option xMu :=
  (f12_readLayer_j144 v1 (1 : Int32) μ)
set_option maxHeartbeats 4000000 in
set_option maxRecDepth 100000 in
theorem l_f12_readLayer_j139 (G : xG) (d : Nat) (hd : 4 ≤ d) (v1 : Int32) (μ : xMu) : Wx G m12_readLayer d 139 [some (.ref 162), some (.int v1), none, none] [] μ x_wv (f12_readLayer_j139 v1 μ) := by
  unfold f12_readLayer_j139
  refine wx_blk (pc' := 140) (L' := [some (.ref 162), some (.int v1), none, none]) (st' := [.int (1 : Int32)]) [.iconst 1] (by decide +kernel) rfl rfl ?_
  refine wx_goto 144 (off := 4) (by decide +kernel) (by decide) ?_
  refine l_f12_readLayer_j144 G d hd v1 (1 : Int32) μ
def f12_readLayer_j32 (v1 : Int32) (s1 : Int32) (μ : xMu) : Option xMu :=
  ((f12_must s1 μ).bind fun μ4 =>
((f12_numberTo (9 : Int32) μ4).bind fun q5 =>
(x_ast q5.2 170 8 v1 q5.1 fun μ6 =>
(x_ast μ6 171 8 v1 (-1000000 : Int32) fun μ7 =>
(x_ast μ7 174 8 v1 (0 : Int32) fun μ8 =>
(x_ast μ8 175 8 v1 (0 : Int32) fun μ9 =>
(if (μ9 162 33) = 0 then
(x_ald μ9 169 8 v1 fun x22 =>
(if x22 = (2 : Int32) then
(if (μ9 162 30) = (3 : Int32) then
((f12_numberTo (3 : Int32) μ9).bind fun q25 =>
(x_ast q25.2 171 8 v1 q25.1 fun μ26 =>
(if (μ26 162 33) = 0 then
((f12_is μ26 (60 : Int32)).bind fun x30 =>
(if x30 = 0 then
((f12_is μ26 (62 : Int32)).bind fun x34 =>
(if x34 = 0 then
((f12_is μ26 (61 : Int32)).bind fun x35 =>
(if x35 = 0 then
(f12_readLayer_j144 v1 (0 : Int32) μ26)
else
(f12_readLayer_j139 v1 μ26)))
else
(f12_readLayer_j139 v1 μ26)))
else
(f12_readLayer_j139 v1 μ26)))
else
(f12_readLayer_j172 v1 μ26))))
else
(f12_readLayer_l184 (fun (μ24 : xMu) => (f12_readLayer_j305 μ24)) 1000 v1 μ9))
else
(f12_readLayer_l184 (fun (μ23 : xMu) => (f12_readLayer_j305 μ23)) 1000 v1 μ9)))
else
(f12_readLayer_l184 (fun (μ20 : xMu) => (f12_readLayer_j305 μ20)) 1000 v1 μ9))))))))
set_option maxHeartbeats 4000000 in
set_option maxRecDepth 100000 in
theorem l_f12_readLayer_j32 (G : xG) (d : Nat) (hd : 4 ≤ d) (v1 : Int32) (s1 : Int32) (μ : xMu) : Wx G m12_readLayer d 32 [some (.ref 162), some (.int v1), none, none] [.int s1, .ref 162] μ x_wv (f12_readLayer_j32 v1 s1 μ) := by
  unfold f12_readLayer_j32
  refine wx_callV (d1 := 2) (As := [.int s1]) (rest := []) (by omega) is_162 (by decide) rfl cv_12_205 rfl (Nat.le_of_ble_eq_true rfl) (l_f12_must G 2 (by omega) s1 μ) rfl (by decide +kernel) (fun μ4 => ?_)
  refine wx_blk (pc' := 36) (L' := [some (.ref 162), some (.int v1), none, none]) (st' := [.ref 162]) [.aload_n 0] (by decide +kernel) rfl rfl ?_
  refine wx_getr is_162 ff_12_31 rfl rf_162_12 (by decide +kernel) ?_
  refine wx_blk (pc' := 43) (L' := [some (.ref 162), some (.int v1), none, none]) (st' := [.int (9 : Int32), .ref 162, .int v1, .ref 170]) [.iload_n 1, .aload_n 0, .bipush 9] (by decide +kernel) rfl rfl ?_
  refine wx_callV (d1 := 3) (As := [.int (9 : Int32)]) (rest := [.int v1, .ref 170]) (by omega) is_162 (by decide) rfl cv_12_248 rfl (Nat.le_of_ble_eq_true rfl) (l_f12_numberTo G 3 (by omega) (9 : Int32) μ4) rfl (by decide +kernel) (fun q5 => ?_)
  refine wx_ast is_170 sz_170 (by decide +kernel) (fun μ6 => ?_)
  refine wx_blk (pc' := 48) (L' := [some (.ref 162), some (.int v1), none, none]) (st' := [.ref 162]) [.aload_n 0] (by decide +kernel) rfl rfl ?_
  refine wx_getr is_162 ff_12_34 rfl rf_162_13 (by decide +kernel) ?_
  refine wx_blk (pc' := 52) (L' := [some (.ref 162), some (.int v1), none, none]) (st' := [.int v1, .ref 171]) [.iload_n 1] (by decide +kernel) rfl rfl ?_
  refine wx_ldc (v := -1000000) xw_1431 (by decide +kernel) ?_
  refine wx_ast is_171 sz_171 (by decide +kernel) (fun μ7 => ?_)
  refine wx_blk (pc' := 56) (L' := [some (.ref 162), some (.int v1), none, none]) (st' := [.ref 162]) [.aload_n 0] (by decide +kernel) rfl rfl ?_
  refine wx_getr is_162 ff_12_43 rfl rf_162_16 (by decide +kernel) ?_
  refine wx_blk (pc' := 61) (L' := [some (.ref 162), some (.int v1), none, none]) (st' := [.int (0 : Int32), .int v1, .ref 174]) [.iload_n 1, .iconst 0] (by decide +kernel) rfl rfl ?_
  refine wx_ast is_174 sz_174 (by decide +kernel) (fun μ8 => ?_)
  refine wx_blk (pc' := 63) (L' := [some (.ref 162), some (.int v1), none, none]) (st' := [.ref 162]) [.aload_n 0] (by decide +kernel) rfl rfl ?_
  refine wx_getr is_162 ff_12_46 rfl rf_162_17 (by decide +kernel) ?_
  refine wx_blk (pc' := 68) (L' := [some (.ref 162), some (.int v1), none, none]) (st' := [.int (0 : Int32), .int v1, .ref 175]) [.iload_n 1, .iconst 0] (by decide +kernel) rfl rfl ?_
  refine wx_ast is_175 sz_175 (by decide +kernel) (fun μ9 => ?_)
  refine wx_blk (pc' := 70) (L' := [some (.ref 162), some (.int v1), none, none]) (st' := [.ref 162]) [.aload_n 0] (by decide +kernel) rfl rfl ?_
  refine wx_geti is_162 ff_12_192 rfl (by decide +kernel) ?_
  refine wx_if_ne 184 (off := 111) (by decide +kernel) (by decide) ?_ ?_
  · refine l_f12_readLayer_l184 G d hd _ ?_ 1000 v1 μ9
    · intro μ20
      refine l_f12_readLayer_j305 G d hd μ20
  · refine wx_blk (pc' := 77) (L' := [some (.ref 162), some (.int v1), none, none]) (st' := [.ref 162]) [.aload_n 0] (by decide +kernel) rfl rfl ?_
    refine wx_getr is_162 ff_12_28 rfl rf_162_11 (by decide +kernel) ?_
    refine wx_blk (pc' := 81) (L' := [some (.ref 162), some (.int v1), none, none]) (st' := [.int v1, .ref 169]) [.iload_n 1] (by decide +kernel) rfl rfl ?_
    refine wx_ald is_169 sz_169 (by decide +kernel) (fun x22 => ?_)
    refine wx_blk (pc' := 83) (L' := [some (.ref 162), some (.int v1), none, none]) (st' := [.int (2 : Int32), .int x22]) [.iconst 2] (by decide +kernel) rfl rfl ?_
    refine wx_ic_ne 184 (off := 101) (by decide +kernel) (by decide) ?_ ?_
    · refine l_f12_readLayer_l184 G d hd _ ?_ 1000 v1 μ9
      · intro μ23
        refine l_f12_readLayer_j305 G d hd μ23
    · refine wx_blk (pc' := 87) (L' := [some (.ref 162), some (.int v1), none, none]) (st' := [.ref 162]) [.aload_n 0] (by decide +kernel) rfl rfl ?_
      refine wx_geti is_162 ff_12_177 rfl (by decide +kernel) ?_
      refine wx_blk (pc' := 91) (L' := [some (.ref 162), some (.int v1), none, none]) (st' := [.int (3 : Int32), .int (μ9 162 30)]) [.iconst 3] (by decide +kernel) rfl rfl ?_
      refine wx_ic_ne 184 (off := 93) (by decide +kernel) (by decide) ?_ ?_
      · refine l_f12_readLayer_l184 G d hd _ ?_ 1000 v1 μ9
        · intro μ24
          refine l_f12_readLayer_j305 G d hd μ24
      · refine wx_blk (pc' := 95) (L' := [some (.ref 162), some (.int v1), none, none]) (st' := [.ref 162]) [.aload_n 0] (by decide +kernel) rfl rfl ?_
        refine wx_getr is_162 ff_12_34 rfl rf_162_13 (by decide +kernel) ?_
        refine wx_blk (pc' := 101) (L' := [some (.ref 162), some (.int v1), none, none]) (st' := [.int (3 : Int32), .ref 162, .int v1, .ref 171]) [.iload_n 1, .aload_n 0, .iconst 3] (by decide +kernel) rfl rfl ?_
        refine wx_callV (d1 := 3) (As := [.int (3 : Int32)]) (rest := [.int v1, .ref 171]) (by omega) is_162 (by decide) rfl cv_12_248 rfl (Nat.le_of_ble_eq_true rfl) (l_f12_numberTo G 3 (by omega) (3 : Int32) μ9) rfl (by decide +kernel) (fun q25 => ?_)
        refine wx_ast is_171 sz_171 (by decide +kernel) (fun μ26 => ?_)
        refine wx_blk (pc' := 106) (L' := [some (.ref 162), some (.int v1), none, none]) (st' := [.ref 162]) [.aload_n 0] (by decide +kernel) rfl rfl ?_
        refine wx_geti is_162 ff_12_192 rfl (by decide +kernel) ?_
        refine wx_if_ne 172 (off := 63) (by decide +kernel) (by decide) ?_ ?_
        · refine l_f12_readLayer_j172 G d hd v1 μ26
        · refine wx_blk (pc' := 115) (L' := [some (.ref 162), some (.int v1), none, none]) (st' := [.int (60 : Int32), .ref 162]) [.aload_n 0, .bipush 60] (by decide +kernel) rfl rfl ?_
          refine wx_callV (d1 := 1) (As := [.int (60 : Int32)]) (rest := []) (by omega) is_162 (by decide) rfl cv_12_261 rfl (Nat.le_of_ble_eq_true rfl) (l_f12_is G 1 (by omega) μ26 (60 : Int32)) rfl (by decide +kernel) (fun x30 => ?_)
          refine wx_if_ne 139 (off := 21) (by decide +kernel) (by decide) ?_ ?_
          · refine l_f12_readLayer_j139 G d hd v1 μ26
          · refine wx_blk (pc' := 124) (L' := [some (.ref 162), some (.int v1), none, none]) (st' := [.int (62 : Int32), .ref 162]) [.aload_n 0, .bipush 62] (by decide +kernel) rfl rfl ?_
            refine wx_callV (d1 := 1) (As := [.int (62 : Int32)]) (rest := []) (by omega) is_162 (by decide) rfl cv_12_261 rfl (Nat.le_of_ble_eq_true rfl) (l_f12_is G 1 (by omega) μ26 (62 : Int32)) rfl (by decide +kernel) (fun x34 => ?_)
            refine wx_if_ne 139 (off := 12) (by decide +kernel) (by decide) ?_ ?_
            · refine l_f12_readLayer_j139 G d hd v1 μ26
            · refine wx_blk (pc' := 133) (L' := [some (.ref 162), some (.int v1), none, none]) (st' := [.int (61 : Int32), .ref 162]) [.aload_n 0, .bipush 61] (by decide +kernel) rfl rfl ?_
              refine wx_callV (d1 := 1) (As := [.int (61 : Int32)]) (rest := []) (by omega) is_162 (by decide) rfl cv_12_261 rfl (Nat.le_of_ble_eq_true rfl) (l_f12_is G 1 (by omega) μ26 (61 : Int32)) rfl (by decide +kernel) (fun x35 => ?_)
              refine wx_if_eq 143 (off := 7) (by decide +kernel) (by decide) ?_ ?_
              · refine wx_blk (pc' := 144) (L' := [some (.ref 162), some (.int v1), none, none]) (st' := [.int (0 : Int32)]) [.iconst 0] (by decide +kernel) rfl rfl ?_
                refine l_f12_readLayer_j144 G d hd v1 (0 : Int32) μ26
              · refine l_f12_readLayer_j139 G d hd v1 μ26
def f12_readLayer (μ : xMu) : Option xMu :=
  ((f12_sortOfWord μ).bind fun x1 =>
(x_ast μ 169 8 (μ 162 37) x1 fun μ2 =>
(x_ald μ2 169 8 (μ 162 37) fun x3 =>
(if x3 = (-1000000 : Int32) then
(f12_readLayer_j32 (μ 162 37) (0 : Int32) μ2)
else
(f12_readLayer_j32 (μ 162 37) (1 : Int32) μ2)))))
set_option maxHeartbeats 4000000 in
set_option maxRecDepth 100000 in
theorem l_f12_readLayer (G : xG) (d : Nat) (hd : 4 ≤ d) (μ : xMu) : Mx G m12_readLayer d [.ref 162] μ x_wv (f12_readLayer μ) := by
  refine mx_enter ok12_readLayer [some (.ref 162), none, none, none] rfl (Nat.le_of_ble_eq_true rfl) ?_
  unfold f12_readLayer
  refine wx_blk (pc' := 1) (L' := [some (.ref 162), none, none, none]) (st' := [.ref 162]) [.aload_n 0] (by decide +kernel) rfl rfl ?_
  refine wx_geti is_162 ff_12_254 rfl (by decide +kernel) ?_
  refine wx_blk (pc' := 6) (L' := [some (.ref 162), some (.int (μ 162 37)), none, none]) (st' := [.ref 162]) [.istore_n 1, .aload_n 0] (by decide +kernel) rfl rfl ?_
  refine wx_getr is_162 ff_12_28 rfl rf_162_11 (by decide +kernel) ?_
  refine wx_blk (pc' := 11) (L' := [some (.ref 162), some (.int (μ 162 37)), none, none]) (st' := [.ref 162, .int (μ 162 37), .ref 169]) [.iload_n 1, .aload_n 0] (by decide +kernel) rfl rfl ?_
  refine wx_callV (d1 := 1) (As := []) (rest := [.int (μ 162 37), .ref 169]) (by omega) is_162 (by decide) rfl cv_12_257 rfl (Nat.le_of_ble_eq_true rfl) (l_f12_sortOfWord G 1 (by omega) μ) rfl (by decide +kernel) (fun x1 => ?_)
  refine wx_ast is_169 sz_169 (by decide +kernel) (fun μ2 => ?_)
  refine wx_blk (pc' := 17) (L' := [some (.ref 162), some (.int (μ 162 37)), none, none]) (st' := [.ref 162, .ref 162]) [.aload_n 0, .aload_n 0] (by decide +kernel) rfl rfl ?_
  refine wx_getr is_162 ff_12_28 rfl rf_162_11 (by decide +kernel) ?_
  refine wx_blk (pc' := 21) (L' := [some (.ref 162), some (.int (μ 162 37)), none, none]) (st' := [.int (μ 162 37), .ref 169, .ref 162]) [.iload_n 1] (by decide +kernel) rfl rfl ?_
  refine wx_ald is_169 sz_169 (by decide +kernel) (fun x3 => ?_)
  refine wx_ldc (v := -1000000) xw_1431 (by decide +kernel) ?_
  refine wx_ic_eq 31 (off := 7) (by decide +kernel) (by decide) ?_ ?_
  · refine wx_blk (pc' := 32) (L' := [some (.ref 162), some (.int (μ 162 37)), none, none]) (st' := [.int (0 : Int32), .ref 162]) [.iconst 0] (by decide +kernel) rfl rfl ?_
    refine l_f12_readLayer_j32 G d hd (μ 162 37) (0 : Int32) μ2
  · refine wx_blk (pc' := 28) (L' := [some (.ref 162), some (.int (μ 162 37)), none, none]) (st' := [.int (1 : Int32), .ref 162]) [.iconst 1] (by decide +kernel) rfl rfl ?_
    refine wx_goto 32 (off := 4) (by decide +kernel) (by decide) ?_
    refine l_f12_readLayer_j32 G d hd (μ 162 37) (1 : Int32) μ2
