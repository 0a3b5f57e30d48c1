/-! WakingLayersModel.readAct(I)V -/
def f12_readAct_j259 (v1 : Int32) (μ : xMu) : Option xMu :=
  (x_ald μ 180 24 v1 fun x11 =>
(x_ast μ 180 24 v1 (x11 + (1 : Int32)) fun μ12 =>
(some μ12)))
set_option maxHeartbeats 4000000 in
set_option maxRecDepth 100000 in
theorem l_f12_readAct_j259 (G : xG) (d : Nat) (hd : 4 ≤ d) (v1 : Int32) (μ : xMu) : Wx G m12_readAct d 259 [some (.ref 162), some (.int v1), none, none, none, none] [] μ x_wv (f12_readAct_j259 v1 μ) := by
  unfold f12_readAct_j259
  refine wx_blk (pc' := 260) (L' := [some (.ref 162), some (.int v1), none, none, none, none]) (st' := [.ref 162]) [.aload_n 0] (by decide +kernel) rfl rfl ?_
  refine wx_getr is_162 ff_12_61 rfl rf_162_23 (by decide +kernel) ?_
  refine wx_blk (pc' := 265) (L' := [some (.ref 162), some (.int v1), none, none, none, none]) (st' := [.int v1, .ref 180, .int v1, .ref 180]) [.iload_n 1, .dup2] (by decide +kernel) rfl rfl ?_
  refine wx_ald is_180 sz_180 (by decide +kernel) (fun x11 => ?_)
  refine wx_blk (pc' := 268) (L' := [some (.ref 162), some (.int v1), none, none, none, none]) (st' := [.int (x11 + (1 : Int32)), .int v1, .ref 180]) [.iconst 1, .iadd] (by decide +kernel) rfl rfl ?_
  refine wx_ast is_180 sz_180 (by decide +kernel) (fun μ12 => ?_)
  exact wx_vret rfl rfl (by decide +kernel)
def f12_readAct_j88 (v1 : Int32) (v3 : Int32) (μ : xMu) : Option xMu :=
  ((f12_numberTo (9 : Int32) μ).bind fun q9 =>
(x_ast q9.2 181 432 (v3 + (1 : Int32)) q9.1 fun μ10 =>
(f12_readAct_j259 v1 μ10)))
set_option maxHeartbeats 4000000 in
set_option maxRecDepth 100000 in
theorem l_f12_readAct_j88 (G : xG) (d : Nat) (hd : 4 ≤ d) (v1 : Int32) (v3 : Int32) (μ : xMu) : Wx G m12_readAct d 88 [some (.ref 162), some (.int v1), none, some (.int v3), none, none] [] μ x_wv (f12_readAct_j88 v1 v3 μ) := by
  unfold f12_readAct_j88
  refine wx_blk (pc' := 89) (L' := [some (.ref 162), some (.int v1), none, some (.int v3), none, none]) (st' := [.ref 162]) [.aload_n 0] (by decide +kernel) rfl rfl ?_
  refine wx_getr is_162 ff_12_64 rfl rf_162_24 (by decide +kernel) ?_
  refine wx_blk (pc' := 98) (L' := [some (.ref 162), some (.int v1), none, some (.int v3), none, none]) (st' := [.int (9 : Int32), .ref 162, .int (v3 + (1 : Int32)), .ref 181]) [.iload_n 3, .iconst 1, .iadd, .aload_n 0, .bipush 9] (by decide +kernel) rfl rfl ?_
  refine wx_callV (d1 := 3) (As := [.int (9 : Int32)]) (rest := [.int (v3 + (1 : Int32)), .ref 181]) (by omega) is_162 (by decide) rfl cv_12_248 rfl (Nat.le_of_ble_eq_true rfl) (l_f12_numberTo G 3 (by omega) (9 : Int32) μ) rfl (by decide +kernel) (fun q9 => ?_)
  refine wx_ast is_181 sz_181 (by decide +kernel) (fun μ10 => ?_)
  refine wx_goto 259 (off := 157) (by decide +kernel) (by decide) ?_
  refine wx_weak (L' := [some (.ref 162), some (.int v1), none, none, none, none]) ⟨rfl, ⟨rfl, trivial⟩⟩ ?_
  refine l_f12_readAct_j259 G d hd v1 μ10
def f12_readAct_l158 (k199 : Int32 → Int32 → Int32 → xMu → Option xMu) : Nat → Int32 → Int32 → Int32 → Int32 → xMu → Option xMu
  | 0, _, _, _, _, _ => none
  | n + 1, v1, v3, v4, v5, μ =>
  (if (μ 162 32) ≤ v5 then
(k199 v1 v3 v4 μ)
else
(if (μ 162 30) = (3 : Int32) then
(x_ald μ 182 600 v5 fun x13 =>
((f12_readAct_l158 k199 n) v1 v3 ((((10 : Int32) * v4) + x13) - (48 : Int32)) (v5 + (1 : Int32)) μ))
else
(k199 v1 v3 v4 μ)))
set_option maxHeartbeats 4000000 in
set_option maxRecDepth 100000 in
theorem l_f12_readAct_l158 (G : xG) (d : Nat) (hd : 4 ≤ d) (k199 : Int32 → Int32 → Int32 → xMu → Option xMu) (h199 : ∀ (v1 : Int32) (v3 : Int32) (v4 : Int32) (μ1 : xMu), Wx G m12_readAct d 199 [some (.ref 162), some (.int v1), none, some (.int v3), some (.int v4), none] [] μ1 x_wv (k199 v1 v3 v4 μ1)) : ∀ (n : Nat) (v1 : Int32) (v3 : Int32) (v4 : Int32) (v5 : Int32) (μ : xMu), Wx G m12_readAct d 158 [some (.ref 162), some (.int v1), none, some (.int v3), some (.int v4), some (.int v5)] [] μ x_wv (f12_readAct_l158 k199 n v1 v3 v4 v5 μ) := by
  intro n
  induction n with
  | zero => intro v1 v3 v4 v5 μ; exact wx_none
  | succ n h158 =>
    intro v1 v3 v4 v5 μ
    unfold f12_readAct_l158
    refine wx_blk (pc' := 161) (L' := [some (.ref 162), some (.int v1), none, some (.int v3), some (.int v4), some (.int v5)]) (st' := [.ref 162, .int v5]) [.iload 5, .aload_n 0] (by decide +kernel) rfl rfl ?_
    refine wx_geti is_162 ff_12_189 rfl (by decide +kernel) ?_
    refine wx_ic_ge 199 (off := 35) (by decide +kernel) (by decide) ?_ ?_
    · refine wx_weak (L' := [some (.ref 162), some (.int v1), none, some (.int v3), some (.int v4), none]) ⟨rfl, ⟨rfl, ⟨rfl, ⟨rfl, trivial⟩⟩⟩⟩ ?_
      exact h199 v1 v3 v4 μ
    · refine wx_blk (pc' := 168) (L' := [some (.ref 162), some (.int v1), none, some (.int v3), some (.int v4), some (.int v5)]) (st' := [.ref 162]) [.aload_n 0] (by decide +kernel) rfl rfl ?_
      refine wx_geti is_162 ff_12_177 rfl (by decide +kernel) ?_
      refine wx_blk (pc' := 172) (L' := [some (.ref 162), some (.int v1), none, some (.int v3), some (.int v4), some (.int v5)]) (st' := [.int (3 : Int32), .int (μ 162 30)]) [.iconst 3] (by decide +kernel) rfl rfl ?_
      refine wx_ic_ne 199 (off := 27) (by decide +kernel) (by decide) ?_ ?_
      · refine wx_weak (L' := [some (.ref 162), some (.int v1), none, some (.int v3), some (.int v4), none]) ⟨rfl, ⟨rfl, ⟨rfl, ⟨rfl, trivial⟩⟩⟩⟩ ?_
        exact h199 v1 v3 v4 μ
      · refine wx_blk (pc' := 181) (L' := [some (.ref 162), some (.int v1), none, some (.int v3), some (.int v4), some (.int v5)]) (st' := [.ref 162, .int ((10 : Int32) * v4)]) [.bipush 10, .iload 4, .imul, .aload_n 0] (by decide +kernel) rfl rfl ?_
        refine wx_getr is_162 ff_12_67 rfl rf_162_25 (by decide +kernel) ?_
        refine wx_blk (pc' := 186) (L' := [some (.ref 162), some (.int v1), none, some (.int v3), some (.int v4), some (.int v5)]) (st' := [.int v5, .ref 182, .int ((10 : Int32) * v4)]) [.iload 5] (by decide +kernel) rfl rfl ?_
        refine wx_ald is_182 sz_182 (by decide +kernel) (fun x13 => ?_)
        refine wx_blk (pc' := 196) (L' := [some (.ref 162), some (.int v1), none, some (.int v3), some (.int ((((10 : Int32) * v4) + x13) - (48 : Int32))), some (.int (v5 + (1 : Int32)))]) (st' := []) [.iadd, .bipush 48, .isub, .istore 4, .iinc 5 1] (by decide +kernel) rfl rfl ?_
        refine wx_goto 158 (off := -38) (by decide +kernel) (by decide) ?_
        exact h158 v1 v3 ((((10 : Int32) * v4) + x13) - (48 : Int32)) (v5 + (1 : Int32)) μ
def f12_readAct_j246 (v1 : Int32) (v3 : Int32) (v4 : Int32) (s1 : Int32) (μ : xMu) : Option xMu :=
  ((f12_must s1 μ).bind fun μ18 =>
(x_ast μ18 181 432 (v3 + (1 : Int32)) v4 fun μ19 =>
(f12_readAct_j259 v1 μ19)))
set_option maxHeartbeats 4000000 in
set_option maxRecDepth 100000 in
theorem l_f12_readAct_j246 (G : xG) (d : Nat) (hd : 4 ≤ d) (v1 : Int32) (v3 : Int32) (v4 : Int32) (s1 : Int32) (μ : xMu) : Wx G m12_readAct d 246 [some (.ref 162), some (.int v1), none, some (.int v3), some (.int v4), none] [.int s1, .ref 162] μ x_wv (f12_readAct_j246 v1 v3 v4 s1 μ) := by
  unfold f12_readAct_j246
  refine wx_callV (d1 := 2) (As := [.int s1]) (rest := []) (by omega) is_162 (by decide) rfl cv_12_205 rfl (Nat.le_of_ble_eq_true rfl) (l_f12_must G 2 (by omega) s1 μ) rfl (by decide +kernel) (fun μ18 => ?_)
  refine wx_blk (pc' := 250) (L' := [some (.ref 162), some (.int v1), none, some (.int v3), some (.int v4), none]) (st' := [.ref 162]) [.aload_n 0] (by decide +kernel) rfl rfl ?_
  refine wx_getr is_162 ff_12_64 rfl rf_162_24 (by decide +kernel) ?_
  refine wx_blk (pc' := 258) (L' := [some (.ref 162), some (.int v1), none, some (.int v3), some (.int v4), none]) (st' := [.int v4, .int (v3 + (1 : Int32)), .ref 181]) [.iload_n 3, .iconst 1, .iadd, .iload 4] (by decide +kernel) rfl rfl ?_
  refine wx_ast is_181 sz_181 (by decide +kernel) (fun μ19 => ?_)
  refine wx_weak (L' := [some (.ref 162), some (.int v1), none, none, none, none]) ⟨rfl, ⟨rfl, trivial⟩⟩ ?_
  refine l_f12_readAct_j259 G d hd v1 μ19
def f12_readAct_j232 (v1 : Int32) (v3 : Int32) (v4 : Int32) (μ : xMu) : Option xMu :=
  (if (μ 162 30) = (3 : Int32) then
(f12_readAct_j246 v1 v3 v4 (1 : Int32) μ)
else
(f12_readAct_j246 v1 v3 v4 (0 : Int32) μ))
set_option maxHeartbeats 4000000 in
set_option maxRecDepth 100000 in
theorem l_f12_readAct_j232 (G : xG) (d : Nat) (hd : 4 ≤ d) (v1 : Int32) (v3 : Int32) (v4 : Int32) (μ : xMu) : Wx G m12_readAct d 232 [some (.ref 162), some (.int v1), none, some (.int v3), some (.int v4), none] [] μ x_wv (f12_readAct_j232 v1 v3 v4 μ) := by
  unfold f12_readAct_j232
  refine wx_blk (pc' := 234) (L' := [some (.ref 162), some (.int v1), none, some (.int v3), some (.int v4), none]) (st' := [.ref 162, .ref 162]) [.aload_n 0, .aload_n 0] (by decide +kernel) rfl rfl ?_
  refine wx_geti is_162 ff_12_177 rfl (by decide +kernel) ?_
  refine wx_blk (pc' := 238) (L' := [some (.ref 162), some (.int v1), none, some (.int v3), some (.int v4), none]) (st' := [.int (3 : Int32), .int (μ 162 30), .ref 162]) [.iconst 3] (by decide +kernel) rfl rfl ?_
  refine wx_ic_ne 245 (off := 7) (by decide +kernel) (by decide) ?_ ?_
  · refine wx_blk (pc' := 246) (L' := [some (.ref 162), some (.int v1), none, some (.int v3), some (.int v4), none]) (st' := [.int (0 : Int32), .ref 162]) [.iconst 0] (by decide +kernel) rfl rfl ?_
    refine l_f12_readAct_j246 G d hd v1 v3 v4 (0 : Int32) μ
  · refine wx_blk (pc' := 242) (L' := [some (.ref 162), some (.int v1), none, some (.int v3), some (.int v4), none]) (st' := [.int (1 : Int32), .ref 162]) [.iconst 1] (by decide +kernel) rfl rfl ?_
    refine wx_goto 246 (off := 4) (by decide +kernel) (by decide) ?_
    refine l_f12_readAct_j246 G d hd v1 v3 v4 (1 : Int32) μ
def f12_readAct_j227 (v1 : Int32) (v3 : Int32) (v4 : Int32) (μ : xMu) : Option xMu :=
  ((f12_bad (2 : Int32) μ).bind fun μ20 =>
(f12_readAct_j232 v1 v3 v4 μ20))
set_option maxHeartbeats 4000000 in
set_option maxRecDepth 100000 in
theorem l_f12_readAct_j227 (G : xG) (d : Nat) (hd : 4 ≤ d) (v1 : Int32) (v3 : Int32) (v4 : Int32) (μ : xMu) : Wx G m12_readAct d 227 [some (.ref 162), some (.int v1), none, some (.int v3), some (.int v4), none] [] μ x_wv (f12_readAct_j227 v1 v3 v4 μ) := by
  unfold f12_readAct_j227
  refine wx_blk (pc' := 229) (L' := [some (.ref 162), some (.int v1), none, some (.int v3), some (.int v4), none]) (st' := [.int (2 : Int32), .ref 162]) [.aload_n 0, .iconst 2] (by decide +kernel) rfl rfl ?_
  refine wx_callV (d1 := 0) (As := [.int (2 : Int32)]) (rest := []) (by omega) is_162 (by decide) rfl cv_12_198 rfl (Nat.le_of_ble_eq_true rfl) (l_f12_bad G 0 (by omega) (2 : Int32) μ) rfl (by decide +kernel) (fun μ20 => ?_)
  refine l_f12_readAct_j232 G d hd v1 v3 v4 μ20
def f12_readAct_j199 (v1 : Int32) (v3 : Int32) (v4 : Int32) (μ : xMu) : Option xMu :=
  (if (μ 162 30) = (3 : Int32) then
(if (μ 162 37) ≤ v4 then
(f12_readAct_j227 v1 v3 v4 μ)
else
(x_ald μ 169 8 v4 fun x21 =>
(if x21 ≤ (1 : Int32) then
(f12_readAct_j232 v1 v3 v4 μ)
else
(f12_readAct_j227 v1 v3 v4 μ))))
else
(f12_readAct_j232 v1 v3 v4 μ))
set_option maxHeartbeats 4000000 in
set_option maxRecDepth 100000 in
theorem l_f12_readAct_j199 (G : xG) (d : Nat) (hd : 4 ≤ d) (v1 : Int32) (v3 : Int32) (v4 : Int32) (μ : xMu) : Wx G m12_readAct d 199 [some (.ref 162), some (.int v1), none, some (.int v3), some (.int v4), none] [] μ x_wv (f12_readAct_j199 v1 v3 v4 μ) := by
  unfold f12_readAct_j199
  refine wx_blk (pc' := 200) (L' := [some (.ref 162), some (.int v1), none, some (.int v3), some (.int v4), none]) (st' := [.ref 162]) [.aload_n 0] (by decide +kernel) rfl rfl ?_
  refine wx_geti is_162 ff_12_177 rfl (by decide +kernel) ?_
  refine wx_blk (pc' := 204) (L' := [some (.ref 162), some (.int v1), none, some (.int v3), some (.int v4), none]) (st' := [.int (3 : Int32), .int (μ 162 30)]) [.iconst 3] (by decide +kernel) rfl rfl ?_
  refine wx_ic_ne 232 (off := 28) (by decide +kernel) (by decide) ?_ ?_
  · refine l_f12_readAct_j232 G d hd v1 v3 v4 μ
  · refine wx_blk (pc' := 210) (L' := [some (.ref 162), some (.int v1), none, some (.int v3), some (.int v4), none]) (st' := [.ref 162, .int v4]) [.iload 4, .aload_n 0] (by decide +kernel) rfl rfl ?_
    refine wx_geti is_162 ff_12_254 rfl (by decide +kernel) ?_
    refine wx_ic_ge 227 (off := 14) (by decide +kernel) (by decide) ?_ ?_
    · refine l_f12_readAct_j227 G d hd v1 v3 v4 μ
    · refine wx_blk (pc' := 217) (L' := [some (.ref 162), some (.int v1), none, some (.int v3), some (.int v4), none]) (st' := [.ref 162]) [.aload_n 0] (by decide +kernel) rfl rfl ?_
      refine wx_getr is_162 ff_12_28 rfl rf_162_11 (by decide +kernel) ?_
      refine wx_blk (pc' := 222) (L' := [some (.ref 162), some (.int v1), none, some (.int v3), some (.int v4), none]) (st' := [.int v4, .ref 169]) [.iload 4] (by decide +kernel) rfl rfl ?_
      refine wx_ald is_169 sz_169 (by decide +kernel) (fun x21 => ?_)
      refine wx_blk (pc' := 224) (L' := [some (.ref 162), some (.int v1), none, some (.int v3), some (.int v4), none]) (st' := [.int (1 : Int32), .int x21]) [.iconst 1] (by decide +kernel) rfl rfl ?_
      refine wx_ic_le 232 (off := 8) (by decide +kernel) (by decide) ?_ ?_
      · refine l_f12_readAct_j232 G d hd v1 v3 v4 μ
      · refine l_f12_readAct_j227 G d hd v1 v3 v4 μ
def f12_readAct_j27 (v1 : Int32) (v2 : Int32) (μ : xMu) : Option xMu :=
  ((f12_must (1 : Int32) μ).bind fun μ4 =>
(if (μ4 162 33) ≤ 0 then
(x_ald μ4 180 24 v1 fun x5 =>
(x_ast μ4 181 432 (((18 : Int32) * v1) + ((3 : Int32) * x5)) v2 fun μ6 =>
(x_ast μ6 181 432 ((((18 : Int32) * v1) + ((3 : Int32) * x5)) + (1 : Int32)) (0 : Int32) fun μ7 =>
(x_ast μ7 181 432 ((((18 : Int32) * v1) + ((3 : Int32) * x5)) + (2 : Int32)) (0 : Int32) fun μ8 =>
(if v2 = 0 then
(f12_readAct_j88 v1 (((18 : Int32) * v1) + ((3 : Int32) * x5)) μ8)
else
(if v2 = (1 : Int32) then
(f12_readAct_j88 v1 (((18 : Int32) * v1) + ((3 : Int32) * x5)) μ8)
else
(if v2 = (4 : Int32) then
((f12_numberTo ((μ8 162 36) - (1 : Int32)) μ8).bind fun q22 =>
(x_ast q22.2 181 432 ((((18 : Int32) * v1) + ((3 : Int32) * x5)) + (1 : Int32)) q22.1 fun μ23 =>
((f12_numberTo (3 : Int32) μ23).bind fun q24 =>
(x_ast q24.2 181 432 ((((18 : Int32) * v1) + ((3 : Int32) * x5)) + (2 : Int32)) q24.1 fun μ25 =>
(f12_readAct_j259 v1 μ25)))))
else
(if v2 = (5 : Int32) then
(f12_readAct_l158 (fun (y14 : Int32) (y15 : Int32) (y16 : Int32) (μ17 : xMu) => (f12_readAct_j199 y14 y15 y16 μ17)) 1000 v1 (((18 : Int32) * v1) + ((3 : Int32) * x5)) (0 : Int32) (μ8 162 31) μ8)
else
(f12_readAct_j259 v1 μ8)))))))))
else
(some μ4)))
set_option maxHeartbeats 4000000 in
set_option maxRecDepth 100000 in
theorem l_f12_readAct_j27 (G : xG) (d : Nat) (hd : 4 ≤ d) (v1 : Int32) (v2 : Int32) (μ : xMu) : Wx G m12_readAct d 27 [some (.ref 162), some (.int v1), some (.int v2), none, none, none] [] μ x_wv (f12_readAct_j27 v1 v2 μ) := by
  unfold f12_readAct_j27
  refine wx_blk (pc' := 29) (L' := [some (.ref 162), some (.int v1), some (.int v2), none, none, none]) (st' := [.int (1 : Int32), .ref 162]) [.aload_n 0, .iconst 1] (by decide +kernel) rfl rfl ?_
  refine wx_callV (d1 := 2) (As := [.int (1 : Int32)]) (rest := []) (by omega) is_162 (by decide) rfl cv_12_205 rfl (Nat.le_of_ble_eq_true rfl) (l_f12_must G 2 (by omega) (1 : Int32) μ) rfl (by decide +kernel) (fun μ4 => ?_)
  refine wx_blk (pc' := 33) (L' := [some (.ref 162), some (.int v1), some (.int v2), none, none, none]) (st' := [.ref 162]) [.aload_n 0] (by decide +kernel) rfl rfl ?_
  refine wx_geti is_162 ff_12_192 rfl (by decide +kernel) ?_
  refine wx_if_le 40 (off := 4) (by decide +kernel) (by decide) ?_ ?_
  · refine wx_blk (pc' := 46) (L' := [some (.ref 162), some (.int v1), some (.int v2), none, none, none]) (st' := [.ref 162, .int (3 : Int32), .int ((18 : Int32) * v1)]) [.bipush 18, .iload_n 1, .imul, .iconst 3, .aload_n 0] (by decide +kernel) rfl rfl ?_
    refine wx_getr is_162 ff_12_61 rfl rf_162_23 (by decide +kernel) ?_
    refine wx_blk (pc' := 50) (L' := [some (.ref 162), some (.int v1), some (.int v2), none, none, none]) (st' := [.int v1, .ref 180, .int (3 : Int32), .int ((18 : Int32) * v1)]) [.iload_n 1] (by decide +kernel) rfl rfl ?_
    refine wx_ald is_180 sz_180 (by decide +kernel) (fun x5 => ?_)
    refine wx_blk (pc' := 55) (L' := [some (.ref 162), some (.int v1), some (.int v2), some (.int (((18 : Int32) * v1) + ((3 : Int32) * x5))), none, none]) (st' := [.ref 162]) [.imul, .iadd, .istore_n 3, .aload_n 0] (by decide +kernel) rfl rfl ?_
    refine wx_getr is_162 ff_12_64 rfl rf_162_24 (by decide +kernel) ?_
    refine wx_blk (pc' := 60) (L' := [some (.ref 162), some (.int v1), some (.int v2), some (.int (((18 : Int32) * v1) + ((3 : Int32) * x5))), none, none]) (st' := [.int v2, .int (((18 : Int32) * v1) + ((3 : Int32) * x5)), .ref 181]) [.iload_n 3, .iload_n 2] (by decide +kernel) rfl rfl ?_
    refine wx_ast is_181 sz_181 (by decide +kernel) (fun μ6 => ?_)
    refine wx_blk (pc' := 62) (L' := [some (.ref 162), some (.int v1), some (.int v2), some (.int (((18 : Int32) * v1) + ((3 : Int32) * x5))), none, none]) (st' := [.ref 162]) [.aload_n 0] (by decide +kernel) rfl rfl ?_
    refine wx_getr is_162 ff_12_64 rfl rf_162_24 (by decide +kernel) ?_
    refine wx_blk (pc' := 69) (L' := [some (.ref 162), some (.int v1), some (.int v2), some (.int (((18 : Int32) * v1) + ((3 : Int32) * x5))), none, none]) (st' := [.int (0 : Int32), .int ((((18 : Int32) * v1) + ((3 : Int32) * x5)) + (1 : Int32)), .ref 181]) [.iload_n 3, .iconst 1, .iadd, .iconst 0] (by decide +kernel) rfl rfl ?_
    refine wx_ast is_181 sz_181 (by decide +kernel) (fun μ7 => ?_)
    refine wx_blk (pc' := 71) (L' := [some (.ref 162), some (.int v1), some (.int v2), some (.int (((18 : Int32) * v1) + ((3 : Int32) * x5))), none, none]) (st' := [.ref 162]) [.aload_n 0] (by decide +kernel) rfl rfl ?_
    refine wx_getr is_162 ff_12_64 rfl rf_162_24 (by decide +kernel) ?_
    refine wx_blk (pc' := 78) (L' := [some (.ref 162), some (.int v1), some (.int v2), some (.int (((18 : Int32) * v1) + ((3 : Int32) * x5))), none, none]) (st' := [.int (0 : Int32), .int ((((18 : Int32) * v1) + ((3 : Int32) * x5)) + (2 : Int32)), .ref 181]) [.iload_n 3, .iconst 2, .iadd, .iconst 0] (by decide +kernel) rfl rfl ?_
    refine wx_ast is_181 sz_181 (by decide +kernel) (fun μ8 => ?_)
    refine wx_blk (pc' := 80) (L' := [some (.ref 162), some (.int v1), some (.int v2), some (.int (((18 : Int32) * v1) + ((3 : Int32) * x5))), none, none]) (st' := [.int v2]) [.iload_n 2] (by decide +kernel) rfl rfl ?_
    refine wx_if_eq 88 (off := 8) (by decide +kernel) (by decide) ?_ ?_
    · refine wx_weak (L' := [some (.ref 162), some (.int v1), none, some (.int (((18 : Int32) * v1) + ((3 : Int32) * x5))), none, none]) ⟨rfl, ⟨rfl, ⟨rfl, trivial⟩⟩⟩ ?_
      refine l_f12_readAct_j88 G d hd v1 (((18 : Int32) * v1) + ((3 : Int32) * x5)) μ8
    · refine wx_blk (pc' := 85) (L' := [some (.ref 162), some (.int v1), some (.int v2), some (.int (((18 : Int32) * v1) + ((3 : Int32) * x5))), none, none]) (st' := [.int (1 : Int32), .int v2]) [.iload_n 2, .iconst 1] (by decide +kernel) rfl rfl ?_
      refine wx_ic_ne 105 (off := 20) (by decide +kernel) (by decide) ?_ ?_
      · refine wx_blk (pc' := 107) (L' := [some (.ref 162), some (.int v1), some (.int v2), some (.int (((18 : Int32) * v1) + ((3 : Int32) * x5))), none, none]) (st' := [.int (4 : Int32), .int v2]) [.iload_n 2, .iconst 4] (by decide +kernel) rfl rfl ?_
        refine wx_ic_ne 144 (off := 37) (by decide +kernel) (by decide) ?_ ?_
        · refine wx_blk (pc' := 146) (L' := [some (.ref 162), some (.int v1), some (.int v2), some (.int (((18 : Int32) * v1) + ((3 : Int32) * x5))), none, none]) (st' := [.int (5 : Int32), .int v2]) [.iload_n 2, .iconst 5] (by decide +kernel) rfl rfl ?_
          refine wx_ic_ne 259 (off := 113) (by decide +kernel) (by decide) ?_ ?_
          · refine wx_weak (L' := [some (.ref 162), some (.int v1), none, none, none, none]) ⟨rfl, ⟨rfl, trivial⟩⟩ ?_
            refine l_f12_readAct_j259 G d hd v1 μ8
          · refine wx_blk (pc' := 153) (L' := [some (.ref 162), some (.int v1), some (.int v2), some (.int (((18 : Int32) * v1) + ((3 : Int32) * x5))), some (.int (0 : Int32)), none]) (st' := [.ref 162]) [.iconst 0, .istore 4, .aload_n 0] (by decide +kernel) rfl rfl ?_
            refine wx_geti is_162 ff_12_174 rfl (by decide +kernel) ?_
            refine wx_blk (pc' := 158) (L' := [some (.ref 162), some (.int v1), some (.int v2), some (.int (((18 : Int32) * v1) + ((3 : Int32) * x5))), some (.int (0 : Int32)), some (.int (μ8 162 31))]) (st' := []) [.istore 5] (by decide +kernel) rfl rfl ?_
            refine wx_weak (L' := [some (.ref 162), some (.int v1), none, some (.int (((18 : Int32) * v1) + ((3 : Int32) * x5))), some (.int (0 : Int32)), some (.int (μ8 162 31))]) ⟨rfl, ⟨rfl, ⟨rfl, ⟨rfl, ⟨rfl, trivial⟩⟩⟩⟩⟩ ?_
            refine l_f12_readAct_l158 G d hd _ ?_ 1000 v1 (((18 : Int32) * v1) + ((3 : Int32) * x5)) (0 : Int32) (μ8 162 31) μ8
            · intro y14 y15 y16 μ17
              refine l_f12_readAct_j199 G d hd y14 y15 y16 μ17
        · refine wx_blk (pc' := 111) (L' := [some (.ref 162), some (.int v1), some (.int v2), some (.int (((18 : Int32) * v1) + ((3 : Int32) * x5))), none, none]) (st' := [.ref 162]) [.aload_n 0] (by decide +kernel) rfl rfl ?_
          refine wx_getr is_162 ff_12_64 rfl rf_162_24 (by decide +kernel) ?_
          refine wx_blk (pc' := 119) (L' := [some (.ref 162), some (.int v1), some (.int v2), some (.int (((18 : Int32) * v1) + ((3 : Int32) * x5))), none, none]) (st' := [.ref 162, .ref 162, .int ((((18 : Int32) * v1) + ((3 : Int32) * x5)) + (1 : Int32)), .ref 181]) [.iload_n 3, .iconst 1, .iadd, .aload_n 0, .aload_n 0] (by decide +kernel) rfl rfl ?_
          refine wx_geti is_162 ff_12_251 rfl (by decide +kernel) ?_
          refine wx_blk (pc' := 124) (L' := [some (.ref 162), some (.int v1), some (.int v2), some (.int (((18 : Int32) * v1) + ((3 : Int32) * x5))), none, none]) (st' := [.int ((μ8 162 36) - (1 : Int32)), .ref 162, .int ((((18 : Int32) * v1) + ((3 : Int32) * x5)) + (1 : Int32)), .ref 181]) [.iconst 1, .isub] (by decide +kernel) rfl rfl ?_
          refine wx_callV (d1 := 3) (As := [.int ((μ8 162 36) - (1 : Int32))]) (rest := [.int ((((18 : Int32) * v1) + ((3 : Int32) * x5)) + (1 : Int32)), .ref 181]) (by omega) is_162 (by decide) rfl cv_12_248 rfl (Nat.le_of_ble_eq_true rfl) (l_f12_numberTo G 3 (by omega) ((μ8 162 36) - (1 : Int32)) μ8) rfl (by decide +kernel) (fun q22 => ?_)
          refine wx_ast is_181 sz_181 (by decide +kernel) (fun μ23 => ?_)
          refine wx_blk (pc' := 129) (L' := [some (.ref 162), some (.int v1), some (.int v2), some (.int (((18 : Int32) * v1) + ((3 : Int32) * x5))), none, none]) (st' := [.ref 162]) [.aload_n 0] (by decide +kernel) rfl rfl ?_
          refine wx_getr is_162 ff_12_64 rfl rf_162_24 (by decide +kernel) ?_
          refine wx_blk (pc' := 137) (L' := [some (.ref 162), some (.int v1), some (.int v2), some (.int (((18 : Int32) * v1) + ((3 : Int32) * x5))), none, none]) (st' := [.int (3 : Int32), .ref 162, .int ((((18 : Int32) * v1) + ((3 : Int32) * x5)) + (2 : Int32)), .ref 181]) [.iload_n 3, .iconst 2, .iadd, .aload_n 0, .iconst 3] (by decide +kernel) rfl rfl ?_
          refine wx_callV (d1 := 3) (As := [.int (3 : Int32)]) (rest := [.int ((((18 : Int32) * v1) + ((3 : Int32) * x5)) + (2 : Int32)), .ref 181]) (by omega) is_162 (by decide) rfl cv_12_248 rfl (Nat.le_of_ble_eq_true rfl) (l_f12_numberTo G 3 (by omega) (3 : Int32) μ23) rfl (by decide +kernel) (fun q24 => ?_)
          refine wx_ast is_181 sz_181 (by decide +kernel) (fun μ25 => ?_)
          refine wx_goto 259 (off := 118) (by decide +kernel) (by decide) ?_
          refine wx_weak (L' := [some (.ref 162), some (.int v1), none, none, none, none]) ⟨rfl, ⟨rfl, trivial⟩⟩ ?_
          refine l_f12_readAct_j259 G d hd v1 μ25
      · refine wx_weak (L' := [some (.ref 162), some (.int v1), none, some (.int (((18 : Int32) * v1) + ((3 : Int32) * x5))), none, none]) ⟨rfl, ⟨rfl, ⟨rfl, trivial⟩⟩⟩ ?_
        refine l_f12_readAct_j88 G d hd v1 (((18 : Int32) * v1) + ((3 : Int32) * x5)) μ8
  · exact wx_vret rfl rfl (by decide +kernel)
def f12_readAct (v1 : Int32) (μ : xMu) : Option xMu :=
  (x_ald μ 179 24 v1 fun x1 =>
((f12_actOfWord μ x1).bind fun x2 =>
(x_ald μ 180 24 v1 fun x3 =>
(if x3 = (6 : Int32) then
((f12_bad (3 : Int32) μ).bind fun μ26 =>
(f12_readAct_j27 v1 x2 μ26))
else
(f12_readAct_j27 v1 x2 μ)))))
set_option maxHeartbeats 4000000 in
set_option maxRecDepth 100000 in
theorem l_f12_readAct (G : xG) (d : Nat) (hd : 4 ≤ d) (v1 : Int32) (μ : xMu) : Mx G m12_readAct d [.ref 162, .int v1] μ x_wv (f12_readAct v1 μ) := by
  refine mx_enter ok12_readAct [some (.ref 162), some (.int v1), none, none, none, none] rfl (Nat.le_of_ble_eq_true rfl) ?_
  unfold f12_readAct
  refine wx_blk (pc' := 2) (L' := [some (.ref 162), some (.int v1), none, none, none, none]) (st' := [.ref 162, .ref 162]) [.aload_n 0, .aload_n 0] (by decide +kernel) rfl rfl ?_
  refine wx_getr is_162 ff_12_58 rfl rf_162_22 (by decide +kernel) ?_
  refine wx_blk (pc' := 6) (L' := [some (.ref 162), some (.int v1), none, none, none, none]) (st' := [.int v1, .ref 179, .ref 162]) [.iload_n 1] (by decide +kernel) rfl rfl ?_
  refine wx_ald is_179 sz_179 (by decide +kernel) (fun x1 => ?_)
  refine wx_callV (d1 := 1) (As := [.int x1]) (rest := []) (by omega) is_162 (by decide) rfl cv_12_268 rfl (Nat.le_of_ble_eq_true rfl) (l_f12_actOfWord G 1 (by omega) μ x1) rfl (by decide +kernel) (fun x2 => ?_)
  refine wx_blk (pc' := 12) (L' := [some (.ref 162), some (.int v1), some (.int x2), none, none, none]) (st' := [.ref 162]) [.istore_n 2, .aload_n 0] (by decide +kernel) rfl rfl ?_
  refine wx_getr is_162 ff_12_61 rfl rf_162_23 (by decide +kernel) ?_
  refine wx_blk (pc' := 16) (L' := [some (.ref 162), some (.int v1), some (.int x2), none, none, none]) (st' := [.int v1, .ref 180]) [.iload_n 1] (by decide +kernel) rfl rfl ?_
  refine wx_ald is_180 sz_180 (by decide +kernel) (fun x3 => ?_)
  refine wx_blk (pc' := 19) (L' := [some (.ref 162), some (.int v1), some (.int x2), none, none, none]) (st' := [.int (6 : Int32), .int x3]) [.bipush 6] (by decide +kernel) rfl rfl ?_
  refine wx_ic_ne 27 (off := 8) (by decide +kernel) (by decide) ?_ ?_
  · refine l_f12_readAct_j27 G d hd v1 x2 μ
  · refine wx_blk (pc' := 24) (L' := [some (.ref 162), some (.int v1), some (.int x2), none, none, none]) (st' := [.int (3 : Int32), .ref 162]) [.aload_n 0, .iconst 3] (by decide +kernel) rfl rfl ?_
    refine wx_callV (d1 := 0) (As := [.int (3 : Int32)]) (rest := []) (by omega) is_162 (by decide) rfl cv_12_198 rfl (Nat.le_of_ble_eq_true rfl) (l_f12_bad G 0 (by omega) (3 : Int32) μ) rfl (by decide +kernel) (fun μ26 => ?_)
    refine l_f12_readAct_j27 G d hd v1 x2 μ26
/-! WakingLayersModel.readBody()V -/
def f12_readBody_l118 (k148 : xMu → Option xMu) : Nat → Int32 → xMu → Option xMu
  | 0, _, _ => none
  | n + 1, v1, μ =>
  (if (μ 162 33) = 0 then
(x_ald μ 179 24 v1 fun x9 =>
((f12_actOfWord μ x9).bind fun x10 =>
(if x10 = (-1000000 : Int32) then
(k148 μ)
else
((f12_readAct v1 μ).bind fun μ11 =>
((f12_readBody_l118 k148 n) v1 μ11)))))
else
(k148 μ))
set_option maxHeartbeats 4000000 in
set_option maxRecDepth 100000 in
theorem l_f12_readBody_l118 (G : xG) (d : Nat) (hd : 5 ≤ d) (k148 : xMu → Option xMu) (h148 : ∀ (μ1 : xMu), Wx G m12_readBody d 148 [some (.ref 162), none] [] μ1 x_wv (k148 μ1)) : ∀ (n : Nat) (v1 : Int32) (μ : xMu), Wx G m12_readBody d 118 [some (.ref 162), some (.int v1)] [] μ x_wv (f12_readBody_l118 k148 n v1 μ) := by
  intro n
  induction n with
  | zero => intro v1 μ; exact wx_none
  | succ n h118 =>
    intro v1 μ
    unfold f12_readBody_l118
    refine wx_blk (pc' := 119) (L' := [some (.ref 162), some (.int v1)]) (st' := [.ref 162]) [.aload_n 0] (by decide +kernel) rfl rfl ?_
    refine wx_geti is_162 ff_12_192 rfl (by decide +kernel) ?_
    refine wx_if_ne 148 (off := 26) (by decide +kernel) (by decide) ?_ ?_
    · refine wx_weak (L' := [some (.ref 162), none]) ⟨rfl, trivial⟩ ?_
      exact h148 μ
    · refine wx_blk (pc' := 127) (L' := [some (.ref 162), some (.int v1)]) (st' := [.ref 162, .ref 162]) [.aload_n 0, .aload_n 0] (by decide +kernel) rfl rfl ?_
      refine wx_getr is_162 ff_12_58 rfl rf_162_22 (by decide +kernel) ?_
      refine wx_blk (pc' := 131) (L' := [some (.ref 162), some (.int v1)]) (st' := [.int v1, .ref 179, .ref 162]) [.iload_n 1] (by decide +kernel) rfl rfl ?_
      refine wx_ald is_179 sz_179 (by decide +kernel) (fun x9 => ?_)
      refine wx_callV (d1 := 1) (As := [.int x9]) (rest := []) (by omega) is_162 (by decide) rfl cv_12_268 rfl (Nat.le_of_ble_eq_true rfl) (l_f12_actOfWord G 1 (by omega) μ x9) rfl (by decide +kernel) (fun x10 => ?_)
      refine wx_ldc (v := -1000000) xw_1431 (by decide +kernel) ?_
      refine wx_ic_eq 148 (off := 11) (by decide +kernel) (by decide) ?_ ?_
      · refine wx_weak (L' := [some (.ref 162), none]) ⟨rfl, trivial⟩ ?_
        exact h148 μ
      · refine wx_blk (pc' := 142) (L' := [some (.ref 162), some (.int v1)]) (st' := [.int v1, .ref 162]) [.aload_n 0, .iload_n 1] (by decide +kernel) rfl rfl ?_
        refine wx_callV (d1 := 4) (As := [.int v1]) (rest := []) (by omega) is_162 (by decide) rfl cv_12_279 rfl (Nat.le_of_ble_eq_true rfl) (l_f12_readAct G 4 (by omega) v1 μ) rfl (by decide +kernel) (fun μ11 => ?_)
        refine wx_goto 118 (off := -27) (by decide +kernel) (by decide) ?_
        exact h118 v1 μ11
def f12_readBody_j148 (μ : xMu) : Option xMu :=
  (x_put μ 162 38 ((μ 162 38) + (1 : Int32)) fun μ13 =>
(some μ13))
set_option maxHeartbeats 4000000 in
set_option maxRecDepth 100000 in
theorem l_f12_readBody_j148 (G : xG) (d : Nat) (hd : 5 ≤ d) (μ : xMu) : Wx G m12_readBody d 148 [some (.ref 162), none] [] μ x_wv (f12_readBody_j148 μ) := by
  unfold f12_readBody_j148
  refine wx_blk (pc' := 150) (L' := [some (.ref 162), none]) (st' := [.ref 162, .ref 162]) [.aload_n 0, .dup] (by decide +kernel) rfl rfl ?_
  refine wx_geti is_162 ff_12_271 rfl (by decide +kernel) ?_
  refine wx_blk (pc' := 155) (L' := [some (.ref 162), none]) (st' := [.int ((μ 162 38) + (1 : Int32)), .ref 162]) [.iconst 1, .iadd] (by decide +kernel) rfl rfl ?_
  refine wx_put is_162 ff_12_271 fp_12_38 ⟨rfl, rfl⟩ (by decide +kernel) (fun μ13 => ?_)
  exact wx_vret rfl rfl (by decide +kernel)
def f12_readBody_j115 (v1 : Int32) (s1 : Int32) (μ : xMu) : Option xMu :=
  ((f12_must s1 μ).bind fun μ17 =>
(f12_readBody_l118 (fun (μ18 : xMu) => (f12_readBody_j148 μ18)) 1000 v1 μ17))
set_option maxHeartbeats 4000000 in
set_option maxRecDepth 100000 in
theorem l_f12_readBody_j115 (G : xG) (d : Nat) (hd : 5 ≤ d) (v1 : Int32) (s1 : Int32) (μ : xMu) : Wx G m12_readBody d 115 [some (.ref 162), some (.int v1)] [.int s1, .ref 162] μ x_wv (f12_readBody_j115 v1 s1 μ) := by
  unfold f12_readBody_j115
  refine wx_callV (d1 := 2) (As := [.int s1]) (rest := []) (by omega) is_162 (by decide) rfl cv_12_205 rfl (Nat.le_of_ble_eq_true rfl) (l_f12_must G 2 (by omega) s1 μ) rfl (by decide +kernel) (fun μ17 => ?_)
  refine l_f12_readBody_l118 G d hd _ ?_ 1000 v1 μ17
  · intro μ18
    refine l_f12_readBody_j148 G d hd μ18
def f12_readBody_j47 (v1 : Int32) (μ : xMu) : Option xMu :=
  ((f12_numberTo ((μ 162 35) - (1 : Int32)) μ).bind fun q4 =>
(x_ast q4.2 177 24 v1 q4.1 fun μ5 =>
((f12_numberTo (3 : Int32) μ5).bind fun q6 =>
(x_ast q6.2 178 24 v1 q6.1 fun μ7 =>
(x_ast μ7 180 24 v1 (0 : Int32) fun μ8 =>
(if (μ8 162 33) = 0 then
((f12_wayOfWord μ8).bind fun x14 =>
(x_ast μ8 179 24 v1 x14 fun μ15 =>
(x_ald μ15 179 24 v1 fun x16 =>
(if x16 = (-1000000 : Int32) then
(f12_readBody_j115 v1 (0 : Int32) μ15)
else
(f12_readBody_j115 v1 (1 : Int32) μ15)))))
else
(f12_readBody_l118 (fun (μ12 : xMu) => (f12_readBody_j148 μ12)) 1000 v1 μ8)))))))
set_option maxHeartbeats 4000000 in
set_option maxRecDepth 100000 in
theorem l_f12_readBody_j47 (G : xG) (d : Nat) (hd : 5 ≤ d) (v1 : Int32) (μ : xMu) : Wx G m12_readBody d 47 [some (.ref 162), some (.int v1)] [] μ x_wv (f12_readBody_j47 v1 μ) := by
  unfold f12_readBody_j47
  refine wx_blk (pc' := 48) (L' := [some (.ref 162), some (.int v1)]) (st' := [.ref 162]) [.aload_n 0] (by decide +kernel) rfl rfl ?_
  refine wx_getr is_162 ff_12_52 rfl rf_162_20 (by decide +kernel) ?_
  refine wx_blk (pc' := 54) (L' := [some (.ref 162), some (.int v1)]) (st' := [.ref 162, .ref 162, .int v1, .ref 177]) [.iload_n 1, .aload_n 0, .aload_n 0] (by decide +kernel) rfl rfl ?_
  refine wx_geti is_162 ff_12_243 rfl (by decide +kernel) ?_
  refine wx_blk (pc' := 59) (L' := [some (.ref 162), some (.int v1)]) (st' := [.int ((μ 162 35) - (1 : Int32)), .ref 162, .int v1, .ref 177]) [.iconst 1, .isub] (by decide +kernel) rfl rfl ?_
  refine wx_callV (d1 := 3) (As := [.int ((μ 162 35) - (1 : Int32))]) (rest := [.int v1, .ref 177]) (by omega) is_162 (by decide) rfl cv_12_248 rfl (Nat.le_of_ble_eq_true rfl) (l_f12_numberTo G 3 (by omega) ((μ 162 35) - (1 : Int32)) μ) rfl (by decide +kernel) (fun q4 => ?_)
  refine wx_ast is_177 sz_177 (by decide +kernel) (fun μ5 => ?_)
  refine wx_blk (pc' := 64) (L' := [some (.ref 162), some (.int v1)]) (st' := [.ref 162]) [.aload_n 0] (by decide +kernel) rfl rfl ?_
  refine wx_getr is_162 ff_12_55 rfl rf_162_21 (by decide +kernel) ?_
  refine wx_blk (pc' := 70) (L' := [some (.ref 162), some (.int v1)]) (st' := [.int (3 : Int32), .ref 162, .int v1, .ref 178]) [.iload_n 1, .aload_n 0, .iconst 3] (by decide +kernel) rfl rfl ?_
  refine wx_callV (d1 := 3) (As := [.int (3 : Int32)]) (rest := [.int v1, .ref 178]) (by omega) is_162 (by decide) rfl cv_12_248 rfl (Nat.le_of_ble_eq_true rfl) (l_f12_numberTo G 3 (by omega) (3 : Int32) μ5) rfl (by decide +kernel) (fun q6 => ?_)
  refine wx_ast is_178 sz_178 (by decide +kernel) (fun μ7 => ?_)
  refine wx_blk (pc' := 75) (L' := [some (.ref 162), some (.int v1)]) (st' := [.ref 162]) [.aload_n 0] (by decide +kernel) rfl rfl ?_
  refine wx_getr is_162 ff_12_61 rfl rf_162_23 (by decide +kernel) ?_
  refine wx_blk (pc' := 80) (L' := [some (.ref 162), some (.int v1)]) (st' := [.int (0 : Int32), .int v1, .ref 180]) [.iload_n 1, .iconst 0] (by decide +kernel) rfl rfl ?_
  refine wx_ast is_180 sz_180 (by decide +kernel) (fun μ8 => ?_)
  refine wx_blk (pc' := 82) (L' := [some (.ref 162), some (.int v1)]) (st' := [.ref 162]) [.aload_n 0] (by decide +kernel) rfl rfl ?_
  refine wx_geti is_162 ff_12_192 rfl (by decide +kernel) ?_
  refine wx_if_ne 118 (off := 33) (by decide +kernel) (by decide) ?_ ?_
  · refine l_f12_readBody_l118 G d hd _ ?_ 1000 v1 μ8
    · intro μ12
      refine l_f12_readBody_j148 G d hd μ12
  · refine wx_blk (pc' := 89) (L' := [some (.ref 162), some (.int v1)]) (st' := [.ref 162]) [.aload_n 0] (by decide +kernel) rfl rfl ?_
    refine wx_getr is_162 ff_12_58 rfl rf_162_22 (by decide +kernel) ?_
    refine wx_blk (pc' := 94) (L' := [some (.ref 162), some (.int v1)]) (st' := [.ref 162, .int v1, .ref 179]) [.iload_n 1, .aload_n 0] (by decide +kernel) rfl rfl ?_
    refine wx_callV (d1 := 1) (As := []) (rest := [.int v1, .ref 179]) (by omega) is_162 (by decide) rfl cv_12_276 rfl (Nat.le_of_ble_eq_true rfl) (l_f12_wayOfWord G 1 (by omega) μ8) rfl (by decide +kernel) (fun x14 => ?_)
    refine wx_ast is_179 sz_179 (by decide +kernel) (fun μ15 => ?_)
    refine wx_blk (pc' := 100) (L' := [some (.ref 162), some (.int v1)]) (st' := [.ref 162, .ref 162]) [.aload_n 0, .aload_n 0] (by decide +kernel) rfl rfl ?_
    refine wx_getr is_162 ff_12_58 rfl rf_162_22 (by decide +kernel) ?_
    refine wx_blk (pc' := 104) (L' := [some (.ref 162), some (.int v1)]) (st' := [.int v1, .ref 179, .ref 162]) [.iload_n 1] (by decide +kernel) rfl rfl ?_
    refine wx_ald is_179 sz_179 (by decide +kernel) (fun x16 => ?_)
    refine wx_ldc (v := -1000000) xw_1431 (by decide +kernel) ?_
    refine wx_ic_eq 114 (off := 7) (by decide +kernel) (by decide) ?_ ?_
    · refine wx_blk (pc' := 115) (L' := [some (.ref 162), some (.int v1)]) (st' := [.int (0 : Int32), .ref 162]) [.iconst 0] (by decide +kernel) rfl rfl ?_
      refine l_f12_readBody_j115 G d hd v1 (0 : Int32) μ15
    · refine wx_blk (pc' := 111) (L' := [some (.ref 162), some (.int v1)]) (st' := [.int (1 : Int32), .ref 162]) [.iconst 1] (by decide +kernel) rfl rfl ?_
      refine wx_goto 115 (off := 4) (by decide +kernel) (by decide) ?_
      refine l_f12_readBody_j115 G d hd v1 (1 : Int32) μ15
def f12_readBody (μ : xMu) : Option xMu :=
  ((f12_word μ).bind fun x1 =>
(if (lg_cmp x1 (482854660462 : Int64)) = 0 then
(x_ast μ 176 24 (μ 162 38) (-1000000 : Int32) fun μ19 =>
((f12_step μ19).bind fun μ20 =>
(f12_readBody_j47 (μ 162 38) μ20)))
else
((f12_numberTo ((μ 162 37) - (1 : Int32)) μ).bind fun q2 =>
(x_ast q2.2 176 24 (μ 162 38) q2.1 fun μ3 =>
(f12_readBody_j47 (μ 162 38) μ3)))))
set_option maxHeartbeats 4000000 in
set_option maxRecDepth 100000 in
theorem l_f12_readBody (G : xG) (d : Nat) (hd : 5 ≤ d) (μ : xMu) : Mx G m12_readBody d [.ref 162] μ x_wv (f12_readBody μ) := by
  refine mx_enter ok12_readBody [some (.ref 162), none] rfl (Nat.le_of_ble_eq_true rfl) ?_
  unfold f12_readBody
  refine wx_blk (pc' := 1) (L' := [some (.ref 162), none]) (st' := [.ref 162]) [.aload_n 0] (by decide +kernel) rfl rfl ?_
  refine wx_geti is_162 ff_12_271 rfl (by decide +kernel) ?_
  refine wx_blk (pc' := 6) (L' := [some (.ref 162), some (.int (μ 162 38))]) (st' := [.ref 162]) [.istore_n 1, .aload_n 0] (by decide +kernel) rfl rfl ?_
  refine wx_callV (d1 := 0) (As := []) (rest := []) (by omega) is_162 (by decide) rfl cv_12_209 rfl (Nat.le_of_ble_eq_true rfl) (l_f12_word G 0 (by omega) μ) rfl (by decide +kernel) (fun x1 => ?_)
  refine wx_ldc2 (v := 482854660462) xw_1491 (by decide +kernel) ?_
  refine wx_blk (pc' := 13) (L' := [some (.ref 162), some (.int (μ 162 38))]) (st' := [.int (lg_cmp x1 (482854660462 : Int64))]) [.lcmp] (by decide +kernel) rfl rfl ?_
  refine wx_if_ne 31 (off := 18) (by decide +kernel) (by decide) ?_ ?_
  · refine wx_blk (pc' := 32) (L' := [some (.ref 162), some (.int (μ 162 38))]) (st' := [.ref 162]) [.aload_n 0] (by decide +kernel) rfl rfl ?_
    refine wx_getr is_162 ff_12_49 rfl rf_162_19 (by decide +kernel) ?_
    refine wx_blk (pc' := 38) (L' := [some (.ref 162), some (.int (μ 162 38))]) (st' := [.ref 162, .ref 162, .int (μ 162 38), .ref 176]) [.iload_n 1, .aload_n 0, .aload_n 0] (by decide +kernel) rfl rfl ?_
    refine wx_geti is_162 ff_12_254 rfl (by decide +kernel) ?_
    refine wx_blk (pc' := 43) (L' := [some (.ref 162), some (.int (μ 162 38))]) (st' := [.int ((μ 162 37) - (1 : Int32)), .ref 162, .int (μ 162 38), .ref 176]) [.iconst 1, .isub] (by decide +kernel) rfl rfl ?_
    refine wx_callV (d1 := 3) (As := [.int ((μ 162 37) - (1 : Int32))]) (rest := [.int (μ 162 38), .ref 176]) (by omega) is_162 (by decide) rfl cv_12_248 rfl (Nat.le_of_ble_eq_true rfl) (l_f12_numberTo G 3 (by omega) ((μ 162 37) - (1 : Int32)) μ) rfl (by decide +kernel) (fun q2 => ?_)
    refine wx_ast is_176 sz_176 (by decide +kernel) (fun μ3 => ?_)
    refine l_f12_readBody_j47 G d hd (μ 162 38) μ3
  · refine wx_blk (pc' := 17) (L' := [some (.ref 162), some (.int (μ 162 38))]) (st' := [.ref 162]) [.aload_n 0] (by decide +kernel) rfl rfl ?_
    refine wx_getr is_162 ff_12_49 rfl rf_162_19 (by decide +kernel) ?_
    refine wx_blk (pc' := 21) (L' := [some (.ref 162), some (.int (μ 162 38))]) (st' := [.int (μ 162 38), .ref 176]) [.iload_n 1] (by decide +kernel) rfl rfl ?_
    refine wx_ldc (v := -1000000) xw_1431 (by decide +kernel) ?_
    refine wx_ast is_176 sz_176 (by decide +kernel) (fun μ19 => ?_)
    refine wx_blk (pc' := 25) (L' := [some (.ref 162), some (.int (μ 162 38))]) (st' := [.ref 162]) [.aload_n 0] (by decide +kernel) rfl rfl ?_
    refine wx_callV (d1 := 1) (As := []) (rest := []) (by omega) is_162 (by decide) rfl cv_12_202 rfl (Nat.le_of_ble_eq_true rfl) (l_f12_step G 1 (by omega) μ19) rfl (by decide +kernel) (fun μ20 => ?_)
    refine wx_goto 47 (off := 19) (by decide +kernel) (by decide) ?_
    refine l_f12_readBody_j47 G d hd (μ 162 38) μ20
/-! WakingLayersModel.read()I -/
def f12_read_j292 (k64 : xMu → Option (Int32 × xMu)) (μ : xMu) : Option (Int32 × xMu) :=
  (k64 μ)
set_option maxHeartbeats 4000000 in
set_option maxRecDepth 100000 in
theorem l_f12_read_j292 (G : xG) (d : Nat) (hd : 6 ≤ d) (k64 : xMu → Option (Int32 × xMu)) (h64 : ∀ (μ1 : xMu), Wx G m12_read d 64 [some (.ref 162), none, none] [] μ1 x_wim (k64 μ1)) (μ : xMu) : Wx G m12_read d 292 [some (.ref 162), none, none] [] μ x_wim (f12_read_j292 k64 μ) := by
  unfold f12_read_j292
  refine wx_goto 64 (off := -228) (by decide +kernel) (by decide) ?_
  exact h64 μ
def f12_read_j275 (k64 : xMu → Option (Int32 × xMu)) (μ : xMu) : Option (Int32 × xMu) :=
  (if (μ 162 33) = 0 then
((f12_is μ (59 : Int32)).bind fun x13 =>
((f12_must x13 μ).bind fun μ14 =>
(f12_read_j292 k64 μ14)))
else
(f12_read_j292 k64 μ))
set_option maxHeartbeats 4000000 in
set_option maxRecDepth 100000 in
theorem l_f12_read_j275 (G : xG) (d : Nat) (hd : 6 ≤ d) (k64 : xMu → Option (Int32 × xMu)) (h64 : ∀ (μ1 : xMu), Wx G m12_read d 64 [some (.ref 162), none, none] [] μ1 x_wim (k64 μ1)) (μ : xMu) : Wx G m12_read d 275 [some (.ref 162), none, none] [] μ x_wim (f12_read_j275 k64 μ) := by
  unfold f12_read_j275
  refine wx_blk (pc' := 276) (L' := [some (.ref 162), none, none]) (st' := [.ref 162]) [.aload_n 0] (by decide +kernel) rfl rfl ?_
  refine wx_geti is_162 ff_12_192 rfl (by decide +kernel) ?_
  refine wx_if_ne 292 (off := 13) (by decide +kernel) (by decide) ?_ ?_
  · refine l_f12_read_j292 G d hd _ h64 μ
  · refine wx_blk (pc' := 286) (L' := [some (.ref 162), none, none]) (st' := [.int (59 : Int32), .ref 162, .ref 162]) [.aload_n 0, .aload_n 0, .bipush 59] (by decide +kernel) rfl rfl ?_
    refine wx_callV (d1 := 1) (As := [.int (59 : Int32)]) (rest := [.ref 162]) (by omega) is_162 (by decide) rfl cv_12_261 rfl (Nat.le_of_ble_eq_true rfl) (l_f12_is G 1 (by omega) μ (59 : Int32)) rfl (by decide +kernel) (fun x13 => ?_)
    refine wx_callV (d1 := 2) (As := [.int x13]) (rest := []) (by omega) is_162 (by decide) rfl cv_12_205 rfl (Nat.le_of_ble_eq_true rfl) (l_f12_must G 2 (by omega) x13 μ) rfl (by decide +kernel) (fun μ14 => ?_)
    refine l_f12_read_j292 G d hd _ h64 μ14
def f12_read_j264 (k64 : xMu → Option (Int32 × xMu)) (μ : xMu) : Option (Int32 × xMu) :=
  (if (μ 162 33) = 0 then
((f12_readBody μ).bind fun μ15 =>
(f12_read_j275 k64 μ15))
else
(f12_read_j275 k64 μ))
set_option maxHeartbeats 4000000 in
set_option maxRecDepth 100000 in
theorem l_f12_read_j264 (G : xG) (d : Nat) (hd : 6 ≤ d) (k64 : xMu → Option (Int32 × xMu)) (h64 : ∀ (μ1 : xMu), Wx G m12_read d 64 [some (.ref 162), none, none] [] μ1 x_wim (k64 μ1)) (μ : xMu) : Wx G m12_read d 264 [some (.ref 162), none, none] [] μ x_wim (f12_read_j264 k64 μ) := by
  unfold f12_read_j264
  refine wx_blk (pc' := 265) (L' := [some (.ref 162), none, none]) (st' := [.ref 162]) [.aload_n 0] (by decide +kernel) rfl rfl ?_
  refine wx_geti is_162 ff_12_192 rfl (by decide +kernel) ?_
  refine wx_if_ne 275 (off := 7) (by decide +kernel) (by decide) ?_ ?_
  · refine l_f12_read_j275 G d hd _ h64 μ
  · refine wx_blk (pc' := 272) (L' := [some (.ref 162), none, none]) (st' := [.ref 162]) [.aload_n 0] (by decide +kernel) rfl rfl ?_
    refine wx_callV (d1 := 5) (As := []) (rest := []) (by omega) is_162 (by decide) rfl cv_12_309 rfl (Nat.le_of_ble_eq_true rfl) (l_f12_readBody G 5 (by omega) μ) rfl (by decide +kernel) (fun μ15 => ?_)
    refine l_f12_read_j275 G d hd _ h64 μ15
def f12_read_j242 (k64 : xMu → Option (Int32 × xMu)) (v1 : Int64) (μ : xMu) : Option (Int32 × xMu) :=
  (if (μ 162 33) = 0 then
(if (lg_cmp v1 (465491813746 : Int64)) = 0 then
((f12_readLayer μ).bind fun μ16 =>
(f12_read_j275 k64 μ16))
else
(f12_read_j264 k64 μ))
else
(f12_read_j264 k64 μ))
set_option maxHeartbeats 4000000 in
set_option maxRecDepth 100000 in
theorem l_f12_read_j242 (G : xG) (d : Nat) (hd : 6 ≤ d) (k64 : xMu → Option (Int32 × xMu)) (h64 : ∀ (μ1 : xMu), Wx G m12_read d 64 [some (.ref 162), none, none] [] μ1 x_wim (k64 μ1)) (v1 : Int64) (μ : xMu) : Wx G m12_read d 242 [some (.ref 162), some (.long v1), none] [] μ x_wim (f12_read_j242 k64 v1 μ) := by
  unfold f12_read_j242
  refine wx_blk (pc' := 243) (L' := [some (.ref 162), some (.long v1), none]) (st' := [.ref 162]) [.aload_n 0] (by decide +kernel) rfl rfl ?_
  refine wx_geti is_162 ff_12_192 rfl (by decide +kernel) ?_
  refine wx_if_ne 264 (off := 18) (by decide +kernel) (by decide) ?_ ?_
  · refine wx_weak (L' := [some (.ref 162), none, none]) ⟨rfl, trivial⟩ ?_
    refine l_f12_read_j264 G d hd _ h64 μ
  · refine wx_blk (pc' := 250) (L' := [some (.ref 162), some (.long v1), none]) (st' := [.long v1]) [.lload_n 1] (by decide +kernel) rfl rfl ?_
    refine wx_ldc2 (v := 465491813746) xw_1447 (by decide +kernel) ?_
    refine wx_blk (pc' := 254) (L' := [some (.ref 162), some (.long v1), none]) (st' := [.int (lg_cmp v1 (465491813746 : Int64))]) [.lcmp] (by decide +kernel) rfl rfl ?_
    refine wx_if_ne 264 (off := 10) (by decide +kernel) (by decide) ?_ ?_
    · refine wx_weak (L' := [some (.ref 162), none, none]) ⟨rfl, trivial⟩ ?_
      refine l_f12_read_j264 G d hd _ h64 μ
    · refine wx_blk (pc' := 258) (L' := [some (.ref 162), some (.long v1), none]) (st' := [.ref 162]) [.aload_n 0] (by decide +kernel) rfl rfl ?_
      refine wx_callV (d1 := 4) (As := []) (rest := []) (by omega) is_162 (by decide) rfl cv_12_306 rfl (Nat.le_of_ble_eq_true rfl) (l_f12_readLayer G 4 (by omega) μ) rfl (by decide +kernel) (fun μ16 => ?_)
      refine wx_goto 275 (off := 14) (by decide +kernel) (by decide) ?_
      refine wx_weak (L' := [some (.ref 162), none, none]) ⟨rfl, trivial⟩ ?_
      refine l_f12_read_j275 G d hd _ h64 μ16
def f12_read_j220 (k64 : xMu → Option (Int32 × xMu)) (v1 : Int64) (μ : xMu) : Option (Int32 × xMu) :=
  (if (μ 162 33) = 0 then
(if (lg_cmp v1 (499967946343 : Int64)) = 0 then
((f12_readThing μ).bind fun μ17 =>
(f12_read_j275 k64 μ17))
else
(f12_read_j242 k64 v1 μ))
else
(f12_read_j242 k64 v1 μ))
set_option maxHeartbeats 4000000 in
set_option maxRecDepth 100000 in
theorem l_f12_read_j220 (G : xG) (d : Nat) (hd : 6 ≤ d) (k64 : xMu → Option (Int32 × xMu)) (h64 : ∀ (μ1 : xMu), Wx G m12_read d 64 [some (.ref 162), none, none] [] μ1 x_wim (k64 μ1)) (v1 : Int64) (μ : xMu) : Wx G m12_read d 220 [some (.ref 162), some (.long v1), none] [] μ x_wim (f12_read_j220 k64 v1 μ) := by
  unfold f12_read_j220
  refine wx_blk (pc' := 221) (L' := [some (.ref 162), some (.long v1), none]) (st' := [.ref 162]) [.aload_n 0] (by decide +kernel) rfl rfl ?_
  refine wx_geti is_162 ff_12_192 rfl (by decide +kernel) ?_
  refine wx_if_ne 242 (off := 18) (by decide +kernel) (by decide) ?_ ?_
  · refine l_f12_read_j242 G d hd _ h64 v1 μ
  · refine wx_blk (pc' := 228) (L' := [some (.ref 162), some (.long v1), none]) (st' := [.long v1]) [.lload_n 1] (by decide +kernel) rfl rfl ?_
    refine wx_ldc2 (v := 499967946343) xw_1446 (by decide +kernel) ?_
    refine wx_blk (pc' := 232) (L' := [some (.ref 162), some (.long v1), none]) (st' := [.int (lg_cmp v1 (499967946343 : Int64))]) [.lcmp] (by decide +kernel) rfl rfl ?_
    refine wx_if_ne 242 (off := 10) (by decide +kernel) (by decide) ?_ ?_
    · refine l_f12_read_j242 G d hd _ h64 v1 μ
    · refine wx_blk (pc' := 236) (L' := [some (.ref 162), some (.long v1), none]) (st' := [.ref 162]) [.aload_n 0] (by decide +kernel) rfl rfl ?_
      refine wx_callV (d1 := 4) (As := []) (rest := []) (by omega) is_162 (by decide) rfl cv_12_303 rfl (Nat.le_of_ble_eq_true rfl) (l_f12_readThing G 4 (by omega) μ) rfl (by decide +kernel) (fun μ17 => ?_)
      refine wx_goto 275 (off := 36) (by decide +kernel) (by decide) ?_
      refine wx_weak (L' := [some (.ref 162), none, none]) ⟨rfl, trivial⟩ ?_
      refine l_f12_read_j275 G d hd _ h64 μ17
def f12_read_j195 (k64 : xMu → Option (Int32 × xMu)) (v1 : Int64) (s1 : Int32) (μ : xMu) : Option (Int32 × xMu) :=
  ((f12_must s1 μ).bind fun μ12 =>
(if (μ12 162 33) = 0 then
(if (lg_cmp v1 (1802071652 : Int64)) = 0 then
((f12_readKind μ12).bind fun μ18 =>
(f12_read_j275 k64 μ18))
else
(f12_read_j220 k64 v1 μ12))
else
(f12_read_j220 k64 v1 μ12)))
set_option maxHeartbeats 4000000 in
set_option maxRecDepth 100000 in
theorem l_f12_read_j195 (G : xG) (d : Nat) (hd : 6 ≤ d) (k64 : xMu → Option (Int32 × xMu)) (h64 : ∀ (μ1 : xMu), Wx G m12_read d 64 [some (.ref 162), none, none] [] μ1 x_wim (k64 μ1)) (v1 : Int64) (s1 : Int32) (μ : xMu) : Wx G m12_read d 195 [some (.ref 162), some (.long v1), none] [.int s1, .ref 162] μ x_wim (f12_read_j195 k64 v1 s1 μ) := by
  unfold f12_read_j195
  refine wx_callV (d1 := 2) (As := [.int s1]) (rest := []) (by omega) is_162 (by decide) rfl cv_12_205 rfl (Nat.le_of_ble_eq_true rfl) (l_f12_must G 2 (by omega) s1 μ) rfl (by decide +kernel) (fun μ12 => ?_)
  refine wx_blk (pc' := 199) (L' := [some (.ref 162), some (.long v1), none]) (st' := [.ref 162]) [.aload_n 0] (by decide +kernel) rfl rfl ?_
  refine wx_geti is_162 ff_12_192 rfl (by decide +kernel) ?_
  refine wx_if_ne 220 (off := 18) (by decide +kernel) (by decide) ?_ ?_
  · refine l_f12_read_j220 G d hd _ h64 v1 μ12
  · refine wx_blk (pc' := 206) (L' := [some (.ref 162), some (.long v1), none]) (st' := [.long v1]) [.lload_n 1] (by decide +kernel) rfl rfl ?_
    refine wx_ldc2 (v := 1802071652) xw_1445 (by decide +kernel) ?_
    refine wx_blk (pc' := 210) (L' := [some (.ref 162), some (.long v1), none]) (st' := [.int (lg_cmp v1 (1802071652 : Int64))]) [.lcmp] (by decide +kernel) rfl rfl ?_
    refine wx_if_ne 220 (off := 10) (by decide +kernel) (by decide) ?_ ?_
    · refine l_f12_read_j220 G d hd _ h64 v1 μ12
    · refine wx_blk (pc' := 214) (L' := [some (.ref 162), some (.long v1), none]) (st' := [.ref 162]) [.aload_n 0] (by decide +kernel) rfl rfl ?_
      refine wx_callV (d1 := 4) (As := []) (rest := []) (by omega) is_162 (by decide) rfl cv_12_300 rfl (Nat.le_of_ble_eq_true rfl) (l_f12_readKind G 4 (by omega) μ12) rfl (by decide +kernel) (fun μ18 => ?_)
      refine wx_goto 275 (off := 58) (by decide +kernel) (by decide) ?_
      refine wx_weak (L' := [some (.ref 162), none, none]) ⟨rfl, trivial⟩ ?_
      refine l_f12_read_j275 G d hd _ h64 μ18
def f12_read_j190 (k64 : xMu → Option (Int32 × xMu)) (v1 : Int64) (μ : xMu) : Option (Int32 × xMu) :=
  (f12_read_j195 k64 v1 (1 : Int32) μ)
set_option maxHeartbeats 4000000 in
set_option maxRecDepth 100000 in
theorem l_f12_read_j190 (G : xG) (d : Nat) (hd : 6 ≤ d) (k64 : xMu → Option (Int32 × xMu)) (h64 : ∀ (μ1 : xMu), Wx G m12_read d 64 [some (.ref 162), none, none] [] μ1 x_wim (k64 μ1)) (v1 : Int64) (μ : xMu) : Wx G m12_read d 190 [some (.ref 162), some (.long v1), none] [.ref 162] μ x_wim (f12_read_j190 k64 v1 μ) := by
  unfold f12_read_j190
  refine wx_blk (pc' := 191) (L' := [some (.ref 162), some (.long v1), none]) (st' := [.int (1 : Int32), .ref 162]) [.iconst 1] (by decide +kernel) rfl rfl ?_
  refine wx_goto 195 (off := 4) (by decide +kernel) (by decide) ?_
  refine l_f12_read_j195 G d hd _ h64 v1 (1 : Int32) μ
def f12_read_j157 (k64 : xMu → Option (Int32 × xMu)) (v1 : Int64) (μ : xMu) : Option (Int32 × xMu) :=
  (if (lg_cmp v1 (1802071652 : Int64)) = 0 then
(f12_read_j190 k64 v1 μ)
else
(if (lg_cmp v1 (499967946343 : Int64)) = 0 then
(f12_read_j190 k64 v1 μ)
else
(if (lg_cmp v1 (465491813746 : Int64)) = 0 then
(f12_read_j190 k64 v1 μ)
else
(if (lg_cmp v1 (1651467385 : Int64)) = 0 then
(f12_read_j190 k64 v1 μ)
else
(f12_read_j195 k64 v1 (0 : Int32) μ)))))
set_option maxHeartbeats 4000000 in
set_option maxRecDepth 100000 in
theorem l_f12_read_j157 (G : xG) (d : Nat) (hd : 6 ≤ d) (k64 : xMu → Option (Int32 × xMu)) (h64 : ∀ (μ1 : xMu), Wx G m12_read d 64 [some (.ref 162), none, none] [] μ1 x_wim (k64 μ1)) (v1 : Int64) (μ : xMu) : Wx G m12_read d 157 [some (.ref 162), some (.long v1), none] [] μ x_wim (f12_read_j157 k64 v1 μ) := by
  unfold f12_read_j157
  refine wx_blk (pc' := 159) (L' := [some (.ref 162), some (.long v1), none]) (st' := [.long v1, .ref 162]) [.aload_n 0, .lload_n 1] (by decide +kernel) rfl rfl ?_
  refine wx_ldc2 (v := 1802071652) xw_1445 (by decide +kernel) ?_
  refine wx_blk (pc' := 163) (L' := [some (.ref 162), some (.long v1), none]) (st' := [.int (lg_cmp v1 (1802071652 : Int64)), .ref 162]) [.lcmp] (by decide +kernel) rfl rfl ?_
  refine wx_if_eq 190 (off := 27) (by decide +kernel) (by decide) ?_ ?_
  · refine l_f12_read_j190 G d hd _ h64 v1 μ
  · refine wx_blk (pc' := 167) (L' := [some (.ref 162), some (.long v1), none]) (st' := [.long v1, .ref 162]) [.lload_n 1] (by decide +kernel) rfl rfl ?_
    refine wx_ldc2 (v := 499967946343) xw_1446 (by decide +kernel) ?_
    refine wx_blk (pc' := 171) (L' := [some (.ref 162), some (.long v1), none]) (st' := [.int (lg_cmp v1 (499967946343 : Int64)), .ref 162]) [.lcmp] (by decide +kernel) rfl rfl ?_
    refine wx_if_eq 190 (off := 19) (by decide +kernel) (by decide) ?_ ?_
    · refine l_f12_read_j190 G d hd _ h64 v1 μ
    · refine wx_blk (pc' := 175) (L' := [some (.ref 162), some (.long v1), none]) (st' := [.long v1, .ref 162]) [.lload_n 1] (by decide +kernel) rfl rfl ?_
      refine wx_ldc2 (v := 465491813746) xw_1447 (by decide +kernel) ?_
      refine wx_blk (pc' := 179) (L' := [some (.ref 162), some (.long v1), none]) (st' := [.int (lg_cmp v1 (465491813746 : Int64)), .ref 162]) [.lcmp] (by decide +kernel) rfl rfl ?_
      refine wx_if_eq 190 (off := 11) (by decide +kernel) (by decide) ?_ ?_
      · refine l_f12_read_j190 G d hd _ h64 v1 μ
      · refine wx_blk (pc' := 183) (L' := [some (.ref 162), some (.long v1), none]) (st' := [.long v1, .ref 162]) [.lload_n 1] (by decide +kernel) rfl rfl ?_
        refine wx_ldc2 (v := 1651467385) xw_1448 (by decide +kernel) ?_
        refine wx_blk (pc' := 187) (L' := [some (.ref 162), some (.long v1), none]) (st' := [.int (lg_cmp v1 (1651467385 : Int64)), .ref 162]) [.lcmp] (by decide +kernel) rfl rfl ?_
        refine wx_if_ne 194 (off := 7) (by decide +kernel) (by decide) ?_ ?_
        · refine wx_blk (pc' := 195) (L' := [some (.ref 162), some (.long v1), none]) (st' := [.int (0 : Int32), .ref 162]) [.iconst 0] (by decide +kernel) rfl rfl ?_
          refine l_f12_read_j195 G d hd _ h64 v1 (0 : Int32) μ
        · refine l_f12_read_j190 G d hd _ h64 v1 μ
def f12_read_j152 (k64 : xMu → Option (Int32 × xMu)) (v1 : Int64) (μ : xMu) : Option (Int32 × xMu) :=
  ((f12_bad (3 : Int32) μ).bind fun μ19 =>
(f12_read_j157 k64 v1 μ19))
set_option maxHeartbeats 4000000 in
set_option maxRecDepth 100000 in
theorem l_f12_read_j152 (G : xG) (d : Nat) (hd : 6 ≤ d) (k64 : xMu → Option (Int32 × xMu)) (h64 : ∀ (μ1 : xMu), Wx G m12_read d 64 [some (.ref 162), none, none] [] μ1 x_wim (k64 μ1)) (v1 : Int64) (μ : xMu) : Wx G m12_read d 152 [some (.ref 162), some (.long v1), none] [] μ x_wim (f12_read_j152 k64 v1 μ) := by
  unfold f12_read_j152
  refine wx_blk (pc' := 154) (L' := [some (.ref 162), some (.long v1), none]) (st' := [.int (3 : Int32), .ref 162]) [.aload_n 0, .iconst 3] (by decide +kernel) rfl rfl ?_
  refine wx_callV (d1 := 0) (As := [.int (3 : Int32)]) (rest := []) (by omega) is_162 (by decide) rfl cv_12_198 rfl (Nat.le_of_ble_eq_true rfl) (l_f12_bad G 0 (by omega) (3 : Int32) μ) rfl (by decide +kernel) (fun μ19 => ?_)
  refine l_f12_read_j157 G d hd _ h64 v1 μ19
def f12_read_j135 (k64 : xMu → Option (Int32 × xMu)) (v1 : Int64) (μ : xMu) : Option (Int32 × xMu) :=
  (if (lg_cmp v1 (1651467385 : Int64)) = 0 then
(if (μ 162 38) = (24 : Int32) then
(f12_read_j152 k64 v1 μ)
else
(f12_read_j157 k64 v1 μ))
else
(f12_read_j157 k64 v1 μ))
set_option maxHeartbeats 4000000 in
set_option maxRecDepth 100000 in
theorem l_f12_read_j135 (G : xG) (d : Nat) (hd : 6 ≤ d) (k64 : xMu → Option (Int32 × xMu)) (h64 : ∀ (μ1 : xMu), Wx G m12_read d 64 [some (.ref 162), none, none] [] μ1 x_wim (k64 μ1)) (v1 : Int64) (μ : xMu) : Wx G m12_read d 135 [some (.ref 162), some (.long v1), none] [] μ x_wim (f12_read_j135 k64 v1 μ) := by
  unfold f12_read_j135
  refine wx_blk (pc' := 136) (L' := [some (.ref 162), some (.long v1), none]) (st' := [.long v1]) [.lload_n 1] (by decide +kernel) rfl rfl ?_
  refine wx_ldc2 (v := 1651467385) xw_1448 (by decide +kernel) ?_
  refine wx_blk (pc' := 140) (L' := [some (.ref 162), some (.long v1), none]) (st' := [.int (lg_cmp v1 (1651467385 : Int64))]) [.lcmp] (by decide +kernel) rfl rfl ?_
  refine wx_if_ne 157 (off := 17) (by decide +kernel) (by decide) ?_ ?_
  · refine l_f12_read_j157 G d hd _ h64 v1 μ
  · refine wx_blk (pc' := 144) (L' := [some (.ref 162), some (.long v1), none]) (st' := [.ref 162]) [.aload_n 0] (by decide +kernel) rfl rfl ?_
    refine wx_geti is_162 ff_12_271 rfl (by decide +kernel) ?_
    refine wx_blk (pc' := 149) (L' := [some (.ref 162), some (.long v1), none]) (st' := [.int (24 : Int32), .int (μ 162 38)]) [.bipush 24] (by decide +kernel) rfl rfl ?_
    refine wx_ic_ne 157 (off := 8) (by decide +kernel) (by decide) ?_ ?_
    · refine l_f12_read_j157 G d hd _ h64 v1 μ
    · refine l_f12_read_j152 G d hd _ h64 v1 μ
def f12_read_j118 (k64 : xMu → Option (Int32 × xMu)) (v1 : Int64) (μ : xMu) : Option (Int32 × xMu) :=
  (if (lg_cmp v1 (465491813746 : Int64)) = 0 then
(if (μ 162 37) = (8 : Int32) then
(f12_read_j152 k64 v1 μ)
else
(f12_read_j135 k64 v1 μ))
else
(f12_read_j135 k64 v1 μ))
set_option maxHeartbeats 4000000 in
set_option maxRecDepth 100000 in
theorem l_f12_read_j118 (G : xG) (d : Nat) (hd : 6 ≤ d) (k64 : xMu → Option (Int32 × xMu)) (h64 : ∀ (μ1 : xMu), Wx G m12_read d 64 [some (.ref 162), none, none] [] μ1 x_wim (k64 μ1)) (v1 : Int64) (μ : xMu) : Wx G m12_read d 118 [some (.ref 162), some (.long v1), none] [] μ x_wim (f12_read_j118 k64 v1 μ) := by
  unfold f12_read_j118
  refine wx_blk (pc' := 119) (L' := [some (.ref 162), some (.long v1), none]) (st' := [.long v1]) [.lload_n 1] (by decide +kernel) rfl rfl ?_
  refine wx_ldc2 (v := 465491813746) xw_1447 (by decide +kernel) ?_
  refine wx_blk (pc' := 123) (L' := [some (.ref 162), some (.long v1), none]) (st' := [.int (lg_cmp v1 (465491813746 : Int64))]) [.lcmp] (by decide +kernel) rfl rfl ?_
  refine wx_if_ne 135 (off := 12) (by decide +kernel) (by decide) ?_ ?_
  · refine l_f12_read_j135 G d hd _ h64 v1 μ
  · refine wx_blk (pc' := 127) (L' := [some (.ref 162), some (.long v1), none]) (st' := [.ref 162]) [.aload_n 0] (by decide +kernel) rfl rfl ?_
    refine wx_geti is_162 ff_12_254 rfl (by decide +kernel) ?_
    refine wx_blk (pc' := 132) (L' := [some (.ref 162), some (.long v1), none]) (st' := [.int (8 : Int32), .int (μ 162 37)]) [.bipush 8] (by decide +kernel) rfl rfl ?_
    refine wx_ic_eq 152 (off := 20) (by decide +kernel) (by decide) ?_ ?_
    · refine l_f12_read_j152 G d hd _ h64 v1 μ
    · refine l_f12_read_j135 G d hd _ h64 v1 μ
def f12_read_j101 (k64 : xMu → Option (Int32 × xMu)) (v1 : Int64) (μ : xMu) : Option (Int32 × xMu) :=
  (if (lg_cmp v1 (499967946343 : Int64)) = 0 then
(if (μ 162 36) = (8 : Int32) then
(f12_read_j152 k64 v1 μ)
else
(f12_read_j118 k64 v1 μ))
else
(f12_read_j118 k64 v1 μ))
set_option maxHeartbeats 4000000 in
set_option maxRecDepth 100000 in
theorem l_f12_read_j101 (G : xG) (d : Nat) (hd : 6 ≤ d) (k64 : xMu → Option (Int32 × xMu)) (h64 : ∀ (μ1 : xMu), Wx G m12_read d 64 [some (.ref 162), none, none] [] μ1 x_wim (k64 μ1)) (v1 : Int64) (μ : xMu) : Wx G m12_read d 101 [some (.ref 162), some (.long v1), none] [] μ x_wim (f12_read_j101 k64 v1 μ) := by
  unfold f12_read_j101
  refine wx_blk (pc' := 102) (L' := [some (.ref 162), some (.long v1), none]) (st' := [.long v1]) [.lload_n 1] (by decide +kernel) rfl rfl ?_
  refine wx_ldc2 (v := 499967946343) xw_1446 (by decide +kernel) ?_
  refine wx_blk (pc' := 106) (L' := [some (.ref 162), some (.long v1), none]) (st' := [.int (lg_cmp v1 (499967946343 : Int64))]) [.lcmp] (by decide +kernel) rfl rfl ?_
  refine wx_if_ne 118 (off := 12) (by decide +kernel) (by decide) ?_ ?_
  · refine l_f12_read_j118 G d hd _ h64 v1 μ
  · refine wx_blk (pc' := 110) (L' := [some (.ref 162), some (.long v1), none]) (st' := [.ref 162]) [.aload_n 0] (by decide +kernel) rfl rfl ?_
    refine wx_geti is_162 ff_12_251 rfl (by decide +kernel) ?_
    refine wx_blk (pc' := 115) (L' := [some (.ref 162), some (.long v1), none]) (st' := [.int (8 : Int32), .int (μ 162 36)]) [.bipush 8] (by decide +kernel) rfl rfl ?_
    refine wx_ic_eq 152 (off := 37) (by decide +kernel) (by decide) ?_ ?_
    · refine l_f12_read_j152 G d hd _ h64 v1 μ
    · refine l_f12_read_j118 G d hd _ h64 v1 μ
def f12_read_l64 (k295 : xMu → Option (Int32 × xMu)) : Nat → xMu → Option (Int32 × xMu)
  | 0, _ => none
  | n + 1, μ =>
  (if (μ 162 33) = 0 then
(if (μ 162 30) = (1 : Int32) then
(k295 μ)
else
((f12_word μ).bind fun x11 =>
(if (lg_cmp x11 (1802071652 : Int64)) = 0 then
(if (μ 162 35) = (8 : Int32) then
(f12_read_j152 (f12_read_l64 k295 n) x11 μ)
else
(f12_read_j101 (f12_read_l64 k295 n) x11 μ))
else
(f12_read_j101 (f12_read_l64 k295 n) x11 μ))))
else
(k295 μ))
set_option maxHeartbeats 4000000 in
set_option maxRecDepth 100000 in
theorem l_f12_read_l64 (G : xG) (d : Nat) (hd : 6 ≤ d) (k295 : xMu → Option (Int32 × xMu)) (h295 : ∀ (μ1 : xMu), Wx G m12_read d 295 [some (.ref 162), none, none] [] μ1 x_wim (k295 μ1)) : ∀ (n : Nat) (μ : xMu), Wx G m12_read d 64 [some (.ref 162), none, none] [] μ x_wim (f12_read_l64 k295 n μ) := by
  intro n
  induction n with
  | zero => intro μ; exact wx_none
  | succ n h64 =>
    intro μ
    unfold f12_read_l64
    refine wx_blk (pc' := 65) (L' := [some (.ref 162), none, none]) (st' := [.ref 162]) [.aload_n 0] (by decide +kernel) rfl rfl ?_
    refine wx_geti is_162 ff_12_192 rfl (by decide +kernel) ?_
    refine wx_if_ne 295 (off := 227) (by decide +kernel) (by decide) ?_ ?_
    · exact h295 μ
    · refine wx_blk (pc' := 72) (L' := [some (.ref 162), none, none]) (st' := [.ref 162]) [.aload_n 0] (by decide +kernel) rfl rfl ?_
      refine wx_geti is_162 ff_12_177 rfl (by decide +kernel) ?_
      refine wx_blk (pc' := 76) (L' := [some (.ref 162), none, none]) (st' := [.int (1 : Int32), .int (μ 162 30)]) [.iconst 1] (by decide +kernel) rfl rfl ?_
      refine wx_ic_eq 295 (off := 219) (by decide +kernel) (by decide) ?_ ?_
      · exact h295 μ
      · refine wx_blk (pc' := 80) (L' := [some (.ref 162), none, none]) (st' := [.ref 162]) [.aload_n 0] (by decide +kernel) rfl rfl ?_
        refine wx_callV (d1 := 0) (As := []) (rest := []) (by omega) is_162 (by decide) rfl cv_12_209 rfl (Nat.le_of_ble_eq_true rfl) (l_f12_word G 0 (by omega) μ) rfl (by decide +kernel) (fun x11 => ?_)
        refine wx_blk (pc' := 85) (L' := [some (.ref 162), some (.long x11), none]) (st' := [.long x11]) [.lstore_n 1, .lload_n 1] (by decide +kernel) rfl rfl ?_
        refine wx_ldc2 (v := 1802071652) xw_1445 (by decide +kernel) ?_
        refine wx_blk (pc' := 89) (L' := [some (.ref 162), some (.long x11), none]) (st' := [.int (lg_cmp x11 (1802071652 : Int64))]) [.lcmp] (by decide +kernel) rfl rfl ?_
        refine wx_if_ne 101 (off := 12) (by decide +kernel) (by decide) ?_ ?_
        · refine l_f12_read_j101 G d hd _ h64 x11 μ
        · refine wx_blk (pc' := 93) (L' := [some (.ref 162), some (.long x11), none]) (st' := [.ref 162]) [.aload_n 0] (by decide +kernel) rfl rfl ?_
          refine wx_geti is_162 ff_12_243 rfl (by decide +kernel) ?_
          refine wx_blk (pc' := 98) (L' := [some (.ref 162), some (.long x11), none]) (st' := [.int (8 : Int32), .int (μ 162 35)]) [.bipush 8] (by decide +kernel) rfl rfl ?_
          refine wx_ic_eq 152 (off := 54) (by decide +kernel) (by decide) ?_ ?_
          · refine l_f12_read_j152 G d hd _ h64 x11 μ
          · refine l_f12_read_j101 G d hd _ h64 x11 μ
def f12_read_j295 (μ : xMu) : Option (Int32 × xMu) :=
  (if (μ 162 33) ≤ 0 then
(x_put μ 162 5 (μ 162 35) fun μ21 =>
(x_put μ21 162 7 (μ21 162 36) fun μ22 =>
(x_put μ22 162 10 (μ22 162 37) fun μ23 =>
(x_put μ23 162 18 (μ23 162 38) fun μ24 =>
(some ((μ24 162 18), μ24))))))
else
(x_put μ 162 27 (μ 162 33) fun μ25 =>
(some (((-1000100 : Int32) - (μ25 162 34)), μ25))))
set_option maxHeartbeats 4000000 in
set_option maxRecDepth 100000 in
theorem l_f12_read_j295 (G : xG) (d : Nat) (hd : 6 ≤ d) (μ : xMu) : Wx G m12_read d 295 [some (.ref 162), none, none] [] μ x_wim (f12_read_j295 μ) := by
  unfold f12_read_j295
  refine wx_blk (pc' := 296) (L' := [some (.ref 162), none, none]) (st' := [.ref 162]) [.aload_n 0] (by decide +kernel) rfl rfl ?_
  refine wx_geti is_162 ff_12_192 rfl (by decide +kernel) ?_
  refine wx_if_le 319 (off := 20) (by decide +kernel) (by decide) ?_ ?_
  · refine wx_blk (pc' := 321) (L' := [some (.ref 162), none, none]) (st' := [.ref 162, .ref 162]) [.aload_n 0, .aload_n 0] (by decide +kernel) rfl rfl ?_
    refine wx_geti is_162 ff_12_243 rfl (by decide +kernel) ?_
    refine wx_put is_162 ff_12_282 fp_12_5 ⟨rfl, rfl⟩ (by decide +kernel) (fun μ21 => ?_)
    refine wx_blk (pc' := 329) (L' := [some (.ref 162), none, none]) (st' := [.ref 162, .ref 162]) [.aload_n 0, .aload_n 0] (by decide +kernel) rfl rfl ?_
    refine wx_geti is_162 ff_12_251 rfl (by decide +kernel) ?_
    refine wx_put is_162 ff_12_285 fp_12_7 ⟨rfl, rfl⟩ (by decide +kernel) (fun μ22 => ?_)
    refine wx_blk (pc' := 337) (L' := [some (.ref 162), none, none]) (st' := [.ref 162, .ref 162]) [.aload_n 0, .aload_n 0] (by decide +kernel) rfl rfl ?_
    refine wx_geti is_162 ff_12_254 rfl (by decide +kernel) ?_
    refine wx_put is_162 ff_12_288 fp_12_10 ⟨rfl, rfl⟩ (by decide +kernel) (fun μ23 => ?_)
    refine wx_blk (pc' := 345) (L' := [some (.ref 162), none, none]) (st' := [.ref 162, .ref 162]) [.aload_n 0, .aload_n 0] (by decide +kernel) rfl rfl ?_
    refine wx_geti is_162 ff_12_271 rfl (by decide +kernel) ?_
    refine wx_put is_162 ff_12_291 fp_12_18 ⟨rfl, rfl⟩ (by decide +kernel) (fun μ24 => ?_)
    refine wx_blk (pc' := 352) (L' := [some (.ref 162), none, none]) (st' := [.ref 162]) [.aload_n 0] (by decide +kernel) rfl rfl ?_
    refine wx_geti is_162 ff_12_291 rfl (by decide +kernel) ?_
    exact wx_iret rfl rfl (by decide +kernel)
  · refine wx_blk (pc' := 304) (L' := [some (.ref 162), none, none]) (st' := [.ref 162, .ref 162]) [.aload_n 0, .aload_n 0] (by decide +kernel) rfl rfl ?_
    refine wx_geti is_162 ff_12_192 rfl (by decide +kernel) ?_
    refine wx_put is_162 ff_12_312 fp_12_27 ⟨rfl, rfl⟩ (by decide +kernel) (fun μ25 => ?_)
    refine wx_ldcw (v := -1000100) xw_1515 (by decide +kernel) ?_
    refine wx_blk (pc' := 314) (L' := [some (.ref 162), none, none]) (st' := [.ref 162, .int (-1000100 : Int32)]) [.aload_n 0] (by decide +kernel) rfl rfl ?_
    refine wx_geti is_162 ff_12_195 rfl (by decide +kernel) ?_
    refine wx_blk (pc' := 318) (L' := [some (.ref 162), none, none]) (st' := [.int ((-1000100 : Int32) - (μ25 162 34))]) [.isub] (by decide +kernel) rfl rfl ?_
    exact wx_iret rfl rfl (by decide +kernel)
def f12_read (μ : xMu) : Option (Int32 × xMu) :=
  (x_put μ 162 0 (0 : Int32) fun μ1 =>
(x_put μ1 162 28 (μ1 162 26) fun μ2 =>
(x_put μ2 162 26 (0 : Int32) fun μ3 =>
(x_put μ3 162 29 (0 : Int32) fun μ4 =>
(x_put μ4 162 33 (0 : Int32) fun μ5 =>
(x_put μ5 162 35 (μ5 162 5) fun μ6 =>
(x_put μ6 162 36 (μ6 162 7) fun μ7 =>
(x_put μ7 162 37 (μ7 162 10) fun μ8 =>
(x_put μ8 162 38 (μ8 162 18) fun μ9 =>
((f12_step μ9).bind fun μ10 =>
(f12_read_l64 (fun (μ20 : xMu) => (f12_read_j295 μ20)) 1000 μ10)))))))))))
set_option maxHeartbeats 4000000 in
set_option maxRecDepth 100000 in
theorem l_f12_read (G : xG) (d : Nat) (hd : 6 ≤ d) (μ : xMu) : Mx G m12_read d [.ref 162] μ x_wim (f12_read μ) := by
  refine mx_enter ok12_read [some (.ref 162), none, none] rfl (Nat.le_of_ble_eq_true rfl) ?_
  unfold f12_read
  refine wx_blk (pc' := 2) (L' := [some (.ref 162), none, none]) (st' := [.int (0 : Int32), .ref 162]) [.aload_n 0, .iconst 0] (by decide +kernel) rfl rfl ?_
  refine wx_put is_162 ff_12_131 fp_12_0 ⟨rfl, rfl⟩ (by decide +kernel) (fun μ1 => ?_)
  refine wx_blk (pc' := 7) (L' := [some (.ref 162), none, none]) (st' := [.ref 162, .ref 162]) [.aload_n 0, .aload_n 0] (by decide +kernel) rfl rfl ?_
  refine wx_geti is_162 ff_12_158 rfl (by decide +kernel) ?_
  refine wx_put is_162 ff_12_164 fp_12_28 ⟨rfl, rfl⟩ (by decide +kernel) (fun μ2 => ?_)
  refine wx_blk (pc' := 15) (L' := [some (.ref 162), none, none]) (st' := [.int (0 : Int32), .ref 162]) [.aload_n 0, .iconst 0] (by decide +kernel) rfl rfl ?_
  refine wx_put is_162 ff_12_158 fp_12_26 ⟨rfl, rfl⟩ (by decide +kernel) (fun μ3 => ?_)
  refine wx_blk (pc' := 20) (L' := [some (.ref 162), none, none]) (st' := [.int (0 : Int32), .ref 162]) [.aload_n 0, .iconst 0] (by decide +kernel) rfl rfl ?_
  refine wx_put is_162 ff_12_168 fp_12_29 ⟨rfl, rfl⟩ (by decide +kernel) (fun μ4 => ?_)
  refine wx_blk (pc' := 25) (L' := [some (.ref 162), none, none]) (st' := [.int (0 : Int32), .ref 162]) [.aload_n 0, .iconst 0] (by decide +kernel) rfl rfl ?_
  refine wx_put is_162 ff_12_192 fp_12_33 ⟨rfl, rfl⟩ (by decide +kernel) (fun μ5 => ?_)
  refine wx_blk (pc' := 30) (L' := [some (.ref 162), none, none]) (st' := [.ref 162, .ref 162]) [.aload_n 0, .aload_n 0] (by decide +kernel) rfl rfl ?_
  refine wx_geti is_162 ff_12_282 rfl (by decide +kernel) ?_
  refine wx_put is_162 ff_12_243 fp_12_35 ⟨rfl, rfl⟩ (by decide +kernel) (fun μ6 => ?_)
  refine wx_blk (pc' := 38) (L' := [some (.ref 162), none, none]) (st' := [.ref 162, .ref 162]) [.aload_n 0, .aload_n 0] (by decide +kernel) rfl rfl ?_
  refine wx_geti is_162 ff_12_285 rfl (by decide +kernel) ?_
  refine wx_put is_162 ff_12_251 fp_12_36 ⟨rfl, rfl⟩ (by decide +kernel) (fun μ7 => ?_)
  refine wx_blk (pc' := 46) (L' := [some (.ref 162), none, none]) (st' := [.ref 162, .ref 162]) [.aload_n 0, .aload_n 0] (by decide +kernel) rfl rfl ?_
  refine wx_geti is_162 ff_12_288 rfl (by decide +kernel) ?_
  refine wx_put is_162 ff_12_254 fp_12_37 ⟨rfl, rfl⟩ (by decide +kernel) (fun μ8 => ?_)
  refine wx_blk (pc' := 54) (L' := [some (.ref 162), none, none]) (st' := [.ref 162, .ref 162]) [.aload_n 0, .aload_n 0] (by decide +kernel) rfl rfl ?_
  refine wx_geti is_162 ff_12_291 rfl (by decide +kernel) ?_
  refine wx_put is_162 ff_12_271 fp_12_38 ⟨rfl, rfl⟩ (by decide +kernel) (fun μ9 => ?_)
  refine wx_blk (pc' := 61) (L' := [some (.ref 162), none, none]) (st' := [.ref 162]) [.aload_n 0] (by decide +kernel) rfl rfl ?_
  refine wx_callV (d1 := 1) (As := []) (rest := []) (by omega) is_162 (by decide) rfl cv_12_202 rfl (Nat.le_of_ble_eq_true rfl) (l_f12_step G 1 (by omega) μ9) rfl (by decide +kernel) (fun μ10 => ?_)
  refine l_f12_read_l64 G d hd _ ?_ 1000 μ10
  · intro μ20
    refine l_f12_read_j295 G d hd μ20
