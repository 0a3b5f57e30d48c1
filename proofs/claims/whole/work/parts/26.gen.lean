/-! WakingLayers$Runner.callAt(IIII)I -/
def f7_callAt (rf : Nat → Int32 → Int32 → Int32 → xMu → Option (Int32 × xMu)) (v0 : Nat) (v1 : Int32) (v2 : Int32) (v3 : Int32) (v4 : Int32) (μ : xMu) : Option (Int32 × xMu) :=
  (if v1 < (6 : Int32) then
(x_chk v0 7 (x_rfd v0 5 fun r2 =>
(x_chk r2 13 (x_ast μ r2 (x_sz r2) v1 v2 fun μ4 =>
(x_rfd v0 4 fun r5 =>
(x_rfd v0 3 fun r6 =>
(x_chk r6 17 (x_rld r6 (x_sz r6) v1 fun r7 =>
((f6_fill r7 v2 v3 μ4).bind fun q9 =>
(x_chk r5 13 (x_ast q9.2 r5 (x_sz r5) v1 q9.1 fun μ11 =>
((rf v0 v1 (0 : Int32) v4 μ11).bind fun q12 =>
(some (q12.1, q12.2))))))))))))))
else
(x_chk v0 7 (x_put μ v0 8 (1 : Int32) fun μ14 =>
(some ((-1000004 : Int32), μ14)))))
set_option maxHeartbeats 4000000 in
set_option maxRecDepth 100000 in
theorem l_f7_callAt (G : xG) (d : Nat) (dr : Nat) (rf : Nat → Int32 → Int32 → Int32 → xMu → Option (Int32 × xMu)) (hrf : ∀ (v0 : Nat) (v1 : Int32) (v2 : Int32) (v3 : Int32) (μ : xMu), Mx G m7_runFrom dr [.ref v0, .int v1, .int v2, .int v3] μ x_wim (rf v0 v1 v2 v3 μ)) (hd : dr + 3 ≤ d) (v0 : Nat) (v1 : Int32) (v2 : Int32) (v3 : Int32) (v4 : Int32) (μ : xMu) : Mx G m7_callAt d [.ref v0, .int v1, .int v2, .int v3, .int v4] μ x_wim (f7_callAt rf v0 v1 v2 v3 v4 μ) := by
  refine mx_enter ok7_callAt [some (.ref v0), some (.int v1), some (.int v2), some (.int v3), some (.int v4)] rfl (Nat.le_of_ble_eq_true rfl) ?_
  unfold f7_callAt
  refine wx_blk (pc' := 3) (L' := [some (.ref v0), some (.int v1), some (.int v2), some (.int v3), some (.int v4)]) (st' := [.int (6 : Int32), .int v1]) [.iload_n 1, .bipush 6] (by decide +kernel) rfl rfl ?_
  refine wx_ic_lt 14 (off := 11) (by decide +kernel) (by decide) ?_ ?_
  · refine wx_blk (pc' := 15) (L' := [some (.ref v0), some (.int v1), some (.int v2), some (.int v3), some (.int v4)]) (st' := [.ref v0]) [.aload_n 0] (by decide +kernel) rfl rfl ?_
    refine wx_chk (fun hx1 => ?_)
    refine wx_rfd hx1 ff_7_22 rfl (by decide +kernel) (fun r2 => ?_)
    refine wx_blk (pc' := 20) (L' := [some (.ref v0), some (.int v1), some (.int v2), some (.int v3), some (.int v4)]) (st' := [.int v2, .int v1, .ref r2]) [.iload_n 1, .iload_n 2] (by decide +kernel) rfl rfl ?_
    refine wx_chk (fun hx3 => ?_)
    refine wx_ast hx3 rfl (by decide +kernel) (fun μ4 => ?_)
    refine wx_blk (pc' := 22) (L' := [some (.ref v0), some (.int v1), some (.int v2), some (.int v3), some (.int v4)]) (st' := [.ref v0]) [.aload_n 0] (by decide +kernel) rfl rfl ?_
    refine wx_rfd hx1 ff_7_18 rfl (by decide +kernel) (fun r5 => ?_)
    refine wx_blk (pc' := 27) (L' := [some (.ref v0), some (.int v1), some (.int v2), some (.int v3), some (.int v4)]) (st' := [.ref v0, .int v1, .ref r5]) [.iload_n 1, .aload_n 0] (by decide +kernel) rfl rfl ?_
    refine wx_getr hx1 ff_7_36 rfl (rfc_7_2 _ hx1) (by decide +kernel) ?_
    refine wx_blk (pc' := 31) (L' := [some (.ref v0), some (.int v1), some (.int v2), some (.int v3), some (.int v4)]) (st' := [.ref v0, .ref 131, .int v1, .ref r5]) [.aload_n 0] (by decide +kernel) rfl rfl ?_
    refine wx_rfd hx1 ff_7_15 rfl (by decide +kernel) (fun r6 => ?_)
    refine wx_blk (pc' := 35) (L' := [some (.ref v0), some (.int v1), some (.int v2), some (.int v3), some (.int v4)]) (st' := [.int v1, .ref r6, .ref 131, .int v1, .ref r5]) [.iload_n 1] (by decide +kernel) rfl rfl ?_
    refine wx_chk (fun hx8 => ?_)
    refine wx_rld hx8 (by decide) rfl (by decide +kernel) (fun r7 => ?_)
    refine wx_blk (pc' := 38) (L' := [some (.ref v0), some (.int v1), some (.int v2), some (.int v3), some (.int v4)]) (st' := [.int v3, .int v2, .ref r7, .ref 131, .int v1, .ref r5]) [.iload_n 2, .iload_n 3] (by decide +kernel) rfl rfl ?_
    refine wx_callV (d1 := 2) (As := [.ref r7, .int v2, .int v3]) (rest := [.int v1, .ref r5]) (by omega) is_131 (by decide) rfl cv_7_54 rfl (Nat.le_of_ble_eq_true rfl) (l_f6_fill G 2 (by omega) r7 v2 v3 μ4) rfl (by decide +kernel) (fun q9 => ?_)
    refine wx_chk (fun hx10 => ?_)
    refine wx_ast hx10 rfl (by decide +kernel) (fun μ11 => ?_)
    refine wx_blk (pc' := 47) (L' := [some (.ref v0), some (.int v1), some (.int v2), some (.int v3), some (.int v4)]) (st' := [.int v4, .int (0 : Int32), .int v1, .ref v0]) [.aload_n 0, .iload_n 1, .iconst 0, .iload 4] (by decide +kernel) rfl rfl ?_
    refine wx_callV (d1 := dr) (As := [.int v1, .int (0 : Int32), .int v4]) (rest := []) (by omega) hx1 (by decide) rfl cv_7_60 rfl (Nat.le_of_ble_eq_true rfl) (hrf v0 v1 (0 : Int32) v4 μ11) rfl (by decide +kernel) (fun q12 => ?_)
    exact wx_iret rfl rfl (by decide +kernel)
  · refine wx_blk (pc' := 8) (L' := [some (.ref v0), some (.int v1), some (.int v2), some (.int v3), some (.int v4)]) (st' := [.int (1 : Int32), .ref v0]) [.aload_n 0, .iconst 1] (by decide +kernel) rfl rfl ?_
    refine wx_chk (fun hx13 => ?_)
    refine wx_put hx13 ff_7_45 fp_7_8 ⟨by decide, by decide⟩ (by decide +kernel) (fun μ14 => ?_)
    refine wx_ldc (v := -1000004) xw_958 (by decide +kernel) ?_
    exact wx_iret rfl rfl (by decide +kernel)
/-! WakingLayers$Runner.doAct(LWakingLayers$Body;IIII)I -/
def f7_doAct (rf : Nat → Int32 → Int32 → Int32 → xMu → Option (Int32 × xMu)) (v0 : Nat) (v1 : Nat) (v2 : Int32) (v3 : Int32) (v4 : Int32) (v5 : Int32) (μ : xMu) : Option (Int32 × xMu) :=
  (x_chk v1 1 (x_rfd v1 1 fun r2 =>
(x_chk r2 13 (x_ald μ r2 (x_sz r2) v2 fun x3 =>
(x_rfd v1 0 fun r5 =>
(x_chk r5 13 (x_ald μ r5 (x_sz r5) v2 fun x6 =>
(x_sw x6 (nI 0) [
(some (((v5 + x3) - (v5 + x3) / (1000003 : Int32) * (1000003 : Int32)), μ)),
(some (((v5 * x3) - (v5 * x3) / (1000003 : Int32) * (1000003 : Int32)), μ)),
(x_chk v0 7 (x_rfd v0 5 fun r9 =>
(x_chk r9 13 (x_ald μ r9 (x_sz r9) v3 fun x10 =>
(x_ald μ 19 8 x10 fun x12 =>
(some (((v5 + x12) - (v5 + x12) / (1000003 : Int32) * (1000003 : Int32)), μ))))))),
(x_chk v0 7 ((rf v0 v3 (v4 + (1 : Int32)) v5 μ).bind fun q14 =>
(some (q14.1, q14.2)))),
(x_rfd v1 2 fun r15 =>
(x_chk r15 13 (x_ald μ r15 (x_sz r15) v2 fun x16 =>
(x_chk v0 7 ((f7_callAt rf v0 (v3 + (1 : Int32)) x3 x16 v5 μ).bind fun q19 =>
(some (q19.1, q19.2))))))),
(x_chk v0 7 ((f7_wokenThing μ v0 x3 v3).bind fun x21 =>
((f2_openWaking x3 x21 μ).bind fun q22 =>
(if q22.1 = 0 then
(some ((-1000004 : Int32), q22.2))
else
(some (v5, q22.2))))))] 
(some ((-1000004 : Int32), μ))))))))))
set_option maxHeartbeats 4000000 in
set_option maxRecDepth 100000 in
theorem l_f7_doAct (G : xG) (d : Nat) (dr : Nat) (rf : Nat → Int32 → Int32 → Int32 → xMu → Option (Int32 × xMu)) (hrf : ∀ (v0 : Nat) (v1 : Int32) (v2 : Int32) (v3 : Int32) (μ : xMu), Mx G m7_runFrom dr [.ref v0, .int v1, .int v2, .int v3] μ x_wim (rf v0 v1 v2 v3 μ)) (hd : dr + 4 ≤ d) (v0 : Nat) (v1 : Nat) (v2 : Int32) (v3 : Int32) (v4 : Int32) (v5 : Int32) (μ : xMu) : Mx G m7_doAct d [.ref v0, .ref v1, .int v2, .int v3, .int v4, .int v5] μ x_wim (f7_doAct rf v0 v1 v2 v3 v4 v5 μ) := by
  refine mx_enter ok7_doAct [some (.ref v0), some (.ref v1), some (.int v2), some (.int v3), some (.int v4), some (.int v5), none] rfl (Nat.le_of_ble_eq_true rfl) ?_
  unfold f7_doAct
  refine wx_blk (pc' := 1) (L' := [some (.ref v0), some (.ref v1), some (.int v2), some (.int v3), some (.int v4), some (.int v5), none]) (st' := [.ref v1]) [.aload_n 1] (by decide +kernel) rfl rfl ?_
  refine wx_chk (fun hx1 => ?_)
  refine wx_rfd hx1 ff_7_99 rfl (by decide +kernel) (fun r2 => ?_)
  refine wx_blk (pc' := 5) (L' := [some (.ref v0), some (.ref v1), some (.int v2), some (.int v3), some (.int v4), some (.int v5), none]) (st' := [.int v2, .ref r2]) [.iload_n 2] (by decide +kernel) rfl rfl ?_
  refine wx_chk (fun hx4 => ?_)
  refine wx_ald hx4 rfl (by decide +kernel) (fun x3 => ?_)
  refine wx_blk (pc' := 9) (L' := [some (.ref v0), some (.ref v1), some (.int v2), some (.int v3), some (.int v4), some (.int v5), some (.int x3)]) (st' := [.ref v1]) [.istore 6, .aload_n 1] (by decide +kernel) rfl rfl ?_
  refine wx_rfd hx1 ff_7_102 rfl (by decide +kernel) (fun r5 => ?_)
  refine wx_blk (pc' := 13) (L' := [some (.ref v0), some (.ref v1), some (.int v2), some (.int v3), some (.int v4), some (.int v5), some (.int x3)]) (st' := [.int v2, .ref r5]) [.iload_n 2] (by decide +kernel) rfl rfl ?_
  refine wx_chk (fun hx7 => ?_)
  refine wx_ald hx7 rfl (by decide +kernel) (fun x6 => ?_)
  refine wx_tsw [52, 61, 70, 91, 103, 121] 148 0 (dflt := 134) (lo := 0) (hi := 5) (offs := #[38, 47, 56, 77, 89, 107]) (len := 38) (by decide +kernel) rfl rfl (by decide) rfl rfl ⟨?_, ?_, ?_, ?_, ?_, ?_, trivial⟩ ?_
  · refine wx_blk (pc' := 57) (L' := [some (.ref v0), some (.ref v1), some (.int v2), some (.int v3), some (.int v4), some (.int v5), some (.int x3)]) (st' := [.int (v5 + x3)]) [.iload 5, .iload 6, .iadd] (by decide +kernel) rfl rfl ?_
    refine wx_ldc (v := 1000003) xw_977 (by decide +kernel) ?_
    refine wx_irem (by decide +kernel) (by decide) ?_
    exact wx_iret rfl rfl (by decide +kernel)
  · refine wx_blk (pc' := 66) (L' := [some (.ref v0), some (.ref v1), some (.int v2), some (.int v3), some (.int v4), some (.int v5), some (.int x3)]) (st' := [.int (v5 * x3)]) [.iload 5, .iload 6, .imul] (by decide +kernel) rfl rfl ?_
    refine wx_ldc (v := 1000003) xw_977 (by decide +kernel) ?_
    refine wx_irem (by decide +kernel) (by decide) ?_
    exact wx_iret rfl rfl (by decide +kernel)
  · refine wx_blk (pc' := 73) (L' := [some (.ref v0), some (.ref v1), some (.int v2), some (.int v3), some (.int v4), some (.int v5), some (.int x3)]) (st' := [.ref v0, .int v5]) [.iload 5, .aload_n 0] (by decide +kernel) rfl rfl ?_
    refine wx_chk (fun hx8 => ?_)
    refine wx_getr hx8 ff_7_28 rfl (rfc_7_0 _ hx8) (by decide +kernel) ?_
    refine wx_getr is_16 ff_7_106 rfl rf_16_2 (by decide +kernel) ?_
    refine wx_blk (pc' := 80) (L' := [some (.ref v0), some (.ref v1), some (.int v2), some (.int v3), some (.int v4), some (.int v5), some (.int x3)]) (st' := [.ref v0, .ref 19, .int v5]) [.aload_n 0] (by decide +kernel) rfl rfl ?_
    refine wx_rfd hx8 ff_7_22 rfl (by decide +kernel) (fun r9 => ?_)
    refine wx_blk (pc' := 84) (L' := [some (.ref v0), some (.ref v1), some (.int v2), some (.int v3), some (.int v4), some (.int v5), some (.int x3)]) (st' := [.int v3, .ref r9, .ref 19, .int v5]) [.iload_n 3] (by decide +kernel) rfl rfl ?_
    refine wx_chk (fun hx11 => ?_)
    refine wx_ald hx11 rfl (by decide +kernel) (fun x10 => ?_)
    refine wx_ald is_19 sz_19 (by decide +kernel) (fun x12 => ?_)
    refine wx_blk (pc' := 87) (L' := [some (.ref v0), some (.ref v1), some (.int v2), some (.int v3), some (.int v4), some (.int v5), some (.int x3)]) (st' := [.int (v5 + x12)]) [.iadd] (by decide +kernel) rfl rfl ?_
    refine wx_ldc (v := 1000003) xw_977 (by decide +kernel) ?_
    refine wx_irem (by decide +kernel) (by decide) ?_
    exact wx_iret rfl rfl (by decide +kernel)
  · refine wx_blk (pc' := 99) (L' := [some (.ref v0), some (.ref v1), some (.int v2), some (.int v3), some (.int v4), some (.int v5), some (.int x3)]) (st' := [.int v5, .int (v4 + (1 : Int32)), .int v3, .ref v0]) [.aload_n 0, .iload_n 3, .iload 4, .iconst 1, .iadd, .iload 5] (by decide +kernel) rfl rfl ?_
    refine wx_chk (fun hx13 => ?_)
    refine wx_callV (d1 := dr) (As := [.int v3, .int (v4 + (1 : Int32)), .int v5]) (rest := []) (by omega) hx13 (by decide) rfl cv_7_60 rfl (Nat.le_of_ble_eq_true rfl) (hrf v0 v3 (v4 + (1 : Int32)) v5 μ) rfl (by decide +kernel) (fun q14 => ?_)
    exact wx_iret rfl rfl (by decide +kernel)
  · refine wx_blk (pc' := 110) (L' := [some (.ref v0), some (.ref v1), some (.int v2), some (.int v3), some (.int v4), some (.int v5), some (.int x3)]) (st' := [.ref v1, .int x3, .int (v3 + (1 : Int32)), .ref v0]) [.aload_n 0, .iload_n 3, .iconst 1, .iadd, .iload 6, .aload_n 1] (by decide +kernel) rfl rfl ?_
    refine wx_rfd hx1 ff_7_109 rfl (by decide +kernel) (fun r15 => ?_)
    refine wx_blk (pc' := 114) (L' := [some (.ref v0), some (.ref v1), some (.int v2), some (.int v3), some (.int v4), some (.int v5), some (.int x3)]) (st' := [.int v2, .ref r15, .int x3, .int (v3 + (1 : Int32)), .ref v0]) [.iload_n 2] (by decide +kernel) rfl rfl ?_
    refine wx_chk (fun hx17 => ?_)
    refine wx_ald hx17 rfl (by decide +kernel) (fun x16 => ?_)
    refine wx_blk (pc' := 117) (L' := [some (.ref v0), some (.ref v1), some (.int v2), some (.int v3), some (.int v4), some (.int v5), some (.int x3)]) (st' := [.int v5, .int x16, .int x3, .int (v3 + (1 : Int32)), .ref v0]) [.iload 5] (by decide +kernel) rfl rfl ?_
    refine wx_chk (fun hx18 => ?_)
    refine wx_callV (d1 := dr + 3) (As := [.int (v3 + (1 : Int32)), .int x3, .int x16, .int v5]) (rest := []) (by omega) hx18 (by decide) rfl cv_7_49 rfl (Nat.le_of_ble_eq_true rfl) (l_f7_callAt G (dr + 3) dr rf hrf (by omega) v0 (v3 + (1 : Int32)) x3 x16 v5 μ) rfl (by decide +kernel) (fun q19 => ?_)
    exact wx_iret rfl rfl (by decide +kernel)
  · refine wx_blk (pc' := 122) (L' := [some (.ref v0), some (.ref v1), some (.int v2), some (.int v3), some (.int v4), some (.int v5), some (.int x3)]) (st' := [.ref v0]) [.aload_n 0] (by decide +kernel) rfl rfl ?_
    refine wx_chk (fun hx20 => ?_)
    refine wx_getr hx20 ff_7_32 rfl (rfc_7_1 _ hx20) (by decide +kernel) ?_
    refine wx_blk (pc' := 131) (L' := [some (.ref v0), some (.ref v1), some (.int v2), some (.int v3), some (.int v4), some (.int v5), some (.int x3)]) (st' := [.int v3, .int x3, .ref v0, .int x3, .ref 127]) [.iload 6, .aload_n 0, .iload 6, .iload_n 3] (by decide +kernel) rfl rfl ?_
    refine wx_callV (d1 := 0) (As := [.int x3, .int v3]) (rest := [.int x3, .ref 127]) (by omega) hx20 (by decide) rfl cv_7_112 rfl (Nat.le_of_ble_eq_true rfl) (l_f7_wokenThing G 0 (by omega) μ v0 x3 v3) rfl (by decide +kernel) (fun x21 => ?_)
    refine wx_callV (d1 := 0) (As := [.int x3, .int x21]) (rest := []) (by omega) is_127 (by decide) rfl cv_7_116 rfl (Nat.le_of_ble_eq_true rfl) (l_f2_openWaking G 0 (by omega) x3 x21 μ) rfl (by decide +kernel) (fun q22 => ?_)
    refine wx_if_eq 145 (off := 8) (by decide +kernel) (by decide) ?_ ?_
    · refine wx_ldc (v := -1000004) xw_958 (by decide +kernel) ?_
      exact wx_iret rfl rfl (by decide +kernel)
    · refine wx_blk (pc' := 142) (L' := [some (.ref v0), some (.ref v1), some (.int v2), some (.int v3), some (.int v4), some (.int v5), some (.int x3)]) (st' := [.int v5]) [.iload 5] (by decide +kernel) rfl rfl ?_
      refine wx_goto 147 (off := 5) (by decide +kernel) (by decide) ?_
      exact wx_iret rfl rfl (by decide +kernel)
  · refine wx_ldc (v := -1000004) xw_958 (by decide +kernel) ?_
    exact wx_iret rfl rfl (by decide +kernel)
/-! WakingLayers$Runner.doActs(III)I -/
def f7_doActs_l24 (rf : Nat → Int32 → Int32 → Int32 → xMu → Option (Int32 × xMu)) (k59 : Int32 → xMu → Option (Int32 × xMu)) : Nat → Nat → Int32 → Int32 → Nat → Int32 → Int32 → xMu → Option (Int32 × xMu)
  | 0, _, _, _, _, _, _, _ => none
  | n + 1, v0, v1, v2, v4, v5, v6, μ =>
  (x_chk v4 1 (if (μ v4 3) ≤ v6 then
(k59 v5 μ)
else
(if v5 < 0 then
(k59 v5 μ)
else
(x_chk v0 7 ((f7_doAct rf v0 v4 v6 v1 v2 v5 μ).bind fun q10 =>
((f7_doActs_l24 rf k59 n) v0 v1 v2 v4 q10.1 (v6 + (1 : Int32)) q10.2))))))
set_option maxHeartbeats 4000000 in
set_option maxRecDepth 100000 in
theorem l_f7_doActs_l24 (G : xG) (d : Nat) (dr : Nat) (rf : Nat → Int32 → Int32 → Int32 → xMu → Option (Int32 × xMu)) (hrf : ∀ (v0 : Nat) (v1 : Int32) (v2 : Int32) (v3 : Int32) (μ : xMu), Mx G m7_runFrom dr [.ref v0, .int v1, .int v2, .int v3] μ x_wim (rf v0 v1 v2 v3 μ)) (hd : dr + 5 ≤ d) (k59 : Int32 → xMu → Option (Int32 × xMu)) (h59 : ∀ (v5 : Int32) (μ1 : xMu), Wx G m7_doActs d 59 [none, none, none, none, none, some (.int v5), none] [] μ1 x_wim (k59 v5 μ1)) : ∀ (n : Nat) (v0 : Nat) (v1 : Int32) (v2 : Int32) (v4 : Nat) (v5 : Int32) (v6 : Int32) (μ : xMu), Wx G m7_doActs d 24 [some (.ref v0), some (.int v1), some (.int v2), none, some (.ref v4), some (.int v5), some (.int v6)] [] μ x_wim (f7_doActs_l24 rf k59 n v0 v1 v2 v4 v5 v6 μ) := by
  intro n
  induction n with
  | zero => intro v0 v1 v2 v4 v5 v6 μ; exact wx_none
  | succ n h24 =>
    intro v0 v1 v2 v4 v5 v6 μ
    unfold f7_doActs_l24
    refine wx_blk (pc' := 28) (L' := [some (.ref v0), some (.int v1), some (.int v2), none, some (.ref v4), some (.int v5), some (.int v6)]) (st' := [.ref v4, .int v6]) [.iload 6, .aload 4] (by decide +kernel) rfl rfl ?_
    refine wx_chk (fun hx8 => ?_)
    refine wx_geti hx8 ff_7_92 rfl (by decide +kernel) ?_
    refine wx_ic_ge 59 (off := 28) (by decide +kernel) (by decide) ?_ ?_
    · refine wx_weak (L' := [none, none, none, none, none, some (.int v5), none]) ⟨rfl, trivial⟩ ?_
      exact h59 v5 μ
    · refine wx_blk (pc' := 36) (L' := [some (.ref v0), some (.int v1), some (.int v2), none, some (.ref v4), some (.int v5), some (.int v6)]) (st' := [.int v5]) [.iload 5] (by decide +kernel) rfl rfl ?_
      refine wx_if_lt 59 (off := 23) (by decide +kernel) (by decide) ?_ ?_
      · refine wx_weak (L' := [none, none, none, none, none, some (.int v5), none]) ⟨rfl, trivial⟩ ?_
        exact h59 v5 μ
      · refine wx_blk (pc' := 48) (L' := [some (.ref v0), some (.int v1), some (.int v2), none, some (.ref v4), some (.int v5), some (.int v6)]) (st' := [.int v5, .int v2, .int v1, .int v6, .ref v4, .ref v0]) [.aload_n 0, .aload 4, .iload 6, .iload_n 1, .iload_n 2, .iload 5] (by decide +kernel) rfl rfl ?_
        refine wx_chk (fun hx9 => ?_)
        refine wx_callV (d1 := dr + 4) (As := [.ref v4, .int v6, .int v1, .int v2, .int v5]) (rest := []) (by omega) hx9 (by decide) rfl cv_7_95 rfl (Nat.le_of_ble_eq_true rfl) (l_f7_doAct G (dr + 4) dr rf hrf (by omega) v0 v4 v6 v1 v2 v5 μ) rfl (by decide +kernel) (fun q10 => ?_)
        refine wx_blk (pc' := 56) (L' := [some (.ref v0), some (.int v1), some (.int v2), none, some (.ref v4), some (.int q10.1), some (.int (v6 + (1 : Int32)))]) (st' := []) [.istore 5, .iinc 6 1] (by decide +kernel) rfl rfl ?_
        refine wx_goto 24 (off := -32) (by decide +kernel) (by decide) ?_
        exact h24 v0 v1 v2 v4 q10.1 (v6 + (1 : Int32)) q10.2
def f7_doActs (rf : Nat → Int32 → Int32 → Int32 → xMu → Option (Int32 × xMu)) (v0 : Nat) (v1 : Int32) (v2 : Int32) (v3 : Int32) (μ : xMu) : Option (Int32 × xMu) :=
  (x_chk v0 7 (x_rfd v0 3 fun r2 =>
(x_chk r2 17 (x_rld r2 (x_sz r2) v1 fun r3 =>
(x_chk r3 13 (x_ald μ r3 (x_sz r3) v2 fun x5 =>
(x_rld 21 24 x5 fun r7 =>
(f7_doActs_l24 rf (fun (y11 : Int32) (μ12 : xMu) => (some (y11, μ12))) 1000 v0 v1 v2 r7 v3 (0 : Int32) μ))))))))
set_option maxHeartbeats 4000000 in
set_option maxRecDepth 100000 in
theorem l_f7_doActs (G : xG) (d : Nat) (dr : Nat) (rf : Nat → Int32 → Int32 → Int32 → xMu → Option (Int32 × xMu)) (hrf : ∀ (v0 : Nat) (v1 : Int32) (v2 : Int32) (v3 : Int32) (μ : xMu), Mx G m7_runFrom dr [.ref v0, .int v1, .int v2, .int v3] μ x_wim (rf v0 v1 v2 v3 μ)) (hd : dr + 5 ≤ d) (v0 : Nat) (v1 : Int32) (v2 : Int32) (v3 : Int32) (μ : xMu) : Mx G m7_doActs d [.ref v0, .int v1, .int v2, .int v3] μ x_wim (f7_doActs rf v0 v1 v2 v3 μ) := by
  refine mx_enter ok7_doActs [some (.ref v0), some (.int v1), some (.int v2), some (.int v3), none, none, none] rfl (Nat.le_of_ble_eq_true rfl) ?_
  unfold f7_doActs
  refine wx_blk (pc' := 1) (L' := [some (.ref v0), some (.int v1), some (.int v2), some (.int v3), none, none, none]) (st' := [.ref v0]) [.aload_n 0] (by decide +kernel) rfl rfl ?_
  refine wx_chk (fun hx1 => ?_)
  refine wx_getr hx1 ff_7_28 rfl (rfc_7_0 _ hx1) (by decide +kernel) ?_
  refine wx_getr is_16 ff_7_74 rfl rf_16_4 (by decide +kernel) ?_
  refine wx_blk (pc' := 8) (L' := [some (.ref v0), some (.int v1), some (.int v2), some (.int v3), none, none, none]) (st' := [.ref v0, .ref 21]) [.aload_n 0] (by decide +kernel) rfl rfl ?_
  refine wx_rfd hx1 ff_7_15 rfl (by decide +kernel) (fun r2 => ?_)
  refine wx_blk (pc' := 12) (L' := [some (.ref v0), some (.int v1), some (.int v2), some (.int v3), none, none, none]) (st' := [.int v1, .ref r2, .ref 21]) [.iload_n 1] (by decide +kernel) rfl rfl ?_
  refine wx_chk (fun hx4 => ?_)
  refine wx_rld hx4 (by decide) rfl (by decide +kernel) (fun r3 => ?_)
  refine wx_blk (pc' := 14) (L' := [some (.ref v0), some (.int v1), some (.int v2), some (.int v3), none, none, none]) (st' := [.int v2, .ref r3, .ref 21]) [.iload_n 2] (by decide +kernel) rfl rfl ?_
  refine wx_chk (fun hx6 => ?_)
  refine wx_ald hx6 rfl (by decide +kernel) (fun x5 => ?_)
  refine wx_rld is_21 (by decide) sz_21 (by decide +kernel) (fun r7 => ?_)
  refine wx_blk (pc' := 24) (L' := [some (.ref v0), some (.int v1), some (.int v2), some (.int v3), some (.ref r7), some (.int v3), some (.int (0 : Int32))]) (st' := []) [.astore 4, .iload_n 3, .istore 5, .iconst 0, .istore 6] (by decide +kernel) rfl rfl ?_
  refine wx_weak (L' := [some (.ref v0), some (.int v1), some (.int v2), none, some (.ref r7), some (.int v3), some (.int (0 : Int32))]) ⟨rfl, ⟨rfl, ⟨rfl, ⟨rfl, ⟨rfl, ⟨rfl, trivial⟩⟩⟩⟩⟩⟩ ?_
  refine l_f7_doActs_l24 G d dr rf hrf hd _ ?_ 1000 v0 v1 v2 r7 v3 (0 : Int32) μ
  · intro y11 μ12
    refine wx_blk (pc' := 61) (L' := [none, none, none, none, none, some (.int y11), none]) (st' := [.int y11]) [.iload 5] (by decide +kernel) rfl rfl ?_
    exact wx_iret rfl rfl (by decide +kernel)
/-! WakingLayers$Runner.runBehind(III)I -/
def f7_runBehind (rf : Nat → Int32 → Int32 → Int32 → xMu → Option (Int32 × xMu)) (v0 : Nat) (v1 : Int32) (v2 : Int32) (v3 : Int32) (μ : xMu) : Option (Int32 × xMu) :=
  (x_chk v0 7 ((rf v0 v1 (v2 + (1 : Int32)) v3 μ).bind fun q2 =>
(if q2.1 < 0 then
(if (q2.2 v0 8) = 0 then
((f7_doActs rf v0 v1 v2 v3 q2.2).bind fun q3 =>
(some ((-1000004 : Int32), q3.2)))
else
(some ((-1000004 : Int32), q2.2)))
else
((f7_doActs rf v0 v1 v2 q2.1 q2.2).bind fun q4 =>
(some (q4.1, q4.2))))))
set_option maxHeartbeats 4000000 in
set_option maxRecDepth 100000 in
theorem l_f7_runBehind (G : xG) (d : Nat) (dr : Nat) (rf : Nat → Int32 → Int32 → Int32 → xMu → Option (Int32 × xMu)) (hrf : ∀ (v0 : Nat) (v1 : Int32) (v2 : Int32) (v3 : Int32) (μ : xMu), Mx G m7_runFrom dr [.ref v0, .int v1, .int v2, .int v3] μ x_wim (rf v0 v1 v2 v3 μ)) (hd : dr + 6 ≤ d) (v0 : Nat) (v1 : Int32) (v2 : Int32) (v3 : Int32) (μ : xMu) : Mx G m7_runBehind d [.ref v0, .int v1, .int v2, .int v3] μ x_wim (f7_runBehind rf v0 v1 v2 v3 μ) := by
  refine mx_enter ok7_runBehind [some (.ref v0), some (.int v1), some (.int v2), some (.int v3), none] rfl (Nat.le_of_ble_eq_true rfl) ?_
  unfold f7_runBehind
  refine wx_blk (pc' := 6) (L' := [some (.ref v0), some (.int v1), some (.int v2), some (.int v3), none]) (st' := [.int v3, .int (v2 + (1 : Int32)), .int v1, .ref v0]) [.aload_n 0, .iload_n 1, .iload_n 2, .iconst 1, .iadd, .iload_n 3] (by decide +kernel) rfl rfl ?_
  refine wx_chk (fun hx1 => ?_)
  refine wx_callV (d1 := dr) (As := [.int v1, .int (v2 + (1 : Int32)), .int v3]) (rest := []) (by omega) hx1 (by decide) rfl cv_7_60 rfl (Nat.le_of_ble_eq_true rfl) (hrf v0 v1 (v2 + (1 : Int32)) v3 μ) rfl (by decide +kernel) (fun q2 => ?_)
  refine wx_blk (pc' := 13) (L' := [some (.ref v0), some (.int v1), some (.int v2), some (.int v3), some (.int q2.1)]) (st' := [.int q2.1]) [.istore 4, .iload 4] (by decide +kernel) rfl rfl ?_
  refine wx_if_lt 25 (off := 12) (by decide +kernel) (by decide) ?_ ?_
  · refine wx_blk (pc' := 26) (L' := [some (.ref v0), some (.int v1), some (.int v2), some (.int v3), some (.int q2.1)]) (st' := [.ref v0]) [.aload_n 0] (by decide +kernel) rfl rfl ?_
    refine wx_geti hx1 ff_7_45 rfl (by decide +kernel) ?_
    refine wx_if_ne 40 (off := 11) (by decide +kernel) (by decide) ?_ ?_
    · refine wx_ldc (v := -1000004) xw_958 (by decide +kernel) ?_
      exact wx_iret rfl rfl (by decide +kernel)
    · refine wx_blk (pc' := 36) (L' := [some (.ref v0), some (.int v1), some (.int v2), some (.int v3), some (.int q2.1)]) (st' := [.int v3, .int v2, .int v1, .ref v0]) [.aload_n 0, .iload_n 1, .iload_n 2, .iload_n 3] (by decide +kernel) rfl rfl ?_
      refine wx_callV (d1 := dr + 5) (As := [.int v1, .int v2, .int v3]) (rest := []) (by omega) hx1 (by decide) rfl cv_7_83 rfl (Nat.le_of_ble_eq_true rfl) (l_f7_doActs G (dr + 5) dr rf hrf (by omega) v0 v1 v2 v3 q2.2) rfl (by decide +kernel) (fun q3 => ?_)
      refine wx_blk (pc' := 40) (L' := [some (.ref v0), some (.int v1), some (.int v2), some (.int v3), some (.int q2.1)]) (st' := []) [.pop] (by decide +kernel) rfl rfl ?_
      refine wx_ldc (v := -1000004) xw_958 (by decide +kernel) ?_
      exact wx_iret rfl rfl (by decide +kernel)
  · refine wx_blk (pc' := 21) (L' := [some (.ref v0), some (.int v1), some (.int v2), some (.int v3), some (.int q2.1)]) (st' := [.int q2.1, .int v2, .int v1, .ref v0]) [.aload_n 0, .iload_n 1, .iload_n 2, .iload 4] (by decide +kernel) rfl rfl ?_
    refine wx_callV (d1 := dr + 5) (As := [.int v1, .int v2, .int q2.1]) (rest := []) (by omega) hx1 (by decide) rfl cv_7_83 rfl (Nat.le_of_ble_eq_true rfl) (l_f7_doActs G (dr + 5) dr rf hrf (by omega) v0 v1 v2 q2.1 q2.2) rfl (by decide +kernel) (fun q4 => ?_)
    exact wx_iret rfl rfl (by decide +kernel)
/-! WakingLayers$Runner.runFrom(III)I -/
def f7_runFrom_j151 (rf : Nat → Int32 → Int32 → Int32 → xMu → Option (Int32 × xMu)) (v0 : Nat) (v4 : Int32) (v5 : Int32) (μ : xMu) : Option (Int32 × xMu) :=
  (x_chk v0 7 ((f2_closeDownTo v4 μ).bind fun μ22 =>
(some (v5, μ22))))
set_option maxHeartbeats 4000000 in
set_option maxRecDepth 100000 in
theorem l_f7_runFrom_j151 (G : xG) (d : Nat) (dr : Nat) (rf : Nat → Int32 → Int32 → Int32 → xMu → Option (Int32 × xMu)) (hrf : ∀ (v0 : Nat) (v1 : Int32) (v2 : Int32) (v3 : Int32) (μ : xMu), Mx G m7_runFrom dr [.ref v0, .int v1, .int v2, .int v3] μ x_wim (rf v0 v1 v2 v3 μ)) (hd : dr + 7 ≤ d) (v0 : Nat) (v4 : Int32) (v5 : Int32) (μ : xMu) : Wx G m7_runFrom d 151 [some (.ref v0), none, none, none, some (.int v4), some (.int v5)] [] μ x_wim (f7_runFrom_j151 rf v0 v4 v5 μ) := by
  unfold f7_runFrom_j151
  refine wx_blk (pc' := 152) (L' := [some (.ref v0), none, none, none, some (.int v4), some (.int v5)]) (st' := [.ref v0]) [.aload_n 0] (by decide +kernel) rfl rfl ?_
  refine wx_chk (fun hx21 => ?_)
  refine wx_getr hx21 ff_7_32 rfl (rfc_7_1 _ hx21) (by decide +kernel) ?_
  refine wx_blk (pc' := 157) (L' := [some (.ref v0), none, none, none, some (.int v4), some (.int v5)]) (st' := [.int v4, .ref 127]) [.iload 4] (by decide +kernel) rfl rfl ?_
  refine wx_callV (d1 := 2) (As := [.int v4]) (rest := []) (by omega) is_127 (by decide) rfl cv_7_89 rfl (Nat.le_of_ble_eq_true rfl) (l_f2_closeDownTo G 2 (by omega) v4 μ) rfl (by decide +kernel) (fun μ22 => ?_)
  refine wx_blk (pc' := 162) (L' := [some (.ref v0), none, none, none, some (.int v4), some (.int v5)]) (st' := [.int v5]) [.iload 5] (by decide +kernel) rfl rfl ?_
  exact wx_iret rfl rfl (by decide +kernel)
def f7_runFrom_j125 (rf : Nat → Int32 → Int32 → Int32 → xMu → Option (Int32 × xMu)) (v0 : Nat) (v4 : Int32) (s0 : Int32) (μ : xMu) : Option (Int32 × xMu) :=
  (f7_runFrom_j151 rf v0 v4 s0 μ)
set_option maxHeartbeats 4000000 in
set_option maxRecDepth 100000 in
theorem l_f7_runFrom_j125 (G : xG) (d : Nat) (dr : Nat) (rf : Nat → Int32 → Int32 → Int32 → xMu → Option (Int32 × xMu)) (hrf : ∀ (v0 : Nat) (v1 : Int32) (v2 : Int32) (v3 : Int32) (μ : xMu), Mx G m7_runFrom dr [.ref v0, .int v1, .int v2, .int v3] μ x_wim (rf v0 v1 v2 v3 μ)) (hd : dr + 7 ≤ d) (v0 : Nat) (v4 : Int32) (s0 : Int32) (μ : xMu) : Wx G m7_runFrom d 125 [some (.ref v0), none, none, none, some (.int v4), none] [.int s0] μ x_wim (f7_runFrom_j125 rf v0 v4 s0 μ) := by
  unfold f7_runFrom_j125
  refine wx_blk (pc' := 127) (L' := [some (.ref v0), none, none, none, some (.int v4), some (.int s0)]) (st' := []) [.istore 5] (by decide +kernel) rfl rfl ?_
  refine wx_goto 151 (off := 24) (by decide +kernel) (by decide) ?_
  refine l_f7_runFrom_j151 G d dr rf hrf hd v0 v4 s0 μ
def f7_runFrom_b (rf : Nat → Int32 → Int32 → Int32 → xMu → Option (Int32 × xMu)) (v0 : Nat) (v1 : Int32) (v2 : Int32) (v3 : Int32) (μ : xMu) : Option (Int32 × xMu) :=
  (x_chk v0 7 (x_rfd v0 4 fun r2 =>
(x_chk r2 13 (x_ald μ r2 (x_sz r2) v1 fun x3 =>
(if v2 < x3 then
(if (μ v0 7) < (60 : Int32) then
(x_rfd v0 3 fun r5 =>
(x_chk r5 17 (x_rld r5 (x_sz r5) v1 fun r6 =>
(x_chk r6 13 (x_ald μ r6 (x_sz r6) v2 fun x8 =>
((f7_noteBegun v0 x8 μ).bind fun μ10 =>
((f2_openCount μ10).bind fun x11 =>
(x_rfd v0 3 fun r12 =>
(x_chk r12 17 (x_rld r12 (x_sz r12) v1 fun r13 =>
(x_chk r13 13 (x_ald μ10 r13 (x_sz r13) v2 fun x15 =>
(x_rld 21 24 x15 fun r17 =>
(x_chk r17 1 (x_sw (μ10 r17 5) 0 [
((f7_doActs rf v0 v1 v2 v3 μ10).bind fun q19 =>
(if 0 ≤ q19.1 then
((rf v0 v1 (v2 + (1 : Int32)) q19.1 q19.2).bind fun q20 =>
(f7_runFrom_j125 rf v0 x11 q20.1 q20.2))
else
(f7_runFrom_j125 rf v0 x11 q19.1 q19.2))),
((f7_runBehind rf v0 v1 v2 v3 μ10).bind fun q23 =>
(f7_runFrom_j151 rf v0 x11 q23.1 q23.2))] 
((f7_doActs rf v0 v1 v2 v3 μ10).bind fun q24 =>
(f7_runFrom_j151 rf v0 x11 q24.1 q24.2)))))))))))))))))
else
(x_put μ v0 8 (1 : Int32) fun μ25 =>
(some ((-1000004 : Int32), μ25))))
else
(some (v3, μ)))))))
set_option maxHeartbeats 4000000 in
set_option maxRecDepth 100000 in
theorem l_f7_runFrom_b (G : xG) (d : Nat) (dr : Nat) (rf : Nat → Int32 → Int32 → Int32 → xMu → Option (Int32 × xMu)) (hrf : ∀ (v0 : Nat) (v1 : Int32) (v2 : Int32) (v3 : Int32) (μ : xMu), Mx G m7_runFrom dr [.ref v0, .int v1, .int v2, .int v3] μ x_wim (rf v0 v1 v2 v3 μ)) (hd : dr + 7 ≤ d) (v0 : Nat) (v1 : Int32) (v2 : Int32) (v3 : Int32) (μ : xMu) : Mx G m7_runFrom d [.ref v0, .int v1, .int v2, .int v3] μ x_wim (f7_runFrom_b rf v0 v1 v2 v3 μ) := by
  refine mx_enter ok7_runFrom [some (.ref v0), some (.int v1), some (.int v2), some (.int v3), none, none] rfl (Nat.le_of_ble_eq_true rfl) ?_
  unfold f7_runFrom_b
  refine wx_blk (pc' := 2) (L' := [some (.ref v0), some (.int v1), some (.int v2), some (.int v3), none, none]) (st' := [.ref v0, .int v2]) [.iload_n 2, .aload_n 0] (by decide +kernel) rfl rfl ?_
  refine wx_chk (fun hx1 => ?_)
  refine wx_rfd hx1 ff_7_18 rfl (by decide +kernel) (fun r2 => ?_)
  refine wx_blk (pc' := 6) (L' := [some (.ref v0), some (.int v1), some (.int v2), some (.int v3), none, none]) (st' := [.int v1, .ref r2, .int v2]) [.iload_n 1] (by decide +kernel) rfl rfl ?_
  refine wx_chk (fun hx4 => ?_)
  refine wx_ald hx4 rfl (by decide +kernel) (fun x3 => ?_)
  refine wx_ic_lt 12 (off := 5) (by decide +kernel) (by decide) ?_ ?_
  · refine wx_blk (pc' := 13) (L' := [some (.ref v0), some (.int v1), some (.int v2), some (.int v3), none, none]) (st' := [.ref v0]) [.aload_n 0] (by decide +kernel) rfl rfl ?_
    refine wx_geti hx1 ff_7_40 rfl (by decide +kernel) ?_
    refine wx_blk (pc' := 18) (L' := [some (.ref v0), some (.int v1), some (.int v2), some (.int v3), none, none]) (st' := [.int (60 : Int32), .int (μ v0 7)]) [.bipush 60] (by decide +kernel) rfl rfl ?_
    refine wx_ic_lt 29 (off := 11) (by decide +kernel) (by decide) ?_ ?_
    · refine wx_blk (pc' := 31) (L' := [some (.ref v0), some (.int v1), some (.int v2), some (.int v3), none, none]) (st' := [.ref v0, .ref v0]) [.aload_n 0, .aload_n 0] (by decide +kernel) rfl rfl ?_
      refine wx_rfd hx1 ff_7_15 rfl (by decide +kernel) (fun r5 => ?_)
      refine wx_blk (pc' := 35) (L' := [some (.ref v0), some (.int v1), some (.int v2), some (.int v3), none, none]) (st' := [.int v1, .ref r5, .ref v0]) [.iload_n 1] (by decide +kernel) rfl rfl ?_
      refine wx_chk (fun hx7 => ?_)
      refine wx_rld hx7 (by decide) rfl (by decide +kernel) (fun r6 => ?_)
      refine wx_blk (pc' := 37) (L' := [some (.ref v0), some (.int v1), some (.int v2), some (.int v3), none, none]) (st' := [.int v2, .ref r6, .ref v0]) [.iload_n 2] (by decide +kernel) rfl rfl ?_
      refine wx_chk (fun hx9 => ?_)
      refine wx_ald hx9 rfl (by decide +kernel) (fun x8 => ?_)
      refine wx_callV (d1 := 0) (As := [.int x8]) (rest := []) (by omega) hx1 (by decide) rfl cv_7_64 rfl (Nat.le_of_ble_eq_true rfl) (l_f7_noteBegun G 0 (by omega) v0 x8 μ) rfl (by decide +kernel) (fun μ10 => ?_)
      refine wx_blk (pc' := 42) (L' := [some (.ref v0), some (.int v1), some (.int v2), some (.int v3), none, none]) (st' := [.ref v0]) [.aload_n 0] (by decide +kernel) rfl rfl ?_
      refine wx_getr hx1 ff_7_32 rfl (rfc_7_1 _ hx1) (by decide +kernel) ?_
      refine wx_callV (d1 := 0) (As := []) (rest := []) (by omega) is_127 (by decide) rfl cv_7_68 rfl (Nat.le_of_ble_eq_true rfl) (l_f2_openCount G 0 (by omega) μ10) rfl (by decide +kernel) (fun x11 => ?_)
      refine wx_blk (pc' := 51) (L' := [some (.ref v0), some (.int v1), some (.int v2), some (.int v3), some (.int x11), none]) (st' := [.ref v0]) [.istore 4, .aload_n 0] (by decide +kernel) rfl rfl ?_
      refine wx_getr hx1 ff_7_28 rfl (rfc_7_0 _ hx1) (by decide +kernel) ?_
      refine wx_getr is_16 ff_7_74 rfl rf_16_4 (by decide +kernel) ?_
      refine wx_blk (pc' := 58) (L' := [some (.ref v0), some (.int v1), some (.int v2), some (.int v3), some (.int x11), none]) (st' := [.ref v0, .ref 21]) [.aload_n 0] (by decide +kernel) rfl rfl ?_
      refine wx_rfd hx1 ff_7_15 rfl (by decide +kernel) (fun r12 => ?_)
      refine wx_blk (pc' := 62) (L' := [some (.ref v0), some (.int v1), some (.int v2), some (.int v3), some (.int x11), none]) (st' := [.int v1, .ref r12, .ref 21]) [.iload_n 1] (by decide +kernel) rfl rfl ?_
      refine wx_chk (fun hx14 => ?_)
      refine wx_rld hx14 (by decide) rfl (by decide +kernel) (fun r13 => ?_)
      refine wx_blk (pc' := 64) (L' := [some (.ref v0), some (.int v1), some (.int v2), some (.int v3), some (.int x11), none]) (st' := [.int v2, .ref r13, .ref 21]) [.iload_n 2] (by decide +kernel) rfl rfl ?_
      refine wx_chk (fun hx16 => ?_)
      refine wx_ald hx16 rfl (by decide +kernel) (fun x15 => ?_)
      refine wx_rld is_21 (by decide) sz_21 (by decide +kernel) (fun r17 => ?_)
      refine wx_chk (fun hx18 => ?_)
      refine wx_geti hx18 ff_7_78 rfl (by decide +kernel) ?_
      refine wx_lsw2 96 130 142 (dflt := 73) (o0 := 27) (o1 := 61) (len := 27) (by decide +kernel) (by decide) (by decide) (by decide) ?_ ?_ ?_
      · refine wx_blk (pc' := 100) (L' := [some (.ref v0), some (.int v1), some (.int v2), some (.int v3), some (.int x11), none]) (st' := [.int v3, .int v2, .int v1, .ref v0]) [.aload_n 0, .iload_n 1, .iload_n 2, .iload_n 3] (by decide +kernel) rfl rfl ?_
        refine wx_callV (d1 := dr + 5) (As := [.int v1, .int v2, .int v3]) (rest := []) (by omega) hx1 (by decide) rfl cv_7_83 rfl (Nat.le_of_ble_eq_true rfl) (l_f7_doActs G (dr + 5) dr rf hrf (by omega) v0 v1 v2 v3 μ10) rfl (by decide +kernel) (fun q19 => ?_)
        refine wx_blk (pc' := 107) (L' := [some (.ref v0), some (.int v1), some (.int v2), some (.int v3), some (.int x11), some (.int q19.1)]) (st' := [.int q19.1]) [.istore 5, .iload 5] (by decide +kernel) rfl rfl ?_
        refine wx_if_ge 115 (off := 8) (by decide +kernel) (by decide) ?_ ?_
        · refine wx_blk (pc' := 122) (L' := [some (.ref v0), some (.int v1), some (.int v2), some (.int v3), some (.int x11), some (.int q19.1)]) (st' := [.int q19.1, .int (v2 + (1 : Int32)), .int v1, .ref v0]) [.aload_n 0, .iload_n 1, .iload_n 2, .iconst 1, .iadd, .iload 5] (by decide +kernel) rfl rfl ?_
          refine wx_callV (d1 := dr) (As := [.int v1, .int (v2 + (1 : Int32)), .int q19.1]) (rest := []) (by omega) hx1 (by decide) rfl cv_7_60 rfl (Nat.le_of_ble_eq_true rfl) (hrf v0 v1 (v2 + (1 : Int32)) q19.1 q19.2) rfl (by decide +kernel) (fun q20 => ?_)
          refine wx_weak (L' := [some (.ref v0), none, none, none, some (.int x11), none]) ⟨rfl, ⟨rfl, trivial⟩⟩ ?_
          refine l_f7_runFrom_j125 G d dr rf hrf hd v0 x11 q20.1 q20.2
        · refine wx_blk (pc' := 112) (L' := [some (.ref v0), some (.int v1), some (.int v2), some (.int v3), some (.int x11), some (.int q19.1)]) (st' := [.int q19.1]) [.iload 5] (by decide +kernel) rfl rfl ?_
          refine wx_goto 125 (off := 13) (by decide +kernel) (by decide) ?_
          refine wx_weak (L' := [some (.ref v0), none, none, none, some (.int x11), none]) ⟨rfl, ⟨rfl, trivial⟩⟩ ?_
          refine l_f7_runFrom_j125 G d dr rf hrf hd v0 x11 q19.1 q19.2
      · refine wx_blk (pc' := 134) (L' := [some (.ref v0), some (.int v1), some (.int v2), some (.int v3), some (.int x11), none]) (st' := [.int v3, .int v2, .int v1, .ref v0]) [.aload_n 0, .iload_n 1, .iload_n 2, .iload_n 3] (by decide +kernel) rfl rfl ?_
        refine wx_callV (d1 := dr + 6) (As := [.int v1, .int v2, .int v3]) (rest := []) (by omega) hx1 (by decide) rfl cv_7_86 rfl (Nat.le_of_ble_eq_true rfl) (l_f7_runBehind G (dr + 6) dr rf hrf (by omega) v0 v1 v2 v3 μ10) rfl (by decide +kernel) (fun q23 => ?_)
        refine wx_blk (pc' := 139) (L' := [some (.ref v0), some (.int v1), some (.int v2), some (.int v3), some (.int x11), some (.int q23.1)]) (st' := []) [.istore 5] (by decide +kernel) rfl rfl ?_
        refine wx_goto 151 (off := 12) (by decide +kernel) (by decide) ?_
        refine wx_weak (L' := [some (.ref v0), none, none, none, some (.int x11), some (.int q23.1)]) ⟨rfl, ⟨rfl, ⟨rfl, trivial⟩⟩⟩ ?_
        refine l_f7_runFrom_j151 G d dr rf hrf hd v0 x11 q23.1 q23.2
      · refine wx_blk (pc' := 146) (L' := [some (.ref v0), some (.int v1), some (.int v2), some (.int v3), some (.int x11), none]) (st' := [.int v3, .int v2, .int v1, .ref v0]) [.aload_n 0, .iload_n 1, .iload_n 2, .iload_n 3] (by decide +kernel) rfl rfl ?_
        refine wx_callV (d1 := dr + 5) (As := [.int v1, .int v2, .int v3]) (rest := []) (by omega) hx1 (by decide) rfl cv_7_83 rfl (Nat.le_of_ble_eq_true rfl) (l_f7_doActs G (dr + 5) dr rf hrf (by omega) v0 v1 v2 v3 μ10) rfl (by decide +kernel) (fun q24 => ?_)
        refine wx_blk (pc' := 151) (L' := [some (.ref v0), some (.int v1), some (.int v2), some (.int v3), some (.int x11), some (.int q24.1)]) (st' := []) [.istore 5] (by decide +kernel) rfl rfl ?_
        refine wx_weak (L' := [some (.ref v0), none, none, none, some (.int x11), some (.int q24.1)]) ⟨rfl, ⟨rfl, ⟨rfl, trivial⟩⟩⟩ ?_
        refine l_f7_runFrom_j151 G d dr rf hrf hd v0 x11 q24.1 q24.2
    · refine wx_blk (pc' := 23) (L' := [some (.ref v0), some (.int v1), some (.int v2), some (.int v3), none, none]) (st' := [.int (1 : Int32), .ref v0]) [.aload_n 0, .iconst 1] (by decide +kernel) rfl rfl ?_
      refine wx_put hx1 ff_7_45 fp_7_8 ⟨by decide, by decide⟩ (by decide +kernel) (fun μ25 => ?_)
      refine wx_ldc (v := -1000004) xw_958 (by decide +kernel) ?_
      exact wx_iret rfl rfl (by decide +kernel)
  · refine wx_blk (pc' := 11) (L' := [some (.ref v0), some (.int v1), some (.int v2), some (.int v3), none, none]) (st' := [.int v3]) [.iload_n 3] (by decide +kernel) rfl rfl ?_
    exact wx_iret rfl rfl (by decide +kernel)
def f7_runFrom : Nat → Nat → Int32 → Int32 → Int32 → xMu → Option (Int32 × xMu)
  | 0 => fun _ _ _ _ _ => none
  | n + 1 => f7_runFrom_b (f7_runFrom n)
set_option maxHeartbeats 4000000 in
set_option maxRecDepth 100000 in
theorem l_f7_runFrom (G : xG) : ∀ (n d : Nat), 7 * n ≤ d → ∀ (v0 : Nat) (v1 : Int32) (v2 : Int32) (v3 : Int32) (μ : xMu), Mx G m7_runFrom d [.ref v0, .int v1, .int v2, .int v3] μ x_wim (f7_runFrom n v0 v1 v2 v3 μ) := by
  intro n
  induction n with
  | zero => intro d hd v0 v1 v2 v3 μ; intro a ha; cases ha
  | succ n ih =>
    intro d hd v0 v1 v2 v3 μ
    exact l_f7_runFrom_b G d (7 * n) (f7_runFrom n) (fun v0 v1 v2 v3 μ => ih (7 * n) (Nat.le_refl _) v0 v1 v2 v3 μ) (by omega) v0 v1 v2 v3 μ
/-! WakingLayers$Runner.callOutermost(III)I -/
def f7_callOutermost (v0 : Nat) (v1 : Int32) (v2 : Int32) (v3 : Int32) (μ : xMu) : Option (Int32 × xMu) :=
  (x_chk v0 7 (x_put μ v0 7 (0 : Int32) fun μ2 =>
(x_put μ2 v0 8 (0 : Int32) fun μ3 =>
((f7_callAt (f7_runFrom 64) v0 (0 : Int32) v1 v2 v3 μ3).bind fun q4 =>
(some (q4.1, q4.2))))))
set_option maxHeartbeats 4000000 in
set_option maxRecDepth 100000 in
theorem l_f7_callOutermost (G : xG) (d : Nat) (hd : 452 ≤ d) (v0 : Nat) (v1 : Int32) (v2 : Int32) (v3 : Int32) (μ : xMu) : Mx G m7_callOutermost d [.ref v0, .int v1, .int v2, .int v3] μ x_wim (f7_callOutermost v0 v1 v2 v3 μ) := by
  refine mx_enter ok7_callOutermost [some (.ref v0), some (.int v1), some (.int v2), some (.int v3)] rfl (Nat.le_of_ble_eq_true rfl) ?_
  unfold f7_callOutermost
  refine wx_blk (pc' := 2) (L' := [some (.ref v0), some (.int v1), some (.int v2), some (.int v3)]) (st' := [.int (0 : Int32), .ref v0]) [.aload_n 0, .iconst 0] (by decide +kernel) rfl rfl ?_
  refine wx_chk (fun hx1 => ?_)
  refine wx_put hx1 ff_7_40 fp_7_7 ⟨rfl, rfl⟩ (by decide +kernel) (fun μ2 => ?_)
  refine wx_blk (pc' := 7) (L' := [some (.ref v0), some (.int v1), some (.int v2), some (.int v3)]) (st' := [.int (0 : Int32), .ref v0]) [.aload_n 0, .iconst 0] (by decide +kernel) rfl rfl ?_
  refine wx_put hx1 ff_7_45 fp_7_8 ⟨by decide, by decide⟩ (by decide +kernel) (fun μ3 => ?_)
  refine wx_blk (pc' := 15) (L' := [some (.ref v0), some (.int v1), some (.int v2), some (.int v3)]) (st' := [.int v3, .int v2, .int v1, .int (0 : Int32), .ref v0]) [.aload_n 0, .iconst 0, .iload_n 1, .iload_n 2, .iload_n 3] (by decide +kernel) rfl rfl ?_
  refine wx_callV (d1 := 451) (As := [.int (0 : Int32), .int v1, .int v2, .int v3]) (rest := []) (by omega) hx1 (by decide) rfl cv_7_49 rfl (Nat.le_of_ble_eq_true rfl) (l_f7_callAt G 451 448 (f7_runFrom 64) (fun v0 v1 v2 v3 μ => l_f7_runFrom G 64 448 (by omega) v0 v1 v2 v3 μ) (by omega) v0 (0 : Int32) v1 v2 v3 μ3) rfl (by decide +kernel) (fun q4 => ?_)
  exact wx_iret rfl rfl (by decide +kernel)
/-! WakingLayers.call(III)I -/
def f11_call (v1 : Int32) (v2 : Int32) (v3 : Int32) (μ : xMu) : Option (Int32 × xMu) :=
  ((f11_isCall μ v1 v2 v3).bind fun x1 =>
(if x1 = 0 then
(some ((-1000001 : Int32), μ))
else
((f7_callOutermost 135 v1 v2 v3 μ).bind fun q2 =>
(some (q2.1, q2.2)))))
set_option maxHeartbeats 4000000 in
set_option maxRecDepth 100000 in
theorem l_f11_call (G : xG) (d : Nat) (hd : 453 ≤ d) (v1 : Int32) (v2 : Int32) (v3 : Int32) (μ : xMu) : Mx G m11_call d [.ref 0, .int v1, .int v2, .int v3] μ x_wim (f11_call v1 v2 v3 μ) := by
  refine mx_enter ok11_call [some (.ref 0), some (.int v1), some (.int v2), some (.int v3)] rfl (Nat.le_of_ble_eq_true rfl) ?_
  unfold f11_call
  refine wx_blk (pc' := 4) (L' := [some (.ref 0), some (.int v1), some (.int v2), some (.int v3)]) (st' := [.int v3, .int v2, .int v1, .ref 0]) [.aload_n 0, .iload_n 1, .iload_n 2, .iload_n 3] (by decide +kernel) rfl rfl ?_
  refine wx_callV (d1 := 1) (As := [.int v1, .int v2, .int v3]) (rest := []) (by omega) is_0 (by decide) rfl cv_11_212 rfl (Nat.le_of_ble_eq_true rfl) (l_f11_isCall G 1 (by omega) μ v1 v2 v3) rfl (by decide +kernel) (fun x1 => ?_)
  refine wx_if_ne 13 (off := 6) (by decide +kernel) (by decide) ?_ ?_
  · refine wx_blk (pc' := 14) (L' := [some (.ref 0), some (.int v1), some (.int v2), some (.int v3)]) (st' := [.ref 0]) [.aload_n 0] (by decide +kernel) rfl rfl ?_
    refine wx_getr is_0 ff_11_66 rfl rf_0_7 (by decide +kernel) ?_
    refine wx_blk (pc' := 20) (L' := [some (.ref 0), some (.int v1), some (.int v2), some (.int v3)]) (st' := [.int v3, .int v2, .int v1, .ref 135]) [.iload_n 1, .iload_n 2, .iload_n 3] (by decide +kernel) rfl rfl ?_
    refine wx_callV (d1 := 452) (As := [.int v1, .int v2, .int v3]) (rest := []) (by omega) is_135 (by decide) rfl cv_11_215 rfl (Nat.le_of_ble_eq_true rfl) (l_f7_callOutermost G 452 (by omega) 135 v1 v2 v3 μ) rfl (by decide +kernel) (fun q2 => ?_)
    exact wx_iret rfl rfl (by decide +kernel)
  · refine wx_ldc (v := -1000001) xw_513 (by decide +kernel) ?_
    exact wx_iret rfl rfl (by decide +kernel)
/-! WakingLayers$Runner.begunCount()I -/
def f7_begunCount (μ : xMu) (v0 : Nat) : Option Int32 :=
  (x_chk v0 7 (some (μ v0 7)))
set_option maxHeartbeats 4000000 in
set_option maxRecDepth 100000 in
theorem l_f7_begunCount (G : xG) (d : Nat) (hd : 0 ≤ d) (μ : xMu) (v0 : Nat) : Mx G m7_begunCount d [.ref v0] μ (x_wi μ) (f7_begunCount μ v0) := by
  refine mx_enter ok7_begunCount [some (.ref v0)] rfl (Nat.le_of_ble_eq_true rfl) ?_
  unfold f7_begunCount
  refine wx_blk (pc' := 1) (L' := [some (.ref v0)]) (st' := [.ref v0]) [.aload_n 0] (by decide +kernel) rfl rfl ?_
  refine wx_chk (fun hx1 => ?_)
  refine wx_geti hx1 ff_7_40 rfl (by decide +kernel) ?_
  exact wx_iret rfl rfl (by decide +kernel)
/-! WakingLayers$Runner.begunAt(I)I -/
def f7_begunAt (μ : xMu) (v0 : Nat) (v1 : Int32) : Option Int32 :=
  (if v1 < 0 then
(some (-1000000 : Int32))
else
(x_chk v0 7 (if (μ v0 7) ≤ v1 then
(some (-1000000 : Int32))
else
(if (40 : Int32) ≤ v1 then
(some (-1000000 : Int32))
else
(x_rfd v0 6 fun r2 =>
(x_chk r2 13 (x_ald μ r2 (x_sz r2) v1 fun x3 =>
(some x3))))))))
set_option maxHeartbeats 4000000 in
set_option maxRecDepth 100000 in
theorem l_f7_begunAt (G : xG) (d : Nat) (hd : 0 ≤ d) (μ : xMu) (v0 : Nat) (v1 : Int32) : Mx G m7_begunAt d [.ref v0, .int v1] μ (x_wi μ) (f7_begunAt μ v0 v1) := by
  refine mx_enter ok7_begunAt [some (.ref v0), some (.int v1)] rfl (Nat.le_of_ble_eq_true rfl) ?_
  unfold f7_begunAt
  refine wx_blk (pc' := 1) (L' := [some (.ref v0), some (.int v1)]) (st' := [.int v1]) [.iload_n 1] (by decide +kernel) rfl rfl ?_
  refine wx_if_lt 27 (off := 26) (by decide +kernel) (by decide) ?_ ?_
  · refine wx_ldc (v := -1000000) xw_982 (by decide +kernel) ?_
    exact wx_iret rfl rfl (by decide +kernel)
  · refine wx_blk (pc' := 6) (L' := [some (.ref v0), some (.int v1)]) (st' := [.ref v0, .int v1]) [.iload_n 1, .aload_n 0] (by decide +kernel) rfl rfl ?_
    refine wx_chk (fun hx1 => ?_)
    refine wx_geti hx1 ff_7_40 rfl (by decide +kernel) ?_
    refine wx_ic_ge 27 (off := 18) (by decide +kernel) (by decide) ?_ ?_
    · refine wx_ldc (v := -1000000) xw_982 (by decide +kernel) ?_
      exact wx_iret rfl rfl (by decide +kernel)
    · refine wx_blk (pc' := 15) (L' := [some (.ref v0), some (.int v1)]) (st' := [.int (40 : Int32), .int v1]) [.iload_n 1, .bipush 40] (by decide +kernel) rfl rfl ?_
      refine wx_ic_ge 27 (off := 12) (by decide +kernel) (by decide) ?_ ?_
      · refine wx_ldc (v := -1000000) xw_982 (by decide +kernel) ?_
        exact wx_iret rfl rfl (by decide +kernel)
      · refine wx_blk (pc' := 19) (L' := [some (.ref v0), some (.int v1)]) (st' := [.ref v0]) [.aload_n 0] (by decide +kernel) rfl rfl ?_
        refine wx_rfd hx1 ff_7_25 rfl (by decide +kernel) (fun r2 => ?_)
        refine wx_blk (pc' := 23) (L' := [some (.ref v0), some (.int v1)]) (st' := [.int v1, .ref r2]) [.iload_n 1] (by decide +kernel) rfl rfl ?_
        refine wx_chk (fun hx4 => ?_)
        refine wx_ald hx4 rfl (by decide +kernel) (fun x3 => ?_)
        refine wx_goto 29 (off := 5) (by decide +kernel) (by decide) ?_
        exact wx_iret rfl rfl (by decide +kernel)
/-! WakingLayers.ran(I)I -/
def f11_ran (μ : xMu) (v1 : Int32) : Option Int32 :=
  (if v1 = (-1 : Int32) then
((f7_begunCount μ 135).bind fun x2 =>
(some x2))
else
((f7_begunAt μ 135 v1).bind fun x1 =>
(some x1)))
set_option maxHeartbeats 4000000 in
set_option maxRecDepth 100000 in
theorem l_f11_ran (G : xG) (d : Nat) (hd : 1 ≤ d) (μ : xMu) (v1 : Int32) : Mx G m11_ran d [.ref 0, .int v1] μ (x_wi μ) (f11_ran μ v1) := by
  refine mx_enter ok11_ran [some (.ref 0), some (.int v1)] rfl (Nat.le_of_ble_eq_true rfl) ?_
  unfold f11_ran
  refine wx_blk (pc' := 2) (L' := [some (.ref 0), some (.int v1)]) (st' := [.int (-1 : Int32), .int v1]) [.iload_n 1, .iconst (-1)] (by decide +kernel) rfl rfl ?_
  refine wx_ic_ne 13 (off := 11) (by decide +kernel) (by decide) ?_ ?_
  · refine wx_blk (pc' := 14) (L' := [some (.ref 0), some (.int v1)]) (st' := [.ref 0]) [.aload_n 0] (by decide +kernel) rfl rfl ?_
    refine wx_getr is_0 ff_11_66 rfl rf_0_7 (by decide +kernel) ?_
    refine wx_blk (pc' := 18) (L' := [some (.ref 0), some (.int v1)]) (st' := [.int v1, .ref 135]) [.iload_n 1] (by decide +kernel) rfl rfl ?_
    refine wx_callV (d1 := 0) (As := [.int v1]) (rest := []) (by omega) is_135 (by decide) rfl cv_11_221 rfl (Nat.le_of_ble_eq_true rfl) (l_f7_begunAt G 0 (by omega) μ 135 v1) rfl (by decide +kernel) (fun x1 => ?_)
    exact wx_iret rfl rfl (by decide +kernel)
  · refine wx_blk (pc' := 6) (L' := [some (.ref 0), some (.int v1)]) (st' := [.ref 0]) [.aload_n 0] (by decide +kernel) rfl rfl ?_
    refine wx_getr is_0 ff_11_66 rfl rf_0_7 (by decide +kernel) ?_
    refine wx_callV (d1 := 0) (As := []) (rest := []) (by omega) is_135 (by decide) rfl cv_11_218 rfl (Nat.le_of_ble_eq_true rfl) (l_f7_begunCount G 0 (by omega) μ 135) rfl (by decide +kernel) (fun x2 => ?_)
    exact wx_iret rfl rfl (by decide +kernel)
/-! WakingLayers$SmallWorld.isGreatest(I)Z -/
def f9_isGreatest (v0 : Int32) : Option Int32 :=
  (if v0 < (1 : Int32) then
(some (0 : Int32))
else
(if (3 : Int32) < v0 then
(some (0 : Int32))
else
(some (1 : Int32))))
set_option maxHeartbeats 4000000 in
set_option maxRecDepth 100000 in
theorem l_f9_isGreatest (G : xG) (d : Nat) (hd : 0 ≤ d) (μ : xMu) (v0 : Int32) : Mx G m9_isGreatest d [.int v0] μ (x_wi μ) (f9_isGreatest v0) := by
  refine mx_enter ok9_isGreatest [some (.int v0)] rfl (Nat.le_of_ble_eq_true rfl) ?_
  unfold f9_isGreatest
  refine wx_blk (pc' := 2) (L' := [some (.int v0)]) (st' := [.int (1 : Int32), .int v0]) [.iload_n 0, .iconst 1] (by decide +kernel) rfl rfl ?_
  refine wx_ic_lt 14 (off := 12) (by decide +kernel) (by decide) ?_ ?_
  · refine wx_blk (pc' := 15) (L' := [some (.int v0)]) (st' := [.int (0 : Int32)]) [.iconst 0] (by decide +kernel) rfl rfl ?_
    exact wx_zret rfl rfl (by decide) (by decide +kernel)
  · refine wx_blk (pc' := 7) (L' := [some (.int v0)]) (st' := [.int (3 : Int32), .int v0]) [.iload_n 0, .iconst 3] (by decide +kernel) rfl rfl ?_
    refine wx_ic_gt 14 (off := 7) (by decide +kernel) (by decide) ?_ ?_
    · refine wx_blk (pc' := 15) (L' := [some (.int v0)]) (st' := [.int (0 : Int32)]) [.iconst 0] (by decide +kernel) rfl rfl ?_
      exact wx_zret rfl rfl (by decide) (by decide +kernel)
    · refine wx_blk (pc' := 11) (L' := [some (.int v0)]) (st' := [.int (1 : Int32)]) [.iconst 1] (by decide +kernel) rfl rfl ?_
      refine wx_goto 15 (off := 4) (by decide +kernel) (by decide) ?_
      exact wx_zret rfl rfl (by decide) (by decide +kernel)
/-! WakingLayers$SmallWorld.factsOfWorld(II)[I -/
def f9_factsOfWorld_l5 (k35 : xMu → Option (Nat × xMu)) : Nat → Int32 → Int32 → Int32 → xMu → Option (Nat × xMu)
  | 0, _, _, _, _ => none
  | n + 1, v2, v3, v4, μ =>
  (if (4 : Int32) ≤ v4 then
(k35 μ)
else
(x_tst (!((v2 + (1 : Int32)) == 0)) (x_ast μ 158 4 v4 (v3 - v3 / (v2 + (1 : Int32)) * (v2 + (1 : Int32))) fun μ1 =>
(x_tst (!((v2 + (1 : Int32)) == 0)) ((f9_factsOfWorld_l5 k35 n) v2 (v3 / (v2 + (1 : Int32))) (v4 + (1 : Int32)) μ1)))))
set_option maxHeartbeats 4000000 in
set_option maxRecDepth 100000 in
theorem l_f9_factsOfWorld_l5 (G : xG) (d : Nat) (hd : 0 ≤ d) (k35 : xMu → Option (Nat × xMu)) (h35 : ∀ (μ1 : xMu), Wx G m9_factsOfWorld d 35 [some (.ref 146), none, none, none, none] [] μ1 x_wrm (k35 μ1)) : ∀ (n : Nat) (v2 : Int32) (v3 : Int32) (v4 : Int32) (μ : xMu), Wx G m9_factsOfWorld d 5 [some (.ref 146), none, some (.int v2), some (.int v3), some (.int v4)] [] μ x_wrm (f9_factsOfWorld_l5 k35 n v2 v3 v4 μ) := by
  intro n
  induction n with
  | zero => intro v2 v3 v4 μ; exact wx_none
  | succ n h5 =>
    intro v2 v3 v4 μ
    unfold f9_factsOfWorld_l5
    refine wx_blk (pc' := 8) (L' := [some (.ref 146), none, some (.int v2), some (.int v3), some (.int v4)]) (st' := [.int (4 : Int32), .int v4]) [.iload 4, .iconst 4] (by decide +kernel) rfl rfl ?_
    refine wx_ic_ge 35 (off := 27) (by decide +kernel) (by decide) ?_ ?_
    · refine wx_weak (L' := [some (.ref 146), none, none, none, none]) ⟨rfl, trivial⟩ ?_
      exact h35 μ
    · refine wx_blk (pc' := 12) (L' := [some (.ref 146), none, some (.int v2), some (.int v3), some (.int v4)]) (st' := [.ref 146]) [.aload_n 0] (by decide +kernel) rfl rfl ?_
      refine wx_getr is_146 ff_9_11 rfl rf_146_3 (by decide +kernel) ?_
      refine wx_blk (pc' := 21) (L' := [some (.ref 146), none, some (.int v2), some (.int v3), some (.int v4)]) (st' := [.int (v2 + (1 : Int32)), .int v3, .int v4, .ref 158]) [.iload 4, .iload_n 3, .iload_n 2, .iconst 1, .iadd] (by decide +kernel) rfl rfl ?_
      refine wx_tst (fun hx3 => ?_)
      refine wx_irem (by decide +kernel) (x_nz hx3) ?_
      refine wx_ast is_158 sz_158 (by decide +kernel) (fun μ1 => ?_)
      refine wx_blk (pc' := 27) (L' := [some (.ref 146), none, some (.int v2), some (.int v3), some (.int v4)]) (st' := [.int (v2 + (1 : Int32)), .int v3]) [.iload_n 3, .iload_n 2, .iconst 1, .iadd] (by decide +kernel) rfl rfl ?_
      refine wx_tst (fun hx2 => ?_)
      refine wx_idiv (by decide +kernel) (x_nz hx2) ?_
      refine wx_blk (pc' := 32) (L' := [some (.ref 146), none, some (.int v2), some (.int (v3 / (v2 + (1 : Int32)))), some (.int (v4 + (1 : Int32)))]) (st' := []) [.istore_n 3, .iinc 4 1] (by decide +kernel) rfl rfl ?_
      refine wx_goto 5 (off := -27) (by decide +kernel) (by decide) ?_
      exact h5 v2 (v3 / (v2 + (1 : Int32))) (v4 + (1 : Int32)) μ1
def f9_factsOfWorld (v1 : Int32) (v2 : Int32) (μ : xMu) : Option (Nat × xMu) :=
  (f9_factsOfWorld_l5 (fun (μ4 : xMu) => (some (158, μ4))) 1000 v2 v1 (0 : Int32) μ)
set_option maxHeartbeats 4000000 in
set_option maxRecDepth 100000 in
theorem l_f9_factsOfWorld (G : xG) (d : Nat) (hd : 0 ≤ d) (v1 : Int32) (v2 : Int32) (μ : xMu) : Mx G m9_factsOfWorld d [.ref 146, .int v1, .int v2] μ x_wrm (f9_factsOfWorld v1 v2 μ) := by
  refine mx_enter ok9_factsOfWorld [some (.ref 146), some (.int v1), some (.int v2), none, none] rfl (Nat.le_of_ble_eq_true rfl) ?_
  unfold f9_factsOfWorld
  refine wx_blk (pc' := 5) (L' := [some (.ref 146), some (.int v1), some (.int v2), some (.int v1), some (.int (0 : Int32))]) (st' := []) [.iload_n 1, .istore_n 3, .iconst 0, .istore 4] (by decide +kernel) rfl rfl ?_
  refine wx_weak (L' := [some (.ref 146), none, some (.int v2), some (.int v1), some (.int (0 : Int32))]) ⟨rfl, ⟨rfl, ⟨rfl, ⟨rfl, trivial⟩⟩⟩⟩ ?_
  refine l_f9_factsOfWorld_l5 G d hd _ ?_ 1000 v2 v1 (0 : Int32) μ
  · intro μ4
    refine wx_blk (pc' := 36) (L' := [some (.ref 146), none, none, none, none]) (st' := [.ref 146]) [.aload_n 0] (by decide +kernel) rfl rfl ?_
    refine wx_getr is_146 ff_9_11 rfl rf_146_3 (by decide +kernel) ?_
    exact wx_aret rfl rfl (by decide +kernel)
/-! WakingLayers$SmallWorld.gather(I)I -/
def f9_gather_l2 (k22 : Int32 → xMu → Option (Int32 × xMu)) : Nat → Int32 → Int32 → xMu → Option (Int32 × xMu)
  | 0, _, _, _ => none
  | n + 1, v1, v2, μ =>
  (if (256 : Int32) ≤ v2 then
(k22 v1 μ)
else
(x_ast μ 159 256 v2 (0 : Int32) fun μ1 =>
((f9_gather_l2 k22 n) v1 (v2 + (1 : Int32)) μ1)))
set_option maxHeartbeats 4000000 in
set_option maxRecDepth 100000 in
theorem l_f9_gather_l2 (G : xG) (d : Nat) (hd : 3 ≤ d) (k22 : Int32 → xMu → Option (Int32 × xMu)) (h22 : ∀ (v1 : Int32) (μ1 : xMu), Wx G m9_gather d 22 [some (.ref 146), some (.int v1), none, none, none, none] [] μ1 x_wim (k22 v1 μ1)) : ∀ (n : Nat) (v1 : Int32) (v2 : Int32) (μ : xMu), Wx G m9_gather d 2 [some (.ref 146), some (.int v1), some (.int v2), none, none, none] [] μ x_wim (f9_gather_l2 k22 n v1 v2 μ) := by
  intro n
  induction n with
  | zero => intro v1 v2 μ; exact wx_none
  | succ n h2 =>
    intro v1 v2 μ
    unfold f9_gather_l2
    refine wx_blk (pc' := 6) (L' := [some (.ref 146), some (.int v1), some (.int v2), none, none, none]) (st' := [.int (256 : Int32), .int v2]) [.iload_n 2, .sipush 256] (by decide +kernel) rfl rfl ?_
    refine wx_ic_ge 22 (off := 16) (by decide +kernel) (by decide) ?_ ?_
    · refine wx_weak (L' := [some (.ref 146), some (.int v1), none, none, none, none]) ⟨rfl, ⟨rfl, trivial⟩⟩ ?_
      exact h22 v1 μ
    · refine wx_blk (pc' := 10) (L' := [some (.ref 146), some (.int v1), some (.int v2), none, none, none]) (st' := [.ref 146]) [.aload_n 0] (by decide +kernel) rfl rfl ?_
      refine wx_getr is_146 ff_9_17 rfl rf_146_4 (by decide +kernel) ?_
      refine wx_blk (pc' := 15) (L' := [some (.ref 146), some (.int v1), some (.int v2), none, none, none]) (st' := [.int (0 : Int32), .int v2, .ref 159]) [.iload_n 2, .iconst 0] (by decide +kernel) rfl rfl ?_
      refine wx_zast is_159 sz_159 (by decide) (by decide +kernel) (fun μ1 => ?_)
      refine wx_blk (pc' := 19) (L' := [some (.ref 146), some (.int v1), some (.int (v2 + (1 : Int32))), none, none, none]) (st' := []) [.iinc 2 1] (by decide +kernel) rfl rfl ?_
      refine wx_goto 2 (off := -17) (by decide +kernel) (by decide) ?_
      exact h2 v1 (v2 + (1 : Int32)) μ1
def f9_gather_j86 (k43 : Int32 → Int32 → Int32 → Int32 → xMu → Option (Int32 × xMu)) (v1 : Int32) (v2 : Int32) (v3 : Int32) (v4 : Int32) (μ : xMu) : Option (Int32 × xMu) :=
  (k43 v1 v2 v3 (v4 + (1 : Int32)) μ)
set_option maxHeartbeats 4000000 in
set_option maxRecDepth 100000 in
theorem l_f9_gather_j86 (G : xG) (d : Nat) (hd : 3 ≤ d) (k43 : Int32 → Int32 → Int32 → Int32 → xMu → Option (Int32 × xMu)) (h43 : ∀ (v1 : Int32) (v2 : Int32) (v3 : Int32) (v4 : Int32) (μ1 : xMu), Wx G m9_gather d 43 [some (.ref 146), some (.int v1), some (.int v2), some (.int v3), some (.int v4), none] [] μ1 x_wim (k43 v1 v2 v3 v4 μ1)) (v1 : Int32) (v2 : Int32) (v3 : Int32) (v4 : Int32) (μ : xMu) : Wx G m9_gather d 86 [some (.ref 146), some (.int v1), some (.int v2), some (.int v3), some (.int v4), none] [] μ x_wim (f9_gather_j86 k43 v1 v2 v3 v4 μ) := by
  unfold f9_gather_j86
  refine wx_blk (pc' := 89) (L' := [some (.ref 146), some (.int v1), some (.int v2), some (.int v3), some (.int (v4 + (1 : Int32))), none]) (st' := []) [.iinc 4 1] (by decide +kernel) rfl rfl ?_
  refine wx_goto 43 (off := -46) (by decide +kernel) (by decide) ?_
  exact h43 v1 v2 v3 (v4 + (1 : Int32)) μ
def f9_gather_l43 (k92 : Int32 → xMu → Option (Int32 × xMu)) : Nat → Int32 → Int32 → Int32 → Int32 → xMu → Option (Int32 × xMu)
  | 0, _, _, _, _, _ => none
  | n + 1, v1, v2, v3, v4, μ =>
  (if v3 ≤ v4 then
(k92 v2 μ)
else
((f9_factsOfWorld v4 v1 μ).bind fun q4 =>
((f2_foundAtPoint q4.2 q4.1).bind fun x5 =>
(x_ald q4.2 159 256 x5 fun x6 =>
(if x6 = 0 then
(x_ast q4.2 159 256 x5 (1 : Int32) fun μ7 =>
(f9_gather_j86 (f9_gather_l43 k92 n) v1 (v2 + (1 : Int32)) v3 v4 μ7))
else
(f9_gather_j86 (f9_gather_l43 k92 n) v1 v2 v3 v4 q4.2))))))
set_option maxHeartbeats 4000000 in
set_option maxRecDepth 100000 in
theorem l_f9_gather_l43 (G : xG) (d : Nat) (hd : 3 ≤ d) (k92 : Int32 → xMu → Option (Int32 × xMu)) (h92 : ∀ (v2 : Int32) (μ1 : xMu), Wx G m9_gather d 92 [none, none, some (.int v2), none, none, none] [] μ1 x_wim (k92 v2 μ1)) : ∀ (n : Nat) (v1 : Int32) (v2 : Int32) (v3 : Int32) (v4 : Int32) (μ : xMu), Wx G m9_gather d 43 [some (.ref 146), some (.int v1), some (.int v2), some (.int v3), some (.int v4), none] [] μ x_wim (f9_gather_l43 k92 n v1 v2 v3 v4 μ) := by
  intro n
  induction n with
  | zero => intro v1 v2 v3 v4 μ; exact wx_none
  | succ n h43 =>
    intro v1 v2 v3 v4 μ
    unfold f9_gather_l43
    refine wx_blk (pc' := 46) (L' := [some (.ref 146), some (.int v1), some (.int v2), some (.int v3), some (.int v4), none]) (st' := [.int v3, .int v4]) [.iload 4, .iload_n 3] (by decide +kernel) rfl rfl ?_
    refine wx_ic_ge 92 (off := 46) (by decide +kernel) (by decide) ?_ ?_
    · refine wx_weak (L' := [none, none, some (.int v2), none, none, none]) ⟨rfl, trivial⟩ ?_
      exact h92 v2 μ
    · refine wx_blk (pc' := 50) (L' := [some (.ref 146), some (.int v1), some (.int v2), some (.int v3), some (.int v4), none]) (st' := [.ref 146]) [.aload_n 0] (by decide +kernel) rfl rfl ?_
      refine wx_getr is_146 ff_9_25 rfl rf_146_1 (by decide +kernel) ?_
      refine wx_blk (pc' := 57) (L' := [some (.ref 146), some (.int v1), some (.int v2), some (.int v3), some (.int v4), none]) (st' := [.int v1, .int v4, .ref 146, .ref 127]) [.aload_n 0, .iload 4, .iload_n 1] (by decide +kernel) rfl rfl ?_
      refine wx_callV (d1 := 0) (As := [.int v4, .int v1]) (rest := [.ref 127]) (by omega) is_146 (by decide) rfl cv_9_33 rfl (Nat.le_of_ble_eq_true rfl) (l_f9_factsOfWorld G 0 (by omega) v4 v1 μ) rfl (by decide +kernel) (fun q4 => ?_)
      refine wx_callV (d1 := 2) (As := [.ref q4.1]) (rest := []) (by omega) is_127 (by decide) rfl cv_9_37 rfl (Nat.le_of_ble_eq_true rfl) (l_f2_foundAtPoint G 2 (by omega) q4.2 q4.1) rfl (by decide +kernel) (fun x5 => ?_)
      refine wx_blk (pc' := 66) (L' := [some (.ref 146), some (.int v1), some (.int v2), some (.int v3), some (.int v4), some (.int x5)]) (st' := [.ref 146]) [.istore 5, .aload_n 0] (by decide +kernel) rfl rfl ?_
      refine wx_getr is_146 ff_9_17 rfl rf_146_4 (by decide +kernel) ?_
      refine wx_blk (pc' := 71) (L' := [some (.ref 146), some (.int v1), some (.int v2), some (.int v3), some (.int v4), some (.int x5)]) (st' := [.int x5, .ref 159]) [.iload 5] (by decide +kernel) rfl rfl ?_
      refine wx_zald is_159 sz_159 (by decide +kernel) (fun x6 => ?_)
      refine wx_if_ne 86 (off := 14) (by decide +kernel) (by decide) ?_ ?_
      · refine wx_weak (L' := [some (.ref 146), some (.int v1), some (.int v2), some (.int v3), some (.int v4), none]) ⟨rfl, ⟨rfl, ⟨rfl, ⟨rfl, ⟨rfl, trivial⟩⟩⟩⟩⟩ ?_
        refine l_f9_gather_j86 G d hd _ h43 v1 v2 v3 v4 q4.2
      · refine wx_blk (pc' := 76) (L' := [some (.ref 146), some (.int v1), some (.int v2), some (.int v3), some (.int v4), some (.int x5)]) (st' := [.ref 146]) [.aload_n 0] (by decide +kernel) rfl rfl ?_
        refine wx_getr is_146 ff_9_17 rfl rf_146_4 (by decide +kernel) ?_
        refine wx_blk (pc' := 82) (L' := [some (.ref 146), some (.int v1), some (.int v2), some (.int v3), some (.int v4), some (.int x5)]) (st' := [.int (1 : Int32), .int x5, .ref 159]) [.iload 5, .iconst 1] (by decide +kernel) rfl rfl ?_
        refine wx_zast is_159 sz_159 (by decide) (by decide +kernel) (fun μ7 => ?_)
        refine wx_blk (pc' := 86) (L' := [some (.ref 146), some (.int v1), some (.int (v2 + (1 : Int32))), some (.int v3), some (.int v4), some (.int x5)]) (st' := []) [.iinc 2 1] (by decide +kernel) rfl rfl ?_
        refine wx_weak (L' := [some (.ref 146), some (.int v1), some (.int (v2 + (1 : Int32))), some (.int v3), some (.int v4), none]) ⟨rfl, ⟨rfl, ⟨rfl, ⟨rfl, ⟨rfl, trivial⟩⟩⟩⟩⟩ ?_
        refine l_f9_gather_j86 G d hd _ h43 v1 (v2 + (1 : Int32)) v3 v4 μ7
def f9_gather (v1 : Int32) (μ : xMu) : Option (Int32 × xMu) :=
  (f9_gather_l2 (fun (y2 : Int32) (μ3 : xMu) => (f9_gather_l43 (fun (y8 : Int32) (μ9 : xMu) => (some (y8, μ9))) 1000 y2 (0 : Int32) ((((y2 + (1 : Int32)) * (y2 + (1 : Int32))) * (y2 + (1 : Int32))) * (y2 + (1 : Int32))) (0 : Int32) μ3)) 1000 v1 (0 : Int32) μ)
set_option maxHeartbeats 4000000 in
set_option maxRecDepth 100000 in
theorem l_f9_gather (G : xG) (d : Nat) (hd : 3 ≤ d) (v1 : Int32) (μ : xMu) : Mx G m9_gather d [.ref 146, .int v1] μ x_wim (f9_gather v1 μ) := by
  refine mx_enter ok9_gather [some (.ref 146), some (.int v1), none, none, none, none] rfl (Nat.le_of_ble_eq_true rfl) ?_
  unfold f9_gather
  refine wx_blk (pc' := 2) (L' := [some (.ref 146), some (.int v1), some (.int (0 : Int32)), none, none, none]) (st' := []) [.iconst 0, .istore_n 2] (by decide +kernel) rfl rfl ?_
  refine l_f9_gather_l2 G d hd _ ?_ 1000 v1 (0 : Int32) μ
  · intro y2 μ3
    refine wx_blk (pc' := 43) (L' := [some (.ref 146), some (.int y2), some (.int (0 : Int32)), some (.int ((((y2 + (1 : Int32)) * (y2 + (1 : Int32))) * (y2 + (1 : Int32))) * (y2 + (1 : Int32)))), some (.int (0 : Int32)), none]) (st' := []) [.iconst 0, .istore_n 2, .iload_n 1, .iconst 1, .iadd, .iload_n 1, .iconst 1, .iadd, .imul, .iload_n 1, .iconst 1, .iadd, .imul, .iload_n 1, .iconst 1, .iadd, .imul, .istore_n 3, .iconst 0, .istore 4] (by decide +kernel) rfl rfl ?_
    refine l_f9_gather_l43 G d hd _ ?_ 1000 y2 (0 : Int32) ((((y2 + (1 : Int32)) * (y2 + (1 : Int32))) * (y2 + (1 : Int32))) * (y2 + (1 : Int32))) (0 : Int32) μ3
    · intro y8 μ9
      refine wx_blk (pc' := 93) (L' := [none, none, some (.int y8), none, none, none]) (st' := [.int y8]) [.iload_n 2] (by decide +kernel) rfl rfl ?_
      exact wx_iret rfl rfl (by decide +kernel)
