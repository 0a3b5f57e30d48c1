/-! WakingLayers$Layer.testHolds([I)Z -/
def f3_testHolds (μ : xMu) (v0 : Nat) (v1 : Nat) : Option Int32 :=
  (x_chk v0 3 (if (μ v0 4) = 0 then
(some (1 : Int32))
else
(x_chk v1 13 (x_ald μ v1 (x_sz v1) (μ v0 5) fun x2 =>
(if (μ v0 6) = (60 : Int32) then
(if (μ v0 7) ≤ x2 then
(some (0 : Int32))
else
(some (1 : Int32)))
else
(if (μ v0 6) = (62 : Int32) then
(if x2 ≤ (μ v0 7) then
(some (0 : Int32))
else
(some (1 : Int32)))
else
(if x2 = (μ v0 7) then
(some (1 : Int32))
else
(some (0 : Int32)))))))))
set_option maxHeartbeats 4000000 in
set_option maxRecDepth 100000 in
theorem l_f3_testHolds (G : xG) (d : Nat) (hd : 0 ≤ d) (μ : xMu) (v0 : Nat) (v1 : Nat) : Mx G m3_testHolds d [.ref v0, .ref v1] μ (x_wi μ) (f3_testHolds μ v0 v1) := by
  refine mx_enter ok3_testHolds [some (.ref v0), some (.ref v1), none] rfl (Nat.le_of_ble_eq_true rfl) ?_
  unfold f3_testHolds
  refine wx_blk (pc' := 1) (L' := [some (.ref v0), some (.ref v1), none]) (st' := [.ref v0]) [.aload_n 0] (by decide +kernel) rfl rfl ?_
  refine wx_chk (fun hx1 => ?_)
  refine wx_geti hx1 ff_3_22 rfl (by decide +kernel) ?_
  refine wx_if_ne 9 (off := 5) (by decide +kernel) (by decide) ?_ ?_
  · refine wx_blk (pc' := 11) (L' := [some (.ref v0), some (.ref v1), none]) (st' := [.ref v0, .ref v1]) [.aload_n 1, .aload_n 0] (by decide +kernel) rfl rfl ?_
    refine wx_geti hx1 ff_3_26 rfl (by decide +kernel) ?_
    refine wx_chk (fun hx3 => ?_)
    refine wx_ald hx3 rfl (by decide +kernel) (fun x2 => ?_)
    refine wx_blk (pc' := 17) (L' := [some (.ref v0), some (.ref v1), some (.int x2)]) (st' := [.ref v0]) [.istore_n 2, .aload_n 0] (by decide +kernel) rfl rfl ?_
    refine wx_geti hx1 ff_3_29 rfl (by decide +kernel) ?_
    refine wx_blk (pc' := 22) (L' := [some (.ref v0), some (.ref v1), some (.int x2)]) (st' := [.int (60 : Int32), .int (μ v0 6)]) [.bipush 60] (by decide +kernel) rfl rfl ?_
    refine wx_ic_ne 39 (off := 17) (by decide +kernel) (by decide) ?_ ?_
    · refine wx_blk (pc' := 40) (L' := [some (.ref v0), some (.ref v1), some (.int x2)]) (st' := [.ref v0]) [.aload_n 0] (by decide +kernel) rfl rfl ?_
      refine wx_geti hx1 ff_3_29 rfl (by decide +kernel) ?_
      refine wx_blk (pc' := 45) (L' := [some (.ref v0), some (.ref v1), some (.int x2)]) (st' := [.int (62 : Int32), .int (μ v0 6)]) [.bipush 62] (by decide +kernel) rfl rfl ?_
      refine wx_ic_ne 64 (off := 19) (by decide +kernel) (by decide) ?_ ?_
      · refine wx_blk (pc' := 66) (L' := [some (.ref v0), some (.ref v1), some (.int x2)]) (st' := [.ref v0, .int x2]) [.iload_n 2, .aload_n 0] (by decide +kernel) rfl rfl ?_
        refine wx_geti hx1 ff_3_33 rfl (by decide +kernel) ?_
        refine wx_ic_ne 76 (off := 7) (by decide +kernel) (by decide) ?_ ?_
        · refine wx_blk (pc' := 77) (L' := [some (.ref v0), some (.ref v1), some (.int x2)]) (st' := [.int (0 : Int32)]) [.iconst 0] (by decide +kernel) rfl rfl ?_
          exact wx_zret rfl rfl (by decide) (by decide +kernel)
        · refine wx_blk (pc' := 73) (L' := [some (.ref v0), some (.ref v1), some (.int x2)]) (st' := [.int (1 : Int32)]) [.iconst 1] (by decide +kernel) rfl rfl ?_
          refine wx_goto 77 (off := 4) (by decide +kernel) (by decide) ?_
          exact wx_zret rfl rfl (by decide) (by decide +kernel)
      · refine wx_blk (pc' := 50) (L' := [some (.ref v0), some (.ref v1), some (.int x2)]) (st' := [.ref v0, .int x2]) [.iload_n 2, .aload_n 0] (by decide +kernel) rfl rfl ?_
        refine wx_geti hx1 ff_3_33 rfl (by decide +kernel) ?_
        refine wx_ic_le 60 (off := 7) (by decide +kernel) (by decide) ?_ ?_
        · refine wx_blk (pc' := 61) (L' := [some (.ref v0), some (.ref v1), some (.int x2)]) (st' := [.int (0 : Int32)]) [.iconst 0] (by decide +kernel) rfl rfl ?_
          refine wx_goto 77 (off := 16) (by decide +kernel) (by decide) ?_
          exact wx_zret rfl rfl (by decide) (by decide +kernel)
        · refine wx_blk (pc' := 57) (L' := [some (.ref v0), some (.ref v1), some (.int x2)]) (st' := [.int (1 : Int32)]) [.iconst 1] (by decide +kernel) rfl rfl ?_
          refine wx_goto 77 (off := 20) (by decide +kernel) (by decide) ?_
          exact wx_zret rfl rfl (by decide) (by decide +kernel)
    · refine wx_blk (pc' := 27) (L' := [some (.ref v0), some (.ref v1), some (.int x2)]) (st' := [.ref v0, .int x2]) [.iload_n 2, .aload_n 0] (by decide +kernel) rfl rfl ?_
      refine wx_geti hx1 ff_3_33 rfl (by decide +kernel) ?_
      refine wx_ic_ge 37 (off := 7) (by decide +kernel) (by decide) ?_ ?_
      · refine wx_blk (pc' := 38) (L' := [some (.ref v0), some (.ref v1), some (.int x2)]) (st' := [.int (0 : Int32)]) [.iconst 0] (by decide +kernel) rfl rfl ?_
        exact wx_zret rfl rfl (by decide) (by decide +kernel)
      · refine wx_blk (pc' := 34) (L' := [some (.ref v0), some (.ref v1), some (.int x2)]) (st' := [.int (1 : Int32)]) [.iconst 1] (by decide +kernel) rfl rfl ?_
        refine wx_goto 38 (off := 4) (by decide +kernel) (by decide) ?_
        exact wx_zret rfl rfl (by decide) (by decide +kernel)
  · refine wx_blk (pc' := 8) (L' := [some (.ref v0), some (.ref v1), none]) (st' := [.int (1 : Int32)]) [.iconst 1] (by decide +kernel) rfl rfl ?_
    exact wx_zret rfl rfl (by decide) (by decide +kernel)
/-! WakingLayers$Circumstances.settled(I)I -/
def f2_settled_j53 (μ : xMu) (k10 : Int32 → Int32 → Int32 → Option Int32) (v2 : Int32) (v3 : Int32) (v4 : Int32) : Option Int32 :=
  (k10 v2 v3 (v4 + (1 : Int32)))
set_option maxHeartbeats 4000000 in
set_option maxRecDepth 100000 in
theorem l_f2_settled_j53 (G : xG) (d : Nat) (hd : 1 ≤ d) (μ : xMu) (k10 : Int32 → Int32 → Int32 → Option Int32) (h10 : ∀ (v2 : Int32) (v3 : Int32) (v4 : Int32), Wx G m2_settled d 10 [some (.ref 127), none, some (.int v2), some (.int v3), some (.int v4)] [] μ (x_wi μ) (k10 v2 v3 v4)) (v2 : Int32) (v3 : Int32) (v4 : Int32) : Wx G m2_settled d 53 [some (.ref 127), none, some (.int v2), some (.int v3), some (.int v4)] [] μ (x_wi μ) (f2_settled_j53 μ k10 v2 v3 v4) := by
  unfold f2_settled_j53
  refine wx_blk (pc' := 56) (L' := [some (.ref 127), none, some (.int v2), some (.int v3), some (.int (v4 + (1 : Int32)))]) (st' := []) [.iinc 4 1] (by decide +kernel) rfl rfl ?_
  refine wx_goto 10 (off := -46) (by decide +kernel) (by decide) ?_
  exact h10 v2 v3 (v4 + (1 : Int32))
def f2_settled_l10 (μ : xMu) (k59 : Int32 → Option Int32) : Nat → Int32 → Int32 → Int32 → Option Int32
  | 0, _, _, _ => none
  | n + 1, v2, v3, v4 =>
  (if (μ 16 7) ≤ v4 then
(k59 v3)
else
(x_rld 20 8 v4 fun r2 =>
(x_chk r2 3 (if ((μ r2 2) &&& ((v2 ||| v3) ^^^ (-1 : Int32))) = 0 then
(f2_settled_j53 μ (f2_settled_l10 μ k59 n) v2 v3 v4)
else
(f2_settled_j53 μ (f2_settled_l10 μ k59 n) v2 (v3 &&& (((1 : Int32) <<< (v4 &&& 31)) ^^^ (-1 : Int32))) v4)))))
set_option maxHeartbeats 4000000 in
set_option maxRecDepth 100000 in
theorem l_f2_settled_l10 (G : xG) (d : Nat) (hd : 1 ≤ d) (μ : xMu) (k59 : Int32 → Option Int32) (h59 : ∀ (v3 : Int32), Wx G m2_settled d 59 [none, none, none, some (.int v3), none] [] μ (x_wi μ) (k59 v3)) : ∀ (n : Nat) (v2 : Int32) (v3 : Int32) (v4 : Int32), Wx G m2_settled d 10 [some (.ref 127), none, some (.int v2), some (.int v3), some (.int v4)] [] μ (x_wi μ) (f2_settled_l10 μ k59 n v2 v3 v4) := by
  intro n
  induction n with
  | zero => intro v2 v3 v4; exact wx_none
  | succ n h10 =>
    intro v2 v3 v4
    unfold f2_settled_l10
    refine wx_blk (pc' := 13) (L' := [some (.ref 127), none, some (.int v2), some (.int v3), some (.int v4)]) (st' := [.ref 127, .int v4]) [.iload 4, .aload_n 0] (by decide +kernel) rfl rfl ?_
    refine wx_getr is_127 ff_2_21 rfl rf_127_0 (by decide +kernel) ?_
    refine wx_geti is_16 ff_2_44 rfl (by decide +kernel) ?_
    refine wx_ic_ge 59 (off := 40) (by decide +kernel) (by decide) ?_ ?_
    · refine wx_weak (L' := [none, none, none, some (.int v3), none]) ⟨rfl, trivial⟩ ?_
      exact h59 v3
    · refine wx_blk (pc' := 23) (L' := [some (.ref 127), none, some (.int v2), some (.int v3), some (.int v4)]) (st' := [.ref 127]) [.aload_n 0] (by decide +kernel) rfl rfl ?_
      refine wx_getr is_127 ff_2_21 rfl rf_127_0 (by decide +kernel) ?_
      refine wx_getr is_16 ff_2_49 rfl rf_16_3 (by decide +kernel) ?_
      refine wx_blk (pc' := 31) (L' := [some (.ref 127), none, some (.int v2), some (.int v3), some (.int v4)]) (st' := [.int v4, .ref 20]) [.iload 4] (by decide +kernel) rfl rfl ?_
      refine wx_rld is_20 (by decide) sz_20 (by decide +kernel) (fun r2 => ?_)
      refine wx_chk (fun hx3 => ?_)
      refine wx_geti hx3 ff_2_66 rfl (by decide +kernel) ?_
      refine wx_blk (pc' := 41) (L' := [some (.ref 127), none, some (.int v2), some (.int v3), some (.int v4)]) (st' := [.int ((μ r2 2) &&& ((v2 ||| v3) ^^^ (-1 : Int32)))]) [.iload_n 2, .iload_n 3, .ior, .iconst (-1), .ixor, .iand] (by decide +kernel) rfl rfl ?_
      refine wx_if_eq 53 (off := 12) (by decide +kernel) (by decide) ?_ ?_
      · refine l_f2_settled_j53 G d hd μ _ h10 v2 v3 v4
      · refine wx_blk (pc' := 53) (L' := [some (.ref 127), none, some (.int v2), some (.int (v3 &&& (((1 : Int32) <<< (v4 &&& 31)) ^^^ (-1 : Int32)))), some (.int v4)]) (st' := []) [.iload_n 3, .iconst 1, .iload 4, .ishl, .iconst (-1), .ixor, .iand, .istore_n 3] (by decide +kernel) rfl rfl ?_
        refine l_f2_settled_j53 G d hd μ _ h10 v2 (v3 &&& (((1 : Int32) <<< (v4 &&& 31)) ^^^ (-1 : Int32))) v4
def f2_settled (μ : xMu) (v1 : Int32) : Option Int32 :=
  ((f2_awakeUnasked μ).bind fun x1 =>
(f2_settled_l10 μ (fun (y4 : Int32) => (some y4)) 1000 x1 v1 (0 : Int32)))
set_option maxHeartbeats 4000000 in
set_option maxRecDepth 100000 in
theorem l_f2_settled (G : xG) (d : Nat) (hd : 1 ≤ d) (μ : xMu) (v1 : Int32) : Mx G m2_settled d [.ref 127, .int v1] μ (x_wi μ) (f2_settled μ v1) := by
  refine mx_enter ok2_settled [some (.ref 127), some (.int v1), none, none, none] rfl (Nat.le_of_ble_eq_true rfl) ?_
  unfold f2_settled
  refine wx_blk (pc' := 1) (L' := [some (.ref 127), some (.int v1), none, none, none]) (st' := [.ref 127]) [.aload_n 0] (by decide +kernel) rfl rfl ?_
  refine wx_callV (d1 := 0) (As := []) (rest := []) (by omega) is_127 (by decide) rfl cv_2_37 rfl (Nat.le_of_ble_eq_true rfl) (l_f2_awakeUnasked G 0 (by omega) μ) rfl (by decide +kernel) (fun x1 => ?_)
  refine wx_blk (pc' := 10) (L' := [some (.ref 127), some (.int v1), some (.int x1), some (.int v1), some (.int (0 : Int32))]) (st' := []) [.istore_n 2, .iload_n 1, .istore_n 3, .iconst 0, .istore 4] (by decide +kernel) rfl rfl ?_
  refine wx_weak (L' := [some (.ref 127), none, some (.int x1), some (.int v1), some (.int (0 : Int32))]) ⟨rfl, ⟨rfl, ⟨rfl, ⟨rfl, trivial⟩⟩⟩⟩ ?_
  refine l_f2_settled_l10 G d hd μ _ ?_ 1000 x1 v1 (0 : Int32)
  · intro y4
    refine wx_blk (pc' := 60) (L' := [none, none, none, some (.int y4), none]) (st' := [.int y4]) [.iload_n 3] (by decide +kernel) rfl rfl ?_
    exact wx_iret rfl rfl (by decide +kernel)
/-! WakingLayers$Circumstances.foundAtPoint([I)I -/
def f2_foundAtPoint_j86 (μ : xMu) (k13 : Nat → Int32 → Int32 → Int32 → Int32 → Option Int32) (v1 : Nat) (v2 : Int32) (v3 : Int32) (v4 : Int32) (v5 : Int32) : Option Int32 :=
  (k13 v1 v2 v3 v4 (v5 + (1 : Int32)))
set_option maxHeartbeats 4000000 in
set_option maxRecDepth 100000 in
theorem l_f2_foundAtPoint_j86 (G : xG) (d : Nat) (hd : 2 ≤ d) (μ : xMu) (k13 : Nat → Int32 → Int32 → Int32 → Int32 → Option Int32) (h13 : ∀ (v1 : Nat) (v2 : Int32) (v3 : Int32) (v4 : Int32) (v5 : Int32), Wx G m2_foundAtPoint d 13 [some (.ref 127), some (.ref v1), some (.int v2), some (.int v3), some (.int v4), some (.int v5), none] [] μ (x_wi μ) (k13 v1 v2 v3 v4 v5)) (v1 : Nat) (v2 : Int32) (v3 : Int32) (v4 : Int32) (v5 : Int32) : Wx G m2_foundAtPoint d 86 [some (.ref 127), some (.ref v1), some (.int v2), some (.int v3), some (.int v4), some (.int v5), none] [] μ (x_wi μ) (f2_foundAtPoint_j86 μ k13 v1 v2 v3 v4 v5) := by
  unfold f2_foundAtPoint_j86
  refine wx_blk (pc' := 89) (L' := [some (.ref 127), some (.ref v1), some (.int v2), some (.int v3), some (.int v4), some (.int (v5 + (1 : Int32))), none]) (st' := []) [.iinc 5 1] (by decide +kernel) rfl rfl ?_
  refine wx_goto 13 (off := -76) (by decide +kernel) (by decide) ?_
  exact h13 v1 v2 v3 v4 (v5 + (1 : Int32))
def f2_foundAtPoint_l13 (μ : xMu) (k92 : Int32 → Int32 → Option Int32) : Nat → Nat → Int32 → Int32 → Int32 → Int32 → Option Int32
  | 0, _, _, _, _, _ => none
  | n + 1, v1, v2, v3, v4, v5 =>
  (if (μ 16 7) ≤ v5 then
(k92 v3 v4)
else
(x_rld 20 8 v5 fun r2 =>
(x_chk r2 3 (if (μ r2 0) = (2 : Int32) then
((f3_testHolds μ r2 v1).bind fun x4 =>
(if x4 = 0 then
(f2_foundAtPoint_j86 μ (f2_foundAtPoint_l13 μ k92 n) v1 v2 v3 v4 v5)
else
(if ((μ r2 2) &&& ((v2 ||| v3) ^^^ (-1 : Int32))) = 0 then
(f2_foundAtPoint_j86 μ (f2_foundAtPoint_l13 μ k92 n) v1 v2 (v3 ||| ((1 : Int32) <<< (v5 &&& 31))) (v4 ||| (μ r2 3)) v5)
else
(f2_foundAtPoint_j86 μ (f2_foundAtPoint_l13 μ k92 n) v1 v2 v3 v4 v5))))
else
(f2_foundAtPoint_j86 μ (f2_foundAtPoint_l13 μ k92 n) v1 v2 v3 v4 v5)))))
set_option maxHeartbeats 4000000 in
set_option maxRecDepth 100000 in
theorem l_f2_foundAtPoint_l13 (G : xG) (d : Nat) (hd : 2 ≤ d) (μ : xMu) (k92 : Int32 → Int32 → Option Int32) (h92 : ∀ (v3 : Int32) (v4 : Int32), Wx G m2_foundAtPoint d 92 [some (.ref 127), none, none, some (.int v3), some (.int v4), none, none] [] μ (x_wi μ) (k92 v3 v4)) : ∀ (n : Nat) (v1 : Nat) (v2 : Int32) (v3 : Int32) (v4 : Int32) (v5 : Int32), Wx G m2_foundAtPoint d 13 [some (.ref 127), some (.ref v1), some (.int v2), some (.int v3), some (.int v4), some (.int v5), none] [] μ (x_wi μ) (f2_foundAtPoint_l13 μ k92 n v1 v2 v3 v4 v5) := by
  intro n
  induction n with
  | zero => intro v1 v2 v3 v4 v5; exact wx_none
  | succ n h13 =>
    intro v1 v2 v3 v4 v5
    unfold f2_foundAtPoint_l13
    refine wx_blk (pc' := 16) (L' := [some (.ref 127), some (.ref v1), some (.int v2), some (.int v3), some (.int v4), some (.int v5), none]) (st' := [.ref 127, .int v5]) [.iload 5, .aload_n 0] (by decide +kernel) rfl rfl ?_
    refine wx_getr is_127 ff_2_21 rfl rf_127_0 (by decide +kernel) ?_
    refine wx_geti is_16 ff_2_44 rfl (by decide +kernel) ?_
    refine wx_ic_ge 92 (off := 70) (by decide +kernel) (by decide) ?_ ?_
    · refine wx_weak (L' := [some (.ref 127), none, none, some (.int v3), some (.int v4), none, none]) ⟨rfl, ⟨rfl, ⟨rfl, trivial⟩⟩⟩ ?_
      exact h92 v3 v4
    · refine wx_blk (pc' := 26) (L' := [some (.ref 127), some (.ref v1), some (.int v2), some (.int v3), some (.int v4), some (.int v5), none]) (st' := [.ref 127]) [.aload_n 0] (by decide +kernel) rfl rfl ?_
      refine wx_getr is_127 ff_2_21 rfl rf_127_0 (by decide +kernel) ?_
      refine wx_getr is_16 ff_2_49 rfl rf_16_3 (by decide +kernel) ?_
      refine wx_blk (pc' := 34) (L' := [some (.ref 127), some (.ref v1), some (.int v2), some (.int v3), some (.int v4), some (.int v5), none]) (st' := [.int v5, .ref 20]) [.iload 5] (by decide +kernel) rfl rfl ?_
      refine wx_rld is_20 (by decide) sz_20 (by decide +kernel) (fun r2 => ?_)
      refine wx_blk (pc' := 39) (L' := [some (.ref 127), some (.ref v1), some (.int v2), some (.int v3), some (.int v4), some (.int v5), some (.ref r2)]) (st' := [.ref r2]) [.astore 6, .aload 6] (by decide +kernel) rfl rfl ?_
      refine wx_chk (fun hx3 => ?_)
      refine wx_geti hx3 ff_2_53 rfl (by decide +kernel) ?_
      refine wx_blk (pc' := 43) (L' := [some (.ref 127), some (.ref v1), some (.int v2), some (.int v3), some (.int v4), some (.int v5), some (.ref r2)]) (st' := [.int (2 : Int32), .int (μ r2 0)]) [.iconst 2] (by decide +kernel) rfl rfl ?_
      refine wx_ic_ne 86 (off := 43) (by decide +kernel) (by decide) ?_ ?_
      · refine wx_weak (L' := [some (.ref 127), some (.ref v1), some (.int v2), some (.int v3), some (.int v4), some (.int v5), none]) ⟨rfl, ⟨rfl, ⟨rfl, ⟨rfl, ⟨rfl, ⟨rfl, trivial⟩⟩⟩⟩⟩⟩ ?_
        refine l_f2_foundAtPoint_j86 G d hd μ _ h13 v1 v2 v3 v4 v5
      · refine wx_blk (pc' := 49) (L' := [some (.ref 127), some (.ref v1), some (.int v2), some (.int v3), some (.int v4), some (.int v5), some (.ref r2)]) (st' := [.ref v1, .ref r2]) [.aload 6, .aload_n 1] (by decide +kernel) rfl rfl ?_
        refine wx_callV (d1 := 0) (As := [.ref v1]) (rest := []) (by omega) hx3 (by decide) rfl cv_2_62 rfl (Nat.le_of_ble_eq_true rfl) (l_f3_testHolds G 0 (by omega) μ r2 v1) rfl (by decide +kernel) (fun x4 => ?_)
        refine wx_if_eq 86 (off := 34) (by decide +kernel) (by decide) ?_ ?_
        · refine wx_weak (L' := [some (.ref 127), some (.ref v1), some (.int v2), some (.int v3), some (.int v4), some (.int v5), none]) ⟨rfl, ⟨rfl, ⟨rfl, ⟨rfl, ⟨rfl, ⟨rfl, trivial⟩⟩⟩⟩⟩⟩ ?_
          refine l_f2_foundAtPoint_j86 G d hd μ _ h13 v1 v2 v3 v4 v5
        · refine wx_blk (pc' := 57) (L' := [some (.ref 127), some (.ref v1), some (.int v2), some (.int v3), some (.int v4), some (.int v5), some (.ref r2)]) (st' := [.ref r2]) [.aload 6] (by decide +kernel) rfl rfl ?_
          refine wx_geti hx3 ff_2_66 rfl (by decide +kernel) ?_
          refine wx_blk (pc' := 66) (L' := [some (.ref 127), some (.ref v1), some (.int v2), some (.int v3), some (.int v4), some (.int v5), some (.ref r2)]) (st' := [.int ((μ r2 2) &&& ((v2 ||| v3) ^^^ (-1 : Int32)))]) [.iload_n 2, .iload_n 3, .ior, .iconst (-1), .ixor, .iand] (by decide +kernel) rfl rfl ?_
          refine wx_if_ne 86 (off := 20) (by decide +kernel) (by decide) ?_ ?_
          · refine wx_weak (L' := [some (.ref 127), some (.ref v1), some (.int v2), some (.int v3), some (.int v4), some (.int v5), none]) ⟨rfl, ⟨rfl, ⟨rfl, ⟨rfl, ⟨rfl, ⟨rfl, trivial⟩⟩⟩⟩⟩⟩ ?_
            refine l_f2_foundAtPoint_j86 G d hd μ _ h13 v1 v2 v3 v4 v5
          · refine wx_blk (pc' := 80) (L' := [some (.ref 127), some (.ref v1), some (.int v2), some (.int (v3 ||| ((1 : Int32) <<< (v5 &&& 31)))), some (.int v4), some (.int v5), some (.ref r2)]) (st' := [.ref r2, .int v4]) [.iload_n 3, .iconst 1, .iload 5, .ishl, .ior, .istore_n 3, .iload 4, .aload 6] (by decide +kernel) rfl rfl ?_
            refine wx_geti hx3 ff_2_69 rfl (by decide +kernel) ?_
            refine wx_blk (pc' := 86) (L' := [some (.ref 127), some (.ref v1), some (.int v2), some (.int (v3 ||| ((1 : Int32) <<< (v5 &&& 31)))), some (.int (v4 ||| (μ r2 3))), some (.int v5), some (.ref r2)]) (st' := []) [.ior, .istore 4] (by decide +kernel) rfl rfl ?_
            refine wx_weak (L' := [some (.ref 127), some (.ref v1), some (.int v2), some (.int (v3 ||| ((1 : Int32) <<< (v5 &&& 31)))), some (.int (v4 ||| (μ r2 3))), some (.int v5), none]) ⟨rfl, ⟨rfl, ⟨rfl, ⟨rfl, ⟨rfl, ⟨rfl, trivial⟩⟩⟩⟩⟩⟩ ?_
            refine l_f2_foundAtPoint_j86 G d hd μ _ h13 v1 v2 (v3 ||| ((1 : Int32) <<< (v5 &&& 31))) (v4 ||| (μ r2 3)) v5
def f2_foundAtPoint (μ : xMu) (v1 : Nat) : Option Int32 :=
  ((f2_awakeUnasked μ).bind fun x1 =>
(f2_foundAtPoint_l13 μ (fun (y5 : Int32) (y6 : Int32) => ((f2_settled μ (y5 &&& (y6 ^^^ (-1 : Int32)))).bind fun x7 =>
(some x7))) 1000 v1 x1 (0 : Int32) (0 : Int32) (0 : Int32)))
set_option maxHeartbeats 4000000 in
set_option maxRecDepth 100000 in
theorem l_f2_foundAtPoint (G : xG) (d : Nat) (hd : 2 ≤ d) (μ : xMu) (v1 : Nat) : Mx G m2_foundAtPoint d [.ref 127, .ref v1] μ (x_wi μ) (f2_foundAtPoint μ v1) := by
  refine mx_enter ok2_foundAtPoint [some (.ref 127), some (.ref v1), none, none, none, none, none] rfl (Nat.le_of_ble_eq_true rfl) ?_
  unfold f2_foundAtPoint
  refine wx_blk (pc' := 1) (L' := [some (.ref 127), some (.ref v1), none, none, none, none, none]) (st' := [.ref 127]) [.aload_n 0] (by decide +kernel) rfl rfl ?_
  refine wx_callV (d1 := 0) (As := []) (rest := []) (by omega) is_127 (by decide) rfl cv_2_37 rfl (Nat.le_of_ble_eq_true rfl) (l_f2_awakeUnasked G 0 (by omega) μ) rfl (by decide +kernel) (fun x1 => ?_)
  refine wx_blk (pc' := 13) (L' := [some (.ref 127), some (.ref v1), some (.int x1), some (.int (0 : Int32)), some (.int (0 : Int32)), some (.int (0 : Int32)), none]) (st' := []) [.istore_n 2, .iconst 0, .istore_n 3, .iconst 0, .istore 4, .iconst 0, .istore 5] (by decide +kernel) rfl rfl ?_
  refine l_f2_foundAtPoint_l13 G d hd μ _ ?_ 1000 v1 x1 (0 : Int32) (0 : Int32) (0 : Int32)
  · intro y5 y6
    refine wx_blk (pc' := 99) (L' := [some (.ref 127), none, none, some (.int y5), some (.int y6), none, none]) (st' := [.int (y5 &&& (y6 ^^^ (-1 : Int32))), .ref 127]) [.aload_n 0, .iload_n 3, .iload 4, .iconst (-1), .ixor, .iand] (by decide +kernel) rfl rfl ?_
    refine wx_callV (d1 := 1) (As := [.int (y5 &&& (y6 ^^^ (-1 : Int32)))]) (rest := []) (by omega) is_127 (by decide) rfl cv_2_32 rfl (Nat.le_of_ble_eq_true rfl) (l_f2_settled G 1 (by omega) μ (y5 &&& (y6 ^^^ (-1 : Int32)))) rfl (by decide +kernel) (fun x7 => ?_)
    exact wx_iret rfl rfl (by decide +kernel)
/-! WakingLayers$Circumstances.takePoint()I -/
def f2_takePoint (μ : xMu) : Option (Int32 × xMu) :=
  ((f2_foundAtPoint μ 128).bind fun x1 =>
(x_put μ 127 5 x1 fun μ2 =>
(some ((μ2 127 5), μ2))))
set_option maxHeartbeats 4000000 in
set_option maxRecDepth 100000 in
theorem l_f2_takePoint (G : xG) (d : Nat) (hd : 3 ≤ d) (μ : xMu) : Mx G m2_takePoint d [.ref 127] μ x_wim (f2_takePoint μ) := by
  refine mx_enter ok2_takePoint [some (.ref 127)] rfl (Nat.le_of_ble_eq_true rfl) ?_
  unfold f2_takePoint
  refine wx_blk (pc' := 3) (L' := [some (.ref 127)]) (st' := [.ref 127, .ref 127, .ref 127]) [.aload_n 0, .aload_n 0, .aload_n 0] (by decide +kernel) rfl rfl ?_
  refine wx_getr is_127 ff_2_11 rfl rf_127_1 (by decide +kernel) ?_
  refine wx_callV (d1 := 2) (As := [.ref 128]) (rest := [.ref 127]) (by omega) is_127 (by decide) rfl cv_2_58 rfl (Nat.le_of_ble_eq_true rfl) (l_f2_foundAtPoint G 2 (by omega) μ 128) rfl (by decide +kernel) (fun x1 => ?_)
  refine wx_put is_127 ff_2_29 fp_2_5 ⟨rfl, rfl⟩ (by decide +kernel) (fun μ2 => ?_)
  refine wx_blk (pc' := 13) (L' := [some (.ref 127)]) (st' := [.ref 127]) [.aload_n 0] (by decide +kernel) rfl rfl ?_
  refine wx_geti is_127 ff_2_29 rfl (by decide +kernel) ?_
  exact wx_iret rfl rfl (by decide +kernel)
/-! WakingLayers.point()I -/
def f11_point (μ : xMu) : Option (Int32 × xMu) :=
  ((f2_takePoint μ).bind fun q1 =>
(some (q1.1, q1.2)))
set_option maxHeartbeats 4000000 in
set_option maxRecDepth 100000 in
theorem l_f11_point (G : xG) (d : Nat) (hd : 4 ≤ d) (μ : xMu) : Mx G m11_point d [.ref 0] μ x_wim (f11_point μ) := by
  refine mx_enter ok11_point [some (.ref 0)] rfl (Nat.le_of_ble_eq_true rfl) ?_
  unfold f11_point
  refine wx_blk (pc' := 1) (L' := [some (.ref 0)]) (st' := [.ref 0]) [.aload_n 0] (by decide +kernel) rfl rfl ?_
  refine wx_getr is_0 ff_11_44 rfl rf_0_4 (by decide +kernel) ?_
  refine wx_callV (d1 := 3) (As := []) (rest := []) (by omega) is_127 (by decide) rfl cv_11_184 rfl (Nat.le_of_ble_eq_true rfl) (l_f2_takePoint G 3 (by omega) μ) rfl (by decide +kernel) (fun q1 => ?_)
  exact wx_iret rfl rfl (by decide +kernel)
/-! WakingLayers$Program.isThing(I)Z -/
def f4_isThing (μ : xMu) (v1 : Int32) : Option Int32 :=
  (if v1 < 0 then
(some (0 : Int32))
else
(if (μ 16 6) ≤ v1 then
(some (0 : Int32))
else
(some (1 : Int32))))
set_option maxHeartbeats 4000000 in
set_option maxRecDepth 100000 in
theorem l_f4_isThing (G : xG) (d : Nat) (hd : 0 ≤ d) (μ : xMu) (v1 : Int32) : Mx G m4_isThing d [.ref 16, .int v1] μ (x_wi μ) (f4_isThing μ v1) := by
  refine mx_enter ok4_isThing [some (.ref 16), some (.int v1)] rfl (Nat.le_of_ble_eq_true rfl) ?_
  unfold f4_isThing
  refine wx_blk (pc' := 1) (L' := [some (.ref 16), some (.int v1)]) (st' := [.int v1]) [.iload_n 1] (by decide +kernel) rfl rfl ?_
  refine wx_if_lt 16 (off := 15) (by decide +kernel) (by decide) ?_ ?_
  · refine wx_blk (pc' := 17) (L' := [some (.ref 16), some (.int v1)]) (st' := [.int (0 : Int32)]) [.iconst 0] (by decide +kernel) rfl rfl ?_
    exact wx_zret rfl rfl (by decide) (by decide +kernel)
  · refine wx_blk (pc' := 6) (L' := [some (.ref 16), some (.int v1)]) (st' := [.ref 16, .int v1]) [.iload_n 1, .aload_n 0] (by decide +kernel) rfl rfl ?_
    refine wx_geti is_16 ff_4_33 rfl (by decide +kernel) ?_
    refine wx_ic_ge 16 (off := 7) (by decide +kernel) (by decide) ?_ ?_
    · refine wx_blk (pc' := 17) (L' := [some (.ref 16), some (.int v1)]) (st' := [.int (0 : Int32)]) [.iconst 0] (by decide +kernel) rfl rfl ?_
      exact wx_zret rfl rfl (by decide) (by decide +kernel)
    · refine wx_blk (pc' := 13) (L' := [some (.ref 16), some (.int v1)]) (st' := [.int (1 : Int32)]) [.iconst 1] (by decide +kernel) rfl rfl ?_
      refine wx_goto 17 (off := 4) (by decide +kernel) (by decide) ?_
      exact wx_zret rfl rfl (by decide) (by decide +kernel)
/-! WakingLayers$Circumstances.openWaking(II)Z -/
def f2_openWaking (v1 : Int32) (v2 : Int32) (μ : xMu) : Option (Int32 × xMu) :=
  (if (μ 127 4) < (16 : Int32) then
(x_ast μ 129 16 (μ 127 4) v1 fun μ1 =>
(x_ast μ1 130 16 (μ1 127 4) v2 fun μ2 =>
(x_put μ2 127 4 ((μ2 127 4) + (1 : Int32)) fun μ3 =>
(some ((1 : Int32), μ3)))))
else
(some ((0 : Int32), μ)))
set_option maxHeartbeats 4000000 in
set_option maxRecDepth 100000 in
theorem l_f2_openWaking (G : xG) (d : Nat) (hd : 0 ≤ d) (v1 : Int32) (v2 : Int32) (μ : xMu) : Mx G m2_openWaking d [.ref 127, .int v1, .int v2] μ x_wim (f2_openWaking v1 v2 μ) := by
  refine mx_enter ok2_openWaking [some (.ref 127), some (.int v1), some (.int v2)] rfl (Nat.le_of_ble_eq_true rfl) ?_
  unfold f2_openWaking
  refine wx_blk (pc' := 1) (L' := [some (.ref 127), some (.int v1), some (.int v2)]) (st' := [.ref 127]) [.aload_n 0] (by decide +kernel) rfl rfl ?_
  refine wx_geti is_127 ff_2_25 rfl (by decide +kernel) ?_
  refine wx_blk (pc' := 6) (L' := [some (.ref 127), some (.int v1), some (.int v2)]) (st' := [.int (16 : Int32), .int (μ 127 4)]) [.bipush 16] (by decide +kernel) rfl rfl ?_
  refine wx_ic_lt 11 (off := 5) (by decide +kernel) (by decide) ?_ ?_
  · refine wx_blk (pc' := 12) (L' := [some (.ref 127), some (.int v1), some (.int v2)]) (st' := [.ref 127]) [.aload_n 0] (by decide +kernel) rfl rfl ?_
    refine wx_getr is_127 ff_2_15 rfl rf_127_2 (by decide +kernel) ?_
    refine wx_blk (pc' := 16) (L' := [some (.ref 127), some (.int v1), some (.int v2)]) (st' := [.ref 127, .ref 129]) [.aload_n 0] (by decide +kernel) rfl rfl ?_
    refine wx_geti is_127 ff_2_25 rfl (by decide +kernel) ?_
    refine wx_blk (pc' := 20) (L' := [some (.ref 127), some (.int v1), some (.int v2)]) (st' := [.int v1, .int (μ 127 4), .ref 129]) [.iload_n 1] (by decide +kernel) rfl rfl ?_
    refine wx_ast is_129 sz_129 (by decide +kernel) (fun μ1 => ?_)
    refine wx_blk (pc' := 22) (L' := [some (.ref 127), some (.int v1), some (.int v2)]) (st' := [.ref 127]) [.aload_n 0] (by decide +kernel) rfl rfl ?_
    refine wx_getr is_127 ff_2_18 rfl rf_127_3 (by decide +kernel) ?_
    refine wx_blk (pc' := 26) (L' := [some (.ref 127), some (.int v1), some (.int v2)]) (st' := [.ref 127, .ref 130]) [.aload_n 0] (by decide +kernel) rfl rfl ?_
    refine wx_geti is_127 ff_2_25 rfl (by decide +kernel) ?_
    refine wx_blk (pc' := 30) (L' := [some (.ref 127), some (.int v1), some (.int v2)]) (st' := [.int v2, .int (μ1 127 4), .ref 130]) [.iload_n 2] (by decide +kernel) rfl rfl ?_
    refine wx_ast is_130 sz_130 (by decide +kernel) (fun μ2 => ?_)
    refine wx_blk (pc' := 33) (L' := [some (.ref 127), some (.int v1), some (.int v2)]) (st' := [.ref 127, .ref 127]) [.aload_n 0, .dup] (by decide +kernel) rfl rfl ?_
    refine wx_geti is_127 ff_2_25 rfl (by decide +kernel) ?_
    refine wx_blk (pc' := 38) (L' := [some (.ref 127), some (.int v1), some (.int v2)]) (st' := [.int ((μ2 127 4) + (1 : Int32)), .ref 127]) [.iconst 1, .iadd] (by decide +kernel) rfl rfl ?_
    refine wx_put is_127 ff_2_25 fp_2_4 ⟨rfl, rfl⟩ (by decide +kernel) (fun μ3 => ?_)
    refine wx_blk (pc' := 42) (L' := [some (.ref 127), some (.int v1), some (.int v2)]) (st' := [.int (1 : Int32)]) [.iconst 1] (by decide +kernel) rfl rfl ?_
    exact wx_zret rfl rfl (by decide) (by decide +kernel)
  · refine wx_blk (pc' := 10) (L' := [some (.ref 127), some (.int v1), some (.int v2)]) (st' := [.int (0 : Int32)]) [.iconst 0] (by decide +kernel) rfl rfl ?_
    exact wx_zret rfl rfl (by decide) (by decide +kernel)
/-! WakingLayers$Circumstances.openCount()I -/
def f2_openCount (μ : xMu) : Option Int32 :=
  (some (μ 127 4))
set_option maxHeartbeats 4000000 in
set_option maxRecDepth 100000 in
theorem l_f2_openCount (G : xG) (d : Nat) (hd : 0 ≤ d) (μ : xMu) : Mx G m2_openCount d [.ref 127] μ (x_wi μ) (f2_openCount μ) := by
  refine mx_enter ok2_openCount [some (.ref 127)] rfl (Nat.le_of_ble_eq_true rfl) ?_
  unfold f2_openCount
  refine wx_blk (pc' := 1) (L' := [some (.ref 127)]) (st' := [.ref 127]) [.aload_n 0] (by decide +kernel) rfl rfl ?_
  refine wx_geti is_127 ff_2_25 rfl (by decide +kernel) ?_
  exact wx_iret rfl rfl (by decide +kernel)
/-! WakingLayers.wake(II)I -/
def f11_wake_j78 (v1 : Int32) (v2 : Int32) (μ : xMu) : Option (Int32 × xMu) :=
  ((f2_openWaking v1 v2 μ).bind fun q7 =>
(if q7.1 = 0 then
(some ((-1000003 : Int32), q7.2))
else
((f2_openCount q7.2).bind fun x8 =>
(some (x8, q7.2)))))
set_option maxHeartbeats 4000000 in
set_option maxRecDepth 100000 in
theorem l_f11_wake_j78 (G : xG) (d : Nat) (hd : 1 ≤ d) (v1 : Int32) (v2 : Int32) (μ : xMu) : Wx G m11_wake d 78 [some (.ref 0), some (.int v1), some (.int v2), none] [] μ x_wim (f11_wake_j78 v1 v2 μ) := by
  unfold f11_wake_j78
  refine wx_blk (pc' := 79) (L' := [some (.ref 0), some (.int v1), some (.int v2), none]) (st' := [.ref 0]) [.aload_n 0] (by decide +kernel) rfl rfl ?_
  refine wx_getr is_0 ff_11_44 rfl rf_0_4 (by decide +kernel) ?_
  refine wx_blk (pc' := 84) (L' := [some (.ref 0), some (.int v1), some (.int v2), none]) (st' := [.int v2, .int v1, .ref 127]) [.iload_n 1, .iload_n 2] (by decide +kernel) rfl rfl ?_
  refine wx_callV (d1 := 0) (As := [.int v1, .int v2]) (rest := []) (by omega) is_127 (by decide) rfl cv_11_195 rfl (Nat.le_of_ble_eq_true rfl) (l_f2_openWaking G 0 (by omega) v1 v2 μ) rfl (by decide +kernel) (fun q7 => ?_)
  refine wx_if_eq 100 (off := 13) (by decide +kernel) (by decide) ?_ ?_
  · refine wx_ldc (v := -1000003) xw_574 (by decide +kernel) ?_
    exact wx_iret rfl rfl (by decide +kernel)
  · refine wx_blk (pc' := 91) (L' := [some (.ref 0), some (.int v1), some (.int v2), none]) (st' := [.ref 0]) [.aload_n 0] (by decide +kernel) rfl rfl ?_
    refine wx_getr is_0 ff_11_44 rfl rf_0_4 (by decide +kernel) ?_
    refine wx_callV (d1 := 0) (As := []) (rest := []) (by omega) is_127 (by decide) rfl cv_11_198 rfl (Nat.le_of_ble_eq_true rfl) (l_f2_openCount G 0 (by omega) q7.2) rfl (by decide +kernel) (fun x8 => ?_)
    refine wx_goto 102 (off := 5) (by decide +kernel) (by decide) ?_
    exact wx_iret rfl rfl (by decide +kernel)
def f11_wake_j50 (v1 : Int32) (v2 : Int32) (s0 : Int32) (μ : xMu) : Option (Int32 × xMu) :=
  (if s0 = 0 then
(if v2 = (-1000000 : Int32) then
(f11_wake_j78 v1 v2 μ)
else
(some ((-1000001 : Int32), μ)))
else
((f4_isThing μ v2).bind fun x9 =>
(if x9 = 0 then
(some ((-1000001 : Int32), μ))
else
(f11_wake_j78 v1 v2 μ))))
set_option maxHeartbeats 4000000 in
set_option maxRecDepth 100000 in
theorem l_f11_wake_j50 (G : xG) (d : Nat) (hd : 1 ≤ d) (v1 : Int32) (v2 : Int32) (s0 : Int32) (μ : xMu) : Wx G m11_wake d 50 [some (.ref 0), some (.int v1), some (.int v2), none] [.int s0] μ x_wim (f11_wake_j50 v1 v2 s0 μ) := by
  unfold f11_wake_j50
  refine wx_blk (pc' := 52) (L' := [some (.ref 0), some (.int v1), some (.int v2), some (.int s0)]) (st' := [.int s0]) [.istore_n 3, .iload_n 3] (by decide +kernel) rfl rfl ?_
  refine wx_if_eq 69 (off := 17) (by decide +kernel) (by decide) ?_ ?_
  · refine wx_blk (pc' := 70) (L' := [some (.ref 0), some (.int v1), some (.int v2), some (.int s0)]) (st' := [.int v2]) [.iload_n 2] (by decide +kernel) rfl rfl ?_
    refine wx_ldc (v := -1000000) xw_878 (by decide +kernel) ?_
    refine wx_ic_eq 78 (off := 6) (by decide +kernel) (by decide) ?_ ?_
    · refine wx_weak (L' := [some (.ref 0), some (.int v1), some (.int v2), none]) ⟨rfl, ⟨rfl, ⟨rfl, trivial⟩⟩⟩ ?_
      refine l_f11_wake_j78 G d hd v1 v2 μ
    · refine wx_ldc (v := -1000001) xw_513 (by decide +kernel) ?_
      exact wx_iret rfl rfl (by decide +kernel)
  · refine wx_blk (pc' := 56) (L' := [some (.ref 0), some (.int v1), some (.int v2), some (.int s0)]) (st' := [.ref 0]) [.aload_n 0] (by decide +kernel) rfl rfl ?_
    refine wx_getr is_0 ff_11_26 rfl rf_0_2 (by decide +kernel) ?_
    refine wx_blk (pc' := 60) (L' := [some (.ref 0), some (.int v1), some (.int v2), some (.int s0)]) (st' := [.int v2, .ref 16]) [.iload_n 2] (by decide +kernel) rfl rfl ?_
    refine wx_callV (d1 := 0) (As := [.int v2]) (rest := []) (by omega) is_16 (by decide) rfl cv_11_191 rfl (Nat.le_of_ble_eq_true rfl) (l_f4_isThing G 0 (by omega) μ v2) rfl (by decide +kernel) (fun x9 => ?_)
    refine wx_if_ne 78 (off := 15) (by decide +kernel) (by decide) ?_ ?_
    · refine wx_weak (L' := [some (.ref 0), some (.int v1), some (.int v2), none]) ⟨rfl, ⟨rfl, ⟨rfl, trivial⟩⟩⟩ ?_
      refine l_f11_wake_j78 G d hd v1 v2 μ
    · refine wx_goto 75 (off := 9) (by decide +kernel) (by decide) ?_
      refine wx_ldc (v := -1000001) xw_513 (by decide +kernel) ?_
      exact wx_iret rfl rfl (by decide +kernel)
def f11_wake (v1 : Int32) (v2 : Int32) (μ : xMu) : Option (Int32 × xMu) :=
  ((f4_isLayer μ v1).bind fun x1 =>
(if x1 = 0 then
(some ((-1000001 : Int32), μ))
else
(x_rld 20 8 v1 fun r2 =>
(x_chk r2 3 ((f3_isWoken μ r2).bind fun x4 =>
(if x4 = 0 then
(some ((-1000001 : Int32), μ))
else
(x_rld 20 8 v1 fun r5 =>
(x_chk r5 3 (if (μ r5 0) = (1 : Int32) then
(f11_wake_j50 v1 v2 (1 : Int32) μ)
else
(f11_wake_j50 v1 v2 (0 : Int32) μ))))))))))
set_option maxHeartbeats 4000000 in
set_option maxRecDepth 100000 in
theorem l_f11_wake (G : xG) (d : Nat) (hd : 1 ≤ d) (v1 : Int32) (v2 : Int32) (μ : xMu) : Mx G m11_wake d [.ref 0, .int v1, .int v2] μ x_wim (f11_wake v1 v2 μ) := by
  refine mx_enter ok11_wake [some (.ref 0), some (.int v1), some (.int v2), none] rfl (Nat.le_of_ble_eq_true rfl) ?_
  unfold f11_wake
  refine wx_blk (pc' := 1) (L' := [some (.ref 0), some (.int v1), some (.int v2), none]) (st' := [.ref 0]) [.aload_n 0] (by decide +kernel) rfl rfl ?_
  refine wx_getr is_0 ff_11_26 rfl rf_0_2 (by decide +kernel) ?_
  refine wx_blk (pc' := 5) (L' := [some (.ref 0), some (.int v1), some (.int v2), none]) (st' := [.int v1, .ref 16]) [.iload_n 1] (by decide +kernel) rfl rfl ?_
  refine wx_callV (d1 := 0) (As := [.int v1]) (rest := []) (by omega) is_16 (by decide) rfl cv_11_147 rfl (Nat.le_of_ble_eq_true rfl) (l_f4_isLayer G 0 (by omega) μ v1) rfl (by decide +kernel) (fun x1 => ?_)
  refine wx_if_eq 26 (off := 18) (by decide +kernel) (by decide) ?_ ?_
  · refine wx_ldc (v := -1000001) xw_513 (by decide +kernel) ?_
    exact wx_iret rfl rfl (by decide +kernel)
  · refine wx_blk (pc' := 12) (L' := [some (.ref 0), some (.int v1), some (.int v2), none]) (st' := [.ref 0]) [.aload_n 0] (by decide +kernel) rfl rfl ?_
    refine wx_getr is_0 ff_11_26 rfl rf_0_2 (by decide +kernel) ?_
    refine wx_getr is_16 ff_11_150 rfl rf_16_3 (by decide +kernel) ?_
    refine wx_blk (pc' := 19) (L' := [some (.ref 0), some (.int v1), some (.int v2), none]) (st' := [.int v1, .ref 20]) [.iload_n 1] (by decide +kernel) rfl rfl ?_
    refine wx_rld is_20 (by decide) sz_20 (by decide +kernel) (fun r2 => ?_)
    refine wx_chk (fun hx3 => ?_)
    refine wx_callV (d1 := 0) (As := []) (rest := []) (by omega) hx3 (by decide) rfl cv_11_187 rfl (Nat.le_of_ble_eq_true rfl) (l_f3_isWoken G 0 (by omega) μ r2) rfl (by decide +kernel) (fun x4 => ?_)
    refine wx_if_ne 29 (off := 6) (by decide +kernel) (by decide) ?_ ?_
    · refine wx_blk (pc' := 30) (L' := [some (.ref 0), some (.int v1), some (.int v2), none]) (st' := [.ref 0]) [.aload_n 0] (by decide +kernel) rfl rfl ?_
      refine wx_getr is_0 ff_11_26 rfl rf_0_2 (by decide +kernel) ?_
      refine wx_getr is_16 ff_11_150 rfl rf_16_3 (by decide +kernel) ?_
      refine wx_blk (pc' := 37) (L' := [some (.ref 0), some (.int v1), some (.int v2), none]) (st' := [.int v1, .ref 20]) [.iload_n 1] (by decide +kernel) rfl rfl ?_
      refine wx_rld is_20 (by decide) sz_20 (by decide +kernel) (fun r5 => ?_)
      refine wx_chk (fun hx6 => ?_)
      refine wx_geti hx6 ff_11_154 rfl (by decide +kernel) ?_
      refine wx_blk (pc' := 42) (L' := [some (.ref 0), some (.int v1), some (.int v2), none]) (st' := [.int (1 : Int32), .int (μ r5 0)]) [.iconst 1] (by decide +kernel) rfl rfl ?_
      refine wx_ic_ne 49 (off := 7) (by decide +kernel) (by decide) ?_ ?_
      · refine wx_blk (pc' := 50) (L' := [some (.ref 0), some (.int v1), some (.int v2), none]) (st' := [.int (0 : Int32)]) [.iconst 0] (by decide +kernel) rfl rfl ?_
        refine l_f11_wake_j50 G d hd v1 v2 (0 : Int32) μ
      · refine wx_blk (pc' := 46) (L' := [some (.ref 0), some (.int v1), some (.int v2), none]) (st' := [.int (1 : Int32)]) [.iconst 1] (by decide +kernel) rfl rfl ?_
        refine wx_goto 50 (off := 4) (by decide +kernel) (by decide) ?_
        refine l_f11_wake_j50 G d hd v1 v2 (1 : Int32) μ
    · refine wx_ldc (v := -1000001) xw_513 (by decide +kernel) ?_
      exact wx_iret rfl rfl (by decide +kernel)
/-! WakingLayers$Circumstances.closeLatest(I)Z -/
def f2_closeLatest_l7 (k27 : Int32 → xMu → Option (Int32 × xMu)) : Nat → Int32 → Int32 → xMu → Option (Int32 × xMu)
  | 0, _, _, _ => none
  | n + 1, v1, v2, μ =>
  (if v2 < 0 then
(k27 v2 μ)
else
(x_ald μ 129 16 v2 fun x1 =>
(if x1 = v1 then
(k27 v2 μ)
else
((f2_closeLatest_l7 k27 n) v1 (v2 + (-1 : Int32)) μ))))
set_option maxHeartbeats 4000000 in
set_option maxRecDepth 100000 in
theorem l_f2_closeLatest_l7 (G : xG) (d : Nat) (hd : 2 ≤ d) (k27 : Int32 → xMu → Option (Int32 × xMu)) (h27 : ∀ (v2 : Int32) (μ1 : xMu), Wx G m2_closeLatest d 27 [some (.ref 127), none, some (.int v2), none] [] μ1 x_wim (k27 v2 μ1)) : ∀ (n : Nat) (v1 : Int32) (v2 : Int32) (μ : xMu), Wx G m2_closeLatest d 7 [some (.ref 127), some (.int v1), some (.int v2), none] [] μ x_wim (f2_closeLatest_l7 k27 n v1 v2 μ) := by
  intro n
  induction n with
  | zero => intro v1 v2 μ; exact wx_none
  | succ n h7 =>
    intro v1 v2 μ
    unfold f2_closeLatest_l7
    refine wx_blk (pc' := 8) (L' := [some (.ref 127), some (.int v1), some (.int v2), none]) (st' := [.int v2]) [.iload_n 2] (by decide +kernel) rfl rfl ?_
    refine wx_if_lt 27 (off := 19) (by decide +kernel) (by decide) ?_ ?_
    · refine wx_weak (L' := [some (.ref 127), none, some (.int v2), none]) ⟨rfl, ⟨rfl, trivial⟩⟩ ?_
      exact h27 v2 μ
    · refine wx_blk (pc' := 12) (L' := [some (.ref 127), some (.int v1), some (.int v2), none]) (st' := [.ref 127]) [.aload_n 0] (by decide +kernel) rfl rfl ?_
      refine wx_getr is_127 ff_2_15 rfl rf_127_2 (by decide +kernel) ?_
      refine wx_blk (pc' := 16) (L' := [some (.ref 127), some (.int v1), some (.int v2), none]) (st' := [.int v2, .ref 129]) [.iload_n 2] (by decide +kernel) rfl rfl ?_
      refine wx_ald is_129 sz_129 (by decide +kernel) (fun x1 => ?_)
      refine wx_blk (pc' := 18) (L' := [some (.ref 127), some (.int v1), some (.int v2), none]) (st' := [.int v1, .int x1]) [.iload_n 1] (by decide +kernel) rfl rfl ?_
      refine wx_ic_eq 27 (off := 9) (by decide +kernel) (by decide) ?_ ?_
      · refine wx_weak (L' := [some (.ref 127), none, some (.int v2), none]) ⟨rfl, ⟨rfl, trivial⟩⟩ ?_
        exact h27 v2 μ
      · refine wx_blk (pc' := 24) (L' := [some (.ref 127), some (.int v1), some (.int (v2 + (-1 : Int32))), none]) (st' := []) [.iinc 2 (-1)] (by decide +kernel) rfl rfl ?_
        refine wx_goto 7 (off := -17) (by decide +kernel) (by decide) ?_
        exact h7 v1 (v2 + (-1 : Int32)) μ
def f2_closeLatest_l35 (k79 : xMu → Option (Int32 × xMu)) : Nat → Int32 → xMu → Option (Int32 × xMu)
  | 0, _, _ => none
  | n + 1, v3, μ =>
  (if ((μ 127 4) - (1 : Int32)) ≤ v3 then
(k79 μ)
else
(x_ald μ 129 16 (v3 + (1 : Int32)) fun x4 =>
(x_ast μ 129 16 v3 x4 fun μ5 =>
(x_ald μ5 130 16 (v3 + (1 : Int32)) fun x6 =>
(x_ast μ5 130 16 v3 x6 fun μ7 =>
((f2_closeLatest_l35 k79 n) (v3 + (1 : Int32)) μ7))))))
set_option maxHeartbeats 4000000 in
set_option maxRecDepth 100000 in
theorem l_f2_closeLatest_l35 (G : xG) (d : Nat) (hd : 2 ≤ d) (k79 : xMu → Option (Int32 × xMu)) (h79 : ∀ (μ1 : xMu), Wx G m2_closeLatest d 79 [some (.ref 127), none, none, none] [] μ1 x_wim (k79 μ1)) : ∀ (n : Nat) (v3 : Int32) (μ : xMu), Wx G m2_closeLatest d 35 [some (.ref 127), none, none, some (.int v3)] [] μ x_wim (f2_closeLatest_l35 k79 n v3 μ) := by
  intro n
  induction n with
  | zero => intro v3 μ; exact wx_none
  | succ n h35 =>
    intro v3 μ
    unfold f2_closeLatest_l35
    refine wx_blk (pc' := 37) (L' := [some (.ref 127), none, none, some (.int v3)]) (st' := [.ref 127, .int v3]) [.iload_n 3, .aload_n 0] (by decide +kernel) rfl rfl ?_
    refine wx_geti is_127 ff_2_25 rfl (by decide +kernel) ?_
    refine wx_blk (pc' := 42) (L' := [some (.ref 127), none, none, some (.int v3)]) (st' := [.int ((μ 127 4) - (1 : Int32)), .int v3]) [.iconst 1, .isub] (by decide +kernel) rfl rfl ?_
    refine wx_ic_ge 79 (off := 37) (by decide +kernel) (by decide) ?_ ?_
    · refine wx_weak (L' := [some (.ref 127), none, none, none]) ⟨rfl, trivial⟩ ?_
      exact h79 μ
    · refine wx_blk (pc' := 46) (L' := [some (.ref 127), none, none, some (.int v3)]) (st' := [.ref 127]) [.aload_n 0] (by decide +kernel) rfl rfl ?_
      refine wx_getr is_127 ff_2_15 rfl rf_127_2 (by decide +kernel) ?_
      refine wx_blk (pc' := 51) (L' := [some (.ref 127), none, none, some (.int v3)]) (st' := [.ref 127, .int v3, .ref 129]) [.iload_n 3, .aload_n 0] (by decide +kernel) rfl rfl ?_
      refine wx_getr is_127 ff_2_15 rfl rf_127_2 (by decide +kernel) ?_
      refine wx_blk (pc' := 57) (L' := [some (.ref 127), none, none, some (.int v3)]) (st' := [.int (v3 + (1 : Int32)), .ref 129, .int v3, .ref 129]) [.iload_n 3, .iconst 1, .iadd] (by decide +kernel) rfl rfl ?_
      refine wx_ald is_129 sz_129 (by decide +kernel) (fun x4 => ?_)
      refine wx_ast is_129 sz_129 (by decide +kernel) (fun μ5 => ?_)
      refine wx_blk (pc' := 60) (L' := [some (.ref 127), none, none, some (.int v3)]) (st' := [.ref 127]) [.aload_n 0] (by decide +kernel) rfl rfl ?_
      refine wx_getr is_127 ff_2_18 rfl rf_127_3 (by decide +kernel) ?_
      refine wx_blk (pc' := 65) (L' := [some (.ref 127), none, none, some (.int v3)]) (st' := [.ref 127, .int v3, .ref 130]) [.iload_n 3, .aload_n 0] (by decide +kernel) rfl rfl ?_
      refine wx_getr is_127 ff_2_18 rfl rf_127_3 (by decide +kernel) ?_
      refine wx_blk (pc' := 71) (L' := [some (.ref 127), none, none, some (.int v3)]) (st' := [.int (v3 + (1 : Int32)), .ref 130, .int v3, .ref 130]) [.iload_n 3, .iconst 1, .iadd] (by decide +kernel) rfl rfl ?_
      refine wx_ald is_130 sz_130 (by decide +kernel) (fun x6 => ?_)
      refine wx_ast is_130 sz_130 (by decide +kernel) (fun μ7 => ?_)
      refine wx_blk (pc' := 76) (L' := [some (.ref 127), none, none, some (.int (v3 + (1 : Int32)))]) (st' := []) [.iinc 3 1] (by decide +kernel) rfl rfl ?_
      refine wx_goto 35 (off := -41) (by decide +kernel) (by decide) ?_
      exact h35 (v3 + (1 : Int32)) μ7
def f2_closeLatest_j27 (v2 : Int32) (μ : xMu) : Option (Int32 × xMu) :=
  (if 0 ≤ v2 then
(f2_closeLatest_l35 (fun (μ8 : xMu) => (x_put μ8 127 4 ((μ8 127 4) - (1 : Int32)) fun μ9 =>
((f2_settled μ9 (μ9 127 5)).bind fun x10 =>
(x_put μ9 127 5 x10 fun μ11 =>
(some ((1 : Int32), μ11)))))) 1000 v2 μ)
else
(some ((0 : Int32), μ)))
set_option maxHeartbeats 4000000 in
set_option maxRecDepth 100000 in
theorem l_f2_closeLatest_j27 (G : xG) (d : Nat) (hd : 2 ≤ d) (v2 : Int32) (μ : xMu) : Wx G m2_closeLatest d 27 [some (.ref 127), none, some (.int v2), none] [] μ x_wim (f2_closeLatest_j27 v2 μ) := by
  unfold f2_closeLatest_j27
  refine wx_blk (pc' := 28) (L' := [some (.ref 127), none, some (.int v2), none]) (st' := [.int v2]) [.iload_n 2] (by decide +kernel) rfl rfl ?_
  refine wx_if_ge 33 (off := 5) (by decide +kernel) (by decide) ?_ ?_
  · refine wx_blk (pc' := 35) (L' := [some (.ref 127), none, some (.int v2), some (.int v2)]) (st' := []) [.iload_n 2, .istore_n 3] (by decide +kernel) rfl rfl ?_
    refine wx_weak (L' := [some (.ref 127), none, none, some (.int v2)]) ⟨rfl, ⟨rfl, trivial⟩⟩ ?_
    refine l_f2_closeLatest_l35 G d hd _ ?_ 1000 v2 μ
    · intro μ8
      refine wx_blk (pc' := 81) (L' := [some (.ref 127), none, none, none]) (st' := [.ref 127, .ref 127]) [.aload_n 0, .dup] (by decide +kernel) rfl rfl ?_
      refine wx_geti is_127 ff_2_25 rfl (by decide +kernel) ?_
      refine wx_blk (pc' := 86) (L' := [some (.ref 127), none, none, none]) (st' := [.int ((μ8 127 4) - (1 : Int32)), .ref 127]) [.iconst 1, .isub] (by decide +kernel) rfl rfl ?_
      refine wx_put is_127 ff_2_25 fp_2_4 ⟨rfl, rfl⟩ (by decide +kernel) (fun μ9 => ?_)
      refine wx_blk (pc' := 92) (L' := [some (.ref 127), none, none, none]) (st' := [.ref 127, .ref 127, .ref 127]) [.aload_n 0, .aload_n 0, .aload_n 0] (by decide +kernel) rfl rfl ?_
      refine wx_geti is_127 ff_2_29 rfl (by decide +kernel) ?_
      refine wx_callV (d1 := 1) (As := [.int (μ9 127 5)]) (rest := [.ref 127]) (by omega) is_127 (by decide) rfl cv_2_32 rfl (Nat.le_of_ble_eq_true rfl) (l_f2_settled G 1 (by omega) μ9 (μ9 127 5)) rfl (by decide +kernel) (fun x10 => ?_)
      refine wx_put is_127 ff_2_29 fp_2_5 ⟨rfl, rfl⟩ (by decide +kernel) (fun μ11 => ?_)
      refine wx_blk (pc' := 102) (L' := [some (.ref 127), none, none, none]) (st' := [.int (1 : Int32)]) [.iconst 1] (by decide +kernel) rfl rfl ?_
      exact wx_zret rfl rfl (by decide) (by decide +kernel)
  · refine wx_blk (pc' := 32) (L' := [some (.ref 127), none, some (.int v2), none]) (st' := [.int (0 : Int32)]) [.iconst 0] (by decide +kernel) rfl rfl ?_
    exact wx_zret rfl rfl (by decide) (by decide +kernel)
def f2_closeLatest (v1 : Int32) (μ : xMu) : Option (Int32 × xMu) :=
  (f2_closeLatest_l7 (fun (y2 : Int32) (μ3 : xMu) => (f2_closeLatest_j27 y2 μ3)) 1000 v1 ((μ 127 4) - (1 : Int32)) μ)
set_option maxHeartbeats 4000000 in
set_option maxRecDepth 100000 in
theorem l_f2_closeLatest (G : xG) (d : Nat) (hd : 2 ≤ d) (v1 : Int32) (μ : xMu) : Mx G m2_closeLatest d [.ref 127, .int v1] μ x_wim (f2_closeLatest v1 μ) := by
  refine mx_enter ok2_closeLatest [some (.ref 127), some (.int v1), none, none] rfl (Nat.le_of_ble_eq_true rfl) ?_
  unfold f2_closeLatest
  refine wx_blk (pc' := 1) (L' := [some (.ref 127), some (.int v1), none, none]) (st' := [.ref 127]) [.aload_n 0] (by decide +kernel) rfl rfl ?_
  refine wx_geti is_127 ff_2_25 rfl (by decide +kernel) ?_
  refine wx_blk (pc' := 7) (L' := [some (.ref 127), some (.int v1), some (.int ((μ 127 4) - (1 : Int32))), none]) (st' := []) [.iconst 1, .isub, .istore_n 2] (by decide +kernel) rfl rfl ?_
  refine l_f2_closeLatest_l7 G d hd _ ?_ 1000 v1 ((μ 127 4) - (1 : Int32)) μ
  · intro y2 μ3
    refine l_f2_closeLatest_j27 G d hd y2 μ3
/-! WakingLayers.sleep(I)I -/
def f11_sleep (v1 : Int32) (μ : xMu) : Option (Int32 × xMu) :=
  ((f4_isLayer μ v1).bind fun x1 =>
(if x1 = 0 then
(some ((-1000001 : Int32), μ))
else
((f2_closeLatest v1 μ).bind fun q2 =>
(if q2.1 = 0 then
(some ((-1000002 : Int32), q2.2))
else
((f2_openCount q2.2).bind fun x3 =>
(some (x3, q2.2)))))))
set_option maxHeartbeats 4000000 in
set_option maxRecDepth 100000 in
theorem l_f11_sleep (G : xG) (d : Nat) (hd : 3 ≤ d) (v1 : Int32) (μ : xMu) : Mx G m11_sleep d [.ref 0, .int v1] μ x_wim (f11_sleep v1 μ) := by
  refine mx_enter ok11_sleep [some (.ref 0), some (.int v1)] rfl (Nat.le_of_ble_eq_true rfl) ?_
  unfold f11_sleep
  refine wx_blk (pc' := 1) (L' := [some (.ref 0), some (.int v1)]) (st' := [.ref 0]) [.aload_n 0] (by decide +kernel) rfl rfl ?_
  refine wx_getr is_0 ff_11_26 rfl rf_0_2 (by decide +kernel) ?_
  refine wx_blk (pc' := 5) (L' := [some (.ref 0), some (.int v1)]) (st' := [.int v1, .ref 16]) [.iload_n 1] (by decide +kernel) rfl rfl ?_
  refine wx_callV (d1 := 0) (As := [.int v1]) (rest := []) (by omega) is_16 (by decide) rfl cv_11_147 rfl (Nat.le_of_ble_eq_true rfl) (l_f4_isLayer G 0 (by omega) μ v1) rfl (by decide +kernel) (fun x1 => ?_)
  refine wx_if_ne 14 (off := 6) (by decide +kernel) (by decide) ?_ ?_
  · refine wx_blk (pc' := 15) (L' := [some (.ref 0), some (.int v1)]) (st' := [.ref 0]) [.aload_n 0] (by decide +kernel) rfl rfl ?_
    refine wx_getr is_0 ff_11_44 rfl rf_0_4 (by decide +kernel) ?_
    refine wx_blk (pc' := 19) (L' := [some (.ref 0), some (.int v1)]) (st' := [.int v1, .ref 127]) [.iload_n 1] (by decide +kernel) rfl rfl ?_
    refine wx_callV (d1 := 2) (As := [.int v1]) (rest := []) (by omega) is_127 (by decide) rfl cv_11_201 rfl (Nat.le_of_ble_eq_true rfl) (l_f2_closeLatest G 2 (by omega) v1 μ) rfl (by decide +kernel) (fun q2 => ?_)
    refine wx_if_eq 35 (off := 13) (by decide +kernel) (by decide) ?_ ?_
    · refine wx_ldc (v := -1000002) xw_895 (by decide +kernel) ?_
      exact wx_iret rfl rfl (by decide +kernel)
    · refine wx_blk (pc' := 26) (L' := [some (.ref 0), some (.int v1)]) (st' := [.ref 0]) [.aload_n 0] (by decide +kernel) rfl rfl ?_
      refine wx_getr is_0 ff_11_44 rfl rf_0_4 (by decide +kernel) ?_
      refine wx_callV (d1 := 0) (As := []) (rest := []) (by omega) is_127 (by decide) rfl cv_11_198 rfl (Nat.le_of_ble_eq_true rfl) (l_f2_openCount G 0 (by omega) q2.2) rfl (by decide +kernel) (fun x3 => ?_)
      refine wx_goto 37 (off := 5) (by decide +kernel) (by decide) ?_
      exact wx_iret rfl rfl (by decide +kernel)
  · refine wx_ldc (v := -1000001) xw_513 (by decide +kernel) ?_
    exact wx_iret rfl rfl (by decide +kernel)
/-! WakingLayers.isRoutine(I)Z -/
def f11_isRoutine (v0 : Int32) : Option Int32 :=
  (if v0 < 0 then
(some (0 : Int32))
else
(if (4 : Int32) ≤ v0 then
(some (0 : Int32))
else
(some (1 : Int32))))
set_option maxHeartbeats 4000000 in
set_option maxRecDepth 100000 in
theorem l_f11_isRoutine (G : xG) (d : Nat) (hd : 0 ≤ d) (μ : xMu) (v0 : Int32) : Mx G m11_isRoutine d [.int v0] μ (x_wi μ) (f11_isRoutine v0) := by
  refine mx_enter ok11_isRoutine [some (.int v0)] rfl (Nat.le_of_ble_eq_true rfl) ?_
  unfold f11_isRoutine
  refine wx_blk (pc' := 1) (L' := [some (.int v0)]) (st' := [.int v0]) [.iload_n 0] (by decide +kernel) rfl rfl ?_
  refine wx_if_lt 13 (off := 12) (by decide +kernel) (by decide) ?_ ?_
  · refine wx_blk (pc' := 14) (L' := [some (.int v0)]) (st' := [.int (0 : Int32)]) [.iconst 0] (by decide +kernel) rfl rfl ?_
    exact wx_zret rfl rfl (by decide) (by decide +kernel)
  · refine wx_blk (pc' := 6) (L' := [some (.int v0)]) (st' := [.int (4 : Int32), .int v0]) [.iload_n 0, .iconst 4] (by decide +kernel) rfl rfl ?_
    refine wx_ic_ge 13 (off := 7) (by decide +kernel) (by decide) ?_ ?_
    · refine wx_blk (pc' := 14) (L' := [some (.int v0)]) (st' := [.int (0 : Int32)]) [.iconst 0] (by decide +kernel) rfl rfl ?_
      exact wx_zret rfl rfl (by decide) (by decide +kernel)
    · refine wx_blk (pc' := 10) (L' := [some (.int v0)]) (st' := [.int (1 : Int32)]) [.iconst 1] (by decide +kernel) rfl rfl ?_
      refine wx_goto 14 (off := 4) (by decide +kernel) (by decide) ?_
      exact wx_zret rfl rfl (by decide) (by decide +kernel)
/-! WakingLayers$Body.isFor(II)Z -/
def f1_isFor (μ : xMu) (v0 : Nat) (v1 : Int32) (v2 : Int32) : Option Int32 :=
  (x_chk v0 1 (if (μ v0 6) = v1 then
(if (μ v0 7) = v2 then
(some (1 : Int32))
else
(some (0 : Int32)))
else
(some (0 : Int32))))
set_option maxHeartbeats 4000000 in
set_option maxRecDepth 100000 in
theorem l_f1_isFor (G : xG) (d : Nat) (hd : 0 ≤ d) (μ : xMu) (v0 : Nat) (v1 : Int32) (v2 : Int32) : Mx G m1_isFor d [.ref v0, .int v1, .int v2] μ (x_wi μ) (f1_isFor μ v0 v1 v2) := by
  refine mx_enter ok1_isFor [some (.ref v0), some (.int v1), some (.int v2)] rfl (Nat.le_of_ble_eq_true rfl) ?_
  unfold f1_isFor
  refine wx_blk (pc' := 1) (L' := [some (.ref v0), some (.int v1), some (.int v2)]) (st' := [.ref v0]) [.aload_n 0] (by decide +kernel) rfl rfl ?_
  refine wx_chk (fun hx1 => ?_)
  refine wx_geti hx1 ff_1_23 rfl (by decide +kernel) ?_
  refine wx_blk (pc' := 5) (L' := [some (.ref v0), some (.int v1), some (.int v2)]) (st' := [.int v1, .int (μ v0 6)]) [.iload_n 1] (by decide +kernel) rfl rfl ?_
  refine wx_ic_ne 20 (off := 15) (by decide +kernel) (by decide) ?_ ?_
  · refine wx_blk (pc' := 21) (L' := [some (.ref v0), some (.int v1), some (.int v2)]) (st' := [.int (0 : Int32)]) [.iconst 0] (by decide +kernel) rfl rfl ?_
    exact wx_zret rfl rfl (by decide) (by decide +kernel)
  · refine wx_blk (pc' := 9) (L' := [some (.ref v0), some (.int v1), some (.int v2)]) (st' := [.ref v0]) [.aload_n 0] (by decide +kernel) rfl rfl ?_
    refine wx_geti hx1 ff_1_26 rfl (by decide +kernel) ?_
    refine wx_blk (pc' := 13) (L' := [some (.ref v0), some (.int v1), some (.int v2)]) (st' := [.int v2, .int (μ v0 7)]) [.iload_n 2] (by decide +kernel) rfl rfl ?_
    refine wx_ic_ne 20 (off := 7) (by decide +kernel) (by decide) ?_ ?_
    · refine wx_blk (pc' := 21) (L' := [some (.ref v0), some (.int v1), some (.int v2)]) (st' := [.int (0 : Int32)]) [.iconst 0] (by decide +kernel) rfl rfl ?_
      exact wx_zret rfl rfl (by decide) (by decide +kernel)
    · refine wx_blk (pc' := 17) (L' := [some (.ref v0), some (.int v1), some (.int v2)]) (st' := [.int (1 : Int32)]) [.iconst 1] (by decide +kernel) rfl rfl ?_
      refine wx_goto 21 (off := 4) (by decide +kernel) (by decide) ?_
      exact wx_zret rfl rfl (by decide) (by decide +kernel)
/-! WakingLayers$Rows.gatherFitting(II)V -/
def f6_gatherFitting_j76 (k25 : Int32 → Int32 → Int32 → Int32 → xMu → Option xMu) (v2 : Int32) (v3 : Int32) (v4 : Int32) (v5 : Int32) (μ : xMu) : Option xMu :=
  (k25 v2 v3 v4 (v5 + (1 : Int32)) μ)
set_option maxHeartbeats 4000000 in
set_option maxRecDepth 100000 in
theorem l_f6_gatherFitting_j76 (G : xG) (d : Nat) (hd : 1 ≤ d) (k25 : Int32 → Int32 → Int32 → Int32 → xMu → Option xMu) (h25 : ∀ (v2 : Int32) (v3 : Int32) (v4 : Int32) (v5 : Int32) (μ1 : xMu), Wx G m6_gatherFitting d 25 [some (.ref 131), none, some (.int v2), some (.int v3), some (.int v4), some (.int v5)] [] μ1 x_wv (k25 v2 v3 v4 v5 μ1)) (v2 : Int32) (v3 : Int32) (v4 : Int32) (v5 : Int32) (μ : xMu) : Wx G m6_gatherFitting d 76 [some (.ref 131), none, some (.int v2), some (.int v3), some (.int v4), some (.int v5)] [] μ x_wv (f6_gatherFitting_j76 k25 v2 v3 v4 v5 μ) := by
  unfold f6_gatherFitting_j76
  refine wx_blk (pc' := 79) (L' := [some (.ref 131), none, some (.int v2), some (.int v3), some (.int v4), some (.int (v5 + (1 : Int32)))]) (st' := []) [.iinc 5 1] (by decide +kernel) rfl rfl ?_
  refine wx_goto 25 (off := -54) (by decide +kernel) (by decide) ?_
  exact h25 v2 v3 v4 (v5 + (1 : Int32)) μ
def f6_gatherFitting_l25 (k82 : Int32 → Int32 → Int32 → xMu → Option xMu) : Nat → Int32 → Int32 → Int32 → Int32 → xMu → Option xMu
  | 0, _, _, _, _, _ => none
  | n + 1, v2, v3, v4, v5, μ =>
  (if (μ 16 8) ≤ v5 then
(k82 v2 v3 v4 μ)
else
(x_rld 21 24 v5 fun r2 =>
(x_chk r2 1 ((f1_isFor μ r2 v3 v2).bind fun x4 =>
(if x4 = 0 then
(f6_gatherFitting_j76 (f6_gatherFitting_l25 k82 n) v2 v3 v4 v5 μ)
else
(x_ast μ 133 24 (μ 131 4) v5 fun μ5 =>
(x_put μ5 131 4 ((μ5 131 4) + (1 : Int32)) fun μ6 =>
(f6_gatherFitting_j76 (f6_gatherFitting_l25 k82 n) v2 v3 v4 v5 μ6))))))))
set_option maxHeartbeats 4000000 in
set_option maxRecDepth 100000 in
theorem l_f6_gatherFitting_l25 (G : xG) (d : Nat) (hd : 1 ≤ d) (k82 : Int32 → Int32 → Int32 → xMu → Option xMu) (h82 : ∀ (v2 : Int32) (v3 : Int32) (v4 : Int32) (μ1 : xMu), Wx G m6_gatherFitting d 82 [some (.ref 131), none, some (.int v2), some (.int v3), some (.int v4), none] [] μ1 x_wv (k82 v2 v3 v4 μ1)) : ∀ (n : Nat) (v2 : Int32) (v3 : Int32) (v4 : Int32) (v5 : Int32) (μ : xMu), Wx G m6_gatherFitting d 25 [some (.ref 131), none, some (.int v2), some (.int v3), some (.int v4), some (.int v5)] [] μ x_wv (f6_gatherFitting_l25 k82 n v2 v3 v4 v5 μ) := by
  intro n
  induction n with
  | zero => intro v2 v3 v4 v5 μ; exact wx_none
  | succ n h25 =>
    intro v2 v3 v4 v5 μ
    unfold f6_gatherFitting_l25
    refine wx_blk (pc' := 28) (L' := [some (.ref 131), none, some (.int v2), some (.int v3), some (.int v4), some (.int v5)]) (st' := [.ref 131, .int v5]) [.iload 5, .aload_n 0] (by decide +kernel) rfl rfl ?_
    refine wx_getr is_131 ff_6_18 rfl rf_131_0 (by decide +kernel) ?_
    refine wx_geti is_16 ff_6_79 rfl (by decide +kernel) ?_
    refine wx_ic_ge 82 (off := 48) (by decide +kernel) (by decide) ?_ ?_
    · refine wx_weak (L' := [some (.ref 131), none, some (.int v2), some (.int v3), some (.int v4), none]) ⟨rfl, ⟨rfl, ⟨rfl, ⟨rfl, trivial⟩⟩⟩⟩ ?_
      exact h82 v2 v3 v4 μ
    · refine wx_blk (pc' := 38) (L' := [some (.ref 131), none, some (.int v2), some (.int v3), some (.int v4), some (.int v5)]) (st' := [.ref 131]) [.aload_n 0] (by decide +kernel) rfl rfl ?_
      refine wx_getr is_131 ff_6_18 rfl rf_131_0 (by decide +kernel) ?_
      refine wx_getr is_16 ff_6_82 rfl rf_16_4 (by decide +kernel) ?_
      refine wx_blk (pc' := 46) (L' := [some (.ref 131), none, some (.int v2), some (.int v3), some (.int v4), some (.int v5)]) (st' := [.int v5, .ref 21]) [.iload 5] (by decide +kernel) rfl rfl ?_
      refine wx_rld is_21 (by decide) sz_21 (by decide +kernel) (fun r2 => ?_)
      refine wx_blk (pc' := 49) (L' := [some (.ref 131), none, some (.int v2), some (.int v3), some (.int v4), some (.int v5)]) (st' := [.int v2, .int v3, .ref r2]) [.iload_n 3, .iload_n 2] (by decide +kernel) rfl rfl ?_
      refine wx_chk (fun hx3 => ?_)
      refine wx_callV (d1 := 0) (As := [.int v3, .int v2]) (rest := []) (by omega) hx3 (by decide) rfl cv_6_86 rfl (Nat.le_of_ble_eq_true rfl) (l_f1_isFor G 0 (by omega) μ r2 v3 v2) rfl (by decide +kernel) (fun x4 => ?_)
      refine wx_if_eq 76 (off := 24) (by decide +kernel) (by decide) ?_ ?_
      · refine l_f6_gatherFitting_j76 G d hd _ h25 v2 v3 v4 v5 μ
      · refine wx_blk (pc' := 56) (L' := [some (.ref 131), none, some (.int v2), some (.int v3), some (.int v4), some (.int v5)]) (st' := [.ref 131]) [.aload_n 0] (by decide +kernel) rfl rfl ?_
        refine wx_getr is_131 ff_6_15 rfl rf_131_3 (by decide +kernel) ?_
        refine wx_blk (pc' := 60) (L' := [some (.ref 131), none, some (.int v2), some (.int v3), some (.int v4), some (.int v5)]) (st' := [.ref 131, .ref 133]) [.aload_n 0] (by decide +kernel) rfl rfl ?_
        refine wx_geti is_131 ff_6_33 rfl (by decide +kernel) ?_
        refine wx_blk (pc' := 65) (L' := [some (.ref 131), none, some (.int v2), some (.int v3), some (.int v4), some (.int v5)]) (st' := [.int v5, .int (μ 131 4), .ref 133]) [.iload 5] (by decide +kernel) rfl rfl ?_
        refine wx_ast is_133 sz_133 (by decide +kernel) (fun μ5 => ?_)
        refine wx_blk (pc' := 68) (L' := [some (.ref 131), none, some (.int v2), some (.int v3), some (.int v4), some (.int v5)]) (st' := [.ref 131, .ref 131]) [.aload_n 0, .dup] (by decide +kernel) rfl rfl ?_
        refine wx_geti is_131 ff_6_33 rfl (by decide +kernel) ?_
        refine wx_blk (pc' := 73) (L' := [some (.ref 131), none, some (.int v2), some (.int v3), some (.int v4), some (.int v5)]) (st' := [.int ((μ5 131 4) + (1 : Int32)), .ref 131]) [.iconst 1, .iadd] (by decide +kernel) rfl rfl ?_
        refine wx_put is_131 ff_6_33 fp_6_4 ⟨rfl, rfl⟩ (by decide +kernel) (fun μ6 => ?_)
        refine l_f6_gatherFitting_j76 G d hd _ h25 v2 v3 v4 v5 μ6
def f6_gatherFitting_l10 (k98 : xMu → Option xMu) : Nat → Int32 → Int32 → Int32 → xMu → Option xMu
  | 0, _, _, _, _ => none
  | n + 1, v2, v3, v4, μ =>
  (if (8 : Int32) ≤ v4 then
(k98 μ)
else
(if v3 = (-1 : Int32) then
(k98 μ)
else
(f6_gatherFitting_l25 (fun (y7 : Int32) (y8 : Int32) (y9 : Int32) (μ10 : xMu) => (x_ald μ10 17 8 y8 fun x11 =>
((f6_gatherFitting_l10 k98 n) y7 x11 (y9 + (1 : Int32)) μ10))) 1000 v2 v3 v4 (0 : Int32) μ)))
set_option maxHeartbeats 4000000 in
set_option maxRecDepth 100000 in
theorem l_f6_gatherFitting_l10 (G : xG) (d : Nat) (hd : 1 ≤ d) (k98 : xMu → Option xMu) (h98 : ∀ (μ1 : xMu), Wx G m6_gatherFitting d 98 [none, none, none, none, none, none] [] μ1 x_wv (k98 μ1)) : ∀ (n : Nat) (v2 : Int32) (v3 : Int32) (v4 : Int32) (μ : xMu), Wx G m6_gatherFitting d 10 [some (.ref 131), none, some (.int v2), some (.int v3), some (.int v4), none] [] μ x_wv (f6_gatherFitting_l10 k98 n v2 v3 v4 μ) := by
  intro n
  induction n with
  | zero => intro v2 v3 v4 μ; exact wx_none
  | succ n h10 =>
    intro v2 v3 v4 μ
    unfold f6_gatherFitting_l10
    refine wx_blk (pc' := 14) (L' := [some (.ref 131), none, some (.int v2), some (.int v3), some (.int v4), none]) (st' := [.int (8 : Int32), .int v4]) [.iload 4, .bipush 8] (by decide +kernel) rfl rfl ?_
    refine wx_ic_ge 98 (off := 84) (by decide +kernel) (by decide) ?_ ?_
    · refine wx_weak (L' := [none, none, none, none, none, none]) trivial ?_
      exact h98 μ
    · refine wx_blk (pc' := 19) (L' := [some (.ref 131), none, some (.int v2), some (.int v3), some (.int v4), none]) (st' := [.int (-1 : Int32), .int v3]) [.iload_n 3, .iconst (-1)] (by decide +kernel) rfl rfl ?_
      refine wx_ic_eq 98 (off := 79) (by decide +kernel) (by decide) ?_ ?_
      · refine wx_weak (L' := [none, none, none, none, none, none]) trivial ?_
        exact h98 μ
      · refine wx_blk (pc' := 25) (L' := [some (.ref 131), none, some (.int v2), some (.int v3), some (.int v4), some (.int (0 : Int32))]) (st' := []) [.iconst 0, .istore 5] (by decide +kernel) rfl rfl ?_
        refine l_f6_gatherFitting_l25 G d hd _ ?_ 1000 v2 v3 v4 (0 : Int32) μ
        · intro y7 y8 y9 μ10
          refine wx_blk (pc' := 83) (L' := [some (.ref 131), none, some (.int y7), some (.int y8), some (.int y9), none]) (st' := [.ref 131]) [.aload_n 0] (by decide +kernel) rfl rfl ?_
          refine wx_getr is_131 ff_6_18 rfl rf_131_0 (by decide +kernel) ?_
          refine wx_getr is_16 ff_6_90 rfl rf_16_0 (by decide +kernel) ?_
          refine wx_blk (pc' := 90) (L' := [some (.ref 131), none, some (.int y7), some (.int y8), some (.int y9), none]) (st' := [.int y8, .ref 17]) [.iload_n 3] (by decide +kernel) rfl rfl ?_
          refine wx_ald is_17 sz_17 (by decide +kernel) (fun x11 => ?_)
          refine wx_blk (pc' := 95) (L' := [some (.ref 131), none, some (.int y7), some (.int x11), some (.int (y9 + (1 : Int32))), none]) (st' := []) [.istore_n 3, .iinc 4 1] (by decide +kernel) rfl rfl ?_
          refine wx_goto 10 (off := -85) (by decide +kernel) (by decide) ?_
          exact h10 y7 x11 (y9 + (1 : Int32)) μ10
def f6_gatherFitting (v1 : Int32) (v2 : Int32) (μ : xMu) : Option xMu :=
  (x_put μ 131 4 (0 : Int32) fun μ1 =>
(f6_gatherFitting_l10 (fun (μ12 : xMu) => (some μ12)) 1000 v2 v1 (0 : Int32) μ1))
set_option maxHeartbeats 4000000 in
set_option maxRecDepth 100000 in
theorem l_f6_gatherFitting (G : xG) (d : Nat) (hd : 1 ≤ d) (v1 : Int32) (v2 : Int32) (μ : xMu) : Mx G m6_gatherFitting d [.ref 131, .int v1, .int v2] μ x_wv (f6_gatherFitting v1 v2 μ) := by
  refine mx_enter ok6_gatherFitting [some (.ref 131), some (.int v1), some (.int v2), none, none, none] rfl (Nat.le_of_ble_eq_true rfl) ?_
  unfold f6_gatherFitting
  refine wx_blk (pc' := 2) (L' := [some (.ref 131), some (.int v1), some (.int v2), none, none, none]) (st' := [.int (0 : Int32), .ref 131]) [.aload_n 0, .iconst 0] (by decide +kernel) rfl rfl ?_
  refine wx_put is_131 ff_6_33 fp_6_4 ⟨rfl, rfl⟩ (by decide +kernel) (fun μ1 => ?_)
  refine wx_blk (pc' := 10) (L' := [some (.ref 131), some (.int v1), some (.int v2), some (.int v1), some (.int (0 : Int32)), none]) (st' := []) [.iload_n 1, .istore_n 3, .iconst 0, .istore 4] (by decide +kernel) rfl rfl ?_
  refine wx_weak (L' := [some (.ref 131), none, some (.int v2), some (.int v1), some (.int (0 : Int32)), none]) ⟨rfl, ⟨rfl, ⟨rfl, ⟨rfl, trivial⟩⟩⟩⟩ ?_
  refine l_f6_gatherFitting_l10 G d hd _ ?_ 1000 v2 v1 (0 : Int32) μ1
  · intro μ12
    exact wx_vret rfl rfl (by decide +kernel)
