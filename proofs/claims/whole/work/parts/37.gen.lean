/-! WakingLayersModel.status()I -/
def f12_status (μ : xMu) : Option (Int32 × xMu) :=
  (x_put μ 162 0 (0 : Int32) fun μ1 =>
(some ((μ1 162 1), μ1)))
set_option maxHeartbeats 4000000 in
set_option maxRecDepth 100000 in
theorem l_f12_status (G : xG) (d : Nat) (hd : 0 ≤ d) (μ : xMu) : Mx G m12_status d [.ref 162] μ x_wim (f12_status μ) := by
  refine mx_enter ok12_status [some (.ref 162)] rfl (Nat.le_of_ble_eq_true rfl) ?_
  unfold f12_status
  refine wx_blk (pc' := 2) (L' := [some (.ref 162)]) (st' := [.int (0 : Int32), .ref 162]) [.aload_n 0, .iconst 0] (by decide +kernel) rfl rfl ?_
  refine wx_put is_162 ff_12_131 fp_12_0 ⟨rfl, rfl⟩ (by decide +kernel) (fun μ1 => ?_)
  refine wx_blk (pc' := 6) (L' := [some (.ref 162)]) (st' := [.ref 162]) [.aload_n 0] (by decide +kernel) rfl rfl ?_
  refine wx_geti is_162 ff_12_135 rfl (by decide +kernel) ?_
  exact wx_iret rfl rfl (by decide +kernel)
