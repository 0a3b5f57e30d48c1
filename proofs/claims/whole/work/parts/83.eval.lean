/-! the two constructors, run -/
def c_chk (o : Option xS) (p : xS → Bool) : Bool := match o with
  | some σ => p σ
  | none => false
theorem c_chk_at {o : Option xS} {p : xS → Bool} (h : c_chk o p = true) : ∃ σ, o = some σ ∧ p σ = true := by
  cases o with
  | none => cases h
  | some σ => exact ⟨σ, rfl, h⟩
def c_s0 : xS := (0, 0, fun _ _ => 0, fun _ _ => false)
/-- the memory of two new objects -/
def x_mu0 : xMu := fun k _ => if k = 163 then -1 else 0
def c_fin (σ : xS) : Bool := (σ.1 == 203) && (List.range 203).all (fun k => (List.range (x_sz k)).all (fun j => (σ.2.2.1 k j == x_mu0 k j) && ((x_rf k j == none) || σ.2.2.2 k j)))
set_option maxRecDepth 100000 in
theorem c_run : c_chk (f11_init (162, 2545) 0 (1, 11, c_s0.2.2)) (fun σ2 => (σ2.1 == 162) && c_zi σ2 162 72 && c_zm σ2 162 72 && c_chk (f12_init (203, 5251) 162 (163, 2617, σ2.2.2)) c_fin) = true := by decide +kernel
