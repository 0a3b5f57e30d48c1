def x_S_sheet (R : xMu → Prop) : Prop := ∀ (a1 : Int32) (a2 : Int32) (a3 : Int32) (μ : xMu), R μ → ∃ (r : Int32) (μ1 μ2 : xMu), (f11_sheet a1 a2 a3 μ = some (r, μ1)) ∧ f12_sheet a1 a2 a3 μ1 = some (r, μ2) ∧ R μ2
def x_S_set (R : xMu → Prop) : Prop := ∀ (a1 : Int32) (a2 : Int32) (a3 : Int32) (μ : xMu), R μ → ∃ (r : Int32) (μ1 μ2 : xMu), (f11_set a1 a2 a3 μ = some (r, μ1)) ∧ f12_set a1 a2 a3 μ1 = some (r, μ2) ∧ R μ2
def x_S_copy (R : xMu → Prop) : Prop := ∀ (a1 : Int32) (a2 : Int32) (a3 : Int32) (a4 : Int32) (a5 : Int32) (μ : xMu), R μ → ∃ (r : Int32) (μ1 μ2 : xMu), (f11_copy a1 a2 a3 a4 a5 μ = some (r, μ1)) ∧ f12_copy a1 a2 a3 a4 a5 μ1 = some (r, μ2) ∧ R μ2
def x_S_drop (R : xMu → Prop) : Prop := ∀ (a1 : Int32) (μ : xMu), R μ → ∃ (r : Int32) (μ1 μ2 : xMu), (f11_drop a1 μ = some (r, μ1)) ∧ f12_drop a1 μ1 = some (r, μ2) ∧ R μ2
def x_S_feed (R : xMu → Prop) : Prop := ∀ (a1 : Int64) (a2 : Int32) (μ : xMu), R μ → ∃ (r : Int32) (μ1 μ2 : xMu), (f11_feed a1 a2 μ = some (r, μ1)) ∧ f12_feed a1 a2 μ1 = some (r, μ2) ∧ R μ2
def x_S_read (R : xMu → Prop) : Prop := ∀ (μ : xMu), R μ → ∃ (r : Int32) (μ1 μ2 : xMu), (f11_read μ = some (r, μ1)) ∧ f12_read μ1 = some (r, μ2) ∧ R μ2
def x_S_fault (R : xMu → Prop) : Prop := ∀ (μ : xMu), R μ → ∃ (r : Int32) (μ1 μ2 : xMu), (f11_fault μ = some r ∧ μ1 = μ) ∧ f12_fault μ1 = some (r, μ2) ∧ R μ2
def x_S_layer (R : xMu → Prop) : Prop := ∀ (a1 : Int32) (a2 : Int32) (μ : xMu), R μ → ∃ (r : Int32) (μ1 μ2 : xMu), (f11_layer μ a1 a2 = some r ∧ μ1 = μ) ∧ f12_layer a1 a2 μ1 = some (r, μ2) ∧ R μ2
def x_S_fact (R : xMu → Prop) : Prop := ∀ (a1 : Int32) (a2 : Int32) (μ : xMu), R μ → ∃ (r : Int32) (μ1 μ2 : xMu), (f11_fact a1 a2 μ = some (r, μ1)) ∧ f12_fact a1 a2 μ1 = some (r, μ2) ∧ R μ2
def x_S_facts (R : xMu → Prop) : Prop := ∀ (a1 : Int32) (a2 : Int32) (a3 : Int32) (μ : xMu), R μ → ∃ (r : Int32) (μ1 μ2 : xMu), (f11_facts a1 a2 a3 μ = some (r, μ1)) ∧ f12_facts a1 a2 a3 μ1 = some (r, μ2) ∧ R μ2
def x_S_point (R : xMu → Prop) : Prop := ∀ (μ : xMu), R μ → ∃ (r : Int32) (μ1 μ2 : xMu), (f11_point μ = some (r, μ1)) ∧ f12_point μ1 = some (r, μ2) ∧ R μ2
def x_S_wake (R : xMu → Prop) : Prop := ∀ (a1 : Int32) (a2 : Int32) (μ : xMu), R μ → ∃ (r : Int32) (μ1 μ2 : xMu), (f11_wake a1 a2 μ = some (r, μ1)) ∧ f12_wake a1 a2 μ1 = some (r, μ2) ∧ R μ2
def x_S_sleep (R : xMu → Prop) : Prop := ∀ (a1 : Int32) (μ : xMu), R μ → ∃ (r : Int32) (μ1 μ2 : xMu), (f11_sleep a1 μ = some (r, μ1)) ∧ f12_sleep a1 μ1 = some (r, μ2) ∧ R μ2
def x_S_row (R : xMu → Prop) : Prop := ∀ (a1 : Int32) (a2 : Int32) (a3 : Int32) (μ : xMu), R μ → ∃ (r : Int32) (μ1 μ2 : xMu), (f11_row a1 a2 a3 μ = some (r, μ1)) ∧ f12_row a1 a2 a3 μ1 = some (r, μ2) ∧ R μ2
def x_S_call (R : xMu → Prop) : Prop := ∀ (a1 : Int32) (a2 : Int32) (a3 : Int32) (μ : xMu), R μ → ∃ (r : Int32) (μ1 μ2 : xMu), (f11_call a1 a2 a3 μ = some (r, μ1)) ∧ f12_call a1 a2 a3 μ1 = some (r, μ2) ∧ R μ2
def x_S_ran (R : xMu → Prop) : Prop := ∀ (a1 : Int32) (μ : xMu), R μ → ∃ (r : Int32) (μ1 μ2 : xMu), (f11_ran μ a1 = some r ∧ μ1 = μ) ∧ f12_ran a1 μ1 = some (r, μ2) ∧ R μ2
def x_S_together (R : xMu → Prop) : Prop := ∀ (a1 : Int32) (a2 : Int32) (μ : xMu), R μ → ∃ (r : Int32) (μ1 μ2 : xMu), (f11_together a1 a2 μ = some (r, μ1)) ∧ f12_together a1 a2 μ1 = some (r, μ2) ∧ R μ2
def x_S_same (R : xMu → Prop) : Prop := ∀ (a1 : Int32) (a2 : Int32) (a3 : Int32) (a4 : Int32) (a5 : Int32) (μ : xMu), R μ → ∃ (r : Int32) (μ1 μ2 : xMu), (f11_same a1 a2 a3 a4 a5 μ = some (r, μ1)) ∧ f12_same a1 a2 a3 a4 a5 μ1 = some (r, μ2) ∧ R μ2
def x_S_kind (R : xMu → Prop) : Prop := ∀ (a1 : Int32) (μ : xMu), R μ → ∃ (r : Int32) (μ1 μ2 : xMu), (f11_kind μ a1 = some r ∧ μ1 = μ) ∧ f12_kind a1 μ1 = some (r, μ2) ∧ R μ2
def x_S_as (R : xMu → Prop) : Prop := ∀ (a1 : Int32) (a2 : Int32) (μ : xMu), R μ → ∃ (r : Int32) (μ1 μ2 : xMu), (f11_as a1 a2 μ = some (r, μ1)) ∧ f12_as a1 a2 μ1 = some (r, μ2) ∧ R μ2
def x_S_ask (R : xMu → Prop) : Prop := ∀ (a1 : Int32) (a2 : Int32) (μ : xMu), R μ → ∃ (r : Int32) (μ1 μ2 : xMu), (f11_ask a1 a2 μ = some (r, μ1)) ∧ f12_ask a1 a2 μ1 = some (r, μ2) ∧ R μ2
def x_S_trace (R : xMu → Prop) : Prop := ∀ (a1 : Int32) (μ : xMu), R μ → ∃ (r : Int32) (μ1 μ2 : xMu), (f11_trace μ a1 = some r ∧ μ1 = μ) ∧ f12_trace a1 μ1 = some (r, μ2) ∧ R μ2
def x_S_count (R : xMu → Prop) : Prop := ∀ (a1 : Int32) (μ : xMu), R μ → ∃ (r : Int32) (μ1 μ2 : xMu), (f11_count μ a1 = some r ∧ μ1 = μ) ∧ f12_count a1 μ1 = some (r, μ2) ∧ R μ2
def x_S_status (R : xMu → Prop) : Prop := ∀ (μ : xMu), R μ → ∃ (r : Int32) (μ1 μ2 : xMu), (f11_status μ = some r ∧ μ1 = μ) ∧ f12_status μ1 = some (r, μ2) ∧ R μ2
def x_All (R : xMu → Prop) : Prop := x_S_sheet R ∧ x_S_set R ∧ x_S_copy R ∧ x_S_drop R ∧ x_S_feed R ∧ x_S_read R ∧ x_S_fault R ∧ x_S_layer R ∧ x_S_fact R ∧ x_S_facts R ∧ x_S_point R ∧ x_S_wake R ∧ x_S_sleep R ∧ x_S_row R ∧ x_S_call R ∧ x_S_ran R ∧ x_S_together R ∧ x_S_same R ∧ x_S_kind R ∧ x_S_as R ∧ x_S_ask R ∧ x_S_trace R ∧ x_S_count R ∧ x_S_status R
