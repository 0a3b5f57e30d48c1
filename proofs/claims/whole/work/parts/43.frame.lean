/-! PURE: what a call may write -/
def gs (p : Nat → Nat → Bool) (μ μ' : xMu) : Prop := ∀ k j, p k j = false → μ' k j = μ k j
theorem gs.refl {p : Nat → Nat → Bool} {μ : xMu} : gs p μ μ := fun _ _ _ => rfl
theorem gs.trans {p : Nat → Nat → Bool} {μ μ' μ'' : xMu} (h : gs p μ μ') (h2 : gs p μ' μ'') : gs p μ μ'' := fun k j hp => (h2 k j hp).trans (h k j hp)
theorem gs.wr {p : Nat → Nat → Bool} {μ μ' : xMu} {a b : Nat} {v : Int32} (h : gs p μ μ') (hk : p a b = true) : gs p μ (x_wr μ' a b v) := fun k j hp => by
  rw [w_wr, if_neg]
  · exact h k j hp
  · rintro ⟨rfl, rfl⟩
    rw [hk] at hp
    cases hp
theorem gs.mono {p q : Nat → Nat → Bool} {μ μ' : xMu} (h : gs p μ μ') (hq : ∀ k j, p k j = true → q k j = true) : gs q μ μ' := fun k j hp => h k j (by
  cases e : p k j with
  | false => rfl
  | true => rw [hq k j e] at hp; cases hp)
/-- the group that a place belongs to: 1 the finding, 2 the fault's place, 3 sheets, 4 tape, 5 facts, 6 begun routines, 7 the trace, 8 the program, 9 wakings and found layers, 0 no matter -/
def x_gr (k j : Nat) : Nat :=
  if k < 14 then (if k = 0 then (if j = 10 then 1 else 0) else if k = 1 then 0 else 3)
  else if k < 16 then (if k = 14 then (if j = 1 then 4 else 0) else 4)
  else if k < 126 then (if k = 16 then (if 5 ≤ j ∧ j ≤ 8 then 8 else 0) else 8)
  else if k < 162 then (if k = 126 then (if j = 4 then 2 else 0) else if k = 127 then (if j = 4 ∨ j = 5 then 9 else 0) else if k = 128 then 5 else if k = 129 ∨ k = 130 then 9 else if k = 135 then (if j = 7 then 6 else 0) else if k = 145 then 6 else if k = 160 then (if j = 3 then 7 else 0) else if k = 161 then 7 else 0)
  else if k = 162 then (if j = 1 then 1 else if j = 5 ∨ j = 7 ∨ j = 10 ∨ j = 18 then 8 else if j = 26 then 4 else if j = 27 then 2 else if j = 41 ∨ j = 44 then 9 else if j = 65 then 6 else if j = 71 then 7 else 0)
  else if k < 166 then 3
  else if k < 182 then 8
  else (if k = 182 then 4 else if k = 183 then 5 else if k = 185 ∨ k = 186 then 9 else if k = 199 then 6 else if k = 202 then 7 else 0)
theorem gr3 {k j : Nat} (h : 2 ≤ k) (h2 : k ≤ 13) : x_gr k j = 3 := by
  unfold x_gr
  rw [if_pos (by omega), if_neg (by omega), if_neg (by omega)]
theorem gr8 {k j : Nat} (h : 17 ≤ k) (h2 : k ≤ 125) : x_gr k j = 8 := by
  unfold x_gr
  rw [if_neg (by omega), if_neg (by omega), if_pos (by omega), if_neg (by omega)]
theorem gr8m {k j : Nat} (h : 166 ≤ k) (h2 : k ≤ 181) : x_gr k j = 8 := by
  unfold x_gr
  rw [if_neg (by omega), if_neg (by omega), if_neg (by omega), if_neg (by omega), if_neg (by omega), if_neg (by omega), if_pos (by omega)]
def x_POF (μ : xMu) : Prop := ∃ P O F, Pwf P ∧ PC P μ ∧ PM P μ ∧ Owf P O ∧ Fwf P F ∧ CC O F μ ∧ CM O F μ
theorem gs.row {p : Nat → Nat → Bool} {μ μ' : xMu} (h : gs p μ μ') {k : Nat} (hk : ∀ j, p k j = false) : μ' k = μ k := funext fun j => h k j (hk j)
theorem gPC {P : xP} {g : Nat → Bool} {μ μ' : xMu} (w : Pwf P) (h : PC P μ) (hs : gs (fun k j => g (x_gr k j)) μ μ') (g8 : g 8 = false) : PC P μ' :=
  h.of (fun j a b => hs 16 j (by show g (if 5 ≤ j ∧ j ≤ 8 then 8 else 0) = false; rw [if_pos ⟨a, b⟩]; exact g8)) (fun k a b => hs.row fun j => by rw [gr8 a b]; exact g8) w
theorem gPM {P : xP} {g : Nat → Bool} {μ μ' : xMu} (h : PM P μ) (hs : gs (fun k j => g (x_gr k j)) μ μ') (g8 : g 8 = false) : PM P μ' :=
  h.of (fun j a => hs 162 j (by rcases a with rfl | rfl | rfl | rfl <;> exact g8)) (fun k a b => hs.row fun j => by rw [gr8m a b]; exact g8)
theorem gCC {O : xO} {F : Nat} {g : Nat → Bool} {μ μ' : xMu} (h : CC O F μ) (hs : gs (fun k j => g (x_gr k j)) μ μ') (g9 : g 9 = false) : CC O F μ' := h.of (hs _ _ g9) (hs _ _ g9) (hs.row fun _ => g9) (hs.row fun _ => g9)
theorem gCM {O : xO} {F : Nat} {g : Nat → Bool} {μ μ' : xMu} (h : CM O F μ) (hs : gs (fun k j => g (x_gr k j)) μ μ') (g9 : g 9 = false) : CM O F μ' := h.of (hs _ _ g9) (hs _ _ g9) (hs.row fun _ => g9) (hs.row fun _ => g9)
theorem x_R.grp {μ μ' : xMu} (h : x_R μ) (g : Nat → Bool) (hs : gs (fun k j => g (x_gr k j)) μ μ')
    (o1 : g 1 = false ∨ μ' 0 10 = μ' 162 1) (o2 : g 2 = false ∨ μ' 126 4 = μ' 162 27) (o3 : g 3 = false ∨ SH μ') (o4 : g 4 = false ∨ TP μ') (o5 : g 5 = false ∨ FT μ') (o6 : g 6 = false ∨ RN μ') (o7 : g 7 = false ∨ TR μ') (o8 : (g 8 = false ∧ g 9 = false) ∨ x_POF μ') : x_R μ' := by
  obtain ⟨h1, h2, h3, h4, h5, h6, h7, h8⟩ := h
  refine ⟨?_, ?_, ?_, ?_, ?_, ?_, ?_, ?_⟩
  · rcases o1 with o | o
    · rw [hs 0 10 o, hs 162 1 o]; exact h1
    · exact o
  · rcases o2 with o | o
    · rw [hs 126 4 o, hs 162 27 o]; exact h2
    · exact o
  · rcases o3 with o | o
    · exact h3.of (fun k a b => hs.row fun j => by rw [gr3 a b]; exact o) (hs.row fun _ => o) (hs.row fun _ => o) (hs.row fun _ => o)
    · exact o
  · rcases o4 with o | o
    · exact h4.of (hs _ _ o) (hs _ _ o) (hs.row fun _ => o) (hs.row fun _ => o)
    · exact o
  · rcases o5 with o | o
    · exact h5.of (hs.row fun _ => o) (hs.row fun _ => o)
    · exact o
  · rcases o6 with o | o
    · exact h6.of (hs _ _ o) (hs _ _ o) (hs.row fun _ => o) (hs.row fun _ => o)
    · exact o
  · rcases o7 with o | o
    · exact h7.of (hs _ _ o) (hs _ _ o) (hs.row fun _ => o) (hs.row fun _ => o)
    · exact o
  · rcases o8 with ⟨o, o'⟩ | o
    · obtain ⟨P, O, F, w, pc, pm, ow, fw, cc, cm⟩ := h8
      exact ⟨P, O, F, w, gPC w pc hs o, gPM pm hs o, ow, fw, gCC cc hs o', gCM cm hs o'⟩
    · exact o
/-- a call that only tells a finding -/
def g1 : Nat → Bool := fun n => n == 0 || n == 1
theorem x_R.fin {μ μ' : xMu} (h : x_R μ) (hs : gs (fun k j => g1 (x_gr k j)) μ μ') (e : μ' 0 10 = μ' 162 1) : x_R μ' := h.grp g1 hs (Or.inr e) (Or.inl rfl) (Or.inl rfl) (Or.inl rfl) (Or.inl rfl) (Or.inl rfl) (Or.inl rfl) (Or.inl ⟨rfl, rfl⟩)
/-- the memory behind a finding v in both -/
def x_fn (μ : xMu) (v : Int32) : xMu := x_wr (x_wr (x_wr (x_wr μ 0 10 v) 162 0 0) 162 1 0) 162 1 v
theorem x_R.fnd {μ : xMu} (h : x_R μ) (v : Int32) : x_R (x_fn μ v) := h.fin ((((gs.refl.wr rfl).wr rfl).wr rfl).wr rfl) rfl
theorem x_R.fn0 {μ : xMu} (h : x_R μ) : x_R (x_wr (x_wr (x_wr μ 0 10 0) 162 0 0) 162 1 0) := h.fin (((gs.refl.wr rfl).wr rfl).wr rfl) rfl
theorem finC (v : Int32) (μ : xMu) : f11_finding v μ = some (-1000010 - v, x_wr μ 0 10 v) := rfl
theorem finM (v : Int32) (μ : xMu) : f12_finding v μ = some (-1000010 - v, x_wr μ 162 1 v) := rfl
theorem finO (v : Int32) (μ : xMu) : f11_withoutFinding v μ = some (v, x_wr μ 0 10 0) := rfl
