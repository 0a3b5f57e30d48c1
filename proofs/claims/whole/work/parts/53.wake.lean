/-! PURE: wake, sleep -/
theorem t_woken {P : xP} {μ : xMu} (w : Pwf P) (pc : PC P μ) {l : Nat} (hl : l < pL P) : f3_isWoken μ (22 + l) = some (if P 3 l 0 < 2 then 1 else 0) := by
  have h8 := p8 w hl
  have hs := (w.2.2.2.1 l hl).1
  unfold f3_isWoken f3_isWoken_j15
  rw [a_chk (r_layer l h8).2, (pc.2.2.2.1 l hl).1]
  rcases (show P 3 l 0 = 0 ∨ P 3 l 0 = 1 ∨ P 3 l 0 = 2 ∨ P 3 l 0 = 3 by omega) with e | e | e | e <;> rw [e] <;> rfl
def xpush (μ : xMu) (n : Nat) (a b : Int32) : xMu := x_wr (x_wr (x_wr μ 129 n a) 130 n b) 127 4 (nI (n + 1))
def mpush (μ : xMu) (n : Nat) (a b : Int32) : xMu := x_wr (x_wr (x_wr μ 185 n a) 186 n b) 162 41 (nI (n + 1))
theorem CC.push {O : xO} {F : Nat} {μ : xMu} (h : CC O F μ) (a b : Nat) : CC (O ++ [(a, b)]) F (xpush μ O.length (nI a) (cN (-1000000) b)) := by
  refine ⟨?_, h.2.1, ?_⟩
  · rw [List.length_append]; rfl
  · intro i q hq
    rw [List.getElem?_append] at hq
    split at hq
    · next c =>
      have := h.2.2 i q hq
      have c1 : ¬ i = O.length := by omega
      simp [xpush, x_wr, c1, this]
    · next c =>
      have c1 : i = O.length := by
        rcases Nat.lt_or_ge O.length i with z | z
        · rw [List.getElem?_eq_none (by simp; omega)] at hq; cases hq
        · omega
      subst c1
      simp at hq
      subst hq
      simp [xpush, x_wr]
theorem CM.push {O : xO} {F : Nat} {μ : xMu} (h : CM O F μ) (a b : Nat) : CM (O ++ [(a, b)]) F (mpush μ O.length (nI a) (cN (-1000000) b)) := by
  refine ⟨?_, h.2.1, ?_⟩
  · rw [List.length_append]; rfl
  · intro i q hq
    rw [List.getElem?_append] at hq
    split at hq
    · next c =>
      have := h.2.2 i q hq
      have c1 : ¬ i = O.length := by omega
      simp [mpush, x_wr, c1, this]
    · next c =>
      have c1 : i = O.length := by
        rcases Nat.lt_or_ge O.length i with z | z
        · rw [List.getElem?_eq_none (by simp; omega)] at hq; cases hq
        · omega
      subst c1
      simp at hq
      subst hq
      simp [mpush, x_wr]
theorem t_open {O : xO} {F : Nat} {μ : xMu} (cc : CC O F μ) (h16 : O.length ≤ 16) (a b : Int32) : f2_openWaking a b μ = if O.length < 16 then some (1, xpush μ O.length a b) else some (0, μ) := by
  unfold f2_openWaking
  rw [cc.1]
  by_cases c : O.length < 16
  · rw [if_pos (show nI O.length < 16 from nI_lt (b := 16) c (by decide)), a_ast c (by decide), show (x_wr μ 129 O.length a) 127 4 = nI O.length from cc.1, a_ast c (by decide), a_put, show (x_wr (x_wr μ 129 O.length a) 130 O.length b) 127 4 = nI O.length from cc.1, nI_1, if_pos c]
    rfl
  · rw [if_neg (show ¬ nI O.length < 16 from nI_nlt (b := 16) (by omega) (by omega)), if_neg c]
theorem u_open {O : xO} {F : Nat} {μ : xMu} (cm : CM O F μ) (h16 : O.length ≤ 16) (a b : Int32) : f12_wake_j52 a b μ = if O.length < 16 then some (nI (O.length + 1), mpush μ O.length a b) else some (-1000003, μ) := by
  unfold f12_wake_j52
  rw [cm.1]
  by_cases c : O.length < 16
  · rw [if_neg (show ¬ nI O.length = 16 from nI_ne (b := 16) (by omega) (by decide) (by omega)), a_ast c (by decide), show (x_wr μ 185 O.length a) 162 41 = nI O.length from cm.1, a_ast c (by decide), a_put, show (x_wr (x_wr μ 185 O.length a) 186 O.length b) 162 41 = nI O.length from cm.1, nI_1, if_pos c]
    rfl
  · rw [if_pos (show nI O.length = 16 by rw [show O.length = 16 by omega]; rfl), if_neg c]
theorem push_R {P : xP} {O : xO} {F : Nat} {μ : xMu} (h : x_R μ) (w : Pwf P) (pc : PC P μ) (pm : PM P μ) (ow : Owf P O) (fw : Fwf P F) (cc : CC O F μ) (cm : CM O F μ) {l b : Nat} (hl : l < pL P) (hb : (P 3 l 0 = 0 ∧ b = 0) ∨ (P 3 l 0 = 1 ∧ 0 < b ∧ b ≤ pT P)) (v1 v2 : Int32) (e1 : v1 = nI l) (e2 : v2 = cN (-1000000) b)
    (hc : f11_wake v1 v2 μ = f11_wake_j78 v1 v2 μ) (hm : ∀ μ', PM P μ' → f12_wake v1 v2 μ' = f12_wake_j52 v1 v2 (x_wr μ' 162 0 0)) : ∃ (r : Int32) (μ1 μ2 : xMu), f11_wake v1 v2 μ = some (r, μ1) ∧ f12_wake v1 v2 μ1 = some (r, μ2) ∧ x_R μ2 := by
  subst e1 e2
  have h16 := ow.1
  unfold f11_wake_j78 f2_openCount at hc
  rw [t_open cc h16] at hc
  by_cases c : O.length < 16
  · rw [if_pos c] at hc
    simp only [Option.bind_some, e10, if_false] at hc
    have cm1 : CM O F (x_wr (xpush μ O.length (nI l) (cN (-1000000) b)) 162 0 0) := cm.of rfl rfl rfl rfl
    have pm1 : PM P (xpush μ O.length (nI l) (cN (-1000000) b)) := gPM (g := g9) pm (((gs.refl.wr rfl).wr rfl).wr rfl) rfl
    refine ⟨nI (O.length + 1), _, mpush (x_wr (xpush μ O.length (nI l) (cN (-1000000) b)) 162 0 0) O.length (nI l) (cN (-1000000) b), hc, ?_, ?_⟩
    · rw [hm _ pm1, u_open cm1 h16, if_pos c]
    · refine h.cir w pc pm (O := O ++ [(l, b)]) (F := F) ?_ ?_ fw ?_ ?_
      · exact (((((((gs.refl.wr rfl).wr rfl).wr rfl).wr rfl).wr rfl).wr rfl).wr rfl)
      · refine ⟨by rw [List.length_append]; simp; omega, fun q hq => ?_⟩
        rw [List.mem_append] at hq
        rcases hq with hq | hq
        · exact ow.2 q hq
        · simp at hq
          subst hq
          exact ⟨hl, hb⟩
      · exact (cc.push l b).of rfl rfl rfl rfl
      · exact cm1.push l b
  · rw [if_neg c] at hc
    simp only [Option.bind_some, e00, if_true] at hc
    refine ⟨-1000003, μ, x_wr μ 162 0 0, hc, ?_, h.t0⟩
    rw [hm _ pm, u_open cm.t0 h16, if_neg c]
theorem s_wake : x_S_wake x_R := by
  intro v1 v2 μ h
  obtain ⟨P, O, F, w, pc, pm, ow, fw, cc, cm⟩ := h.2.2.2.2.2.2.2
  have no : f11_wake v1 v2 μ = some (-1000001, μ) → f12_wake v1 v2 μ = some (-1000001, x_wr μ 162 0 0) → ∃ (r : Int32) (μ1 μ2 : xMu), f11_wake v1 v2 μ = some (r, μ1) ∧ f12_wake v1 v2 μ1 = some (r, μ2) ∧ x_R μ2 := fun a b => ⟨_, _, _, a, b, h.t0⟩
  rcases rb_dec v1 (pL P) with hv | hv
  · have b1 := (t_isLayer w pc).1 hv
    obtain ⟨l, hl, rfl⟩ := rb_of hv
    have h8 := p8 w hl
    have hs := (w.2.2.2.1 l hl).1
    have hT := w.1.2.1
    have cls : f11_wake (nI l) v2 μ = if P 3 l 0 < 2 then (if P 3 l 0 = 1 then f11_wake_j50 (nI l) v2 1 μ else f11_wake_j50 (nI l) v2 0 μ) else some (-1000001, μ) := by
      unfold f11_wake
      simp only [b1, Option.bind_some, e10, if_false, a_rld h8 (show 8 < 2 ^ 31 by decide) (r_layer l h8).1, a_chk (r_layer l h8).2, t_woken w pc hl, (pc.2.2.2.1 l hl).1]
      rcases (show P 3 l 0 = 0 ∨ P 3 l 0 = 1 ∨ P 3 l 0 = 2 ∨ P 3 l 0 = 3 by omega) with e | e | e | e <;> rw [e] <;> rfl
    have ref : ∀ μ', PM P μ' → f12_wake (nI l) v2 μ' = if P 3 l 0 < 2 then (if P 3 l 0 = 1 then ((f12_isThing (x_wr μ' 162 0 0) v2).bind fun x5 => (if x5 = 0 then (some ((-1000001 : Int32), (x_wr μ' 162 0 0))) else (f12_wake_j52 (nI l) v2 (x_wr μ' 162 0 0)))) else (if v2 = (-1000000 : Int32) then (f12_wake_j52 (nI l) v2 (x_wr μ' 162 0 0)) else (some ((-1000001 : Int32), (x_wr μ' 162 0 0))))) else some (-1000001, x_wr μ' 162 0 0) := by
      intro μ' pm'
      unfold f12_wake
      simp only [a_put, (u_isLayer w pm'.t0).1 hv, Option.bind_some, e10, if_false, a_ald h8 (show 8 < 2 ^ 31 by decide), (pm'.t0.2.2.2.1 l hl).1]
      rcases (show P 3 l 0 = 0 ∨ P 3 l 0 = 1 ∨ P 3 l 0 = 2 ∨ P 3 l 0 = 3 by omega) with e | e | e | e <;> rw [e] <;> rfl
    rcases (show P 3 l 0 = 0 ∨ P 3 l 0 = 1 ∨ 2 ≤ P 3 l 0 by omega) with e | e | e
    · by_cases n : v2 = -1000000
      · refine push_R h w pc pm ow fw cc cm (l := l) (b := 0) hl (Or.inl ⟨e, rfl⟩) _ _ rfl n ?_ ?_
        · rw [cls, e, if_pos (by decide), if_neg (by decide)]
          unfold f11_wake_j50
          rw [if_pos rfl, if_pos n]
        · intro μ' pm'
          rw [ref μ' pm', e, if_pos (by decide), if_neg (by decide), if_pos n]
      · refine no ?_ ?_
        · rw [cls, e, if_pos (by decide), if_neg (by decide)]
          unfold f11_wake_j50
          rw [if_pos rfl, if_neg n]
        · rw [ref μ pm, e, if_pos (by decide), if_neg (by decide), if_neg n]
    · rcases rb_dec v2 (pT P) with ht | ht
      · have c1 := (t_isThing w pc).1 ht
        obtain ⟨t, hlt, e2⟩ := rb_of ht
        refine push_R h w pc pm ow fw cc cm (l := l) (b := t + 1) hl (Or.inr ⟨e, by omega, by omega⟩) _ _ rfl e2 ?_ ?_
        · rw [cls, e, if_pos (by decide), if_pos rfl]
          unfold f11_wake_j50
          rw [if_neg (by decide), c1]
          rfl
        · intro μ' pm'
          rw [ref μ' pm', e, if_pos (by decide), if_pos rfl, (u_isThing w pm'.t0).1 ht]
          rfl
      · refine no ?_ ?_
        · rw [cls, e, if_pos (by decide), if_pos rfl]
          unfold f11_wake_j50
          rw [if_neg (by decide), (t_isThing w pc).2 ht]
          rfl
        · rw [ref μ pm, e, if_pos (by decide), if_pos rfl, (u_isThing w pm.t0).2 ht]
          rfl
    · refine no ?_ ?_
      · rw [cls, if_neg (by omega)]
      · rw [ref μ pm, if_neg (by omega)]
  · refine no ?_ ?_
    · unfold f11_wake
      simp only [(t_isLayer w pc).2 hv, Option.bind_some, e00, if_true]
    · unfold f12_wake
      simp only [a_put, (u_isLayer w pm.t0).2 hv, Option.bind_some, e00, if_true]
