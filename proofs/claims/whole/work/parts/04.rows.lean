/-! THE ROWS: behind the constructors the heap is one memory over a fixed shape -/
/-! the words that all methods share -/
def x_ws : List Cond := lw_tbl.filter goodWord
theorem x_in {w : Cond} (i : Nat) (h : lw_tbl[i]? = some w) (hg : goodWord w = true) : w ∈ x_ws := List.mem_filter.mpr ⟨List.mem_of_getElem? h, hg⟩
theorem x_ws_tbl : ∀ w ∈ x_ws, w ∈ lw_tbl := fun _ h => (List.mem_filter.mp h).1
theorem x_ins (ws : List Cond) (ps : List Nat) (h : ws = ps.filterMap (fun i => lw_tbl[i]?)) (hg : ws.all goodWord = true) : ∀ w ∈ ws, w ∈ x_ws := by
  intro w hw
  have h1 := List.all_eq_true.mp hg w hw
  rw [h] at hw
  obtain ⟨i, -, hi⟩ := List.mem_filterMap.mp hw
  exact x_in i hi h1
theorem x_good {big : List Cond} (h : ∀ w ∈ x_ws, w ∈ big) : GoodIn big x_ws := fun w hw => ⟨h w hw, good_of_word (List.mem_filter.mp hw).2⟩
abbrev xMu : Type := Nat → Nat → Int32
def x_wr (μ : xMu) (k j : Nat) (v : Int32) : xMu := fun a b => if a = k ∧ b = j then v else μ a b
theorem x_wr_ne {μ : xMu} {k j : Nat} {v : Int32} {a : Nat} (h : a ≠ k) : x_wr μ k j v a = μ a := by
  funext b; simp [x_wr, h]
theorem x_wr_row (μ : xMu) (k j : Nat) (v : Int32) : x_wr μ k j v k = upd (μ k) j v := by
  funext b; simp [x_wr, upd]
def x_cv (ad : Nat → Nat) : Value → Value
  | .ref k => .ref (ad k)
  | v => v
def x_fv (μ : xMu) (k j : Nat) : Value := if x_fr (x_kd k) j then va_rf (x_rf k j) else .int (μ k j)
def x_cell (cy : Nat → ClassId) (ad : Nat → Nat) (μ : xMu) (k : Nat) : va_E :=
  if x_kd k < 13 then .inr (x_kd k, (List.range (x_sz k)).map (fun j => x_cv ad (x_fv μ k j)))
  else if x_kd k < 15 then .inl (cy (x_kd k), x_sz k, .inl (μ k))
  else .inl (cy (x_kd k), x_sz k, .inr (.inr (.inr (.inr (fun j => (x_rf k j).map ad)))))
def x_W (cy : Nat → ClassId) (ad : Nat → Nat) (μ : xMu) : va_W := (List.range x_N).map (fun k => (ad k, x_cell cy ad μ k))
theorem x_W_at {cy : Nat → ClassId} {ad : Nat → Nat} {μ : xMu} {k : Nat} (hk : k < x_N) : (x_W cy ad μ)[k]? = some (ad k, x_cell cy ad μ k) := by
  simp [x_W, hk]
theorem x_W_len (cy : Nat → ClassId) (ad : Nat → Nat) (μ : xMu) : (x_W cy ad μ).length = x_N := by simp [x_W]
theorem x_cell_ne {cy : Nat → ClassId} {ad : Nat → Nat} {μ : xMu} {k j : Nat} {v : Int32} {a : Nat} (h : a ≠ k) : x_cell cy ad (x_wr μ k j v) a = x_cell cy ad μ a := by
  simp only [x_cell, x_fv, x_wr_ne h]
theorem x_W_set {cy : Nat → ClassId} {ad : Nat → Nat} {μ μ' : xMu} {k : Nat} {e : va_E} (he : e = x_cell cy ad μ' k) (hn : ∀ a, a ≠ k → x_cell cy ad μ' a = x_cell cy ad μ a) : (x_W cy ad μ).set k (ad k, e) = x_W cy ad μ' := by
  apply List.ext_getElem?
  intro i
  rw [List.getElem?_set]
  by_cases hi : i < x_N
  · by_cases h : k = i
    · subst h
      rw [if_pos rfl, x_W_len, if_pos hi, x_W_at hi, he]
    · rw [if_neg h, x_W_at hi, x_W_at hi, hn i (Ne.symm h)]
  · have h1 : (x_W cy ad μ)[i]? = none := by rw [List.getElem?_eq_none_iff, x_W_len]; omega
    have h2 : (x_W cy ad μ')[i]? = none := by rw [List.getElem?_eq_none_iff, x_W_len]; omega
    rw [h1, h2, x_W_len]
    by_cases h : k = i
    · subst h
      rw [if_pos rfl, if_neg hi]
    · rw [if_neg h]
def x_tys (cy : Nat → ClassId) : List (ClassId × FieldType) := [(cy 13, .int), (cy 14, .boolean), (cy 15, .object "WakingLayers$Body"), (cy 16, .object "WakingLayers$Layer"), (cy 17, .array .int)]
def x_inj (ad : Nat → Nat) : Prop := ∀ i j, i < x_N → j < x_N → ad i = ad j → i = j
def x_A (ad : Nat → Nat) : Nat → Prop := fun q => ∃ k, k < x_N ∧ ad k = q
theorem x_W_some {cy : Nat → ClassId} {ad : Nat → Nat} {μ : xMu} {i : Nat} {q : Nat × va_E} (h : (x_W cy ad μ)[i]? = some q) : i < x_N ∧ q = (ad i, x_cell cy ad μ i) := by
  have hi : i < x_N := by
    have := (List.getElem?_eq_some_iff.mp h).1
    rwa [x_W_len] at this
  rw [x_W_at hi] at h
  exact ⟨hi, (Option.some.inj h).symm⟩
theorem x_D {cy : Nat → ClassId} {ad : Nat → Nat} {μ : xMu} (h : x_inj ad) : va_D (x_A ad) (x_W cy ad μ) := by
  refine ⟨fun i j p q hp hq he => ?_, fun k q hq => ?_⟩
  · obtain ⟨h1, rfl⟩ := x_W_some hp
    obtain ⟨h2, rfl⟩ := x_W_some hq
    exact h i j h1 h2 he
  · obtain ⟨h1, rfl⟩ := x_W_some hq
    exact ⟨k, h1, rfl⟩
/-- cell k is of kind c -/
def x_is (k c : Nat) : Prop := k < x_N ∧ x_kd k = c
theorem x_cell_o {cy : Nat → ClassId} {ad : Nat → Nat} {μ : xMu} {k c : Nat} (h : x_kd k = c) (hc : c < 13) : x_cell cy ad μ k = .inr (c, (List.range (x_sz k)).map (fun j => x_cv ad (x_fv μ k j))) := by
  simp [x_cell, h, hc]
theorem x_cell_i {cy : Nat → ClassId} {ad : Nat → Nat} {μ : xMu} {k : Nat} (h : x_kd k = 13) : x_cell cy ad μ k = .inl (cy 13, x_sz k, .inl (μ k)) := by
  simp [x_cell, h]
theorem x_cell_z {cy : Nat → ClassId} {ad : Nat → Nat} {μ : xMu} {k : Nat} (h : x_kd k = 14) : x_cell cy ad μ k = .inl (cy 14, x_sz k, .inl (μ k)) := by
  simp [x_cell, h]
theorem x_cell_r {cy : Nat → ClassId} {ad : Nat → Nat} {μ : xMu} {k c : Nat} (h : x_kd k = c) (hc : ¬ c < 15) : x_cell cy ad μ k = .inl (cy c, x_sz k, .inr (.inr (.inr (.inr (fun j => (x_rf k j).map ad))))) := by
  have : ¬ c < 13 := by omega
  simp [x_cell, h, hc, this]
theorem x_put_cell {cy : Nat → ClassId} {ad : Nat → Nat} {μ : xMu} {k j c : Nat} {v : Int32} (h : x_kd k = c) (hc : c < 13) (hf : x_fr c j = false) :
    (.inr (c, ((List.range (x_sz k)).map (fun j => x_cv ad (x_fv μ k j))).set j (.int v)) : va_E) = x_cell cy ad (x_wr μ k j v) k := by
  rw [x_cell_o h hc]
  congr 2
  apply List.ext_getElem?
  intro i
  rw [List.getElem?_set]
  by_cases hi : i < x_sz k
  · by_cases e : j = i
    · subst e
      simp [hi, x_fv, h, hf, x_wr, x_cv]
    · have e' : ¬ i = j := fun q => e q.symm
      simp only [if_neg e, List.getElem?_map, List.getElem?_range hi, Option.map_some, x_fv, x_wr]
      simp [e']
  · have h1 : (List.range (x_sz k))[i]? = none := by simp; omega
    simp only [List.getElem?_map, h1, Option.map_none, List.length_map, List.length_range]
    by_cases e : j = i
    · simp [e, hi]
    · simp [e]
/-! the locals -/
def x_LR (ad : Nat → Nat) (ls : Array Slot) (nL : Nat) (L : List (Option Value)) : Prop := ls.size = nL ∧ L.length = nL ∧ lv_wf ls ∧ ∀ (i : Nat) (v : Value), L[i]? = some (some v) → ls[i]? = some (.val (x_cv ad v))
def x_lp (ad : Nat → Nat) (L : List (Option Value)) : List (Nat × Value) := (List.range L.length).filterMap (fun i => match L[i]? with
  | some (some v) => some (i, x_cv ad v)
  | _ => none)
theorem x_lp_mem {ad : Nat → Nat} {L : List (Option Value)} {i : Nat} {w : Value} : (i, w) ∈ x_lp ad L ↔ ∃ v, L[i]? = some (some v) ∧ w = x_cv ad v := by
  unfold x_lp
  rw [List.mem_filterMap]
  constructor
  · rintro ⟨j, -, h⟩
    split at h
    · next v hv => cases h; exact ⟨v, hv, rfl⟩
    · cases h
  · rintro ⟨v, h, rfl⟩
    refine ⟨i, List.mem_range.mpr (List.getElem?_eq_some_iff.mp h).1, ?_⟩
    rw [h]
theorem x_LR.has {ad : Nat → Nat} {ls : Array Slot} {nL : Nat} {L : List (Option Value)} (h : x_LR ad ls nL L) : lv_has ls nL (x_lp ad L) := by
  refine ⟨h.1, h.2.2.1, ?_⟩
  rintro ⟨i, w⟩ hq
  obtain ⟨v, h1, rfl⟩ := x_lp_mem.mp hq
  exact h.2.2.2 i v h1
theorem x_cv_cat (ad : Nat → Nat) (v : Value) : (x_cv ad v).category = v.category := by cases v <;> rfl
/-- may place i be written without cutting a long in two? -/
def x_ok1 (L : List (Option Value)) (i : Nat) : Bool := match i with
  | 0 => true
  | j + 1 => match L[j]? with
    | some (some v) => v.category == 1
    | _ => true
def x_st1 (L : List (Option Value)) (i : Nat) (v : Value) : Option (List (Option Value)) := if i < L.length ∧ x_ok1 L i = true then some (L.set i (some v)) else none
def x_st2 (L : List (Option Value)) (i : Nat) (v : Value) : Option (List (Option Value)) := if i + 1 < L.length ∧ x_ok1 L i = true then some ((L.set i (some v)).set (i + 1) none) else none
theorem x_ok1_at {L : List (Option Value)} {i j : Nat} {v : Value} (h : x_ok1 L i = true) (hj : j + 1 = i) (hv : L[j]? = some (some v)) : v.category = 1 := by
  subst hj
  simp only [x_ok1, hv] at h
  exact beq_iff_eq.mp h
theorem x_LR.st1 {ad : Nat → Nat} {ls ls' : Array Slot} {nL i : Nat} {L L' : List (Option Value)} {v w : Value} (h : x_LR ad ls nL L) (hs : x_st1 L i v = some L') (hw : w = x_cv ad v)
    (hl : lv_has ls' nL ((i, w) :: (x_lp ad L).filter (fun q => !(q.1 == i) && !(q.1 + 1 == i && q.2.category == 2)))) : x_LR ad ls' nL L' := by
  unfold x_st1 at hs
  split at hs
  · next hi =>
    cases hs
    refine ⟨hl.1, by rw [List.length_set]; exact h.2.1, hl.2.1, fun j u hu => ?_⟩
    rw [List.getElem?_set] at hu
    by_cases e : i = j
    · subst e
      rw [if_pos rfl, if_pos hi.1] at hu
      cases hu
      exact hl.2.2 (i, x_cv ad v) (by rw [← hw]; exact List.mem_cons_self)
    · rw [if_neg e] at hu
      refine hl.2.2 (j, x_cv ad u) (List.mem_cons_of_mem _ (List.mem_filter.mpr ⟨x_lp_mem.mpr ⟨u, hu, rfl⟩, ?_⟩))
      have e' : ¬ j = i := fun q => e q.symm
      by_cases g : j + 1 = i
      · have := x_ok1_at hi.2 g hu
        simp [e', x_cv_cat, this]
      · simp [e', g]
  · cases hs
theorem x_LR.st2 {ad : Nat → Nat} {ls ls' : Array Slot} {nL i : Nat} {L L' : List (Option Value)} {v w : Value} (h : x_LR ad ls nL L) (hs : x_st2 L i v = some L') (hw : w = x_cv ad v)
    (hl : lv_has ls' nL ((i, w) :: (x_lp ad L).filter (fun q => !(q.1 == i) && (!(q.1 == i + 1) && !(q.1 + 1 == i && q.2.category == 2))))) : x_LR ad ls' nL L' := by
  unfold x_st2 at hs
  split at hs
  · next hi =>
    cases hs
    refine ⟨hl.1, by rw [List.length_set, List.length_set]; exact h.2.1, hl.2.1, fun j u hu => ?_⟩
    rw [List.getElem?_set] at hu
    by_cases e2 : i + 1 = j
    · subst e2
      rw [if_pos rfl] at hu
      split at hu <;> cases hu
    rw [if_neg e2, List.getElem?_set] at hu
    by_cases e : i = j
    · subst e
      rw [if_pos rfl, if_pos (by omega)] at hu
      cases hu
      exact hl.2.2 (i, x_cv ad v) (by rw [← hw]; exact List.mem_cons_self)
    · rw [if_neg e] at hu
      refine hl.2.2 (j, x_cv ad u) (List.mem_cons_of_mem _ (List.mem_filter.mpr ⟨x_lp_mem.mpr ⟨u, hu, rfl⟩, ?_⟩))
      have e' : ¬ j = i := fun q => e q.symm
      have e3 : ¬ j = i + 1 := fun q => e2 q.symm
      by_cases g : j + 1 = i
      · have := x_ok1_at hi.2 g hu
        simp [e', e3, x_cv_cat, this]
      · simp [e', e3, g]
  · cases hs
