/-! CONSTRUCTORS: the cells that there are by now, of the same fixed shape -/
abbrev xS : Type := Nat × Nat × xMu × (Nat → Nat → Bool)
def c_rf (σ : xS) (k j : Nat) : Option Nat := if σ.2.2.2 k j then x_rf k j else none
def c_fv (σ : xS) (k j : Nat) : Value := if x_fr (x_kd k) j then va_rf (c_rf σ k j) else .int (σ.2.2.1 k j)
def c_cell (cy : Nat → ClassId) (ad : Nat → Nat) (σ : xS) (k : Nat) : va_E :=
  if x_kd k < 13 then .inr (x_kd k, (List.range (x_sz k)).map (fun j => x_cv ad (c_fv σ k j)))
  else if x_kd k < 15 then .inl (cy (x_kd k), x_sz k, .inl (σ.2.2.1 k))
  else .inl (cy (x_kd k), x_sz k, .inr (.inr (.inr (.inr (fun j => (c_rf σ k j).map ad)))))
def c_W (cy : Nat → ClassId) (ad : Nat → Nat) (σ : xS) : va_W := (List.range σ.1).map (fun k => (ad k, c_cell cy ad σ k))
def c_A (base : Nat) : Nat → Prop := fun q => base ≤ q
theorem c_W_at {cy : Nat → ClassId} {ad : Nat → Nat} {σ : xS} {k : Nat} (hk : k < σ.1) : (c_W cy ad σ)[k]? = some (ad k, c_cell cy ad σ k) := by
  simp [c_W, hk]
theorem c_W_len (cy : Nat → ClassId) (ad : Nat → Nat) (σ : xS) : (c_W cy ad σ).length = σ.1 := by simp [c_W]
theorem c_W_some {cy : Nat → ClassId} {ad : Nat → Nat} {σ : xS} {i : Nat} {q : Nat × va_E} (h : (c_W cy ad σ)[i]? = some q) : i < σ.1 ∧ q = (ad i, c_cell cy ad σ i) := by
  have hi : i < σ.1 := by
    have := (List.getElem?_eq_some_iff.mp h).1
    rwa [c_W_len] at this
  rw [c_W_at hi] at h
  exact ⟨hi, (Option.some.inj h).symm⟩
def c_ad (ad : Nat → Nat) (base : Nat) : Prop := ∀ k, k < x_N → ad k = base + k
theorem c_D {cy : Nat → ClassId} {ad : Nat → Nat} {σ : xS} {base : Nat} (h : c_ad ad base) (hn : σ.1 ≤ x_N) : va_D (c_A base) (c_W cy ad σ) := by
  refine ⟨fun i j p q hp hq he => ?_, fun k q hq => ?_⟩
  · obtain ⟨h1, rfl⟩ := c_W_some hp
    obtain ⟨h2, rfl⟩ := c_W_some hq
    have e : ad i = ad j := he
    rw [h i (by omega), h j (by omega)] at e
    omega
  · obtain ⟨h1, rfl⟩ := c_W_some hq
    show base ≤ ad k
    rw [h k (by omega)]
    omega
theorem c_cell_o {cy : Nat → ClassId} {ad : Nat → Nat} {σ : xS} {k c : Nat} (h : x_kd k = c) (hc : c < 13) : c_cell cy ad σ k = .inr (c, (List.range (x_sz k)).map (fun j => x_cv ad (c_fv σ k j))) := by
  simp [c_cell, h, hc]
theorem c_cell_i {cy : Nat → ClassId} {ad : Nat → Nat} {σ : xS} {k : Nat} (h : x_kd k = 13) : c_cell cy ad σ k = .inl (cy 13, x_sz k, .inl (σ.2.2.1 k)) := by
  simp [c_cell, h]
theorem c_cell_z {cy : Nat → ClassId} {ad : Nat → Nat} {σ : xS} {k : Nat} (h : x_kd k = 14) : c_cell cy ad σ k = .inl (cy 14, x_sz k, .inl (σ.2.2.1 k)) := by
  simp [c_cell, h]
theorem c_cell_r {cy : Nat → ClassId} {ad : Nat → Nat} {σ : xS} {k c : Nat} (h : x_kd k = c) (hc : ¬ c < 15) : c_cell cy ad σ k = .inl (cy c, x_sz k, .inr (.inr (.inr (.inr (fun j => (c_rf σ k j).map ad))))) := by
  have : ¬ c < 13 := by omega
  simp [c_cell, h, hc, this]
theorem x_rf_out : ∀ k, k < x_N → ∀ j, x_sz k ≤ j → x_rf k j = none := by
  intro k hk j hj
  have h : ∀ k, k < x_N → (x_rfL.getD k []).length ≤ x_sz k := by decide +kernel
  unfold x_rf
  rw [List.getD_eq_getElem?_getD, List.getElem?_eq_none (by have := h k hk; omega)]
  rfl
/-- one cell more -/
theorem c_W_push {cy : Nat → ClassId} {ad : Nat → Nat} {σ σ' : xS} {e : va_E} (h1 : σ'.1 = σ.1 + 1) (h2 : σ'.2.2 = σ.2.2) (he : e = c_cell cy ad σ σ.1) : c_W cy ad σ ++ [(ad σ.1, e)] = c_W cy ad σ' := by
  subst he
  unfold c_W
  rw [h1, List.range_succ, List.map_append]
  simp only [c_cell, c_fv, c_rf, h2, List.map_cons, List.map_nil]
theorem c_W_set {cy : Nat → ClassId} {ad : Nat → Nat} {σ σ' : xS} {k : Nat} {e : va_E} (h1 : σ'.1 = σ.1) (he : e = c_cell cy ad σ' k) (hn : ∀ a, a ≠ k → c_cell cy ad σ' a = c_cell cy ad σ a) : (c_W cy ad σ).set k (ad k, e) = c_W cy ad σ' := by
  apply List.ext_getElem?
  intro i
  rw [List.getElem?_set]
  by_cases hi : i < σ.1
  · have hi' : i < σ'.1 := by omega
    by_cases h : k = i
    · subst h
      rw [if_pos rfl, c_W_len, if_pos hi, c_W_at hi', he]
    · rw [if_neg h, c_W_at hi, c_W_at hi', hn i (Ne.symm h)]
  · have g1 : (c_W cy ad σ)[i]? = none := by rw [List.getElem?_eq_none_iff, c_W_len]; omega
    have g2 : (c_W cy ad σ')[i]? = none := by rw [List.getElem?_eq_none_iff, c_W_len]; omega
    rw [g1, g2, c_W_len]
    by_cases h : k = i
    · subst h
      rw [if_pos rfl, if_neg hi]
    · rw [if_neg h]
def c_mak (α : Nat → Nat → Bool) (k j : Nat) : Nat → Nat → Bool := fun a b => if a = k ∧ b = j then true else α a b
theorem c_mk_ne {α : Nat → Nat → Bool} {k j a : Nat} (h : a ≠ k) : c_mak α k j a = α a := by
  funext b; simp [c_mak, h]
/-- words that are told of the state itself -/
def c_O (U : State) : Prop := va_AO "WakingLayers$Body" U ∧ va_AO "WakingLayers$Layer" U ∧ (Cond.arrayOver (.array .int)).before #[] U = true ∧ va_Nw (.methodLinkNest RX11 9 yX8_init RX11) U ∧ va_Nw (.methodLinkNest RX11 18 yX10_init RX11) U ∧ va_Nw (.methodLinkNest RX4 31 yX3_init RX11) U ∧ va_Nw (.methodLinkNest RX4 32 yX1_init RX11) U
theorem c_O.warm {s U : State} (hW : s.WarmedH U.vm) (h : c_O s) : c_O U :=
  ⟨va_AO.moved hW.alike h.1, va_AO.moved hW.alike h.2.1, over_moved hW.alike h.2.2.1, va_Nw.warmM hW h.2.2.2.1, va_Nw.warmM hW h.2.2.2.2.1, va_Nw.warmM hW h.2.2.2.2.2.1, va_Nw.warmM hW h.2.2.2.2.2.2⟩
theorem c_O.same {s U : State} (hv : s.vm = U.vm) (h : c_O s) : c_O U :=
  ⟨va_AO.moved (by rw [hv]; exact Vm.Alike.refl _) h.1, va_AO.moved (by rw [hv]; exact Vm.Alike.refl _) h.2.1, over_moved (by rw [hv]; exact Vm.Alike.refl _) h.2.2.1, va_Nw.same rfl hv h.2.2.2.1, va_Nw.same rfl hv h.2.2.2.2.1, va_Nw.same rfl hv h.2.2.2.2.2.1, va_Nw.same rfl hv h.2.2.2.2.2.2⟩
def c_E (D : va_G) (cy : Nat → ClassId) (ad : Nat → Nat) (base n0 : Nat) (M : xM) (p : Program) (s : State) (m : MethodId) (args : Array Value) (c : Code) : Prop :=
  p.tables.exec = Jvm.exec ∧ c.code = M.2.1 ∧ c.maxLocals = M.2.2.1 ∧ s.vm.findClass M.1.cls = some m.cls ∧ (∀ w ∈ x_ws, w.before args s = true) ∧ va_K D vwCl (x_tys cy) s ∧ c_ad ad base ∧ s.heap.size = base + n0 ∧ c_O s
theorem vr_outer (c : ClassId) (N h0 : Nat) : ∀ i : Nat, Jvm.Free.Multi.outerC c N h0 i = arrV c N (fun j => va_rf (if j < i then some (h0 + 1 + j) else none))
  | 0 => by
    show ({ cls := c, slots := Array.replicate N .null, vm := .none } : Cell) = _
    rw [arrV_new]
    refine congrArg (arrV c N) (funext fun j => ?_)
    simp [va_rf]
  | i + 1 => by
    show (Jvm.Free.Multi.outerC c N h0 i).setSlot i (.ref (h0 + 1 + i)) = _
    rw [vr_outer c N h0 i, arrV_store]
    refine congrArg (arrV c N) (funext fun j => ?_)
    by_cases e : j = i
    · subst e
      simp [updV, va_rf]
    · by_cases h : j < i
      · simp [updV, e, h, Nat.lt_succ_of_lt h]
      · simp [updV, e, h, show ¬ j < i + 1 by omega]
section Cy
variable {p : Program} {l : Launch} {e : Env} {R : Room} {s : State} {m : MethodId} {args : Array Value} {below : List Frame} {meth : Method} {c : Code} {cells slots : Nat} {Qf : State → Prop} {D : va_G} {cy : Nat → ClassId} {ad : Nat → Nat} {base n0 : Nat} {M : xM} {pc : Nat} {L : List (Option Value)} {st : List Value} {σ : xS}
theorem W.size {H : Heap} {locs : List Loc} {Q : State → Prop} {g : JFrame} (h : H.size ≤ s.heap.size + cells → W p l e R s m args below meth c H locs cells slots Q g) : W p l e R s m args below meth c H locs cells slots Q g :=
  fun T hT X => h (by rw [← hT]; exact X.heapSize) T hT X
def Cy (p : Program) (l : Launch) (e : Env) (R : Room) (s : State) (m : MethodId) (args : Array Value) (below : List Frame) (meth : Method) (c : Code) (cells slots : Nat) (Qf : State → Prop) (D : va_G) (cy : Nat → ClassId) (ad : Nat → Nat) (base n0 : Nat) (M : xM) (pc : Nat) (L : List (Option Value)) (st : List Value) (σ : xS) : Prop :=
  n0 + cells = σ.1 → σ.1 ≤ x_N → ∀ (ls : Array Slot) (H : Heap) (locs : List Loc), x_LR ad ls M.2.2.1 L → va_P D vwCl (c_W cy ad σ) H → va_S (c_A base) s.heap H locs → W p l e R s m args below meth c H locs cells slots Qf (F0 m pc ls (st.map (x_cv ad)))
theorem c_free (E : c_E D cy ad base n0 M p s m args c) : ∀ q, s.heap.size ≤ q → c_A base q := by
  obtain ⟨-, -, -, -, -, -, -, hs, -⟩ := E
  intro q h
  show base ≤ q
  omega
/-- the new cell's address -/
theorem c_addr (E : c_E D cy ad base n0 M p s m args c) {H1 : Heap} {q : Nat} {e1 : va_E} (hcnt : n0 + cells = σ.1) (hn : σ.1 < x_N) (hP : va_P D vwCl (c_W cy ad σ ++ [(q, e1)]) H1) (hD : va_D (c_A base) (c_W cy ad σ ++ [(q, e1)])) (hsz : H1.size ≤ s.heap.size + (cells + 1)) : q = ad σ.1 := by
  obtain ⟨-, -, -, -, -, -, had, hs, -⟩ := E
  have hlast : (c_W cy ad σ ++ [(q, e1)])[σ.1]? = some (q, e1) := by
    rw [List.getElem?_append_right (by rw [c_W_len]; omega), c_W_len, Nat.sub_self]
    rfl
  have h1 : q < H1.size := (hP σ.1 _ hlast).lt
  have h2 : base ≤ q := hD.2 σ.1 _ hlast
  have h3 : ∀ k, k < σ.1 → q ≠ base + k := by
    intro k hk e
    have hk' : (c_W cy ad σ ++ [(q, e1)])[k]? = some (ad k, c_cell cy ad σ k) := by
      rw [List.getElem?_append_left (by rw [c_W_len]; exact hk), c_W_at hk]
    have := hD.1 k σ.1 _ _ hk' hlast (by show ad k = q; rw [had k (by omega), e])
    omega
  rw [had σ.1 hn]
  by_cases h4 : q < base + σ.1
  · exact absurd (show q = base + (q - base) by omega) (h3 (q - base) (by omega))
  · omega
set_option maxHeartbeats 4000000 in
theorem w_ev1 {cc : ByteArray} {nL : Nat} {H : Heap} {locs : List Loc} {ls : Array Slot} (hx : p.tables.exec = Jvm.exec) (hb : c.code = cc) {L' : List (Option Value)} {st' : List Value} {i : Instr} (hd : decode cc pc = .ok (i, x_sz1 i)) (hev : x_ev1 i L st = some (L', st')) (hl : x_LR ad ls nL L)
    (k : ∀ ls', x_LR ad ls' nL L' → W p l e R s m args below meth c H locs cells slots Qf (F0 m (pc + x_sz1 i) ls' (st'.map (x_cv ad)))) : W p l e R s m args below meth c H locs cells slots Qf (F0 m pc ls (st.map (x_cv ad))) := by
  unfold x_ev1 at hev
  split at hev
  case h_1 n => cases hev; exact lv_iconst hx hb hd rfl (k ls hl)
  case h_2 n => cases hev; exact lv_bipush hx hb hd rfl (k ls hl)
  case h_3 n => cases hev; exact lv_sipush hx hb hd rfl (k ls hl)
  case h_4 n => cases hev; exact lv_lconst hx hb hd rfl (k ls hl)
  case h_5 n => obtain ⟨rfl, x, h1, rfl⟩ := x_ldi_at hev; exact lv_iload_n hx hb hd rfl (hl.2.2.2 _ _ h1) (k ls hl)
  case h_6 n => obtain ⟨rfl, x, h1, rfl⟩ := x_ldi_at hev; exact lv_iload hx hb hd (hl.2.2.2 _ _ h1) (k ls hl)
  case h_7 n => obtain ⟨rfl, x, h1, rfl⟩ := x_ldl_at hev; exact lv_lload_n hx hb hd rfl (hl.2.2.2 _ _ h1) (k ls hl)
  case h_8 n => obtain ⟨rfl, x, h1, rfl⟩ := x_ldl_at hev; exact lv_lload hx hb hd (hl.2.2.2 _ _ h1) (k ls hl)
  case h_9 n => obtain ⟨rfl, x, h1, rfl⟩ := x_lda_at hev; exact lv_aload_n hx hb hd rfl (hl.2.2.2 _ _ h1) (k ls hl)
  case h_10 n => obtain ⟨rfl, x, h1, rfl⟩ := x_lda_at hev; exact lv_aload hx hb hd (hl.2.2.2 _ _ h1) (k ls hl)
  case h_11 n => obtain ⟨x, rfl, h1⟩ := x_sti_at hev; exact lv_istore_n hx hb hd rfl hl.has (by rw [← hl.2.1]; exact x_st1_lt h1) rfl (fun ls' hl' => k ls' (hl.st1 h1 rfl hl'))
  case h_12 n => obtain ⟨x, rfl, h1⟩ := x_sti_at hev; exact lv_istore hx hb hd hl.has (by rw [← hl.2.1]; exact x_st1_lt h1) rfl (fun ls' hl' => k ls' (hl.st1 h1 rfl hl'))
  case h_13 n => obtain ⟨x, rfl, h1⟩ := x_stl_at hev; exact lv_lstore_n hx hb hd rfl hl.has (by rw [← hl.2.1]; exact x_st2_lt h1) rfl (fun ls' hl' => k ls' (hl.st2 h1 rfl hl'))
  case h_14 n => obtain ⟨x, rfl, h1⟩ := x_stl_at hev; exact lv_lstore hx hb hd hl.has (by rw [← hl.2.1]; exact x_st2_lt h1) rfl (fun ls' hl' => k ls' (hl.st2 h1 rfl hl'))
  case h_15 n => obtain ⟨x, rfl, h1⟩ := x_sta_at hev; exact lv_astore_n hx hb hd rfl hl.has (by rw [← hl.2.1]; exact x_st1_lt h1) rfl (fun ls' hl' => k ls' (hl.st1 h1 rfl hl'))
  case h_16 n => obtain ⟨x, rfl, h1⟩ := x_sta_at hev; exact lv_astore hx hb hd hl.has (by rw [← hl.2.1]; exact x_st1_lt h1) rfl (fun ls' hl' => k ls' (hl.st1 h1 rfl hl'))
  case h_17 kk n =>
    split at hev
    · next x hx1 =>
      obtain ⟨a, h1, h2⟩ := Option.map_eq_some_iff.mp hev
      cases h2
      have hm : (kk, x_cv ad (.int x)) ∈ x_lp ad L := x_lp_mem.mpr ⟨_, hx1, rfl⟩
      obtain ⟨j, hj⟩ := List.getElem?_of_mem hm
      exact lv_iinc hx hb hd hl.has hj rfl (by rw [← hl.2.1]; exact x_st1_lt h1) rfl (fun ls' hl' => k ls' (hl.st1 h1 rfl hl'))
    · cases hev
  case h_18 => obtain ⟨rfl, x, y, r, rfl, rfl⟩ := x_ii_at hev; exact lv_iadd hx hb hd (k ls hl)
  case h_19 => obtain ⟨rfl, x, y, r, rfl, rfl⟩ := x_ii_at hev; exact lv_isub hx hb hd (k ls hl)
  case h_20 => obtain ⟨rfl, x, y, r, rfl, rfl⟩ := x_ii_at hev; exact lv_imul hx hb hd (k ls hl)
  case h_21 => obtain ⟨rfl, x, y, r, rfl, rfl⟩ := x_ii_at hev; exact lv_iand hx hb hd (k ls hl)
  case h_22 => obtain ⟨rfl, x, y, r, rfl, rfl⟩ := x_ii_at hev; exact lv_ior hx hb hd (k ls hl)
  case h_23 => obtain ⟨rfl, x, y, r, rfl, rfl⟩ := x_ii_at hev; exact lv_ixor hx hb hd (k ls hl)
  case h_24 => obtain ⟨rfl, x, y, r, rfl, rfl⟩ := x_ii_at hev; exact lv_ishl hx hb hd (k ls hl)
  case h_25 => obtain ⟨rfl, x, y, r, rfl, rfl⟩ := x_ii_at hev; exact lv_ishr hx hb hd (k ls hl)
  case h_26 => obtain ⟨rfl, x, y, r, rfl, rfl⟩ := x_ii_at hev; exact lv_iushr hx hb hd rfl (k ls hl)
  case h_27 => obtain ⟨rfl, x, y, r, rfl, rfl⟩ := x_ll_at hev; exact lv_ladd hx hb hd (k ls hl)
  case h_28 => obtain ⟨rfl, x, y, r, rfl, rfl⟩ := x_ll_at hev; exact lv_land hx hb hd (k ls hl)
  case h_29 => obtain ⟨rfl, x, y, r, rfl, rfl⟩ := x_ll_at hev; exact lv_lor hx hb hd (k ls hl)
  case h_30 => obtain ⟨rfl, x, y, r, rfl, rfl⟩ := x_li_at hev; exact lv_lshl hx hb hd rfl (k ls hl)
  case h_31 => obtain ⟨rfl, x, y, r, rfl, rfl⟩ := x_li_at hev; exact lv_lshr hx hb hd rfl (k ls hl)
  case h_32 => obtain ⟨rfl, x, y, r, rfl, rfl⟩ := x_li_at hev; exact lv_lushr hx hb hd rfl (k ls hl)
  case h_33 =>
    split at hev
    · cases hev; exact lv_i2l hx hb hd rfl (k ls hl)
    · cases hev
  case h_34 =>
    split at hev
    · cases hev; exact lv_l2i hx hb hd rfl (k ls hl)
    · cases hev
  case h_35 => obtain ⟨rfl, x, r, rfl, rfl⟩ := x_i1_at hev; exact lv_i2b hx hb hd rfl (k ls hl)
  case h_36 => obtain ⟨rfl, x, r, rfl, rfl⟩ := x_i1_at hev; exact lv_i2s hx hb hd rfl (k ls hl)
  case h_37 => obtain ⟨rfl, x, r, rfl, rfl⟩ := x_i1_at hev; exact lv_i2c hx hb hd rfl (k ls hl)
  case h_38 =>
    split at hev
    · cases hev; exact W.lcmp hx hb hd (k ls hl)
    · cases hev
  case h_39 =>
    split at hev
    · cases hev; exact lv_dup hx hb hd rfl (k ls hl)
    · cases hev; exact lv_dup hx hb hd rfl (k ls hl)
    · cases hev
  case h_40 =>
    split at hev
    · cases hev; exact lv_dup2_11 hx hb hd rfl rfl (k ls hl)
    · cases hev
  case h_41 =>
    split at hev
    · cases hev; exact lv_pop hx hb hd rfl (k ls hl)
    · cases hev
  case h_42 => cases hev
theorem cy_blk (E : c_E D cy ad base n0 M p s m args c) : ∀ (is : List Instr) {pc pc' : Nat} {L L' : List (Option Value)} {st st' : List Value}, x_dec M.2.1 pc is = true → x_evs is L st = some (L', st') → pc + x_szs is = pc' →
    Cy p l e R s m args below meth c cells slots Qf D cy ad base n0 M pc' L' st' σ → Cy p l e R s m args below meth c cells slots Qf D cy ad base n0 M pc L st σ
  | [], pc, pc', L, L', st, st', _, h2, h3, k => by
    cases h2
    subst h3
    exact k
  | i :: r, pc, pc', L, L', st, st', h1, h2, h3, k => by
    simp only [x_dec, Bool.and_eq_true, decide_eq_true_eq] at h1
    unfold x_evs at h2
    split at h2
    · next q hq =>
      have k2 := cy_blk E r h1.2 h2 (by rw [← h3]; simp only [x_szs]; omega) k
      exact fun hc hn ls H locs hl hP hS => w_ev1 E.1 E.2.1 h1.1 (L' := q.1) (st' := q.2) hq hl (fun ls' hl' => k2 hc hn ls' H locs hl' hP hS)
    · cases h2
theorem cy_goto (E : c_E D cy ad base n0 M p s m args c) {off : Int} {tgt : Nat} (hd : decode M.2.1 pc = .ok (.goto off, 3)) (ht : (pc : Int) + off = (tgt : Int)) (k : Cy p l e R s m args below meth c cells slots Qf D cy ad base n0 M tgt L st σ) : Cy p l e R s m args below meth c cells slots Qf D cy ad base n0 M pc L st σ :=
  fun hc hn ls H locs hl hP hS => lv_goto E.1 E.2.1 hd ht (k hc hn ls H locs hl hP hS)
theorem cy_ic_ge (E : c_E D cy ad base n0 M p s m args c) {x y : Int32} {off : Int} {tgt : Nat} (hd : decode M.2.1 pc = .ok (.if_icmp .ge off, 3)) (ht : (pc : Int) + off = (tgt : Int)) (kt : y ≤ x → Cy p l e R s m args below meth c cells slots Qf D cy ad base n0 M tgt L st σ) (kf : ¬ y ≤ x → Cy p l e R s m args below meth c cells slots Qf D cy ad base n0 M (pc + 3) L st σ) : Cy p l e R s m args below meth c cells slots Qf D cy ad base n0 M pc L (.int y :: .int x :: st) σ :=
  fun hc hn ls H locs hl hP hS => lv_icmp_ge E.1 E.2.1 hd ht (fun h => kt h hc hn ls H locs hl hP hS) (fun h => kf h hc hn ls H locs hl hP hS)
theorem cy_obj (E : c_E D cy ad base n0 M p s m args c) {k idx : Nat} (hw : Cond.methodLink M.1.cls idx Lib.objectInit ∈ x_ws) (hi : Cond.instanceMethod Lib.objectInit ∈ x_ws) (hcd : Cond.code Lib.objectInit ⟨#[0xb1]⟩ 1 none ∈ x_ws) (hR : 1 ≤ R.frames ∧ 40 ≤ R.locals) (hrest : (st.map fun v => v.category).sum ≤ 8) (hd : decode M.2.1 pc = .ok (.invokespecial idx, 3)) (kk : Cy p l e R s m args below meth c cells slots Qf D cy ad base n0 M (pc + 3) L st σ) : Cy p l e R s m args below meth c cells slots Qf D cy ad base n0 M pc L (.ref k :: st) σ := by
  intro hc hn ls H locs hl hP hS
  obtain ⟨hx, hb, hml, hown, hts, hK, had, hs, hO⟩ := E
  have h1 := lv_room (m := m) (pc := pc) (ls := ls) (rest := (.ref k :: st).map (x_cv ad)) (st := st.map (x_cv ad)) (by rw [x_rest]; exact hrest)
  exact W.objInit hx hb hown (hts _ hw) (hts _ hi) (hts _ hcd) (g := F0 m pc ls ((.ref k :: st).map (x_cv ad))) rfl (by rw [hml]; exact hl.1) rfl hd hR.1 (by omega) (kk hc hn ls H locs hl hP hS)
theorem cy_new (E : c_E D cy ad base n0 M p s m args c) {idx ci N : Nat} {C : String} {T : u_T} {ty0 : Nat → FieldType} {σ' : xS} (hc : vwCl[ci]? = some (C, T, N)) (hci : ci < 13) (hin : ∀ w ∈ u_ws C T N, w ∈ x_ws) (hty : ∀ k, k < N → parseFieldDescriptor (T k).2.2.1 = some (ty0 k)) (hcl : Cond.classLink M.1.cls idx C ∈ x_ws) (hins : Cond.instantiable C N ∈ x_ws) (hini : Cond.initialized C ∈ x_ws)
    (hn1 : σ.1 < x_N) (hk1 : x_kd σ.1 = ci) (h0 : ∀ j, j < N → defaultValue (ty0 j) = c_fv σ σ.1 j ∧ c_fv σ σ.1 j = x_cv ad (c_fv σ σ.1 j)) (e1 : σ'.1 = σ.1 + 1) (e2 : σ'.2.2 = σ.2.2) (hcells : cells + 1 ≤ R.cells) (hslots : slots + N ≤ R.slots) (hd : decode M.2.1 pc = .ok (.new idx, 3))
    (kk : Cy p l e R s m args below meth c (cells + 1) (slots + N) Qf D cy ad base n0 M (pc + 3) L (.ref σ.1 :: st) σ') : Cy p l e R s m args below meth c cells slots Qf D cy ad base n0 M pc L st σ := by
  intro hcn hn ls H locs hl hP hS
  obtain ⟨hx, hb, hml, hown, hts, hK, had, hs, hO⟩ := id E
  have hsz : x_sz σ.1 = N := by rw [x_szf σ.1 hn1 (by rw [hk1]; exact hci), hk1, x_nfC ci hci _ hc]
  have hce := c_cell_o (cy := cy) (ad := ad) (σ := σ) hk1 hci
  refine va_new (ci := ci) (fs := (List.range (x_sz σ.1)).map (fun j => x_cv ad (c_fv σ σ.1 j))) hx hb hts hin ty0 hty hown (hts _ hcl) (hts _ hins) (hts _ hini) hK hP (c_D had hn) hS (c_free E) hc (fun j hj => ?_) hcells hslots hd (fun q H1 hP1 hD1 hS1 => ?_)
  · rw [(h0 j hj).1]
    unfold vp_V
    rw [List.getD_eq_getElem?_getD]
    simp [hsz, hj]
    exact (h0 j hj).2
  · refine W.size (fun hsz1 => ?_)
    have hq := c_addr E hcn hn1 hP1 hD1 hsz1
    subst hq
    rw [c_W_push e1 e2 hce.symm] at hP1
    exact kk (by omega) (by omega) ls H1 locs hl hP1 hS1
theorem c_arr_i (E : c_E D cy ad base n0 M p s m args c) {cA : ClassId} (h : va_K D vwCl (x_tys cy ++ [(cA, .int)]) s) : cA = cy 13 := by
  have h1 := (h.2 5 (cA, .int) rfl).2
  have h2 := (h.2 0 (cy 13, .int) rfl).2
  exact Option.some.inj (h1.symm.trans h2)
theorem c_arr_z (E : c_E D cy ad base n0 M p s m args c) {cA : ClassId} (h : va_K D vwCl (x_tys cy ++ [(cA, .boolean)]) s) : cA = cy 14 := by
  have h1 := (h.2 5 (cA, .boolean) rfl).2
  have h2 := (h.2 1 (cy 14, .boolean) rfl).2
  exact Option.some.inj (h1.symm.trans h2)
theorem c_arr_B (E : c_E D cy ad base n0 M p s m args c) {cA : ClassId} (h : va_K D vwCl (x_tys cy ++ [(cA, .object "WakingLayers$Body")]) s) : cA = cy 15 := by
  obtain ⟨k1, c1, -, -, -, h1⟩ := (h.2 5 (cA, .object "WakingLayers$Body") rfl).2
  obtain ⟨k2, c2, -, -, -, h2⟩ := (h.2 2 (cy 15, .object "WakingLayers$Body") rfl).2
  exact Option.some.inj (h1.symm.trans h2)
theorem c_arr_L (E : c_E D cy ad base n0 M p s m args c) {cA : ClassId} (h : va_K D vwCl (x_tys cy ++ [(cA, .object "WakingLayers$Layer")]) s) : cA = cy 16 := by
  obtain ⟨k1, c1, -, -, -, h1⟩ := (h.2 5 (cA, .object "WakingLayers$Layer") rfl).2
  obtain ⟨k2, c2, -, -, -, h2⟩ := (h.2 3 (cy 16, .object "WakingLayers$Layer") rfl).2
  exact Option.some.inj (h1.symm.trans h2)
theorem c_zero {cA : ClassId} {N : Nat} {f : Nat → Int32} (h : ∀ j, j < N → f j = 0) : vp_cell cA (N, .inl f) = arrV cA N (fun _ => .int 0) := by
  rw [vp_cell_i]
  unfold arrV
  congr 1
  apply congrArg
  funext j
  show Value.int (f j.val) = Value.int 0
  rw [h j.val j.isLt]
theorem cy_newi (E : c_E D cy ad base n0 M p s m args c) {v : Int32} {N : Nat} {σ' : xS} (hw : Cond.arrayClass .int ∈ x_ws) (hv : ¬ v < 0) (hN : v.toNatClampNeg = N) (hN2 : N ≤ 1000) (hn1 : σ.1 < x_N) (hk1 : x_kd σ.1 = 13) (hsz : x_sz σ.1 = N) (h0 : ∀ j, j < N → σ.2.2.1 σ.1 j = 0) (e1 : σ'.1 = σ.1 + 1) (e2 : σ'.2.2 = σ.2.2) (hcells : cells + 1 ≤ R.cells) (hslots : slots + N ≤ R.slots) (hd : decode M.2.1 pc = .ok (.newarray .int, 2))
    (kk : Cy p l e R s m args below meth c (cells + 1) (slots + N) Qf D cy ad base n0 M (pc + 2) L (.ref σ.1 :: st) σ') : Cy p l e R s m args below meth c cells slots Qf D cy ad base n0 M pc L (.int v :: st) σ := by
  intro hcn hn ls H locs hl hP hS
  obtain ⟨hx, hb, hml, hown, hts, hK, had, hs, hO⟩ := id E
  refine va_newa (atype := .int) (ty := .int) (a0 := (N, .inl (σ.2.2.1 σ.1))) hx hb (hts _ hw) rfl hK hP (c_D had hn) hS (c_free E) (fun cA => c_zero h0) hv hN (by show N * 4 ≤ _; omega) hcells hslots hd (fun q cA H1 hK1 hP1 hD1 hS1 => ?_)
  have := c_arr_i E hK1
  subst this
  refine W.size (fun hsz1 => ?_)
  have hq := c_addr E hcn hn1 hP1 hD1 hsz1
  subst hq
  rw [c_W_push e1 e2 (by rw [c_cell_i hk1, hsz])] at hP1
  exact kk (by omega) (by omega) ls H1 locs hl hP1 hS1
theorem cy_newz (E : c_E D cy ad base n0 M p s m args c) {v : Int32} {N : Nat} {σ' : xS} (hw : Cond.arrayClass .boolean ∈ x_ws) (hv : ¬ v < 0) (hN : v.toNatClampNeg = N) (hN2 : N ≤ 1000) (hn1 : σ.1 < x_N) (hk1 : x_kd σ.1 = 14) (hsz : x_sz σ.1 = N) (h0 : ∀ j, j < N → σ.2.2.1 σ.1 j = 0) (e1 : σ'.1 = σ.1 + 1) (e2 : σ'.2.2 = σ.2.2) (hcells : cells + 1 ≤ R.cells) (hslots : slots + N ≤ R.slots) (hd : decode M.2.1 pc = .ok (.newarray .boolean, 2))
    (kk : Cy p l e R s m args below meth c (cells + 1) (slots + N) Qf D cy ad base n0 M (pc + 2) L (.ref σ.1 :: st) σ') : Cy p l e R s m args below meth c cells slots Qf D cy ad base n0 M pc L (.int v :: st) σ := by
  intro hcn hn ls H locs hl hP hS
  obtain ⟨hx, hb, hml, hown, hts, hK, had, hs, hO⟩ := id E
  refine va_newa (atype := .boolean) (ty := .boolean) (a0 := (N, .inl (σ.2.2.1 σ.1))) hx hb (hts _ hw) rfl hK hP (c_D had hn) hS (c_free E) (fun cA => c_zero h0) hv hN (by show N * 1 ≤ _; omega) hcells hslots hd (fun q cA H1 hK1 hP1 hD1 hS1 => ?_)
  have := c_arr_z E hK1
  subst this
  refine W.size (fun hsz1 => ?_)
  have hq := c_addr E hcn hn1 hP1 hD1 hsz1
  subst hq
  rw [c_W_push e1 e2 (by rw [c_cell_z hk1, hsz])] at hP1
  exact kk (by omega) (by omega) ls H1 locs hl hP1 hS1
theorem c_none (hn1 : σ.1 < x_N) (h0 : ∀ j, j < x_sz σ.1 → σ.2.2.2 σ.1 j = false) : (fun j => (c_rf σ σ.1 j).map ad) = fun _ => none := by
  funext j
  by_cases hj : j < x_sz σ.1
  · simp [c_rf, h0 j hj]
  · simp [c_rf, x_rf_out σ.1 hn1 j (by omega)]
theorem cy_newB (E : c_E D cy ad base n0 M p s m args c) {v : Int32} {N idx : Nat} {σ' : xS} (hcl : Cond.classLink M.1.cls idx "WakingLayers$Body" ∈ x_ws) (hv : ¬ v < 0) (hN : v.toNatClampNeg = N) (hN2 : N ≤ 1000) (hn1 : σ.1 < x_N) (hk1 : x_kd σ.1 = 15) (hsz : x_sz σ.1 = N) (h0 : ∀ j, j < x_sz σ.1 → σ.2.2.2 σ.1 j = false) (e1 : σ'.1 = σ.1 + 1) (e2 : σ'.2.2 = σ.2.2) (hcells : cells + 1 ≤ R.cells) (hslots : slots + N ≤ R.slots) (hd : decode M.2.1 pc = .ok (.anewarray idx, 3))
    (kk : Cy p l e R s m args below meth c (cells + 1) (slots + N) Qf D cy ad base n0 M (pc + 3) L (.ref σ.1 :: st) σ') : Cy p l e R s m args below meth c cells slots Qf D cy ad base n0 M pc L (.int v :: st) σ := by
  intro hcn hn ls H locs hl hP hS
  obtain ⟨hx, hb, hml, hown, hts, hK, had, hs, hO⟩ := id E
  refine va_newq (C := "WakingLayers$Body") hx hb hown (hts _ hcl) hO.1 hK hP (c_D had hn) hS (c_free E) hv hN (by omega) hcells hslots hd (fun q cA H1 hK1 hP1 hD1 hS1 => ?_)
  have := c_arr_B E hK1
  subst this
  refine W.size (fun hsz1 => ?_)
  have hq := c_addr E hcn hn1 hP1 hD1 hsz1
  subst hq
  rw [c_W_push e1 e2 (by rw [c_cell_r hk1 (by decide), hsz, c_none hn1 h0])] at hP1
  exact kk (by omega) (by omega) ls H1 locs hl hP1 hS1
theorem cy_newL (E : c_E D cy ad base n0 M p s m args c) {v : Int32} {N idx : Nat} {σ' : xS} (hcl : Cond.classLink M.1.cls idx "WakingLayers$Layer" ∈ x_ws) (hv : ¬ v < 0) (hN : v.toNatClampNeg = N) (hN2 : N ≤ 1000) (hn1 : σ.1 < x_N) (hk1 : x_kd σ.1 = 16) (hsz : x_sz σ.1 = N) (h0 : ∀ j, j < x_sz σ.1 → σ.2.2.2 σ.1 j = false) (e1 : σ'.1 = σ.1 + 1) (e2 : σ'.2.2 = σ.2.2) (hcells : cells + 1 ≤ R.cells) (hslots : slots + N ≤ R.slots) (hd : decode M.2.1 pc = .ok (.anewarray idx, 3))
    (kk : Cy p l e R s m args below meth c (cells + 1) (slots + N) Qf D cy ad base n0 M (pc + 3) L (.ref σ.1 :: st) σ') : Cy p l e R s m args below meth c cells slots Qf D cy ad base n0 M pc L (.int v :: st) σ := by
  intro hcn hn ls H locs hl hP hS
  obtain ⟨hx, hb, hml, hown, hts, hK, had, hs, hO⟩ := id E
  refine va_newq (C := "WakingLayers$Layer") hx hb hown (hts _ hcl) hO.2.1 hK hP (c_D had hn) hS (c_free E) hv hN (by omega) hcells hslots hd (fun q cA H1 hK1 hP1 hD1 hS1 => ?_)
  have := c_arr_L E hK1
  subst this
  refine W.size (fun hsz1 => ?_)
  have hq := c_addr E hcn hn1 hP1 hD1 hsz1
  subst hq
  rw [c_W_push e1 e2 (by rw [c_cell_r hk1 (by decide), hsz, c_none hn1 h0])] at hP1
  exact kk (by omega) (by omega) ls H1 locs hl hP1 hS1
theorem c_fs_at {k j : Nat} (h : j < x_sz k) : ((List.range (x_sz k)).map (fun j => x_cv ad (c_fv σ k j)))[j]? = some (x_cv ad (c_fv σ k j)) := by
  simp [h]
theorem c_cv_rf (r : Option Nat) : x_cv ad (va_rf r) = va_rf (r.map ad) := by cases r <;> rfl
theorem cy_getr (E : c_E D cy ad base n0 M p s m args c) {k idx ci j N r : Nat} {C : String} {T : u_T} (hk1 : k < σ.1) (hk : x_kd k = ci) (F : x_FF M.1.cls idx ci j C T N) (hf : x_fr ci j = true) (hm : σ.2.2.2 k j = true) (hr : x_rf k j = some r) (hd : decode M.2.1 pc = .ok (.getfield idx, 3)) (kk : Cy p l e R s m args below meth c cells slots Qf D cy ad base n0 M (pc + 3) L (.ref r :: st) σ) : Cy p l e R s m args below meth c cells slots Qf D cy ad base n0 M pc L (.ref k :: st) σ := by
  intro hcn hn ls H locs hl hP hS
  obtain ⟨hx, hb, hml, hown, hts, hK, had, hs, hO⟩ := E
  obtain ⟨hc, hci, hin, hj, hlink, hC⟩ := F
  have hsz : x_sz k = N := by rw [x_szf k (by omega) (by rw [hk]; exact hci), hk, x_nfC ci hci _ hc]
  have he := c_W_at (cy := cy) (ad := ad) (σ := σ) hk1
  rw [c_cell_o hk hci] at he
  have hv : x_cv ad (c_fv σ k j) = x_cv ad (.ref r) := by
    unfold c_fv c_rf
    rw [hk, hf, hm, if_pos rfl, if_pos rfl, hr]
    rfl
  exact va_get (ref := C) (v := x_cv ad (.ref r)) hx hb hts hin hown hK hP k he hc j hj (hts _ hlink) (fun x h => by rw [← hC]; exact h) (by rw [c_fs_at (by rw [hsz]; exact hj), hv]) hd (kk hcn hn ls H locs hl hP hS)
theorem cy_putr (E : c_E D cy ad base n0 M p s m args c) (hin2 : meth.name = "<init>") {k idx ci j N r : Nat} {C : String} {T : u_T} {ty0 : Nat → FieldType} {ty : FieldType} {σ' : xS} (hk1 : k < σ.1) (hk : x_kd k = ci) (F : x_FF M.1.cls idx ci j C T N) (hf : x_fr ci j = true) (hr : x_rf k j = some r) (hown2 : C = M.1.cls)
    (hty : ∀ k, k < N → parseFieldDescriptor (T k).2.2.1 = some (ty0 k)) (hnm : ∀ a, a < N → ∀ b, b < N → a ≠ b → (T a).2.1 ≠ (T b).2.1) (hfin : (T j).2.2.2 = true) (hpd : parseFieldDescriptor (T j).2.2.1 = some ty) (hnf : ∀ a, narrow ty (.ref a) = .ref a ∧ fits ty (.ref a) = true) (e1 : σ'.1 = σ.1) (e2 : σ'.2.2 = (σ.2.2.1, c_mak σ.2.2.2 k j))
    (hd : decode M.2.1 pc = .ok (.putfield idx, 3)) (kk : Cy p l e R s m args below meth c cells slots Qf D cy ad base n0 M (pc + 3) L st σ') : Cy p l e R s m args below meth c cells slots Qf D cy ad base n0 M pc L (.ref r :: .ref k :: st) σ := by
  intro hcn hn ls H locs hl hP hS
  obtain ⟨hx, hb, hml, hown, hts, hK, had, hs, hO⟩ := E
  obtain ⟨hc, hci, hin, hj, hlink, hC⟩ := F
  have hsz : x_sz k = N := by rw [x_szf k (by omega) (by rw [hk]; exact hci), hk, x_nfC ci hci _ hc]
  have he := c_W_at (cy := cy) (ad := ad) (σ := σ) hk1
  rw [c_cell_o hk hci] at he
  refine va_putF (v := .ref (ad r)) (ref := C) hx hb hts hin ty0 hty hnm hown hK hP (c_D had hn) hS k he hc j hj (hts _ hlink) (fun x h => by rw [← hC]; exact h) hfin hin2 (by rw [hC, hown2]) hpd (hnf _).1 (hnf _).2 (by simp [hsz]; exact hj) hd (fun H1 locs1 hP1 _ hS1 => ?_)
  rw [c_W_set (σ' := σ') e1 ?_ ?_] at hP1
  · exact kk (by omega) (by omega) ls H1 locs1 hl hP1 hS1
  · rw [c_cell_o hk hci]
    congr 2
    apply List.ext_getElem?
    intro i
    rw [List.getElem?_set]
    by_cases hi : i < x_sz k
    · by_cases e : j = i
      · subst e
        simp [hi, c_fv, c_rf, hk, hf, e2, c_mak, hr, va_rf, x_cv]
      · have e' : ¬ i = j := fun q => e q.symm
        simp only [if_neg e, List.getElem?_map, List.getElem?_range hi, Option.map_some, c_fv, c_rf, e2, c_mak]
        simp [e']
    · have h1 : (List.range (x_sz k))[i]? = none := by simp; omega
      simp only [List.getElem?_map, h1, Option.map_none, List.length_map, List.length_range]
      by_cases e : j = i
      · simp [e, hi]
      · simp [e]
  · intro a ha
    simp only [c_cell, c_fv, c_rf, e2, c_mk_ne ha]
theorem cy_iast (E : c_E D cy ad base n0 M p s m args c) {k : Nat} {i v : Int32} {σ' : xS} (hk1 : k < σ.1) (hk : x_kd k = 13) (hin : vp_in i (x_sz k)) (e1 : σ'.1 = σ.1) (e2 : σ'.2.2 = (x_wr σ.2.2.1 k i.toNatClampNeg v, σ.2.2.2)) (hd : decode M.2.1 pc = .ok (.iastore, 1)) (kk : Cy p l e R s m args below meth c cells slots Qf D cy ad base n0 M (pc + 1) L st σ') : Cy p l e R s m args below meth c cells slots Qf D cy ad base n0 M pc L (.int v :: .int i :: .ref k :: st) σ := by
  intro hcn hn ls H locs hl hP hS
  obtain ⟨hx, hb, hml, hown, hts, hK, had, hs, hO⟩ := E
  have he := c_W_at (cy := cy) (ad := ad) (σ := σ) hk1
  rw [c_cell_i hk] at he
  refine va_iast hx hb hK hP (c_D had hn) hS k 0 he rfl hin hd (fun H1 locs1 hP1 _ hS1 => ?_)
  rw [c_W_set (σ' := σ') e1 (by rw [c_cell_i hk, e2]; simp only [x_wr_row]) (fun a h => by simp only [c_cell, c_fv, c_rf, e2, x_wr_ne h])] at hP1
  exact kk (by omega) (by omega) ls H1 locs1 hl hP1 hS1
theorem cy_aast (E : c_E D cy ad base n0 M p s m args c) {k r ck cr tk N : Nat} {C : String} {T : u_T} {i : Int32} {σ' : xS} (hk1 : k < σ.1) (hk : x_kd k = ck) (hck : ¬ ck < 15) (ht : (x_tys cy)[tk]? = some (cy ck, .object C)) (hr1 : r < σ.1) (hkr : x_kd r = cr) (hcr : cr < 13) (hc : vwCl[cr]? = some (C, T, N)) (hin : vp_in i (x_sz k)) (hr : x_rf k i.toNatClampNeg = some r) (e1 : σ'.1 = σ.1) (e2 : σ'.2.2 = (σ.2.2.1, c_mak σ.2.2.2 k i.toNatClampNeg)) (hd : decode M.2.1 pc = .ok (.aastore, 1))
    (kk : Cy p l e R s m args below meth c cells slots Qf D cy ad base n0 M (pc + 1) L st σ') : Cy p l e R s m args below meth c cells slots Qf D cy ad base n0 M pc L (.ref r :: .int i :: .ref k :: st) σ := by
  intro hcn hn ls H locs hl hP hS
  obtain ⟨hx, hb, hml, hown, hts, hK, had, hs, hO⟩ := E
  have he := c_W_at (cy := cy) (ad := ad) (σ := σ) hk1
  rw [c_cell_r hk hck] at he
  have he2 := c_W_at (cy := cy) (ad := ad) (σ := σ) hr1
  rw [c_cell_o hkr hcr] at he2
  refine va_astq (r := (C, T, N)) hx hb hK hP (c_D had hn) hS k tk r cr he ht he2 hc hin hd (fun H1 locs1 hP1 _ hS1 => ?_)
  rw [c_W_set (σ' := σ') e1 ?_ (fun a h => by simp only [c_cell, c_fv, c_rf, e2, c_mk_ne h])] at hP1
  · exact kk (by omega) (by omega) ls H1 locs1 hl hP1 hS1
  · rw [c_cell_r hk hck]
    have hu : va_up (fun j => Option.map ad (c_rf σ k j)) i.toNatClampNeg (some (ad r)) = fun j => Option.map ad (c_rf σ' k j) := by
      funext j
      unfold va_up
      by_cases e : j = i.toNatClampNeg
      · subst e
        simp [c_rf, e2, c_mak, hr]
      · simp [e, c_rf, e2, c_mak]
    rw [hu]
/-- new int[N][K] -/
theorem cy_multi (E : c_E D cy ad base n0 M p s m args c) {v u : Int32} {N K idx : Nat} {σ' : xS} (hw : Cond.arrayClass .int ∈ x_ws) (hcl : Cond.classLink M.1.cls idx "[[I" ∈ x_ws) (hv : ¬ v < 0) (hu : ¬ u < 0) (hN : v.toNatClampNeg = N) (hK1 : u.toNatClampNeg = K) (hN2 : N ≤ 1000) (hK2 : K ≤ 1000)
    (hn1 : σ.1 + N < x_N) (hk1 : x_kd σ.1 = 17) (hsz : x_sz σ.1 = N) (hrow : ∀ i, i < N → x_kd (σ.1 + 1 + i) = 13 ∧ x_sz (σ.1 + 1 + i) = K ∧ x_rf σ.1 i = some (σ.1 + 1 + i) ∧ σ'.2.2.2 σ.1 i = true ∧ ∀ j, j < K → σ.2.2.1 (σ.1 + 1 + i) j = 0)
    (e1 : σ'.1 = σ.1 + 1 + N) (e2 : σ'.2.2.1 = σ.2.2.1) (e3 : ∀ a, a ≠ σ.1 → σ'.2.2.2 a = σ.2.2.2 a) (hcells : cells + (1 + N) ≤ R.cells) (hslots : slots + (N + N * K) ≤ R.slots) (hd : decode M.2.1 pc = .ok (.multianewarray idx 2, 4))
    (kk : Cy p l e R s m args below meth c (cells + (1 + N)) (slots + (N + N * K)) Qf D cy ad base n0 M (pc + 4) L (.ref σ.1 :: st) σ') : Cy p l e R s m args below meth c cells slots Qf D cy ad base n0 M pc L (.int u :: .int v :: st) σ := by
  intro hcn hn ls H locs hl hP hS
  obtain ⟨hx, hb, hml, hown, hts, hK, had, hs, hO⟩ := id E
  subst hN
  subst hK1
  refine W.size (fun hszH => ?_)
  have hH : H.size = base + σ.1 := by
    by_cases h0 : σ.1 = 0
    · have := hS.1; omega
    · have h1 := c_W_at (cy := cy) (ad := ad) (σ := σ) (k := σ.1 - 1) (by omega)
      have h2 : ad (σ.1 - 1) < H.size := (hP _ _ h1).lt
      rw [had (σ.1 - 1) (by omega)] at h2
      omega
  have hcl2 : (Cond.classLink M.1.cls idx ("[" ++ (FieldType.array FieldType.int).toString)).before args s = true := by
    rw [show "[" ++ (FieldType.array FieldType.int).toString = "[[I" by decide +kernel]
    exact hts _ hcl
  have e0 : (FieldType.array FieldType.int).toString = "[" ++ FieldType.int.toString := by decide +kernel
  intro X hT Xs
  obtain ⟨vm₁, cA, comp, -, fA, fC, hO2, -, X', step⟩ := Xs.multianewarray2F hx hown (ty := .int) (index := idx) hcl2 hO.2.2.1 (hts _ hw) (g := F0 m pc ls ((.int u :: .int v :: st).map (x_cv ad))) rfl (by rw [hb]; exact hd) rfl hv hu (by omega) (by show _ * 4 ≤ _; omega) (by omega) rfl rfl hcells hslots
  have ec : comp = cy 13 := by
    rw [e0] at fC
    exact Option.some.inj (fC.symm.trans (hK.2 0 (cy 13, .int) rfl).2)
  have ea : cA = cy 17 := Option.some.inj (fA.symm.trans (hK.2 4 (cy 17, .array .int) rfl).2)
  subst ec
  subst ea
  generalize hF : Jvm.Free.Multi.fill (X.setVm vm₁) (cy 17) (cy 13) v.toNatClampNeg u.toNatClampNeg (defaultValue .int) v.toNatClampNeg = F at X' step
  have hTh : (X.setVm vm₁).heap = H := hT
  obtain ⟨f1, f2, -, -⟩ := Jvm.Free.Multi.fill_facts (X.setVm vm₁) (cy 17) (cy 13) v.toNatClampNeg u.toNatClampNeg (defaultValue .int) v.toNatClampNeg
  rw [hF, hTh] at f1 f2
  have hold : ∀ x : Nat, x < H.size → F.heap[x]? = H[x]? := fun x hx => by
    have := Jvm.Free.Multi.fill_old (X.setVm vm₁) (cy 17) (cy 13) v.toNatClampNeg u.toNatClampNeg (defaultValue .int) (a := x) (by rw [hTh]; exact hx) v.toNatClampNeg
    rw [hF, hTh] at this
    exact this
  have hin : ∀ j : Nat, j < v.toNatClampNeg → F.heap[H.size + 1 + j]? = some (Jvm.Free.Multi.innerC (cy 13) u.toNatClampNeg (defaultValue .int)) := fun j hj => by
    have := Jvm.Free.Multi.fill_inner (X.setVm vm₁) (cy 17) (cy 13) v.toNatClampNeg u.toNatClampNeg (defaultValue .int) v.toNatClampNeg j hj
    rw [hF, hTh] at this
    exact this
  have hP1 : va_P D vwCl (c_W cy ad σ') F.heap := by
    intro k q hq
    obtain ⟨hk9, rfl⟩ := c_W_some hq
    by_cases c1 : k < σ.1
    · have h1 := hP k _ (c_W_at (cy := cy) (ad := ad) (σ := σ) c1)
      have h2 : c_cell cy ad σ' k = c_cell cy ad σ k := by simp only [c_cell, c_fv, c_rf, e2, e3 k (by omega)]
      rw [h2]
      exact h1.kept (hold _ h1.lt)
    · by_cases c2 : k = σ.1
      · subst c2
        rw [c_cell_r hk1 (by decide)]
        show F.heap[ad σ.1]? = some (vp_cell _ _)
        rw [had σ.1 (by omega), ← hH, f2, vp_cell_q, hsz, vr_outer]
        apply congrArg
        unfold arrV
        congr 1
        apply congrArg
        funext j
        have h3 := (hrow j.val j.isLt).2.2
        show va_rf (if j.val < v.toNatClampNeg then some (H.size + 1 + j.val) else none) = va_rf ((c_rf σ' σ.1 j.val).map ad)
        rw [if_pos j.isLt]
        unfold c_rf
        rw [h3.2.1, if_pos rfl, h3.1, Option.map_some, had _ (by have := j.isLt; omega), hH]
        congr 2
        omega
      · obtain ⟨i, rfl⟩ : ∃ i, k = σ.1 + 1 + i := ⟨k - (σ.1 + 1), by omega⟩
        have hi : i < v.toNatClampNeg := by omega
        obtain ⟨h1, h2, -, -, h5⟩ := hrow i hi
        rw [c_cell_i h1, h2]
        show F.heap[ad (σ.1 + 1 + i)]? = some (vp_cell _ _)
        rw [had _ (by omega), show base + (σ.1 + 1 + i) = H.size + 1 + i by omega, hin i hi, e2, c_zero h5, ← arrV_new (cy 13) u.toNatClampNeg (.int 0)]
        exact congrArg some (show Jvm.Free.Multi.innerC (cy 13) u.toNatClampNeg (.int 0) = _ from by unfold Jvm.Free.Multi.innerC; rfl)
  have hS1 : va_S (c_A base) s.heap F.heap locs := ⟨by rw [f1]; have := hS.1; omega, fun x h1 h2 => (hold x (Nat.lt_of_lt_of_le h1 hS.1)).trans (hS.2.1 x h1 h2), hS.2.2⟩
  have X2 : Stand p l e R s m args below meth c F locs (cells + (1 + v.toNatClampNeg)) (slots + (v.toNatClampNeg + v.toNatClampNeg * u.toNatClampNeg)) := by
    rw [← Nat.add_assoc, ← Nat.add_assoc]
    exact X'
  obtain ⟨t, a1, b1⟩ := kk (by omega) (by omega) ls F.heap locs hl hP1 hS1 F rfl X2
  refine ⟨t, step t ?_, b1⟩
  have e9 : X.heap.size = ad σ.1 := by rw [hT, hH, had σ.1 (by omega)]
  rw [e9]
  exact a1
end Cy
