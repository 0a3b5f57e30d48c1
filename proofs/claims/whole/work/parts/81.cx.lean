/-! constructors as pure programs -/
def c_rm (d : Nat) (lim : Nat × Nat) (n0 s0 : Nat) : Room := { frames := d, cells := lim.1 - n0, slots := lim.2 - s0, locals := 40 * d }
def c_Pc (D : va_G) (cy : Nat → ClassId) (ad : Nat → Nat) (base : Nat) (as : List Value) (σ : xS) : Array Value → State → Prop :=
  va_Pc (as.map (x_cv ad)) (fun U => U.heap.size = base + σ.1 ∧ σ.1 ≤ x_N ∧ va_P D vwCl (c_W cy ad σ) U.heap ∧ va_K D vwCl (x_tys cy) U ∧ c_ad ad base ∧ c_O U)
def c_Q (D : va_G) (cy : Nat → ClassId) (ad : Nat → Nat) (base : Nat) (σ : xS) : Array Value → State → Outcome → State → Prop :=
  fun _ st o t => o = .returned none ∧ va_P D vwCl (c_W cy ad σ) t.heap ∧ va_F (c_A base) st t ∧ σ.1 ≤ x_N
theorem c_blind {D : va_G} {cy : Nat → ClassId} {ad : Nat → Nat} {base : Nat} {as : List Value} {σ : xS} : FrameBlind (c_Pc D cy ad base as σ) := by
  intro a U g mk h
  obtain ⟨h1, h2, h3, h4, h5, h6, h7⟩ := h
  exact ⟨h1, h2, h3, h4, va_K.moved (u := U) (U := U.calling g mk a) (Vm.Alike.refl U.vm) h5, h6, c_O.same (s := U) rfl h7⟩
def Kx (G : xG) (base : Nat) (M : xM) (d : Nat) (lim : Nat × Nat) (as : List Value) (σ : xS) (o : Option xS) : Prop :=
  ∀ σ', o = some σ' → Met G.1 M.1 (x_wsM M) (c_rm d lim σ.1 σ.2.1) (c_Pc G.2.1 G.2.2.1 G.2.2.2 base as σ) (c_Q G.2.1 G.2.2.1 G.2.2.2 base σ') (lim.1 - σ.1) (lim.2 - σ.2.1) (c_A base)
def Cx (G : xG) (base : Nat) (M : xM) (d n0 s0 : Nat) (lim : Nat × Nat) (pc : Nat) (L : List (Option Value)) (st : List Value) (σ : xS) (o : Option xS) : Prop :=
  ∀ σ', o = some σ' → n0 ≤ σ.1 → s0 ≤ σ.2.1 → ∀ (p : Program) (e : Env) (s : State) (m : MethodId) (args : Array Value) (below : List Frame) (meth : Method) (c : Code), c_E G.2.1 G.2.2.1 G.2.2.2 base n0 M p s m args c → meth.sig.returnType = M.2.2.2 → meth.locks = false → meth.name = "<init>" →
    Cy p G.1 e (c_rm d lim n0 s0) s m args below meth c (σ.1 - n0) (σ.2.1 - s0) (MQ below (c_Q G.2.1 G.2.2.1 G.2.2.2 base σ') args s (lim.1 - n0) (lim.2 - s0) (c_A base)) G.2.1 G.2.2.1 G.2.2.2 base n0 M pc L st σ
theorem kx_enter {G : xG} {base : Nat} {M : xM} {d : Nat} {lim : Nat × Nat} {as : List Value} {σ : xS} {o : Option xS} (ok : x_ok M) (hM : M.1.name = "<init>") (L : List (Option Value)) (hL : x_ent as M.2.2.1 = L) (hn : (x_entl as).length ≤ M.2.2.1) (k : Cx G base M d σ.1 σ.2.1 lim 0 L [] σ o) : Kx G base M d lim as σ o := by
  intro σ' ho
  obtain ⟨hcode, hpl, -, -, -⟩ := ok
  refine Met.ofW (cc := M.2.1) (maxL := M.2.2.1) (ret := M.2.2.2) hpl rfl ?_
  intro p e s m args below meth c s₁ B hml hv
  obtain ⟨rfl, hsz, hN, hP, hK, had, hO⟩ := hv
  have hts0 := atoms_spec (ws := x_wsM M) B.pre
  have hlen : (lg_sl (as.map (x_cv G.2.2.2))).length ≤ M.2.2.1 := by rw [← x_entl_len]; exact hn
  have hl := lv_entry (as.map (x_cv G.2.2.2)) (n := M.2.2.1) hlen
  rw [lg_entry_eq]
  have hl2 : x_LR G.2.2.2 (lg_sl (as.map (x_cv G.2.2.2)) ++ List.replicate (M.2.2.1 - (lg_sl (as.map (x_cv G.2.2.2))).length) Slot.unset).toArray M.2.2.1 L := by
    subst hL
    refine ⟨hl.1, by simp only [x_ent, List.length_append, List.length_replicate]; omega, hl.2.1, fun i v hi => ?_⟩
    unfold x_ent at hi
    rw [List.getElem?_append] at hi
    split at hi
    · next hlt =>
      rw [List.getElem?_toArray, List.getElem?_append_left (by rw [← x_entl_len]; exact hlt)]
      exact x_entl_at _ _ i v hi
    · rw [List.getElem?_replicate] at hi
      split at hi <;> cases hi
  have h := k σ' ho (Nat.le_refl _) (Nat.le_refl _) p e s m _ below meth c ⟨B.exec, B.bytes, hml, findClass_of_methodNamed B.named, fun w h => hts0 w (List.mem_cons_of_mem _ h), hK, had, hsz, hO⟩ B.returns B.notSynchronized ((name_of_methodNamed B.named B.method).1.trans hM)
  rw [Nat.sub_self, Nat.sub_self] at h
  exact h rfl hN _ s.heap [] hl2 hP va_S.rf
section CB
variable {p : Program} {l : Launch} {e : Env} {R : Room} {s : State} {m : MethodId} {args : Array Value} {below : List Frame} {meth : Method} {c : Code} {cells slots : Nat} {Qf : State → Prop} {D : va_G} {cy : Nat → ClassId} {ad : Nat → Nat} {base n0 : Nat} {M : xM} {pc : Nat} {L : List (Option Value)} {st : List Value} {σ : xS}
theorem c_size (E : c_E D cy ad base n0 M p s m args c) {H : Heap} {locs : List Loc} (hcn : n0 + cells = σ.1) (hn : σ.1 ≤ x_N) (hP : va_P D vwCl (c_W cy ad σ) H) (hS : va_S (c_A base) s.heap H locs) (hszH : H.size ≤ s.heap.size + cells) : H.size = base + σ.1 := by
  obtain ⟨hx, hb, hml, hown, hts, hK, had, hs, hO⟩ := E
  by_cases h0 : σ.1 = 0
  · have := hS.1; omega
  · have h1 := c_W_at (cy := cy) (ad := ad) (σ := σ) (k := σ.1 - 1) (by omega)
    have h2 : ad (σ.1 - 1) < H.size := (hP _ _ h1).lt
    rw [had (σ.1 - 1) (by omega)] at h2
    omega
theorem cy_back (E : c_E D cy ad base n0 M p s m args c) {σ' σ2 : xS} {dn ds : Nat} {rest st0 : List Value} {a : Array Value} {ls : Array Slot} {H : Heap} {locs : List Loc} (hcn : n0 + cells = σ.1) (hl : x_LR ad ls M.2.2.1 L) (hS : va_S (c_A base) s.heap H locs)
    (hr : va_Run p l e R s m args below meth c H locs cells slots dn ds (F0 m pc ls st0) (rest.map (x_cv ad)) (c_Q D cy ad base σ' a) (c_A base)) (hσ : σ'.1 = σ.1 + dn) (e1 : σ2.1 = σ'.1) (e2 : σ2.2.2 = σ'.2.2)
    (kk : Cy p l e R s m args below meth c (cells + dn) (slots + ds) Qf D cy ad base n0 M (pc + 3) L rest σ2) : W p l e R s m args below meth c H locs cells slots Qf (F0 m pc ls st0) := by
  intro T hT X
  obtain ⟨v, st₀, t, T', Lc, h0, X', hL, e3, e4, ⟨hv, hP1, ⟨hz, hk⟩, hN⟩, go⟩ := hr T hT X
  cases hv
  rw [h0] at hz hk
  have hS' : va_S (c_A base) s.heap T'.heap (locs ++ Lc) := by
    refine ⟨Nat.le_trans hS.1 (by rw [e3]; exact hz), fun q h1 h2 => ?_, fun q hq => ?_⟩
    · rw [e3, hk q (Nat.lt_of_lt_of_le h1 hS.1) h2]
      exact hS.2.1 q h1 h2
    · rcases List.mem_append.mp hq with h | h
      · exact hS.2.2 q h
      · exact hL q h
  have hW : c_W cy ad σ2 = c_W cy ad σ' := by
    unfold c_W
    rw [e1]
    apply List.map_congr_left
    intro k _
    simp only [c_cell, c_fv, c_rf, e2]
  obtain ⟨t2, a1, b1⟩ := kk (by omega) (by omega) ls T'.heap (locs ++ Lc) hl (by rw [hW, e3]; exact hP1) hS' T' rfl X'
  exact ⟨t2, go t2 a1, b1⟩
/-- what the tables say of a call of a constructor -/
def x_CI (own : String) (idx : Nat) (M' : xM) (n : Nat) (s : State) (args : Array Value) : Prop := ((Cond.methodLink own idx M'.1).before args s = true ∨ ∃ host, va_Nw (.methodLinkNest own idx M'.1 host) s) ∧ Cond.instanceMethod M'.1 ∈ x_ws ∧ M'.1.name = "<init>" ∧ (parseMethodDescriptor M'.1.desc).map (fun d => d.parameters.length) = some n ∧ x_ok M' ∧ M'.2.2.2 = none
theorem cy_callI (E : c_E D cy ad base n0 M p s m args c) {M' : xM} {d idx k n dn ds : Nat} {As rest : List Value} {σ' σ2 : xS} {lim : Nat × Nat} (hlim : lim = (σ.1 + dn, σ.2.1 + ds)) (hR : d + 1 ≤ R.frames ∧ 40 * (d + 1) ≤ R.locals) (hcs : cells + dn ≤ R.cells ∧ slots + ds ≤ R.slots)
    (C : x_CI M.1.cls idx M' n s args) (hn1 : As.length = n) (hrest : (rest.map fun v => v.category).sum ≤ 8) (hst : st = As.reverse ++ .ref k :: rest) (hd : decode M.2.1 pc = .ok (.invokespecial idx, 3))
    (hM : Met l M'.1 (x_wsM M') (c_rm d lim σ.1 σ.2.1) (c_Pc D cy ad base (.ref k :: As) σ) (c_Q D cy ad base σ') (lim.1 - σ.1) (lim.2 - σ.2.1) (c_A base)) (hσ : σ'.1 = σ.1 + dn) (e1 : σ2.1 = σ'.1) (e2 : σ2.2.2 = σ'.2.2)
    (kk : Cy p l e R s m args below meth c (cells + dn) (slots + ds) Qf D cy ad base n0 M (pc + 3) L rest σ2) : Cy p l e R s m args below meth c cells slots Qf D cy ad base n0 M pc L st σ := by
  intro hcn hn ls H locs hl hP hS
  refine W.size (fun hszH => ?_)
  have hH := c_size E hcn hn hP hS hszH
  obtain ⟨hx, hb, hml, hown, hts, hK, had, hs, hO⟩ := id E
  obtain ⟨hlink, hinst, hnm1, hpd, ⟨hcode, hpl, hnm, hini, hnL⟩, hret⟩ := C
  subst hlim
  have q1 : σ.1 + dn - σ.1 = dn := by omega
  have q2 : σ.2.1 + ds - σ.2.1 = ds := by omega
  dsimp only at hM
  have hrm : c_rm d (σ.1 + dn, σ.2.1 + ds) σ.1 σ.2.1 = { frames := d, cells := dn, slots := ds, locals := 40 * d } := by unfold c_rm; dsimp only; rw [q1, q2]
  rw [hrm, q1, q2] at hM
  rw [hret] at hcode
  have hw : x_wsM M' = Cond.code M'.1 M'.2.1 M'.2.2.1 none :: x_ws := by unfold x_wsM; rw [hret]
  subst hst
  have hG : GoodIn x_ws (x_wsM M') := by rw [hw]; intro w hw2; rcases List.mem_cons.mp hw2 with rfl | h; exact ⟨hcode, good_of_word (List.mem_filter.mp hcode).2⟩; exact ⟨h, good_of_word (List.mem_filter.mp h).2⟩
  have hpre : PreS s H (c_Pc D cy ad base (.ref k :: As) σ) (.ref (ad k) :: As.map (x_cv ad)) := ⟨c_blind, fun U hU hW => ⟨rfl, by rw [hU]; exact hH, hn, by rw [hU]; exact hP, va_K.moved hW.alike hK, had, hO.warm hW⟩⟩
  have hR2 : ({ frames := d, cells := dn, slots := ds, locals := 40 * d } : Room).frames + 1 ≤ R.frames ∧ 8 + (M'.2.2.1 + 11) + ({ frames := d, cells := dn, slots := ds, locals := 40 * d } : Room).locals ≤ R.locals := ⟨hR.1, by show 8 + (M'.2.2.1 + 11) + 40 * d ≤ R.locals; omega⟩
  rcases hlink with hlink | ⟨host, hlink⟩
  · exact cy_back E hcn hl hS (va_runI (cc := M.2.1) (nL := M.2.2.1) (As := As.map (x_cv ad)) (n := n) (b := ad k) (Ts := x_ws) (own := M.1.cls) ⟨hx, hb, hml, hown, hts⟩ hM
      ⟨callB_of n hts hG hw rfl rfl (hts _ hini) hlink ⟨hnm.1, hnm.2, hpd⟩ hR2, hnm1, hts _ hinst⟩ hpre rfl (by rw [List.length_map]; exact hn1) hl.1 (by simp [x_cv]) (lv_room (by rw [x_rest]; exact hrest)) hd hcs) hσ e1 e2 kk
  · exact cy_back E hcn hl hS (va_runIN (cc := M.2.1) (nL := M.2.2.1) (As := As.map (x_cv ad)) (n := n) (b := ad k) (Ts := x_ws) (own := M.1.cls) (host := host) ⟨hx, hb, hml, hown, hts⟩ hM
      ⟨va_cnB n hts hG hw rfl rfl hlink (hts _ hini) ⟨hnm.1, hnm.2, hpd⟩ hR2, hnm1, hts _ hinst⟩ hpre rfl (by rw [List.length_map]; exact hn1) hl.1 (by simp [x_cv]) (lv_room (by rw [x_rest]; exact hrest)) hd hcs) hσ e1 e2 kk
end CB
/-! programs -/
def c_zi (σ : xS) (k N : Nat) : Bool := (List.range N).all (fun j => σ.2.2.1 k j == 0)
def c_zm (σ : xS) (k N : Nat) : Bool := (List.range N).all (fun j => !(σ.2.2.2 k j))
def c_nb (lim : Nat × Nat) (σ : xS) (kd N : Nat) : Bool := decide (σ.1 < x_N) && (x_kd σ.1 == kd) && (x_sz σ.1 == N) && decide (σ.1 + 1 ≤ lim.1) && decide (σ.2.1 + N ≤ lim.2) && (decide (15 ≤ kd) || c_zi σ σ.1 N) && (decide (13 ≤ kd ∧ kd < 15) || c_zm σ σ.1 N)
def c_new (lim : Nat × Nat) (σ : xS) (kd N : Nat) (f : xS → Option xS) : Option xS := bif c_nb lim σ kd N then f (σ.1 + 1, σ.2.1 + N, σ.2.2) else none
def c_newa (lim : Nat × Nat) (σ : xS) (kd : Nat) (v : Int32) (f : xS → Option xS) : Option xS := bif !(decide (v < 0)) && decide (v.toNatClampNeg ≤ 1000) && c_nb lim σ kd v.toNatClampNeg then f (σ.1 + 1, σ.2.1 + v.toNatClampNeg, σ.2.2) else none
def c_putr (σ : xS) (k j r ci : Nat) (f : xS → Option xS) : Option xS := bif decide (k < σ.1) && (x_kd k == ci) && (x_rf k j == some r) then f (σ.1, σ.2.1, σ.2.2.1, c_mak σ.2.2.2 k j) else none
def c_getr (σ : xS) (k j ci : Nat) (f : Nat → Option xS) : Option xS := bif decide (k < σ.1) && (x_kd k == ci) && σ.2.2.2 k j then (match x_rf k j with
  | some r => f r
  | none => none) else none
def c_iast (σ : xS) (k : Nat) (i v : Int32) (f : xS → Option xS) : Option xS := bif decide (k < σ.1) && (x_kd k == 13) && x_inb i (x_sz k) then f (σ.1, σ.2.1, x_wr σ.2.2.1 k i.toNatClampNeg v, σ.2.2.2) else none
def c_aast (σ : xS) (k : Nat) (i : Int32) (r ck cr : Nat) (f : xS → Option xS) : Option xS := bif decide (k < σ.1) && (x_kd k == ck) && decide (r < σ.1) && (x_kd r == cr) && x_inb i (x_sz k) && (x_rf k i.toNatClampNeg == some r) then f (σ.1, σ.2.1, σ.2.2.1, c_mak σ.2.2.2 k i.toNatClampNeg) else none
def c_rowb (σ : xS) (N K : Nat) : Bool := (List.range N).all (fun i => (x_kd (σ.1 + 1 + i) == 13) && (x_sz (σ.1 + 1 + i) == K) && (x_rf σ.1 i == some (σ.1 + 1 + i)) && c_zi σ (σ.1 + 1 + i) K)
def c_multi (lim : Nat × Nat) (σ : xS) (v u : Int32) (f : xS → Option xS) : Option xS := bif !(decide (v < 0)) && !(decide (u < 0)) && decide (v.toNatClampNeg ≤ 1000) && decide (u.toNatClampNeg ≤ 1000) && decide (σ.1 + v.toNatClampNeg < x_N) && (x_kd σ.1 == 17) && (x_sz σ.1 == v.toNatClampNeg) && c_rowb σ v.toNatClampNeg u.toNatClampNeg && decide (σ.1 + (1 + v.toNatClampNeg) ≤ lim.1) && decide (σ.2.1 + (v.toNatClampNeg + v.toNatClampNeg * u.toNatClampNeg) ≤ lim.2)
  then f (σ.1 + 1 + v.toNatClampNeg, σ.2.1 + (v.toNatClampNeg + v.toNatClampNeg * u.toNatClampNeg), σ.2.2.1, fun a b => if a = σ.1 then true else σ.2.2.2 a b) else none
def c_ret (lim : Nat × Nat) (σ : xS) : Option xS := bif decide (σ.1 ≤ lim.1) && decide (σ.2.1 ≤ lim.2) then some σ else none
def c_call (dn ds : Nat) (lim : Nat × Nat) (σ : xS) (g : Nat × Nat → Option xS) (f : xS → Option xS) : Option xS := bif decide (σ.1 + dn ≤ lim.1) && decide (σ.2.1 + ds ≤ lim.2) then (g (σ.1 + dn, σ.2.1 + ds)).bind (fun σ1 => bif σ1.1 == σ.1 + dn then f (σ1.1, σ.2.1 + ds, σ1.2.2) else none) else none
section CX
variable {G : xG} {base : Nat} {M : xM} {d n0 s0 : Nat} {lim : Nat × Nat} {pc : Nat} {L : List (Option Value)} {st : List Value} {σ : xS} {o o2 : Option xS}
theorem cx_none : Cx G base M d n0 s0 lim pc L st σ none := fun a ho => by cases ho
theorem cx_blk (is : List Instr) {pc' : Nat} {L' : List (Option Value)} {st' : List Value} (h1 : x_dec M.2.1 pc is = true) (h2 : x_evs is L st = some (L', st')) (h3 : pc + x_szs is = pc') (k : Cx G base M d n0 s0 lim pc' L' st' σ o) : Cx G base M d n0 s0 lim pc L st σ o :=
  fun a ho a1 a2 p e s m args below meth c E hr hk hm => cy_blk E is h1 h2 h3 (k a ho a1 a2 p e s m args below meth c E hr hk hm)
theorem cx_goto (tgt : Nat) {off : Int} (hd : decode M.2.1 pc = .ok (.goto off, 3)) (ht : (pc : Int) + off = (tgt : Int)) (k : Cx G base M d n0 s0 lim tgt L st σ o) : Cx G base M d n0 s0 lim pc L st σ o :=
  fun a ho a1 a2 p e s m args below meth c E hr hk hm => cy_goto E hd ht (k a ho a1 a2 p e s m args below meth c E hr hk hm)
theorem cx_ic_ge (tgt : Nat) {x y : Int32} {off : Int} (hd : decode M.2.1 pc = .ok (.if_icmp .ge off, 3)) (ht : (pc : Int) + off = (tgt : Int)) (kt : Cx G base M d n0 s0 lim tgt L st σ o) (kf : Cx G base M d n0 s0 lim (pc + 3) L st σ o2) : Cx G base M d n0 s0 lim pc L (.int y :: .int x :: st) σ (if y ≤ x then o else o2) :=
  fun a ho a1 a2 p e s m args below meth c E hr hk hm => cy_ic_ge E hd ht (fun h => kt a (x_ifp ho h) a1 a2 p e s m args below meth c E hr hk hm) (fun h => kf a (x_ifn ho h) a1 a2 p e s m args below meth c E hr hk hm)
theorem cx_obj {k idx : Nat} (hd1 : 1 ≤ d) (hw : Cond.methodLink M.1.cls idx Lib.objectInit ∈ x_ws) (hi : Cond.instanceMethod Lib.objectInit ∈ x_ws) (hcd : Cond.code Lib.objectInit ⟨#[0xb1]⟩ 1 none ∈ x_ws) (hrest : (st.map fun v => v.category).sum ≤ 8) (hd : decode M.2.1 pc = .ok (.invokespecial idx, 3)) (k1 : Cx G base M d n0 s0 lim (pc + 3) L st σ o) : Cx G base M d n0 s0 lim pc L (.ref k :: st) σ o :=
  fun a ho a1 a2 p e s m args below meth c E hr hk hm => cy_obj E hw hi hcd ⟨hd1, by show 40 ≤ 40 * d; omega⟩ hrest hd (k1 a ho a1 a2 p e s m args below meth c E hr hk hm)
theorem c_nb_at {kd N : Nat} (h : c_nb lim σ kd N = true) : σ.1 < x_N ∧ x_kd σ.1 = kd ∧ x_sz σ.1 = N ∧ σ.1 + 1 ≤ lim.1 ∧ σ.2.1 + N ≤ lim.2 ∧ (kd < 15 → ∀ j, j < N → σ.2.2.1 σ.1 j = 0) ∧ (¬ (13 ≤ kd ∧ kd < 15) → ∀ j, j < N → σ.2.2.2 σ.1 j = false) := by
  simp only [c_nb, Bool.and_eq_true, decide_eq_true_eq, beq_iff_eq, Bool.or_eq_true] at h
  obtain ⟨⟨⟨⟨⟨⟨h1, h2⟩, h3⟩, h4⟩, h5⟩, h6⟩, h7⟩ := h
  refine ⟨h1, h2, h3, h4, h5, fun hk j hj => ?_, fun hk j hj => ?_⟩
  · rcases h6 with h6 | h6
    · omega
    · have := List.all_eq_true.mp h6 j (List.mem_range.mpr hj)
      simpa using this
  · rcases h7 with h7 | h7
    · exact absurd h7 hk
    · have := List.all_eq_true.mp h7 j (List.mem_range.mpr hj)
      simpa using this
theorem cx_new {idx ci N : Nat} {C : String} {T : u_T} {ty0 : Nat → FieldType} {f : xS → Option xS} (hc : vwCl[ci]? = some (C, T, N)) (hci : ci < 13) (hin : ∀ w ∈ u_ws C T N, w ∈ x_ws) (hty : ∀ k, k < N → parseFieldDescriptor (T k).2.2.1 = some (ty0 k)) (hdef : ∀ j, j < N → defaultValue (ty0 j) = if x_fr ci j then .null else .int 0) (hcl : Cond.classLink M.1.cls idx C ∈ x_ws) (hins : Cond.instantiable C N ∈ x_ws) (hini : Cond.initialized C ∈ x_ws)
    (hd : decode M.2.1 pc = .ok (.new idx, 3)) (kk : ∀ σ', Cx G base M d n0 s0 lim (pc + 3) L (.ref σ.1 :: st) σ' (f σ')) : Cx G base M d n0 s0 lim pc L st σ (c_new lim σ ci N f) := by
  intro a ho a1 a2 p e s m args below meth c E hr hk hm
  obtain ⟨h1, h2⟩ := x_bt ho
  obtain ⟨g1, g2, g3, g4, g5, g6, g7⟩ := c_nb_at h1
  refine cy_new (σ' := (σ.1 + 1, σ.2.1 + N, σ.2.2)) E hc hci hin hty hcl hins hini g1 g2 (fun j hj => ?_) rfl rfl (by show _ ≤ lim.1 - n0; omega) (by show _ ≤ lim.2 - s0; omega) hd ?_
  · have z1 := g6 (by omega) j hj
    have z2 := g7 (by omega) j hj
    rw [hdef j hj]
    unfold c_fv c_rf
    rw [g2, z1, z2]
    cases x_fr ci j <;> exact ⟨rfl, rfl⟩
  · have h3 := kk _ a h2 (by show n0 ≤ σ.1 + 1; omega) (by show s0 ≤ σ.2.1 + N; omega) p e s m args below meth c E hr hk hm
    rw [show σ.1 - n0 + 1 = σ.1 + 1 - n0 by omega, show σ.2.1 - s0 + N = σ.2.1 + N - s0 by omega]
    exact h3
theorem cx_newi {v : Int32} {f : xS → Option xS} (hw : Cond.arrayClass .int ∈ x_ws) (hd : decode M.2.1 pc = .ok (.newarray .int, 2)) (kk : ∀ σ', Cx G base M d n0 s0 lim (pc + 2) L (.ref σ.1 :: st) σ' (f σ')) : Cx G base M d n0 s0 lim pc L (.int v :: st) σ (c_newa lim σ 13 v f) := by
  intro a ho a1 a2 p e s m args below meth c E hr hk hm
  obtain ⟨h1, h2⟩ := x_bt ho
  simp only [Bool.and_eq_true, decide_eq_true_eq, Bool.not_eq_true', decide_eq_false_iff_not] at h1
  obtain ⟨g1, g2, g3, g4, g5, g6, g7⟩ := c_nb_at h1.2
  have h3 := kk _ a h2 (by show n0 ≤ σ.1 + 1; omega) (by show s0 ≤ σ.2.1 + v.toNatClampNeg; omega) p e s m args below meth c E hr hk hm
  refine cy_newi (σ' := (σ.1 + 1, σ.2.1 + v.toNatClampNeg, σ.2.2)) E hw h1.1.1 rfl h1.1.2 g1 g2 g3 (fun j hj => g6 (by decide) j hj) rfl rfl (by show _ ≤ lim.1 - n0; omega) (by show _ ≤ lim.2 - s0; omega) hd ?_
  rw [show σ.1 - n0 + 1 = σ.1 + 1 - n0 by omega, show σ.2.1 - s0 + v.toNatClampNeg = σ.2.1 + v.toNatClampNeg - s0 by omega]
  exact h3
theorem cx_newz {v : Int32} {f : xS → Option xS} (hw : Cond.arrayClass .boolean ∈ x_ws) (hd : decode M.2.1 pc = .ok (.newarray .boolean, 2)) (kk : ∀ σ', Cx G base M d n0 s0 lim (pc + 2) L (.ref σ.1 :: st) σ' (f σ')) : Cx G base M d n0 s0 lim pc L (.int v :: st) σ (c_newa lim σ 14 v f) := by
  intro a ho a1 a2 p e s m args below meth c E hr hk hm
  obtain ⟨h1, h2⟩ := x_bt ho
  simp only [Bool.and_eq_true, decide_eq_true_eq, Bool.not_eq_true', decide_eq_false_iff_not] at h1
  obtain ⟨g1, g2, g3, g4, g5, g6, g7⟩ := c_nb_at h1.2
  have h3 := kk _ a h2 (by show n0 ≤ σ.1 + 1; omega) (by show s0 ≤ σ.2.1 + v.toNatClampNeg; omega) p e s m args below meth c E hr hk hm
  refine cy_newz (σ' := (σ.1 + 1, σ.2.1 + v.toNatClampNeg, σ.2.2)) E hw h1.1.1 rfl h1.1.2 g1 g2 g3 (fun j hj => g6 (by decide) j hj) rfl rfl (by show _ ≤ lim.1 - n0; omega) (by show _ ≤ lim.2 - s0; omega) hd ?_
  rw [show σ.1 - n0 + 1 = σ.1 + 1 - n0 by omega, show σ.2.1 - s0 + v.toNatClampNeg = σ.2.1 + v.toNatClampNeg - s0 by omega]
  exact h3
theorem cx_newB {v : Int32} {idx : Nat} {f : xS → Option xS} (hcl : Cond.classLink M.1.cls idx "WakingLayers$Body" ∈ x_ws) (hd : decode M.2.1 pc = .ok (.anewarray idx, 3)) (kk : ∀ σ', Cx G base M d n0 s0 lim (pc + 3) L (.ref σ.1 :: st) σ' (f σ')) : Cx G base M d n0 s0 lim pc L (.int v :: st) σ (c_newa lim σ 15 v f) := by
  intro a ho a1 a2 p e s m args below meth c E hr hk hm
  obtain ⟨h1, h2⟩ := x_bt ho
  simp only [Bool.and_eq_true, decide_eq_true_eq, Bool.not_eq_true', decide_eq_false_iff_not] at h1
  obtain ⟨g1, g2, g3, g4, g5, g6, g7⟩ := c_nb_at h1.2
  have h3 := kk _ a h2 (by show n0 ≤ σ.1 + 1; omega) (by show s0 ≤ σ.2.1 + v.toNatClampNeg; omega) p e s m args below meth c E hr hk hm
  refine cy_newB (σ' := (σ.1 + 1, σ.2.1 + v.toNatClampNeg, σ.2.2)) E hcl h1.1.1 rfl h1.1.2 g1 g2 g3 (fun j hj => g7 (by decide) j (by omega)) rfl rfl (by show _ ≤ lim.1 - n0; omega) (by show _ ≤ lim.2 - s0; omega) hd ?_
  rw [show σ.1 - n0 + 1 = σ.1 + 1 - n0 by omega, show σ.2.1 - s0 + v.toNatClampNeg = σ.2.1 + v.toNatClampNeg - s0 by omega]
  exact h3
theorem cx_newL {v : Int32} {idx : Nat} {f : xS → Option xS} (hcl : Cond.classLink M.1.cls idx "WakingLayers$Layer" ∈ x_ws) (hd : decode M.2.1 pc = .ok (.anewarray idx, 3)) (kk : ∀ σ', Cx G base M d n0 s0 lim (pc + 3) L (.ref σ.1 :: st) σ' (f σ')) : Cx G base M d n0 s0 lim pc L (.int v :: st) σ (c_newa lim σ 16 v f) := by
  intro a ho a1 a2 p e s m args below meth c E hr hk hm
  obtain ⟨h1, h2⟩ := x_bt ho
  simp only [Bool.and_eq_true, decide_eq_true_eq, Bool.not_eq_true', decide_eq_false_iff_not] at h1
  obtain ⟨g1, g2, g3, g4, g5, g6, g7⟩ := c_nb_at h1.2
  have h3 := kk _ a h2 (by show n0 ≤ σ.1 + 1; omega) (by show s0 ≤ σ.2.1 + v.toNatClampNeg; omega) p e s m args below meth c E hr hk hm
  refine cy_newL (σ' := (σ.1 + 1, σ.2.1 + v.toNatClampNeg, σ.2.2)) E hcl h1.1.1 rfl h1.1.2 g1 g2 g3 (fun j hj => g7 (by decide) j (by omega)) rfl rfl (by show _ ≤ lim.1 - n0; omega) (by show _ ≤ lim.2 - s0; omega) hd ?_
  rw [show σ.1 - n0 + 1 = σ.1 + 1 - n0 by omega, show σ.2.1 - s0 + v.toNatClampNeg = σ.2.1 + v.toNatClampNeg - s0 by omega]
  exact h3
theorem cx_multi {v u : Int32} {idx : Nat} {f : xS → Option xS} (hw : Cond.arrayClass .int ∈ x_ws) (hcl : Cond.classLink M.1.cls idx "[[I" ∈ x_ws) (hd : decode M.2.1 pc = .ok (.multianewarray idx 2, 4)) (kk : ∀ σ', Cx G base M d n0 s0 lim (pc + 4) L (.ref σ.1 :: st) σ' (f σ')) : Cx G base M d n0 s0 lim pc L (.int u :: .int v :: st) σ (c_multi lim σ v u f) := by
  intro a ho a1 a2 p e s m args below meth c E hr hk hm
  obtain ⟨h1, h2⟩ := x_bt ho
  simp only [Bool.and_eq_true, decide_eq_true_eq, Bool.not_eq_true', decide_eq_false_iff_not, beq_iff_eq] at h1
  obtain ⟨⟨⟨⟨⟨⟨⟨⟨⟨g1, g2⟩, g3⟩, g4⟩, g5⟩, g6⟩, g7⟩, g8⟩, g9⟩, g10⟩ := h1
  have h3 := kk _ a h2 (by show n0 ≤ σ.1 + 1 + v.toNatClampNeg; omega) (by show s0 ≤ σ.2.1 + _; omega) p e s m args below meth c E hr hk hm
  refine cy_multi (σ' := (σ.1 + 1 + v.toNatClampNeg, σ.2.1 + (v.toNatClampNeg + v.toNatClampNeg * u.toNatClampNeg), σ.2.2.1, fun a b => if a = σ.1 then true else σ.2.2.2 a b)) E hw hcl g1 g2 rfl rfl g3 g4 g5 g6 g7 (fun i hi => ?_) rfl rfl (fun a ha => by funext b; simp [ha]) (by show _ ≤ lim.1 - n0; omega) (by show _ ≤ lim.2 - s0; omega) hd ?_
  · have h4 := List.all_eq_true.mp g8 i (List.mem_range.mpr hi)
    simp only [Bool.and_eq_true, beq_iff_eq] at h4
    refine ⟨h4.1.1.1, h4.1.1.2, h4.1.2, by simp, fun j hj => ?_⟩
    have := List.all_eq_true.mp h4.2 j (List.mem_range.mpr hj)
    simpa using this
  · rw [show σ.1 - n0 + (1 + v.toNatClampNeg) = σ.1 + 1 + v.toNatClampNeg - n0 by omega, show σ.2.1 - s0 + (v.toNatClampNeg + v.toNatClampNeg * u.toNatClampNeg) = σ.2.1 + (v.toNatClampNeg + v.toNatClampNeg * u.toNatClampNeg) - s0 by omega]
    exact h3
theorem cx_getr {k idx ci j N : Nat} {C : String} {T : u_T} {f : Nat → Option xS} (F : x_FF M.1.cls idx ci j C T N) (hf : x_fr ci j = true) (hd : decode M.2.1 pc = .ok (.getfield idx, 3)) (kk : ∀ r, Cx G base M d n0 s0 lim (pc + 3) L (.ref r :: st) σ (f r)) : Cx G base M d n0 s0 lim pc L (.ref k :: st) σ (c_getr σ k j ci f) := by
  intro a ho a1 a2 p e s m args below meth c E hr hk hm
  obtain ⟨h1, h2⟩ := x_bt ho
  simp only [Bool.and_eq_true, decide_eq_true_eq, beq_iff_eq] at h1
  split at h2
  · next r hr1 => exact cy_getr E h1.1.1 h1.1.2 F hf h1.2 hr1 hd (kk r a h2 a1 a2 p e s m args below meth c E hr hk hm)
  · cases h2
theorem cx_putr {k idx ci j N r : Nat} {C : String} {T : u_T} {ty0 : Nat → FieldType} {ty : FieldType} {f : xS → Option xS} (F : x_FF M.1.cls idx ci j C T N) (hf : x_fr ci j = true) (hown2 : C = M.1.cls) (hty : ∀ k, k < N → parseFieldDescriptor (T k).2.2.1 = some (ty0 k)) (hnm : ∀ a, a < N → ∀ b, b < N → a ≠ b → (T a).2.1 ≠ (T b).2.1) (hfin : (T j).2.2.2 = true) (hpd : parseFieldDescriptor (T j).2.2.1 = some ty) (hnf : ∀ a, narrow ty (.ref a) = .ref a ∧ fits ty (.ref a) = true)
    (hd : decode M.2.1 pc = .ok (.putfield idx, 3)) (kk : ∀ σ', Cx G base M d n0 s0 lim (pc + 3) L st σ' (f σ')) : Cx G base M d n0 s0 lim pc L (.ref r :: .ref k :: st) σ (c_putr σ k j r ci f) := by
  intro a ho a1 a2 p e s m args below meth c E hr hk hm
  obtain ⟨h1, h2⟩ := x_bt ho
  simp only [Bool.and_eq_true, decide_eq_true_eq, beq_iff_eq] at h1
  exact cy_putr (σ' := (σ.1, σ.2.1, σ.2.2.1, c_mak σ.2.2.2 k j)) E hm h1.1.1 h1.1.2 F hf h1.2 hown2 hty hnm hfin hpd hnf rfl rfl hd (kk _ a h2 a1 a2 p e s m args below meth c E hr hk hm)
theorem cx_iast {k : Nat} {i v : Int32} {f : xS → Option xS} (hd : decode M.2.1 pc = .ok (.iastore, 1)) (kk : ∀ σ', Cx G base M d n0 s0 lim (pc + 1) L st σ' (f σ')) : Cx G base M d n0 s0 lim pc L (.int v :: .int i :: .ref k :: st) σ (c_iast σ k i v f) := by
  intro a ho a1 a2 p e s m args below meth c E hr hk hm
  obtain ⟨h1, h2⟩ := x_bt ho
  simp only [Bool.and_eq_true, decide_eq_true_eq, beq_iff_eq] at h1
  exact cy_iast (σ' := (σ.1, σ.2.1, x_wr σ.2.2.1 k i.toNatClampNeg v, σ.2.2.2)) E h1.1.1 h1.1.2 (x_in_of h1.2) rfl rfl hd (kk _ a h2 a1 a2 p e s m args below meth c E hr hk hm)
theorem cx_aast {k r ck cr tk N : Nat} {C : String} {T : u_T} {i : Int32} {f : xS → Option xS} (hck : ¬ ck < 15) (ht : (x_tys G.2.2.1)[tk]? = some (G.2.2.1 ck, .object C)) (hcr : cr < 13) (hc : vwCl[cr]? = some (C, T, N)) (hd : decode M.2.1 pc = .ok (.aastore, 1)) (kk : ∀ σ', Cx G base M d n0 s0 lim (pc + 1) L st σ' (f σ')) : Cx G base M d n0 s0 lim pc L (.ref r :: .int i :: .ref k :: st) σ (c_aast σ k i r ck cr f) := by
  intro a ho a1 a2 p e s m args below meth c E hr hk hm
  obtain ⟨h1, h2⟩ := x_bt ho
  simp only [Bool.and_eq_true, decide_eq_true_eq, beq_iff_eq] at h1
  obtain ⟨⟨⟨⟨⟨g1, g2⟩, g3⟩, g4⟩, g5⟩, g6⟩ := h1
  exact cy_aast (σ' := (σ.1, σ.2.1, σ.2.2.1, c_mak σ.2.2.2 k i.toNatClampNeg)) E g1 g2 hck ht g3 g4 hcr hc (x_in_of g5) g6 rfl rfl hd (kk _ a h2 a1 a2 p e s m args below meth c E hr hk hm)
theorem cx_vret (hM : M.2.2.2 = none) (hd : decode M.2.1 pc = .ok (.return_, 1)) : Cx G base M d n0 s0 lim pc L [] σ (c_ret lim σ) := by
  intro a ho a1 a2 p e s m args below meth c E hr hk hm hcn hn ls H locs hl hP hS
  obtain ⟨h1, h2⟩ := x_bt ho
  simp only [Bool.and_eq_true, decide_eq_true_eq] at h1
  cases h2
  refine W.widen (k := lim.1 - n0) (n := lim.2 - s0) (by omega) (by omega) ?_
  exact W.vret E.1 E.2.1 (hr.trans hM) (fun t ht hW => ⟨rfl, by rw [ht]; exact hP, hS.F ht, hn⟩) hS.2.2 hd hk
theorem cx_call {M' : xM} {d1 idx k n dn ds : Nat} {As rest : List Value} {g : Nat × Nat → Option xS} {f : xS → Option xS} (hd1 : d1 < d) (C : ∀ (s : State) (args : Array Value), (∀ w ∈ x_ws, w.before args s = true) → c_O s → x_CI M.1.cls idx M' n s args) (hn1 : As.length = n) (hrest : (rest.map fun v => v.category).sum ≤ 8) (hK : ∀ lim, Kx G base M' d1 lim (.ref k :: As) σ (g lim)) (hst : st = As.reverse ++ .ref k :: rest) (hd : decode M.2.1 pc = .ok (.invokespecial idx, 3))
    (kk : ∀ σ', Cx G base M d n0 s0 lim (pc + 3) L rest σ' (f σ')) : Cx G base M d n0 s0 lim pc L st σ (c_call dn ds lim σ g f) := by
  intro a ho a1 a2 p e s m args below meth c E hr hk hm
  obtain ⟨h1, h2⟩ := x_bt ho
  simp only [Bool.and_eq_true, decide_eq_true_eq] at h1
  obtain ⟨σ1, h3, h4⟩ := Option.bind_eq_some_iff.mp h2
  obtain ⟨h5, h6⟩ := x_bt h4
  simp only [beq_iff_eq] at h5
  have h7 := kk _ a h6 (by show n0 ≤ σ1.1; omega) (by show s0 ≤ σ.2.1 + ds; omega) p e s m args below meth c E hr hk hm
  refine cy_callI (dn := dn) (ds := ds) (σ2 := (σ1.1, σ.2.1 + ds, σ1.2.2)) E rfl ⟨hd1, by show 40 * (d1 + 1) ≤ 40 * d; omega⟩ ⟨by show _ ≤ lim.1 - n0; omega, by show _ ≤ lim.2 - s0; omega⟩ (C s args E.2.2.2.2.1 E.2.2.2.2.2.2.2.2) hn1 hrest hst hd (hK _ σ1 h3) h5 rfl rfl ?_
  rw [show σ.1 - n0 + dn = σ1.1 - n0 by omega, show σ.2.1 - s0 + ds = σ.2.1 + ds - s0 by omega]
  exact h7
theorem cx_weak {L' : List (Option Value)} (h : x_sub L' L) (k : Cx G base M d n0 s0 lim pc L' st σ o) : Cx G base M d n0 s0 lim pc L st σ o :=
  fun a ho a1 a2 p e s m args below meth c E hr hk hm hcn hn ls H locs hl hP hS => k a ho a1 a2 p e s m args below meth c E hr hk hm hcn hn ls H locs ⟨hl.1, (x_sub_at h).1.trans hl.2.1, hl.2.2.1, fun i v hi => hl.2.2.2 i v ((x_sub_at h).2 i v hi)⟩ hP hS
end CX
