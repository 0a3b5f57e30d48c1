/-! pure programs over the memory, and what a method must do to be one -/
def x_isb (k c : Nat) : Bool := decide (k < x_N) && (x_kd k == c)
def x_inb (i : Int32) (n : Nat) : Bool := !(decide (i < 0)) && decide (i.toNatClampNeg < n)
def x_zok (v : Int32) : Bool := v == 0 || v == 1
def x_cok (v : Int32) : Bool := decide (0 ≤ v) && decide (v ≤ 65535)
def x_chk {α : Type} (k c : Nat) (o : Option α) : Option α := bif x_isb k c then o else none
def x_ald {α : Type} (μ : xMu) (k n : Nat) (i : Int32) (f : Int32 → Option α) : Option α := bif x_inb i n then f (μ k i.toNatClampNeg) else none
def x_ast {α : Type} (μ : xMu) (k n : Nat) (i v : Int32) (f : xMu → Option α) : Option α := bif x_inb i n then f (x_wr μ k i.toNatClampNeg v) else none
def x_put {α : Type} (μ : xMu) (k j : Nat) (v : Int32) (f : xMu → Option α) : Option α := f (x_wr μ k j v)
def x_rld {α : Type} (k n : Nat) (i : Int32) (f : Nat → Option α) : Option α := bif x_inb i n then (match x_rf k i.toNatClampNeg with
  | some r => f r
  | none => none) else none
def x_rfd {α : Type} (k j : Nat) (f : Nat → Option α) : Option α := match x_rf k j with
  | some r => f r
  | none => none
def x_tst {α : Type} (b : Bool) (o : Option α) : Option α := bif b then o else none
def x_abo {α : Type} (i : Int32) (f : Int32 → Option α) : Option α := bif x_inb i 6 then f (x_aboL.getD i.toNatClampNeg 0) else none
def x_sw {α : Type} (x lo : Int32) : List (Option α) → Option α → Option α
  | [], d => d
  | a :: r, d => if x = lo then a else x_sw x (lo + 1) r d
theorem x_is_of {k c : Nat} (h : x_isb k c = true) : x_is k c := by
  simp only [x_isb, Bool.and_eq_true, decide_eq_true_eq, beq_iff_eq] at h
  exact h
theorem x_in_of {i : Int32} {n : Nat} (h : x_inb i n = true) : vp_in i n := by
  simp only [x_inb, Bool.and_eq_true, decide_eq_true_eq, Bool.not_eq_true', decide_eq_false_iff_not] at h
  rintro (q | q)
  · exact h.1 q
  · omega
theorem x_zn {v : Int32} (h : x_zok v = true) : narrow .boolean (.int v) = .int v ∧ fits .boolean (.int v) = true := by
  simp only [x_zok, Bool.or_eq_true, beq_iff_eq] at h
  rcases h with rfl | rfl <;> exact ⟨by decide, by decide⟩
theorem x_zv {v : Int32} (h : x_zok v = true) : vp_nar .boolean v = v := by
  simp only [x_zok, Bool.or_eq_true, beq_iff_eq] at h
  rcases h with rfl | rfl <;> decide
theorem x_cn {v : Int32} (h : x_cok v = true) : narrow .char (.int v) = .int v ∧ fits .char (.int v) = true := by
  simp only [x_cok, Bool.and_eq_true, decide_eq_true_eq] at h
  obtain ⟨j, hj, rfl⟩ := nI_of2 (M := 65535) (n := 65535) (by decide) (x := v) (by
    intro q
    have := h.1
    simp only [Int32.lt_iff_toInt_lt, Int32.le_iff_toInt_le] at q this
    have z : (0 : Int32).toInt = 0 := by decide
    omega) h.2
  exact pk_charN (by omega)
def x_wi (μ : xMu) (r : Int32) : Option Value × xMu := (some (.int r), μ)
def x_wl (μ : xMu) (r : Int64) : Option Value × xMu := (some (.long r), μ)
def x_wr1 (μ : xMu) (r : Nat) : Option Value × xMu := (some (.ref r), μ)
def x_wim (q : Int32 × xMu) : Option Value × xMu := (some (.int q.1), q.2)
def x_wrm (q : Nat × xMu) : Option Value × xMu := (some (.ref q.1), q.2)
def x_wv (μ : xMu) : Option Value × xMu := (none, μ)
def x_wu (μ : xMu) (_ : Unit) : Option Value × xMu := (none, μ)
abbrev xG : Type := Launch × va_G × (Nat → ClassId) × (Nat → Nat)
def Mx (G : xG) (M : xM) (d : Nat) (as : List Value) (μ : xMu) {α : Type} (w : α → Option Value × xMu) (o : Option α) : Prop :=
  ∀ a, o = some a → Met G.1 M.1 (x_wsM M) (x_rm d) (x_Pc G.2.1 G.2.2.1 G.2.2.2 as μ) (x_Q G.2.1 G.2.2.1 G.2.2.2 (w a).1 (w a).2) 0 0 (x_A G.2.2.2)
def Wx (G : xG) (M : xM) (d pc : Nat) (L : List (Option Value)) (st : List Value) (μ : xMu) {α : Type} (w : α → Option Value × xMu) (o : Option α) : Prop :=
  ∀ a, o = some a → ∀ (p : Program) (e : Env) (s : State) (m : MethodId) (args : Array Value) (below : List Frame) (meth : Method) (c : Code), x_E G.2.1 G.2.2.1 G.2.2.2 M p s m args c → meth.sig.returnType = M.2.2.2 → meth.locks = false →
    Wy p G.1 e (x_rm d) s m args below meth c 0 0 (MQ below (x_Q G.2.1 G.2.2.1 G.2.2.2 (w a).1 (w a).2) args s 0 0 (x_A G.2.2.2)) G.2.1 G.2.2.1 G.2.2.2 M pc L st μ
/-! the entry -/
def x_entl (as : List Value) : List (Option Value) := as.flatMap fun v => if v.category = 2 then [some v, none] else [some v]
def x_ent (as : List Value) (n : Nat) : List (Option Value) := x_entl as ++ List.replicate (n - (x_entl as).length) none
theorem x_entl_len (ad : Nat → Nat) (as : List Value) : (x_entl as).length = (lg_sl (as.map (x_cv ad))).length := by
  induction as with
  | nil => rfl
  | cons v r ih =>
    simp only [x_entl, lg_sl, List.flatMap_cons, List.map_cons, List.length_append, x_cv_cat] at ih ⊢
    rw [ih]
    congr 1
    split <;> rfl
theorem x_entl_at (ad : Nat → Nat) (as : List Value) : ∀ (i : Nat) (v : Value), (x_entl as)[i]? = some (some v) → (lg_sl (as.map (x_cv ad)))[i]? = some (.val (x_cv ad v)) := by
  induction as with
  | nil => intro i v h; simp [x_entl] at h
  | cons u r ih =>
    intro i v h
    simp only [x_entl, lg_sl, List.flatMap_cons, List.map_cons, x_cv_cat] at ih h ⊢
    by_cases hc : u.category = 2
    · simp only [hc, if_true] at h ⊢
      match i, h with
      | 0, h => simp at h; subst h; rfl
      | 1, h => simp at h
      | i + 2, h => exact ih i v (by simpa using h)
    · simp only [hc, if_false] at h ⊢
      match i, h with
      | 0, h => simp at h; subst h; rfl
      | i + 1, h => exact ih i v (by simpa using h)
theorem mx_enter {G : xG} {M : xM} {d : Nat} {as : List Value} {μ : xMu} {α : Type} {w : α → Option Value × xMu} {o : Option α} (ok : x_ok M) (L : List (Option Value)) (hL : x_ent as M.2.2.1 = L) (hn : (x_entl as).length ≤ M.2.2.1) (k : Wx G M d 0 L [] μ w o) : Mx G M d as μ w o := by
  intro a ho
  obtain ⟨hcode, hpl, -, -, -⟩ := ok
  refine Met.ofW (cc := M.2.1) (maxL := M.2.2.1) (ret := M.2.2.2) hpl rfl ?_
  intro p e s m args below meth c s₁ B hml hv
  obtain ⟨rfl, hP, hK, hinj, hE⟩ := hv
  have hts0 := atoms_spec (ws := x_wsM M) B.pre
  have hlen : (lg_sl (as.map (x_cv G.2.2.2))).length ≤ M.2.2.1 := by rw [← x_entl_len]; exact hn
  have hl := lv_entry (as.map (x_cv G.2.2.2)) (n := M.2.2.1) hlen
  rw [lg_entry_eq]
  have hl2 : x_LR G.2.2.2 (lg_sl (as.map (x_cv G.2.2.2)) ++ List.replicate (M.2.2.1 - (lg_sl (as.map (x_cv G.2.2.2))).length) Slot.unset).toArray M.2.2.1 L := by
    subst hL
    refine ⟨hl.1, by simp only [x_ent, List.length_append, List.length_replicate]; omega, hl.2.1, fun i v hi => ?_⟩
    unfold x_ent at hi
    rw [List.getElem?_append] at hi
    split at hi
    · next hlt =>
      rw [List.getElem?_toArray, List.getElem?_append_left (by rw [← x_entl_len]; exact hlt)]
      exact x_entl_at _ _ i v hi
    · rw [List.getElem?_replicate] at hi
      split at hi <;> cases hi
  have h := k a ho p e s m _ below meth c ⟨B.exec, B.bytes, hml, findClass_of_methodNamed B.named, fun w h => hts0 w (List.mem_cons_of_mem _ h), hK, hinj, hE⟩ B.returns B.notSynchronized
  exact h _ s.heap [] hl2 hP va_S.rf
section WX
variable {G : xG} {M : xM} {d pc : Nat} {L : List (Option Value)} {st : List Value} {μ : xMu} {α : Type} {w : α → Option Value × xMu} {o o2 : Option α}
theorem wx_none : Wx G M d pc L st μ w none := fun a ho => by cases ho
theorem wx_blk (is : List Instr) {pc' : Nat} {L' : List (Option Value)} {st' : List Value} (h1 : x_dec M.2.1 pc is = true) (h2 : x_evs is L st = some (L', st')) (h3 : pc + x_szs is = pc') (k : Wx G M d pc' L' st' μ w o) : Wx G M d pc L st μ w o :=
  fun a ho p e s m args below meth c E hr hk => wy_blk E is h1 h2 h3 (k a ho p e s m args below meth c E hr hk)
/-- fewer locals are known -/
def x_sub : List (Option Value) → List (Option Value) → Prop
  | [], [] => True
  | none :: a, _ :: b => x_sub a b
  | some v :: a, some u :: b => v = u ∧ x_sub a b
  | _, _ => False
theorem x_sub_at : ∀ {a b : List (Option Value)}, x_sub a b → a.length = b.length ∧ ∀ (i : Nat) (v : Value), a[i]? = some (some v) → b[i]? = some (some v)
  | [], [], _ => ⟨rfl, fun i v h => by simp at h⟩
  | none :: a, _ :: b, h => by
    obtain ⟨h1, h2⟩ := x_sub_at (a := a) (b := b) h
    refine ⟨by simp [h1], fun i v hi => ?_⟩
    match i, hi with
    | 0, hi => simp at hi
    | i + 1, hi => exact h2 i v (by simpa using hi)
  | some v :: a, some u :: b, h => by
    obtain ⟨rfl, h⟩ := h
    obtain ⟨h1, h2⟩ := x_sub_at (a := a) (b := b) h
    refine ⟨by simp [h1], fun i v hi => ?_⟩
    match i, hi with
    | 0, hi => simpa using hi
    | i + 1, hi => exact h2 i v (by simpa using hi)
theorem wx_weak {L' : List (Option Value)} (h : x_sub L' L) (k : Wx G M d pc L' st μ w o) : Wx G M d pc L st μ w o :=
  fun a ho p e s m args below meth c E hr hk ls H locs hl hP hS => k a ho p e s m args below meth c E hr hk ls H locs ⟨hl.1, (x_sub_at h).1.trans hl.2.1, hl.2.2.1, fun i v hi => hl.2.2.2 i v ((x_sub_at h).2 i v hi)⟩ hP hS
theorem wx_goto (tgt : Nat) {off : Int} (hd : decode M.2.1 pc = .ok (.goto off, 3)) (ht : (pc : Int) + off = (tgt : Int)) (k : Wx G M d tgt L st μ w o) : Wx G M d pc L st μ w o :=
  fun a ho p e s m args below meth c E hr hk => wy_goto E hd ht (k a ho p e s m args below meth c E hr hk)
theorem x_ifp {c : Prop} [Decidable c] {o o2 : Option α} {a : α} (h : (if c then o else o2) = some a) (hc : c) : o = some a := by rwa [if_pos hc] at h
theorem x_ifn {c : Prop} [Decidable c] {o o2 : Option α} {a : α} (h : (if c then o else o2) = some a) (hc : ¬ c) : o2 = some a := by rwa [if_neg hc] at h
theorem wx_if_eq (tgt : Nat) {x : Int32} {off : Int} (hd : decode M.2.1 pc = .ok (.ifCond .eq off, 3)) (ht : (pc : Int) + off = (tgt : Int)) (kt : Wx G M d tgt L st μ w o) (kf : Wx G M d (pc + 3) L st μ w o2) : Wx G M d pc L (.int x :: st) μ w (if x = 0 then o else o2) :=
  fun a ho p e s m args below meth c E hr hk => wy_if_eq E hd ht (fun h => kt a (x_ifp ho h) p e s m args below meth c E hr hk) (fun h => kf a (x_ifn ho h) p e s m args below meth c E hr hk)
theorem wx_if_ne (tgt : Nat) {x : Int32} {off : Int} (hd : decode M.2.1 pc = .ok (.ifCond .ne off, 3)) (ht : (pc : Int) + off = (tgt : Int)) (kt : Wx G M d tgt L st μ w o2) (kf : Wx G M d (pc + 3) L st μ w o) : Wx G M d pc L (.int x :: st) μ w (if x = 0 then o else o2) :=
  fun a ho p e s m args below meth c E hr hk => wy_if_ne E hd ht (fun h => kt a (x_ifn ho h) p e s m args below meth c E hr hk) (fun h => kf a (x_ifp ho h) p e s m args below meth c E hr hk)
theorem wx_if_lt (tgt : Nat) {x : Int32} {off : Int} (hd : decode M.2.1 pc = .ok (.ifCond .lt off, 3)) (ht : (pc : Int) + off = (tgt : Int)) (kt : Wx G M d tgt L st μ w o) (kf : Wx G M d (pc + 3) L st μ w o2) : Wx G M d pc L (.int x :: st) μ w (if x < 0 then o else o2) :=
  fun a ho p e s m args below meth c E hr hk => wy_if_lt E hd ht (fun h => kt a (x_ifp ho h) p e s m args below meth c E hr hk) (fun h => kf a (x_ifn ho h) p e s m args below meth c E hr hk)
theorem wx_if_ge (tgt : Nat) {x : Int32} {off : Int} (hd : decode M.2.1 pc = .ok (.ifCond .ge off, 3)) (ht : (pc : Int) + off = (tgt : Int)) (kt : Wx G M d tgt L st μ w o) (kf : Wx G M d (pc + 3) L st μ w o2) : Wx G M d pc L (.int x :: st) μ w (if 0 ≤ x then o else o2) :=
  fun a ho p e s m args below meth c E hr hk => wy_if_ge E hd ht (fun h => kt a (x_ifp ho h) p e s m args below meth c E hr hk) (fun h => kf a (x_ifn ho h) p e s m args below meth c E hr hk)
theorem wx_if_gt (tgt : Nat) {x : Int32} {off : Int} (hd : decode M.2.1 pc = .ok (.ifCond .gt off, 3)) (ht : (pc : Int) + off = (tgt : Int)) (kt : Wx G M d tgt L st μ w o) (kf : Wx G M d (pc + 3) L st μ w o2) : Wx G M d pc L (.int x :: st) μ w (if 0 < x then o else o2) :=
  fun a ho p e s m args below meth c E hr hk => wy_if_gt E hd ht (fun h => kt a (x_ifp ho h) p e s m args below meth c E hr hk) (fun h => kf a (x_ifn ho h) p e s m args below meth c E hr hk)
theorem wx_if_le (tgt : Nat) {x : Int32} {off : Int} (hd : decode M.2.1 pc = .ok (.ifCond .le off, 3)) (ht : (pc : Int) + off = (tgt : Int)) (kt : Wx G M d tgt L st μ w o) (kf : Wx G M d (pc + 3) L st μ w o2) : Wx G M d pc L (.int x :: st) μ w (if x ≤ 0 then o else o2) :=
  fun a ho p e s m args below meth c E hr hk => wy_if_le E hd ht (fun h => kt a (x_ifp ho h) p e s m args below meth c E hr hk) (fun h => kf a (x_ifn ho h) p e s m args below meth c E hr hk)
theorem wx_ic_eq (tgt : Nat) {x y : Int32} {off : Int} (hd : decode M.2.1 pc = .ok (.if_icmp .eq off, 3)) (ht : (pc : Int) + off = (tgt : Int)) (kt : Wx G M d tgt L st μ w o) (kf : Wx G M d (pc + 3) L st μ w o2) : Wx G M d pc L (.int y :: .int x :: st) μ w (if x = y then o else o2) :=
  fun a ho p e s m args below meth c E hr hk => wy_ic_eq E hd ht (fun h => kt a (x_ifp ho h) p e s m args below meth c E hr hk) (fun h => kf a (x_ifn ho h) p e s m args below meth c E hr hk)
theorem wx_ic_ne (tgt : Nat) {x y : Int32} {off : Int} (hd : decode M.2.1 pc = .ok (.if_icmp .ne off, 3)) (ht : (pc : Int) + off = (tgt : Int)) (kt : Wx G M d tgt L st μ w o2) (kf : Wx G M d (pc + 3) L st μ w o) : Wx G M d pc L (.int y :: .int x :: st) μ w (if x = y then o else o2) :=
  fun a ho p e s m args below meth c E hr hk => wy_ic_ne E hd ht (fun h => kt a (x_ifn ho h) p e s m args below meth c E hr hk) (fun h => kf a (x_ifp ho h) p e s m args below meth c E hr hk)
theorem wx_ic_lt (tgt : Nat) {x y : Int32} {off : Int} (hd : decode M.2.1 pc = .ok (.if_icmp .lt off, 3)) (ht : (pc : Int) + off = (tgt : Int)) (kt : Wx G M d tgt L st μ w o) (kf : Wx G M d (pc + 3) L st μ w o2) : Wx G M d pc L (.int y :: .int x :: st) μ w (if x < y then o else o2) :=
  fun a ho p e s m args below meth c E hr hk => wy_ic_lt E hd ht (fun h => kt a (x_ifp ho h) p e s m args below meth c E hr hk) (fun h => kf a (x_ifn ho h) p e s m args below meth c E hr hk)
theorem wx_ic_ge (tgt : Nat) {x y : Int32} {off : Int} (hd : decode M.2.1 pc = .ok (.if_icmp .ge off, 3)) (ht : (pc : Int) + off = (tgt : Int)) (kt : Wx G M d tgt L st μ w o) (kf : Wx G M d (pc + 3) L st μ w o2) : Wx G M d pc L (.int y :: .int x :: st) μ w (if y ≤ x then o else o2) :=
  fun a ho p e s m args below meth c E hr hk => wy_ic_ge E hd ht (fun h => kt a (x_ifp ho h) p e s m args below meth c E hr hk) (fun h => kf a (x_ifn ho h) p e s m args below meth c E hr hk)
theorem wx_ic_gt (tgt : Nat) {x y : Int32} {off : Int} (hd : decode M.2.1 pc = .ok (.if_icmp .gt off, 3)) (ht : (pc : Int) + off = (tgt : Int)) (kt : Wx G M d tgt L st μ w o) (kf : Wx G M d (pc + 3) L st μ w o2) : Wx G M d pc L (.int y :: .int x :: st) μ w (if y < x then o else o2) :=
  fun a ho p e s m args below meth c E hr hk => wy_ic_gt E hd ht (fun h => kt a (x_ifp ho h) p e s m args below meth c E hr hk) (fun h => kf a (x_ifn ho h) p e s m args below meth c E hr hk)
theorem wx_ic_le (tgt : Nat) {x y : Int32} {off : Int} (hd : decode M.2.1 pc = .ok (.if_icmp .le off, 3)) (ht : (pc : Int) + off = (tgt : Int)) (kt : Wx G M d tgt L st μ w o) (kf : Wx G M d (pc + 3) L st μ w o2) : Wx G M d pc L (.int y :: .int x :: st) μ w (if x ≤ y then o else o2) :=
  fun a ho p e s m args below meth c E hr hk => wy_ic_le E hd ht (fun h => kt a (x_ifp ho h) p e s m args below meth c E hr hk) (fun h => kf a (x_ifn ho h) p e s m args below meth c E hr hk)
theorem x_bt {b : Bool} {a : α} (h : (bif b then o else none) = some a) : b = true ∧ o = some a := by
  cases b
  · cases h
  · exact ⟨rfl, h⟩
theorem wx_chk {k c : Nat} (h : x_is k c → Wx G M d pc L st μ w o) : Wx G M d pc L st μ w (x_chk k c o) :=
  fun a ho => h (x_is_of (x_bt ho).1) a (x_bt ho).2
theorem wx_tst {b : Bool} (h : b = true → Wx G M d pc L st μ w o) : Wx G M d pc L st μ w (x_tst b o) :=
  fun a ho => h (x_bt ho).1 a (x_bt ho).2
theorem x_nz {y : Int32} (h : (!(y == 0)) = true) : ¬ y = 0 := by
  intro q
  subst q
  cases h
theorem wx_idiv {x y : Int32} (hd : decode M.2.1 pc = .ok (.idiv, 1)) (hy : ¬ y = 0) (k : Wx G M d (pc + 1) L (.int (x / y) :: st) μ w o) : Wx G M d pc L (.int y :: .int x :: st) μ w o :=
  fun a ho p e s m args below meth c E hr hk => wy_idiv E hd hy (k a ho p e s m args below meth c E hr hk)
theorem wx_irem {x y : Int32} (hd : decode M.2.1 pc = .ok (.irem, 1)) (hy : ¬ y = 0) (k : Wx G M d (pc + 1) L (.int (x - x / y * y) :: st) μ w o) : Wx G M d pc L (.int y :: .int x :: st) μ w o :=
  fun a ho p e s m args below meth c E hr hk => wy_irem E hd hy (k a ho p e s m args below meth c E hr hk)
theorem wx_ldc {idx : Nat} {v : Int32} (hw : Cond.constant M.1.cls idx v ∈ x_ws) (hd : decode M.2.1 pc = .ok (.ldc idx, 2)) (k : Wx G M d (pc + 2) L (.int v :: st) μ w o) : Wx G M d pc L st μ w o :=
  fun a ho p e s m args below meth c E hr hk => wy_ldc E hw hd (k a ho p e s m args below meth c E hr hk)
theorem wx_ldcw {idx : Nat} {v : Int32} (hw : Cond.constant M.1.cls idx v ∈ x_ws) (hd : decode M.2.1 pc = .ok (.ldc_w idx, 3)) (k : Wx G M d (pc + 3) L (.int v :: st) μ w o) : Wx G M d pc L st μ w o :=
  fun a ho p e s m args below meth c E hr hk => wy_ldcw E hw hd (k a ho p e s m args below meth c E hr hk)
theorem wx_ldc2 {idx : Nat} {v : Int64} (hw : Cond.constantLong M.1.cls idx v ∈ x_ws) (hd : decode M.2.1 pc = .ok (.ldc2_w idx, 3)) (k : Wx G M d (pc + 3) L (.long v :: st) μ w o) : Wx G M d pc L st μ w o :=
  fun a ho p e s m args below meth c E hr hk => wy_ldc2 E hw hd (k a ho p e s m args below meth c E hr hk)
theorem wx_ldcs (i : Nat) (hi : i < 8) (ho1 : M.1.cls = "WakingLayers$Reader") (hd : decode M.2.1 pc = .ok (.ldc (x_txI.getD i 0), 2)) (k : Wx G M d (pc + 2) L (.ref (910 + i) :: st) μ w o) : Wx G M d pc L st μ w o :=
  fun a ho p e s m args below meth c E hr hk => wy_ldcs E hi ho1 hd (k a ho p e s m args below meth c E hr hk)
theorem x_fv_i {μ : xMu} {k c j : Nat} (h : x_is k c) (hf : x_fr c j = false) : x_fv μ k j = .int (μ k j) := by
  simp [x_fv, h.2, hf]
theorem x_fv_r {μ : xMu} {k c j r : Nat} (h : x_is k c) (hf : x_fr c j = true) (hr : x_rf k j = some r) : x_fv μ k j = .ref r := by
  simp [x_fv, h.2, hf, hr, va_rf]
theorem wx_geti {k idx ci j N : Nat} {C : String} {T : u_T} (hk : x_is k ci) (F : x_FF M.1.cls idx ci j C T N) (hf : x_fr ci j = false) (hd : decode M.2.1 pc = .ok (.getfield idx, 3)) (kk : Wx G M d (pc + 3) L (.int (μ k j) :: st) μ w o) : Wx G M d pc L (.ref k :: st) μ w o :=
  fun a ho p e s m args below meth c E hr hq => wy_get E hk F hd (by rw [x_fv_i hk hf]; exact kk a ho p e s m args below meth c E hr hq)
theorem wx_getr {k idx ci j N r : Nat} {C : String} {T : u_T} (hk : x_is k ci) (F : x_FF M.1.cls idx ci j C T N) (hf : x_fr ci j = true) (hr1 : x_rf k j = some r) (hd : decode M.2.1 pc = .ok (.getfield idx, 3)) (kk : Wx G M d (pc + 3) L (.ref r :: st) μ w o) : Wx G M d pc L (.ref k :: st) μ w o :=
  fun a ho p e s m args below meth c E hr hq => wy_get E hk F hd (by rw [x_fv_r hk hf hr1]; exact kk a ho p e s m args below meth c E hr hq)
theorem wx_rfd {k idx ci j N : Nat} {C : String} {T : u_T} {f : Nat → Option α} (hk : x_is k ci) (F : x_FF M.1.cls idx ci j C T N) (hf : x_fr ci j = true) (hd : decode M.2.1 pc = .ok (.getfield idx, 3)) (kk : ∀ r, Wx G M d (pc + 3) L (.ref r :: st) μ w (f r)) : Wx G M d pc L (.ref k :: st) μ w (x_rfd k j f) := by
  intro a ho
  unfold x_rfd at ho
  split at ho
  · next r hr1 => exact wx_getr hk F hf hr1 hd (kk r) a ho
  · cases ho
theorem wx_put {k idx ci j N : Nat} {C : String} {T : u_T} {ty0 : Nat → FieldType} {ty : FieldType} {v : Int32} {f : xMu → Option α} (hk : x_is k ci) (F : x_FF M.1.cls idx ci j C T N) (P : x_FP ci j T N ty0 ty) (hn : narrow ty (.int v) = .int v ∧ fits ty (.int v) = true) (hd : decode M.2.1 pc = .ok (.putfield idx, 3)) (kk : ∀ μ1, Wx G M d (pc + 3) L st μ1 w (f μ1)) : Wx G M d pc L (.int v :: .ref k :: st) μ w (x_put μ k j v f) :=
  fun a ho p e s m args below meth c E hr hq => wy_put E hk F P hn.1 hn.2 hd (kk (x_wr μ k j v) a ho p e s m args below meth c E hr hq)
theorem wx_ald {k n : Nat} {i : Int32} {f : Int32 → Option α} (hk : x_is k 13) (hn : x_sz k = n) (hd : decode M.2.1 pc = .ok (.iaload, 1)) (kk : ∀ v, Wx G M d (pc + 1) L (.int v :: st) μ w (f v)) : Wx G M d pc L (.int i :: .ref k :: st) μ w (x_ald μ k n i f) :=
  fun a ho p e s m args below meth c E hr hq => wy_iald E hk (by rw [hn]; exact x_in_of (x_bt ho).1) hd (kk _ a (x_bt ho).2 p e s m args below meth c E hr hq)
theorem wx_zald {k n : Nat} {i : Int32} {f : Int32 → Option α} (hk : x_is k 14) (hn : x_sz k = n) (hd : decode M.2.1 pc = .ok (.baload, 1)) (kk : ∀ v, Wx G M d (pc + 1) L (.int v :: st) μ w (f v)) : Wx G M d pc L (.int i :: .ref k :: st) μ w (x_ald μ k n i f) :=
  fun a ho p e s m args below meth c E hr hq => wy_zald E hk (by rw [hn]; exact x_in_of (x_bt ho).1) hd (kk _ a (x_bt ho).2 p e s m args below meth c E hr hq)
theorem wx_ast {k n : Nat} {i v : Int32} {f : xMu → Option α} (hk : x_is k 13) (hn : x_sz k = n) (hd : decode M.2.1 pc = .ok (.iastore, 1)) (kk : ∀ μ1, Wx G M d (pc + 1) L st μ1 w (f μ1)) : Wx G M d pc L (.int v :: .int i :: .ref k :: st) μ w (x_ast μ k n i v f) :=
  fun a ho p e s m args below meth c E hr hq => wy_iast E hk (by rw [hn]; exact x_in_of (x_bt ho).1) hd (kk _ a (x_bt ho).2 p e s m args below meth c E hr hq)
theorem wx_zast {k n : Nat} {i v : Int32} {f : xMu → Option α} (hk : x_is k 14) (hn : x_sz k = n) (hz : x_zok v = true) (hd : decode M.2.1 pc = .ok (.bastore, 1)) (kk : ∀ μ1, Wx G M d (pc + 1) L st μ1 w (f μ1)) : Wx G M d pc L (.int v :: .int i :: .ref k :: st) μ w (x_ast μ k n i v f) :=
  fun a ho p e s m args below meth c E hr hq => wy_zast E hk (by rw [hn]; exact x_in_of (x_bt ho).1) hd (by rw [x_zv hz]; exact kk _ a (x_bt ho).2 p e s m args below meth c E hr hq)
theorem wx_rld {k n cx : Nat} {i : Int32} {f : Nat → Option α} (hk : x_is k cx) (hcx : ¬ cx < 15) (hn : x_sz k = n) (hd : decode M.2.1 pc = .ok (.aaload, 1)) (kk : ∀ r, Wx G M d (pc + 1) L (.ref r :: st) μ w (f r)) : Wx G M d pc L (.int i :: .ref k :: st) μ w (x_rld k n i f) := by
  intro a ho
  obtain ⟨h1, h2⟩ := x_bt ho
  split at h2
  · next r hr1 => exact fun p e s m args below meth c E hr hq => wy_aald E hk hcx (by rw [hn]; exact x_in_of h1) hr1 hd (kk r a h2 p e s m args below meth c E hr hq)
  · cases h2
theorem wx_abo {idx : Nat} (hw : Cond.fieldLink M.1.cls idx "WakingLayers$Asker" "ABOVE" "[I" ∈ x_ws) (hd : decode M.2.1 pc = .ok (.getstatic idx, 3)) (kk : Wx G M d (pc + 3) L (.ref 900 :: st) μ w o) : Wx G M d pc L st μ w o :=
  fun a ho p e s m args below meth c E hr hq => wy_abo E hw hd (kk a ho p e s m args below meth c E hr hq)
theorem wx_abolen (hd : decode M.2.1 pc = .ok (.arraylength, 1)) (kk : Wx G M d (pc + 1) L (.int 6 :: st) μ w o) : Wx G M d pc L (.ref 900 :: st) μ w o :=
  fun a ho p e s m args below meth c E hr hq => wy_abolen E hd (kk a ho p e s m args below meth c E hr hq)
theorem wx_abold {i : Int32} {f : Int32 → Option α} (hd : decode M.2.1 pc = .ok (.iaload, 1)) (kk : ∀ v, Wx G M d (pc + 1) L (.int v :: st) μ w (f v)) : Wx G M d pc L (.int i :: .ref 900 :: st) μ w (x_abo i f) :=
  fun a ho p e s m args below meth c E hr hq => wy_abold E (x_in_of (x_bt ho).1) hd (kk _ a (x_bt ho).2 p e s m args below meth c E hr hq)
/-! ends -/
theorem wx_iret {a0 : α} {v : Int32} (hw : w a0 = (some (.int v), μ)) (hM : M.2.2.2 = some .int) (hd : decode M.2.1 pc = .ok (.ireturn, 1)) : Wx G M d pc L [.int v] μ w (some a0) := by
  intro a ho p e s m args below meth c E hr hk ls H locs hl hP hS
  cases ho
  rw [hw]
  exact W.iret E.1 E.2.1 (hr.trans hM) (fun t ht hW => ⟨rfl, by rw [ht]; exact hP, hS.F ht⟩) hS.2.2 hd hk
theorem wx_zret {a0 : α} {v : Int32} (hw : w a0 = (some (.int v), μ)) (hM : M.2.2.2 = some .boolean) (hz : x_zok v = true) (hd : decode M.2.1 pc = .ok (.ireturn, 1)) : Wx G M d pc L [.int v] μ w (some a0) := by
  intro a ho p e s m args below meth c E hr hk ls H locs hl hP hS
  cases ho
  rw [hw]
  exact W.zret E.1 E.2.1 (hr.trans hM) (x_zn hz).1 (fun t ht hW => ⟨rfl, by rw [ht]; exact hP, hS.F ht⟩) hS.2.2 hd hk
theorem wx_vret {a0 : α} (hw : w a0 = (none, μ)) (hM : M.2.2.2 = none) (hd : decode M.2.1 pc = .ok (.return_, 1)) : Wx G M d pc L [] μ w (some a0) := by
  intro a ho p e s m args below meth c E hr hk ls H locs hl hP hS
  cases ho
  rw [hw]
  exact W.vret E.1 E.2.1 (hr.trans hM) (fun t ht hW => ⟨rfl, by rw [ht]; exact hP, hS.F ht⟩) hS.2.2 hd hk
theorem wx_lret {a0 : α} {v : Int64} (hw : w a0 = (some (.long v), μ)) (hM : M.2.2.2 = some .long) (hd : decode M.2.1 pc = .ok (.lreturn, 1)) : Wx G M d pc L [.long v] μ w (some a0) := by
  intro a ho p e s m args below meth c E hr hk ls H locs hl hP hS
  cases ho
  rw [hw]
  exact W.lret E.1 E.2.1 (hr.trans hM) (fun t ht hW => ⟨rfl, by rw [ht]; exact hP, hS.F ht⟩) hS.2.2 hd hk
theorem wx_aret {a0 : α} {v : Nat} {ty : FieldType} (hw : w a0 = (some (.ref v), μ)) (hM : M.2.2.2 = some (.array ty)) (hd : decode M.2.1 pc = .ok (.areturn, 1)) : Wx G M d pc L [.ref v] μ w (some a0) := by
  intro a ho p e s m args below meth c E hr hk ls H locs hl hP hS
  cases ho
  rw [hw]
  exact W.aret E.1 E.2.1 (hr.trans hM) (Or.inr ⟨_, rfl⟩) (Or.inr ⟨_, rfl⟩) (fun t ht hW => ⟨rfl, by rw [ht]; exact hP, hS.F ht⟩) hS.2.2 hd hk
/-! calls -/
theorem wx_callV {β : Type} {w1 : β → Option Value × xMu} {o1 : Option β} {f : β → Option α} {M' : xM} {d1 idx k ci N n : Nat} {T : u_T} {As rest : List Value} (hd1 : d1 < d) (hk : x_is k ci) (hci : ci < 13) (hc : vwCl[ci]? = some (M'.1.cls, T, N)) (C : x_CV M.1.cls idx M' n) (hn : As.length = n) (hrest : (rest.map fun v => v.category).sum ≤ 8)
    (hM : Mx G M' d1 (.ref k :: As) μ w1 o1) (hst : st = As.reverse ++ .ref k :: rest) (hd : decode M.2.1 pc = .ok (.invokevirtual idx, 3)) (kk : ∀ b, Wx G M d (pc + 3) L ((w1 b).1.toList ++ rest) (w1 b).2 w (f b)) : Wx G M d pc L st μ w (o1.bind f) := by
  intro a ho p e s m args below meth c E hr hq
  obtain ⟨b, hb, hf⟩ := Option.bind_eq_some_iff.mp ho
  exact wy_callV E (d := d1) ⟨hd1, by show 40 * (d1 + 1) ≤ 40 * d; omega⟩ ⟨Nat.le_refl 0, Nat.le_refl 0⟩ hk hci hc C hn hrest hst hd (hM b hb) (kk b a hf p e s m args below meth c E hr hq)
theorem wx_callS {β : Type} {w1 : β → Option Value × xMu} {o1 : Option β} {f : β → Option α} {M' : xM} {d1 idx n : Nat} {As rest : List Value} (hd1 : d1 < d) (C : x_CS M.1.cls idx M' n) (hn : As.length = n) (hrest : (rest.map fun v => v.category).sum ≤ 8)
    (hM : Mx G M' d1 As μ w1 o1) (hst : st = As.reverse ++ rest) (hd : decode M.2.1 pc = .ok (.invokestatic idx, 3)) (kk : ∀ b, Wx G M d (pc + 3) L ((w1 b).1.toList ++ rest) (w1 b).2 w (f b)) : Wx G M d pc L st μ w (o1.bind f) := by
  intro a ho p e s m args below meth c E hr hq
  obtain ⟨b, hb, hf⟩ := Option.bind_eq_some_iff.mp ho
  exact wy_callS E (d := d1) ⟨hd1, by show 40 * (d1 + 1) ≤ 40 * d; omega⟩ ⟨Nat.le_refl 0, Nat.le_refl 0⟩ C hn hrest hst hd (hM b hb) (kk b a hf p e s m args below meth c E hr hq)
/-! switches -/
def x_F2 (P : Nat → Option α → Prop) : List Nat → List (Option α) → Prop
  | [], [] => True
  | t :: ts, q :: qs => P t q ∧ x_F2 P ts qs
  | _, _ => False
theorem x_sw_at {P : Nat → Option α → Prop} {x : Int32} {dd : Option α} {a : α} : ∀ {tg : List Nat} {cs : List (Option α)} {lo : Int32} {b : Nat}, x_F2 P tg cs → lo = nI b → b + tg.length < 2 ^ 31 → x_sw x lo cs dd = some a → (∃ (j t : Nat) (q : Option α), tg[j]? = some t ∧ x = nI (b + j) ∧ P t q ∧ q = some a) ∨ ((∀ j, j < tg.length → ¬ x = nI (b + j)) ∧ dd = some a)
  | [], [], lo, b, _, _, _, h => Or.inr ⟨fun j hj => absurd hj (Nat.not_lt_zero j), h⟩
  | t :: ts, q :: qs, lo, b, hF, hlo, hb, h => by
    unfold x_sw at h
    split at h
    · next hx => exact Or.inl ⟨0, t, q, rfl, by rw [hx, hlo]; rfl, hF.1, h⟩
    · next hx =>
      rcases x_sw_at (b := b + 1) hF.2 (by rw [hlo]; exact nI_1 b) (by simp at hb; omega) h with ⟨j, t', q', h1, h2, h3, h4⟩ | ⟨h1, h2⟩
      · exact Or.inl ⟨j + 1, t', q', by simpa using h1, by rw [h2]; congr 1; omega, h3, h4⟩
      · refine Or.inr ⟨fun j hj => ?_, h2⟩
        match j, hj with
        | 0, _ => intro hh; exact hx (by rw [hh, hlo]; rfl)
        | j + 1, hj => 
          have := h1 j (by simpa using hj)
          rw [show b + (j + 1) = b + 1 + j by omega]
          exact this
theorem wx_tsw (tg : List Nat) (td b : Nat) {x : Int32} {cs : List (Option α)} {dd : Option α} {dflt lo hi : Int} {offs : Array Int} {len : Nat} (hd : decode M.2.1 pc = .ok (.tableswitch dflt lo hi offs, len)) (hlo : lo = (b : Int)) (hhi : hi + 1 = (b : Int) + tg.length) (hsm : b + tg.length < 1000) (ho1 : offs.toList.map (fun o => (pc : Int) + o) = tg.map (fun t : Nat => (t : Int))) (hdf : (pc : Int) + dflt = (td : Int))
    (hk : x_F2 (fun t q => Wx G M d t L st μ w q) tg cs) (hkd : Wx G M d td L st μ w dd) : Wx G M d pc L (.int x :: st) μ w (x_sw x (nI b) cs dd) := by
  intro a ho p e s m args below meth c E hr hq ls H locs hl hP hS
  rcases x_sw_at hk rfl (by omega) ho with ⟨j, t, q, h1, h2, h3, h4⟩ | ⟨h1, h2⟩
  · have hj : j < tg.length := (List.getElem?_eq_some_iff.mp h1).1
    have e1 : x.toInt = ((b + j : Nat) : Int) := by rw [h2]; exact nI_toInt (by omega)
    have e2 : (offs.toList.map (fun o => (pc : Int) + o))[j]? = some (t : Int) := by rw [ho1, List.getElem?_map, h1]; rfl
    rw [List.getElem?_map] at e2
    obtain ⟨off, e3, e4⟩ := Option.map_eq_some_iff.mp e2
    refine lv_tableIn (tgt := t) (off := off) E.1 E.2.1 hd (by omega) (by omega) ?_ e4 (h3 a h4 p e s m args below meth c E hr hq ls H locs hl hP hS)
    rw [show (x.toInt - lo).toNat = j by omega]
    simpa using e3
  · refine lv_tableOut (tgt := td) E.1 E.2.1 hd ?_ hdf (hkd a h2 p e s m args below meth c E hr hq ls H locs hl hP hS)
    rcases Int.lt_or_le x.toInt lo with q | q
    · exact Or.inl q
    · refine Or.inr ?_
      rcases Int.lt_or_le hi x.toInt with q2 | q2
      · exact q2
      · exfalso
        have h3 := h1 (x.toInt - b).toNat (by omega)
        apply h3
        apply Int32.toInt_inj.mp
        rw [nI_toInt (by omega)]
        omega
theorem wx_lsw2 (t0 t1 td : Nat) {x : Int32} {q0 q1 dd : Option α} {dflt o0 o1 : Int} {len : Nat} (hd : decode M.2.1 pc = .ok (.lookupswitch dflt #[(0, o0), (1, o1)], len)) (h0 : (pc : Int) + o0 = (t0 : Int)) (h1 : (pc : Int) + o1 = (t1 : Int)) (hdf : (pc : Int) + dflt = (td : Int))
    (k0 : Wx G M d t0 L st μ w q0) (k1 : Wx G M d t1 L st μ w q1) (kd : Wx G M d td L st μ w dd) : Wx G M d pc L (.int x :: st) μ w (x_sw x 0 [q0, q1] dd) := by
  intro a ho p e s m args below meth c E hr hq ls H locs hl hP hS
  simp only [x_sw] at ho
  by_cases e0 : x = 0
  · rw [if_pos e0] at ho
    exact lv_lookup E.1 E.2.1 hd rfl (by subst e0; rfl) h0 (k0 a ho p e s m args below meth c E hr hq ls H locs hl hP hS)
  · rw [if_neg e0] at ho
    by_cases e1 : x = 0 + 1
    · rw [if_pos e1] at ho
      exact lv_lookup E.1 E.2.1 hd rfl (by subst e1; rfl) h1 (k1 a ho p e s m args below meth c E hr hq ls H locs hl hP hS)
    · rw [if_neg e1] at ho
      refine lv_lookup (off := dflt) E.1 E.2.1 hd rfl ?_ hdf (kd a ho p e s m args below meth c E hr hq ls H locs hl hP hS)
      rw [lv_osw (k := 0) e0 (by decide), lv_osw (k := 0 + 1) e1 (by decide)]
      rfl
end WX
