/-! rows with the heap, branches, calls -/
def x_dec (cc : ByteArray) : Nat → List Instr → Bool
  | _, [] => true
  | pc, i :: r => decide (decode cc pc = .ok (i, x_sz1 i)) && x_dec cc (pc + x_sz1 i) r
def x_evs : List Instr → List (Option Value) → List Value → Option (List (Option Value) × List Value)
  | [], L, st => some (L, st)
  | i :: r, L, st => match x_ev1 i L st with
    | some q => x_evs r q.1 q.2
    | none => none
def x_szs : List Instr → Nat
  | [] => 0
  | i :: r => x_sz1 i + x_szs r
def x_rm (d : Nat) : Room := { frames := d, cells := 0, slots := 0, locals := 40 * d }
def x_wsM (M : xM) : List Cond := .code M.1 M.2.1 M.2.2.1 M.2.2.2 :: x_ws
def x_Pc (D : va_G) (cy : Nat → ClassId) (ad : Nat → Nat) (as : List Value) (μ : xMu) : Array Value → State → Prop :=
  va_Pc (as.map (x_cv ad)) (fun U => va_P D vwCl (x_W cy ad μ) U.heap ∧ va_K D vwCl (x_tys cy) U ∧ x_inj ad ∧ x_Ext ad U)
def x_Q (D : va_G) (cy : Nat → ClassId) (ad : Nat → Nat) (r : Option Value) (μ : xMu) : Array Value → State → Outcome → State → Prop :=
  fun _ st o t => o = .returned (r.map (x_cv ad)) ∧ va_P D vwCl (x_W cy ad μ) t.heap ∧ va_F (x_A ad) st t
def x_ok (M : xM) : Prop := Cond.code M.1 M.2.1 M.2.2.1 M.2.2.2 ∈ x_ws ∧ plainName M.1.cls = true ∧ (M.1.cls ≠ "java/lang/invoke/MethodHandle" ∧ M.1.cls ≠ "java/lang/invoke/VarHandle") ∧ Cond.initialized M.1.cls ∈ x_ws ∧ M.2.2.1 ≤ 21
theorem x_blind {D : va_G} {cy : Nat → ClassId} {ad : Nat → Nat} {as : List Value} {μ : xMu} : FrameBlind (x_Pc D cy ad as μ) := by
  intro a U g mk h
  obtain ⟨h1, h2, h3, h4, h5⟩ := h
  exact ⟨h1, h2, va_K.moved (u := U) (U := U.calling g mk a) (Vm.Alike.refl U.vm) h3, h4, h5.same rfl rfl⟩
section Wy2
variable {p : Program} {l : Launch} {e : Env} {R : Room} {s : State} {m : MethodId} {args : Array Value} {below : List Frame} {meth : Method} {c : Code} {cells slots : Nat} {Qf : State → Prop} {D : va_G} {cy : Nat → ClassId} {ad : Nat → Nat} {M : xM} {pc : Nat} {L : List (Option Value)} {st : List Value} {μ : xMu}
theorem wy_blk (E : x_E D cy ad M p s m args c) : ∀ (is : List Instr) {pc pc' : Nat} {L L' : List (Option Value)} {st st' : List Value}, x_dec M.2.1 pc is = true → x_evs is L st = some (L', st') → pc + x_szs is = pc' →
    Wy p l e R s m args below meth c cells slots Qf D cy ad M pc' L' st' μ → Wy p l e R s m args below meth c cells slots Qf D cy ad M pc L st μ
  | [], pc, pc', L, L', st, st', _, h2, h3, k => by
    cases h2
    subst h3
    exact k
  | i :: r, pc, pc', L, L', st, st', h1, h2, h3, k => by
    simp only [x_dec, Bool.and_eq_true, decide_eq_true_eq] at h1
    unfold x_evs at h2
    split at h2
    · next q hq =>
      exact wy_ev1 E h1.1 (L' := q.1) (st' := q.2) hq (wy_blk E r h1.2 h2 (by rw [← h3]; simp only [x_szs]; omega) k)
    · cases h2
theorem wy_goto (E : x_E D cy ad M p s m args c) {off : Int} {tgt : Nat} (hd : decode M.2.1 pc = .ok (.goto off, 3)) (ht : (pc : Int) + off = (tgt : Int)) (k : Wy p l e R s m args below meth c cells slots Qf D cy ad M tgt L st μ) : Wy p l e R s m args below meth c cells slots Qf D cy ad M pc L st μ :=
  fun ls H locs hl hP hS => lv_goto E.1 E.2.1 hd ht (k ls H locs hl hP hS)
theorem wy_if_eq (E : x_E D cy ad M p s m args c) {x : Int32} {off : Int} {tgt : Nat} (hd : decode M.2.1 pc = .ok (.ifCond .eq off, 3)) (ht : (pc : Int) + off = (tgt : Int)) (kt : x = 0 → Wy p l e R s m args below meth c cells slots Qf D cy ad M tgt L st μ) (kf : ¬ x = 0 → Wy p l e R s m args below meth c cells slots Qf D cy ad M (pc + 3) L st μ) : Wy p l e R s m args below meth c cells slots Qf D cy ad M pc L (.int x :: st) μ :=
  fun ls H locs hl hP hS => lv_if_eq E.1 E.2.1 hd ht (fun h => kt h ls H locs hl hP hS) (fun h => kf h ls H locs hl hP hS)
theorem wy_if_ne (E : x_E D cy ad M p s m args c) {x : Int32} {off : Int} {tgt : Nat} (hd : decode M.2.1 pc = .ok (.ifCond .ne off, 3)) (ht : (pc : Int) + off = (tgt : Int)) (kt : ¬ x = 0 → Wy p l e R s m args below meth c cells slots Qf D cy ad M tgt L st μ) (kf : x = 0 → Wy p l e R s m args below meth c cells slots Qf D cy ad M (pc + 3) L st μ) : Wy p l e R s m args below meth c cells slots Qf D cy ad M pc L (.int x :: st) μ :=
  fun ls H locs hl hP hS => lv_if_ne E.1 E.2.1 hd ht (fun h => kt h ls H locs hl hP hS) (fun h => kf h ls H locs hl hP hS)
theorem wy_if_lt (E : x_E D cy ad M p s m args c) {x : Int32} {off : Int} {tgt : Nat} (hd : decode M.2.1 pc = .ok (.ifCond .lt off, 3)) (ht : (pc : Int) + off = (tgt : Int)) (kt : x < 0 → Wy p l e R s m args below meth c cells slots Qf D cy ad M tgt L st μ) (kf : ¬ x < 0 → Wy p l e R s m args below meth c cells slots Qf D cy ad M (pc + 3) L st μ) : Wy p l e R s m args below meth c cells slots Qf D cy ad M pc L (.int x :: st) μ :=
  fun ls H locs hl hP hS => lv_if_lt E.1 E.2.1 hd ht (fun h => kt h ls H locs hl hP hS) (fun h => kf h ls H locs hl hP hS)
theorem wy_if_ge (E : x_E D cy ad M p s m args c) {x : Int32} {off : Int} {tgt : Nat} (hd : decode M.2.1 pc = .ok (.ifCond .ge off, 3)) (ht : (pc : Int) + off = (tgt : Int)) (kt : 0 ≤ x → Wy p l e R s m args below meth c cells slots Qf D cy ad M tgt L st μ) (kf : ¬ 0 ≤ x → Wy p l e R s m args below meth c cells slots Qf D cy ad M (pc + 3) L st μ) : Wy p l e R s m args below meth c cells slots Qf D cy ad M pc L (.int x :: st) μ :=
  fun ls H locs hl hP hS => lv_if_ge E.1 E.2.1 hd ht (fun h => kt h ls H locs hl hP hS) (fun h => kf h ls H locs hl hP hS)
theorem wy_if_gt (E : x_E D cy ad M p s m args c) {x : Int32} {off : Int} {tgt : Nat} (hd : decode M.2.1 pc = .ok (.ifCond .gt off, 3)) (ht : (pc : Int) + off = (tgt : Int)) (kt : 0 < x → Wy p l e R s m args below meth c cells slots Qf D cy ad M tgt L st μ) (kf : ¬ 0 < x → Wy p l e R s m args below meth c cells slots Qf D cy ad M (pc + 3) L st μ) : Wy p l e R s m args below meth c cells slots Qf D cy ad M pc L (.int x :: st) μ :=
  fun ls H locs hl hP hS => lv_if_gt E.1 E.2.1 hd ht (fun h => kt h ls H locs hl hP hS) (fun h => kf h ls H locs hl hP hS)
theorem wy_if_le (E : x_E D cy ad M p s m args c) {x : Int32} {off : Int} {tgt : Nat} (hd : decode M.2.1 pc = .ok (.ifCond .le off, 3)) (ht : (pc : Int) + off = (tgt : Int)) (kt : x ≤ 0 → Wy p l e R s m args below meth c cells slots Qf D cy ad M tgt L st μ) (kf : ¬ x ≤ 0 → Wy p l e R s m args below meth c cells slots Qf D cy ad M (pc + 3) L st μ) : Wy p l e R s m args below meth c cells slots Qf D cy ad M pc L (.int x :: st) μ :=
  fun ls H locs hl hP hS => lv_if_le E.1 E.2.1 hd ht (fun h => kt h ls H locs hl hP hS) (fun h => kf h ls H locs hl hP hS)
theorem wy_ic_eq (E : x_E D cy ad M p s m args c) {x y : Int32} {off : Int} {tgt : Nat} (hd : decode M.2.1 pc = .ok (.if_icmp .eq off, 3)) (ht : (pc : Int) + off = (tgt : Int)) (kt : x = y → Wy p l e R s m args below meth c cells slots Qf D cy ad M tgt L st μ) (kf : ¬ x = y → Wy p l e R s m args below meth c cells slots Qf D cy ad M (pc + 3) L st μ) : Wy p l e R s m args below meth c cells slots Qf D cy ad M pc L (.int y :: .int x :: st) μ :=
  fun ls H locs hl hP hS => lv_icmp_eq E.1 E.2.1 hd ht (fun h => kt h ls H locs hl hP hS) (fun h => kf h ls H locs hl hP hS)
theorem wy_ic_ne (E : x_E D cy ad M p s m args c) {x y : Int32} {off : Int} {tgt : Nat} (hd : decode M.2.1 pc = .ok (.if_icmp .ne off, 3)) (ht : (pc : Int) + off = (tgt : Int)) (kt : ¬ x = y → Wy p l e R s m args below meth c cells slots Qf D cy ad M tgt L st μ) (kf : x = y → Wy p l e R s m args below meth c cells slots Qf D cy ad M (pc + 3) L st μ) : Wy p l e R s m args below meth c cells slots Qf D cy ad M pc L (.int y :: .int x :: st) μ :=
  fun ls H locs hl hP hS => lv_icmp_ne E.1 E.2.1 hd ht (fun h => kt h ls H locs hl hP hS) (fun h => kf h ls H locs hl hP hS)
theorem wy_ic_lt (E : x_E D cy ad M p s m args c) {x y : Int32} {off : Int} {tgt : Nat} (hd : decode M.2.1 pc = .ok (.if_icmp .lt off, 3)) (ht : (pc : Int) + off = (tgt : Int)) (kt : x < y → Wy p l e R s m args below meth c cells slots Qf D cy ad M tgt L st μ) (kf : ¬ x < y → Wy p l e R s m args below meth c cells slots Qf D cy ad M (pc + 3) L st μ) : Wy p l e R s m args below meth c cells slots Qf D cy ad M pc L (.int y :: .int x :: st) μ :=
  fun ls H locs hl hP hS => lv_icmp_lt E.1 E.2.1 hd ht (fun h => kt h ls H locs hl hP hS) (fun h => kf h ls H locs hl hP hS)
theorem wy_ic_ge (E : x_E D cy ad M p s m args c) {x y : Int32} {off : Int} {tgt : Nat} (hd : decode M.2.1 pc = .ok (.if_icmp .ge off, 3)) (ht : (pc : Int) + off = (tgt : Int)) (kt : y ≤ x → Wy p l e R s m args below meth c cells slots Qf D cy ad M tgt L st μ) (kf : ¬ y ≤ x → Wy p l e R s m args below meth c cells slots Qf D cy ad M (pc + 3) L st μ) : Wy p l e R s m args below meth c cells slots Qf D cy ad M pc L (.int y :: .int x :: st) μ :=
  fun ls H locs hl hP hS => lv_icmp_ge E.1 E.2.1 hd ht (fun h => kt h ls H locs hl hP hS) (fun h => kf h ls H locs hl hP hS)
theorem wy_ic_gt (E : x_E D cy ad M p s m args c) {x y : Int32} {off : Int} {tgt : Nat} (hd : decode M.2.1 pc = .ok (.if_icmp .gt off, 3)) (ht : (pc : Int) + off = (tgt : Int)) (kt : y < x → Wy p l e R s m args below meth c cells slots Qf D cy ad M tgt L st μ) (kf : ¬ y < x → Wy p l e R s m args below meth c cells slots Qf D cy ad M (pc + 3) L st μ) : Wy p l e R s m args below meth c cells slots Qf D cy ad M pc L (.int y :: .int x :: st) μ :=
  fun ls H locs hl hP hS => lv_icmp_gt E.1 E.2.1 hd ht (fun h => kt h ls H locs hl hP hS) (fun h => kf h ls H locs hl hP hS)
theorem wy_ic_le (E : x_E D cy ad M p s m args c) {x y : Int32} {off : Int} {tgt : Nat} (hd : decode M.2.1 pc = .ok (.if_icmp .le off, 3)) (ht : (pc : Int) + off = (tgt : Int)) (kt : x ≤ y → Wy p l e R s m args below meth c cells slots Qf D cy ad M tgt L st μ) (kf : ¬ x ≤ y → Wy p l e R s m args below meth c cells slots Qf D cy ad M (pc + 3) L st μ) : Wy p l e R s m args below meth c cells slots Qf D cy ad M pc L (.int y :: .int x :: st) μ :=
  fun ls H locs hl hP hS => lv_icmp_le E.1 E.2.1 hd ht (fun h => kt h ls H locs hl hP hS) (fun h => kf h ls H locs hl hP hS)
theorem wy_idiv (E : x_E D cy ad M p s m args c) {x y : Int32} (hd : decode M.2.1 pc = .ok (.idiv, 1)) (hne : ¬ y = 0) (k : Wy p l e R s m args below meth c cells slots Qf D cy ad M (pc + 1) L (.int (x / y) :: st) μ) : Wy p l e R s m args below meth c cells slots Qf D cy ad M pc L (.int y :: .int x :: st) μ :=
  fun ls H locs hl hP hS => lv_idiv E.1 E.2.1 hd hne (k ls H locs hl hP hS)
theorem wy_irem (E : x_E D cy ad M p s m args c) {x y : Int32} (hd : decode M.2.1 pc = .ok (.irem, 1)) (hne : ¬ y = 0) (k : Wy p l e R s m args below meth c cells slots Qf D cy ad M (pc + 1) L (.int (x - x / y * y) :: st) μ) : Wy p l e R s m args below meth c cells slots Qf D cy ad M pc L (.int y :: .int x :: st) μ :=
  fun ls H locs hl hP hS => lv_irem E.1 E.2.1 hd hne (k ls H locs hl hP hS)
theorem wy_ldc (E : x_E D cy ad M p s m args c) {idx : Nat} {v : Int32} (hw : Cond.constant M.1.cls idx v ∈ x_ws) (hd : decode M.2.1 pc = .ok (.ldc idx, 2)) (k : Wy p l e R s m args below meth c cells slots Qf D cy ad M (pc + 2) L (.int v :: st) μ) : Wy p l e R s m args below meth c cells slots Qf D cy ad M pc L st μ :=
  fun ls H locs hl hP hS => lv_ldc E.1 E.2.1 E.2.2.2.1 (E.2.2.2.2.1 _ hw) hd (k ls H locs hl hP hS)
theorem wy_ldcw (E : x_E D cy ad M p s m args c) {idx : Nat} {v : Int32} (hw : Cond.constant M.1.cls idx v ∈ x_ws) (hd : decode M.2.1 pc = .ok (.ldc_w idx, 3)) (k : Wy p l e R s m args below meth c cells slots Qf D cy ad M (pc + 3) L (.int v :: st) μ) : Wy p l e R s m args below meth c cells slots Qf D cy ad M pc L st μ :=
  fun ls H locs hl hP hS => lv_ldcw E.1 E.2.1 E.2.2.2.1 (E.2.2.2.2.1 _ hw) hd (k ls H locs hl hP hS)
theorem wy_ldc2 (E : x_E D cy ad M p s m args c) {idx : Nat} {v : Int64} (hw : Cond.constantLong M.1.cls idx v ∈ x_ws) (hd : decode M.2.1 pc = .ok (.ldc2_w idx, 3)) (k : Wy p l e R s m args below meth c cells slots Qf D cy ad M (pc + 3) L (.long v :: st) μ) : Wy p l e R s m args below meth c cells slots Qf D cy ad M pc L st μ :=
  fun ls H locs hl hP hS => lv_ldc2 E.1 E.2.1 E.2.2.2.1 (E.2.2.2.2.1 _ hw) hd (k ls H locs hl hP hS)
theorem wy_ldcs (E : x_E D cy ad M p s m args c) {i : Nat} (hi : i < 8) (ho : M.1.cls = "WakingLayers$Reader") (hd : decode M.2.1 pc = .ok (.ldc (x_txI.getD i 0), 2)) (k : Wy p l e R s m args below meth c cells slots Qf D cy ad M (pc + 2) L (.ref (910 + i) :: st) μ) : Wy p l e R s m args below meth c cells slots Qf D cy ad M pc L st μ := by
  intro ls H locs hl hP hS
  obtain ⟨hx, hb, hml, hown, hts, hK, hinj, hE⟩ := E
  exact va_ldcS hx hb (by rw [← ho]; exact hown) (hE.2.2.2.2.1 i hi) hd (k ls H locs hl hP hS)
/-- a field of class ci by the entry idx of the own class's pool -/
def x_FF (own : String) (idx ci j : Nat) (C : String) (T : u_T) (N : Nat) : Prop := vwCl[ci]? = some (C, T, N) ∧ ci < 13 ∧ (∀ w ∈ u_ws C T N, w ∈ x_ws) ∧ j < N ∧ Cond.fieldLink own idx C (T j).2.1 (T j).2.2.1 ∈ x_ws ∧ (T j).1 = C
theorem x_fs_at {ad : Nat → Nat} {μ : xMu} {k j : Nat} (h : j < x_sz k) : ((List.range (x_sz k)).map (fun j => x_cv ad (x_fv μ k j)))[j]? = some (x_cv ad (x_fv μ k j)) := by
  simp [h]
theorem x_nfC : ∀ ci, ci < 13 → ∀ q : vw_C, vwCl[ci]? = some q → x_nf ci = q.2.2 := by
  intro ci h q hq
  match ci, h, hq with
  | 0, _, hq => cases hq; rfl
  | 1, _, hq => cases hq; rfl
  | 2, _, hq => cases hq; rfl
  | 3, _, hq => cases hq; rfl
  | 4, _, hq => cases hq; rfl
  | 5, _, hq => cases hq; rfl
  | 6, _, hq => cases hq; rfl
  | 7, _, hq => cases hq; rfl
  | 8, _, hq => cases hq; rfl
  | 9, _, hq => cases hq; rfl
  | 10, _, hq => cases hq; rfl
  | 11, _, hq => cases hq; rfl
  | 12, _, hq => cases hq; rfl
  | n + 13, h, _ => omega
theorem wy_get (E : x_E D cy ad M p s m args c) {k idx ci j N : Nat} {C : String} {T : u_T} (hk : x_is k ci) (F : x_FF M.1.cls idx ci j C T N) (hd : decode M.2.1 pc = .ok (.getfield idx, 3)) (kk : Wy p l e R s m args below meth c cells slots Qf D cy ad M (pc + 3) L (x_fv μ k j :: st) μ) : Wy p l e R s m args below meth c cells slots Qf D cy ad M pc L (.ref k :: st) μ := by
  intro ls H locs hl hP hS
  obtain ⟨hx, hb, hml, hown, hts, hK, hinj, hE⟩ := E
  obtain ⟨hc, hci, hin, hj, hlink, hC⟩ := F
  have hsz : x_sz k = N := by rw [x_szf k hk.1 (by rw [hk.2]; exact hci), hk.2, x_nfC ci hci _ hc]
  have he := x_W_at (cy := cy) (ad := ad) (μ := μ) hk.1
  rw [x_cell_o hk.2 hci] at he
  exact va_get (ref := C) hx hb hts hin hown hK hP k he hc j hj (hts _ hlink) (fun x h => by rw [← hC]; exact h) (x_fs_at (by rw [hsz]; exact hj)) hd (kk ls H locs hl hP hS)
/-- what the class's table says of a field that may be written -/
def x_FP (ci j : Nat) (T : u_T) (N : Nat) (ty0 : Nat → FieldType) (ty : FieldType) : Prop := (∀ k, k < N → parseFieldDescriptor (T k).2.2.1 = some (ty0 k)) ∧ (∀ a, a < N → ∀ b, b < N → a ≠ b → (T a).2.1 ≠ (T b).2.1) ∧ (T j).2.2.2 = false ∧ parseFieldDescriptor (T j).2.2.1 = some ty ∧ x_fr ci j = false
theorem wy_put (E : x_E D cy ad M p s m args c) {k idx ci j N : Nat} {C : String} {T : u_T} {ty0 : Nat → FieldType} {ty : FieldType} {v : Int32} (hk : x_is k ci) (F : x_FF M.1.cls idx ci j C T N) (P : x_FP ci j T N ty0 ty) (hn : narrow ty (.int v) = .int v) (hfit : fits ty (.int v) = true) (hd : decode M.2.1 pc = .ok (.putfield idx, 3)) (kk : Wy p l e R s m args below meth c cells slots Qf D cy ad M (pc + 3) L st (x_wr μ k j v)) : Wy p l e R s m args below meth c cells slots Qf D cy ad M pc L (.int v :: .ref k :: st) μ := by
  intro ls H locs hl hP hS
  obtain ⟨hx, hb, hml, hown, hts, hK, hinj, hE⟩ := E
  obtain ⟨hc, hci, hin, hj, hlink, hC⟩ := F
  obtain ⟨hty, hnm, hfin, hpd, hfr⟩ := P
  have hsz : x_sz k = N := by rw [x_szf k hk.1 (by rw [hk.2]; exact hci), hk.2, x_nfC ci hci _ hc]
  have he := x_W_at (cy := cy) (ad := ad) (μ := μ) hk.1
  rw [x_cell_o hk.2 hci] at he
  refine va_put (v := .int v) (ref := C) hx hb hts hin ty0 hty hnm hown hK hP (x_D hinj) hS k he hc j hj (hts _ hlink) (fun x h => by rw [← hC]; exact h) hfin hpd hn hfit (by simp [hsz]; exact hj) hd (fun H1 locs1 hP1 _ hS1 => ?_)
  rw [x_W_set (x_put_cell hk.2 hci hfr) (fun a h => x_cell_ne h)] at hP1
  exact kk ls H1 locs1 hl hP1 hS1
theorem wy_iald (E : x_E D cy ad M p s m args c) {k : Nat} {i : Int32} (hk : x_is k 13) (hin : vp_in i (x_sz k)) (hd : decode M.2.1 pc = .ok (.iaload, 1)) (kk : Wy p l e R s m args below meth c cells slots Qf D cy ad M (pc + 1) L (.int (μ k i.toNatClampNeg) :: st) μ) : Wy p l e R s m args below meth c cells slots Qf D cy ad M pc L (.int i :: .ref k :: st) μ := by
  intro ls H locs hl hP hS
  obtain ⟨hx, hb, hml, hown, hts, hK, hinj, hE⟩ := E
  have he := x_W_at (cy := cy) (ad := ad) (μ := μ) hk.1
  rw [x_cell_i hk.2] at he
  exact va_iald hx hb hK hP k 0 he rfl hin hd (kk ls H locs hl hP hS)
theorem wy_iast (E : x_E D cy ad M p s m args c) {k : Nat} {i v : Int32} (hk : x_is k 13) (hin : vp_in i (x_sz k)) (hd : decode M.2.1 pc = .ok (.iastore, 1)) (kk : Wy p l e R s m args below meth c cells slots Qf D cy ad M (pc + 1) L st (x_wr μ k i.toNatClampNeg v)) : Wy p l e R s m args below meth c cells slots Qf D cy ad M pc L (.int v :: .int i :: .ref k :: st) μ := by
  intro ls H locs hl hP hS
  obtain ⟨hx, hb, hml, hown, hts, hK, hinj, hE⟩ := E
  have he := x_W_at (cy := cy) (ad := ad) (μ := μ) hk.1
  rw [x_cell_i hk.2] at he
  refine va_iast hx hb hK hP (x_D hinj) hS k 0 he rfl hin hd (fun H1 locs1 hP1 _ hS1 => ?_)
  rw [x_W_set (μ' := x_wr μ k i.toNatClampNeg v) (by rw [x_cell_i hk.2, x_wr_row]) (fun a h => x_cell_ne h)] at hP1
  exact kk ls H1 locs1 hl hP1 hS1
theorem wy_zald (E : x_E D cy ad M p s m args c) {k : Nat} {i : Int32} (hk : x_is k 14) (hin : vp_in i (x_sz k)) (hd : decode M.2.1 pc = .ok (.baload, 1)) (kk : Wy p l e R s m args below meth c cells slots Qf D cy ad M (pc + 1) L (.int (μ k i.toNatClampNeg) :: st) μ) : Wy p l e R s m args below meth c cells slots Qf D cy ad M pc L (.int i :: .ref k :: st) μ := by
  intro ls H locs hl hP hS
  obtain ⟨hx, hb, hml, hown, hts, hK, hinj, hE⟩ := E
  have he := x_W_at (cy := cy) (ad := ad) (μ := μ) hk.1
  rw [x_cell_z hk.2] at he
  exact va_zald hx hb hK hP k 1 he rfl hin hd (kk ls H locs hl hP hS)
theorem wy_zast (E : x_E D cy ad M p s m args c) {k : Nat} {i v : Int32} (hk : x_is k 14) (hin : vp_in i (x_sz k)) (hd : decode M.2.1 pc = .ok (.bastore, 1)) (kk : Wy p l e R s m args below meth c cells slots Qf D cy ad M (pc + 1) L st (x_wr μ k i.toNatClampNeg (vp_nar .boolean v))) : Wy p l e R s m args below meth c cells slots Qf D cy ad M pc L (.int v :: .int i :: .ref k :: st) μ := by
  intro ls H locs hl hP hS
  obtain ⟨hx, hb, hml, hown, hts, hK, hinj, hE⟩ := E
  have he := x_W_at (cy := cy) (ad := ad) (μ := μ) hk.1
  rw [x_cell_z hk.2] at he
  refine va_zast hx hb hK hP (x_D hinj) hS k 1 he rfl hin hd (fun H1 locs1 hP1 _ hS1 => ?_)
  rw [x_W_set (μ' := x_wr μ k i.toNatClampNeg (vp_nar .boolean v)) (by rw [x_cell_z hk.2, x_wr_row]) (fun a h => x_cell_ne h)] at hP1
  exact kk ls H1 locs1 hl hP1 hS1
theorem x_tyr {cy : Nat → ClassId} {cx : Nat} (h : ¬ cx < 15) (h2 : cx < 18) : ∃ (t : Nat) (ty : FieldType), (x_tys cy)[t]? = some (cy cx, ty) ∧ ty.isReference = true := by
  rcases (show cx = 15 ∨ cx = 16 ∨ cx = 17 by omega) with rfl | rfl | rfl
  · exact ⟨2, _, rfl, rfl⟩
  · exact ⟨3, _, rfl, rfl⟩
  · exact ⟨4, _, rfl, rfl⟩
theorem wy_aald (E : x_E D cy ad M p s m args c) {k cx r : Nat} {i : Int32} (hk : x_is k cx) (hcx : ¬ cx < 15) (hin : vp_in i (x_sz k)) (hr : x_rf k i.toNatClampNeg = some r) (hd : decode M.2.1 pc = .ok (.aaload, 1)) (kk : Wy p l e R s m args below meth c cells slots Qf D cy ad M (pc + 1) L (.ref r :: st) μ) : Wy p l e R s m args below meth c cells slots Qf D cy ad M pc L (.int i :: .ref k :: st) μ := by
  intro ls H locs hl hP hS
  obtain ⟨hx, hb, hml, hown, hts, hK, hinj, hE⟩ := E
  have he := x_W_at (cy := cy) (ad := ad) (μ := μ) hk.1
  rw [x_cell_r hk.2 hcx] at he
  have hlt : i.toNatClampNeg < x_sz k := Nat.not_le.mp fun q => hin (Or.inr q)
  obtain ⟨t0, ty, ht, hty⟩ := x_tyr (cy := cy) hcx (by have := x_kd18 k hk.1; rw [hk.2] at this; exact this)
  refine W.aald (v := .ref (ad r)) (ty := ty) hx hb (hP k _ he) ((hK.2 t0 _ ht).1 (x_sz k) (fun j => va_rf ((x_rf k j).map ad))) hty (fun q => by cases q) (by show ¬ (i < 0 ∨ (arrV _ _ _).slots.size ≤ _); rw [arrV_size]; exact hin) (by show (arrV _ _ _).slots[_]? = _; rw [arrV_read _ _ hlt]; dsimp only; rw [hr]; rfl) rfl rfl hd (kk ls H locs hl hP hS)
theorem wy_abo (E : x_E D cy ad M p s m args c) {idx : Nat} (hw : Cond.fieldLink M.1.cls idx "WakingLayers$Asker" "ABOVE" "[I" ∈ x_ws) (hd : decode M.2.1 pc = .ok (.getstatic idx, 3)) (kk : Wy p l e R s m args below meth c cells slots Qf D cy ad M (pc + 3) L (.ref 900 :: st) μ) : Wy p l e R s m args below meth c cells slots Qf D cy ad M pc L st μ := by
  intro ls H locs hl hP hS
  obtain ⟨hx, hb, hml, hown, hts, hK, hinj, hE⟩ := E
  exact va_gets (ref := "WakingLayers$Asker") hx hb hE.1 hS hown (hts _ hw) (fun x h => h) hd (kk ls H locs hl hP hS)
theorem wy_abolen (E : x_E D cy ad M p s m args c) (hd : decode M.2.1 pc = .ok (.arraylength, 1)) (kk : Wy p l e R s m args below meth c cells slots Qf D cy ad M (pc + 1) L (.int 6 :: st) μ) : Wy p l e R s m args below meth c cells slots Qf D cy ad M pc L (.ref 900 :: st) μ := by
  intro ls H locs hl hP hS
  obtain ⟨hx, hb, hml, hown, hts, hK, hinj, hE⟩ := E
  exact va_tlen hx hb hE.2.1 hS rfl hd (kk ls H locs hl hP hS)
theorem wy_abold (E : x_E D cy ad M p s m args c) {i : Int32} (hin : vp_in i 6) (hd : decode M.2.1 pc = .ok (.iaload, 1)) (kk : Wy p l e R s m args below meth c cells slots Qf D cy ad M (pc + 1) L (.int (x_aboL.getD i.toNatClampNeg 0) :: st) μ) : Wy p l e R s m args below meth c cells slots Qf D cy ad M pc L (.int i :: .ref 900 :: st) μ := by
  intro ls H locs hl hP hS
  obtain ⟨hx, hb, hml, hown, hts, hK, hinj, hE⟩ := E
  exact va_ti hx hb hE.2.1 hS hin rfl hd (kk ls H locs hl hP hS)
/-! calls -/
theorem wy_back (E : x_E D cy ad M p s m args c) {r : Option Value} {μ' : xMu} {rest st0 : List Value} {a : Array Value} {ls : Array Slot} {H : Heap} {locs : List Loc} (hl : x_LR ad ls M.2.2.1 L) (hS : va_S (x_A ad) s.heap H locs)
    (hr : va_Run p l e R s m args below meth c H locs cells slots 0 0 (F0 m pc ls st0) (rest.map (x_cv ad)) (x_Q D cy ad r μ' a) (x_A ad))
    (kk : Wy p l e R s m args below meth c cells slots Qf D cy ad M (pc + 3) L (r.toList ++ rest) μ') : W p l e R s m args below meth c H locs cells slots Qf (F0 m pc ls st0) := by
  intro T hT X
  obtain ⟨v, st₀, t, T', Lc, h0, X', hL, e1, e2, ⟨hv, hP1, hz, hk⟩, go⟩ := hr T hT X
  cases hv
  rw [h0] at hz hk
  have hS' : va_S (x_A ad) s.heap T'.heap (locs ++ Lc) := by
    refine ⟨Nat.le_trans hS.1 (by rw [e1]; exact hz), fun q h1 h2 => ?_, fun q hq => ?_⟩
    · rw [e1, hk q (Nat.lt_of_lt_of_le h1 hS.1) h2]
      exact hS.2.1 q h1 h2
    · rcases List.mem_append.mp hq with h | h
      · exact hS.2.2 q h
      · exact hL q h
  obtain ⟨t2, a1, b1⟩ := kk ls T'.heap (locs ++ Lc) hl (by rw [e1]; exact hP1) hS' T' rfl X'
  refine ⟨t2, go t2 ?_, b1⟩
  have e3 : (r.toList ++ rest).map (x_cv ad) = (r.map (x_cv ad)).toList ++ rest.map (x_cv ad) := by cases r <;> simp
  rw [e3] at a1
  exact a1
theorem x_rest (ad : Nat → Nat) (rest : List Value) : ((rest.map (x_cv ad)).map fun v => v.category).sum = (rest.map fun v => v.category).sum := by
  rw [List.map_map]
  congr 1
  apply List.map_congr_left
  intro v _
  exact x_cv_cat ad v
theorem x_goodM {M' : xM} (h : Cond.code M'.1 M'.2.1 M'.2.2.1 M'.2.2.2 ∈ x_ws) : GoodIn x_ws (x_wsM M') := by
  intro w hw
  rcases List.mem_cons.mp hw with rfl | hw
  · exact ⟨h, good_of_word (List.mem_filter.mp h).2⟩
  · exact ⟨hw, good_of_word (List.mem_filter.mp hw).2⟩
/-- what the tables say of a call of an instance method -/
def x_CV (own : String) (idx : Nat) (M' : xM) (n : Nat) : Prop := Cond.methodLink own idx M'.1 ∈ x_ws ∧ Cond.instanceMethod M'.1 ∈ x_ws ∧ Cond.selects M'.1.cls M'.1 M'.1 ∈ x_ws ∧ (parseMethodDescriptor M'.1.desc).map (fun d => d.parameters.length) = some n ∧ x_ok M'
def x_CS (own : String) (idx : Nat) (M' : xM) (n : Nat) : Prop := Cond.methodLink own idx M'.1 ∈ x_ws ∧ Cond.static M'.1 ∈ x_ws ∧ (parseMethodDescriptor M'.1.desc).map (fun d => d.parameters.length) = some n ∧ x_ok M'
theorem wy_callV (E : x_E D cy ad M p s m args c) {M' : xM} {d idx k ci N n : Nat} {T : u_T} {As rest : List Value} {r : Option Value} {μ' : xMu} (hR : d + 1 ≤ R.frames ∧ 40 * (d + 1) ≤ R.locals) (hcs : cells ≤ R.cells ∧ slots ≤ R.slots)
    (hk : x_is k ci) (hci : ci < 13) (hc : vwCl[ci]? = some (M'.1.cls, T, N)) (C : x_CV M.1.cls idx M' n) (hn : As.length = n) (hrest : (rest.map fun v => v.category).sum ≤ 8) (hst : st = As.reverse ++ .ref k :: rest) (hd : decode M.2.1 pc = .ok (.invokevirtual idx, 3))
    (hM : Met l M'.1 (x_wsM M') (x_rm d) (x_Pc D cy ad (.ref k :: As) μ) (x_Q D cy ad r μ') 0 0 (x_A ad)) (kk : Wy p l e R s m args below meth c cells slots Qf D cy ad M (pc + 3) L (r.toList ++ rest) μ') : Wy p l e R s m args below meth c cells slots Qf D cy ad M pc L st μ := by
  intro ls H locs hl hP hS
  obtain ⟨hx, hb, hml, hown, hts, hK, hinj, hE⟩ := id E
  obtain ⟨hlink, hinst, hsel, hpd, hcode, hpl, hnm, hini, hnL⟩ := C
  have he := x_W_at (cy := cy) (ad := ad) (μ := μ) hk.1
  rw [x_cell_o hk.2 hci] at he
  subst hst
  refine wy_back (r := r) (μ' := μ') E hl hS (va_runV (cc := M.2.1) (nL := M.2.2.1) (As := As.map (x_cv ad)) (n := n) (b := ad k) (C := M'.1.cls) (Ts := x_ws) (own := M.1.cls) ⟨hx, hb, hml, hown, hts⟩ hM
    (⟨callB_of n hts (x_goodM hcode) rfl rfl rfl (hts _ hini) (hts _ hlink) ⟨hnm.1, hnm.2, hpd⟩ ⟨hR.1, by show 8 + (M'.2.2.1 + 11) + 40 * d ≤ R.locals; omega⟩, hts _ hinst, hts _ hsel⟩)
    ⟨x_blind, va_recv hK hP hc he, fun U hU hW => ⟨rfl, by rw [hU]; exact hP, va_K.moved hW.alike hK, hinj, hE.go hS hU hW⟩⟩ rfl (by rw [List.length_map]; exact hn) hl.1 (by simp [x_cv]) (lv_room (by rw [x_rest]; exact hrest)) hd hcs) kk
theorem wy_callS (E : x_E D cy ad M p s m args c) {M' : xM} {d idx n : Nat} {As rest : List Value} {r : Option Value} {μ' : xMu} (hR : d + 1 ≤ R.frames ∧ 40 * (d + 1) ≤ R.locals) (hcs : cells ≤ R.cells ∧ slots ≤ R.slots)
    (C : x_CS M.1.cls idx M' n) (hn : As.length = n) (hrest : (rest.map fun v => v.category).sum ≤ 8) (hst : st = As.reverse ++ rest) (hd : decode M.2.1 pc = .ok (.invokestatic idx, 3))
    (hM : Met l M'.1 (x_wsM M') (x_rm d) (x_Pc D cy ad As μ) (x_Q D cy ad r μ') 0 0 (x_A ad)) (kk : Wy p l e R s m args below meth c cells slots Qf D cy ad M (pc + 3) L (r.toList ++ rest) μ') : Wy p l e R s m args below meth c cells slots Qf D cy ad M pc L st μ := by
  intro ls H locs hl hP hS
  obtain ⟨hx, hb, hml, hown, hts, hK, hinj, hE⟩ := id E
  obtain ⟨hlink, hstat, hpd, hcode, hpl, hnm, hini, hnL⟩ := C
  subst hst
  refine wy_back (r := r) (μ' := μ') E hl hS (va_runS (cc := M.2.1) (nL := M.2.2.1) (As := As.map (x_cv ad)) (n := n) (Ts := x_ws) (own := M.1.cls) ⟨hx, hb, hml, hown, hts⟩ hM
    (⟨callB_of n hts (x_goodM hcode) rfl rfl rfl (hts _ hini) (hts _ hlink) ⟨hnm.1, hnm.2, hpd⟩ ⟨hR.1, by show 8 + (M'.2.2.1 + 11) + 40 * d ≤ R.locals; omega⟩, hts _ hstat⟩)
    ⟨x_blind, fun U hU hW => ⟨rfl, by rw [hU]; exact hP, va_K.moved hW.alike hK, hinj, hE.go hS hU hW⟩⟩ rfl (by rw [List.length_map]; exact hn) hl.1 (by simp) (lv_room (by rw [x_rest]; exact hrest)) hd hcs) kk
end Wy2
