/-! a frame over the memory -/
/-- what lies outside the memory: the table ABOVE, the String constants -/
def x_Ext (ad : Nat → Nat) (U : State) : Prop :=
  va_Z "WakingLayers$Asker" "ABOVE" "[I" (.ref (ad 900)) (x_A ad) U U.heap ∧ va_T .int (ad 900) 6 (fun j => .int (x_aboL.getD j 0)) (x_A ad) U U.heap ∧
  va_Z "java/lang/String" "COMPACT_STRINGS" "Z" (.int 1) (x_A ad) U U.heap ∧
  vk_S 8 x_len x_byt (fun i => ad (910 + i)) (fun i => ad (930 + i)) (x_A ad) U U.heap ∧
  (∀ i, i < 8 → vk_R "WakingLayers$Reader" (x_txI.getD i 0) (x_txt.getD i "") (ad (910 + i)) U) ∧
  ∃ v : Value, (v = .null ∨ v = .ref 950) ∧ va_Z "jdk/internal/util/Preconditions" "SIOOBE_FORMATTER" "Ljava/util/function/BiFunction;" (x_cv ad v) (x_A ad) U U.heap
theorem x_Ext.go {ad : Nat → Nat} {s U : State} {H : Heap} {locs : List Loc} (h : x_Ext ad s) (hS : va_S (x_A ad) s.heap H locs) (hU : U.heap = H) (hW : s.WarmedH U.vm) : x_Ext ad U := by
  obtain ⟨h1, h2, h3, h4, h5, v, h6, h7⟩ := h
  subst hU
  exact ⟨(h1.kept hS.2.1).moved hW.alike, (h2.kept hS.2.1).moved hW.alike, (h3.kept hS.2.1).moved hW.alike, (h4.kept hS.2.1).moved hW.alike, fun i hi => vk_R.warm hW (h5 i hi), v, h6, (h7.kept hS.2.1).moved hW.alike⟩
theorem x_Ext.same {ad : Nat → Nat} {s U : State} (h : x_Ext ad s) (hU : U.heap = s.heap) (hv : U.vm = s.vm) : x_Ext ad U := by
  obtain ⟨h1, h2, h3, h4, h5, v, h6, h7⟩ := h
  have hal : s.vm.Alike U.vm := by rw [hv]; exact Vm.Alike.refl _
  unfold x_Ext
  rw [hU]
  exact ⟨h1.moved hal, h2.moved hal, h3.moved hal, h4.moved hal, fun i hi => vk_R.same hv (h5 i hi), v, h6, h7.moved hal⟩
/-- a method: its name, bytes, locals, answer's type -/
abbrev xM : Type := MethodName × ByteArray × Nat × Option FieldType
def x_E (D : va_G) (cy : Nat → ClassId) (ad : Nat → Nat) (M : xM) (p : Program) (s : State) (m : MethodId) (args : Array Value) (c : Code) : Prop :=
  p.tables.exec = Jvm.exec ∧ c.code = M.2.1 ∧ c.maxLocals = M.2.2.1 ∧ s.vm.findClass M.1.cls = some m.cls ∧ (∀ w ∈ x_ws, w.before args s = true) ∧ va_K D vwCl (x_tys cy) s ∧ x_inj ad ∧ x_Ext ad s
section Wy
variable {p : Program} {l : Launch} {e : Env} {R : Room} {s : State} {m : MethodId} {args : Array Value} {below : List Frame} {meth : Method} {c : Code} {cells slots : Nat} {Qf : State → Prop} {D : va_G} {cy : Nat → ClassId} {ad : Nat → Nat} {M : xM}
def Wy (p : Program) (l : Launch) (e : Env) (R : Room) (s : State) (m : MethodId) (args : Array Value) (below : List Frame) (meth : Method) (c : Code) (cells slots : Nat) (Qf : State → Prop) (D : va_G) (cy : Nat → ClassId) (ad : Nat → Nat) (M : xM) (pc : Nat) (L : List (Option Value)) (st : List Value) (μ : xMu) : Prop :=
  ∀ (ls : Array Slot) (H : Heap) (locs : List Loc), x_LR ad ls M.2.2.1 L → va_P D vwCl (x_W cy ad μ) H → va_S (x_A ad) s.heap H locs → W p l e R s m args below meth c H locs cells slots Qf (F0 m pc ls (st.map (x_cv ad)))
/-! instructions without the heap -/
def x_sz1 : Instr → Nat
  | .bipush _ => 2 | .sipush _ => 3 | .iload _ => 2 | .lload _ => 2 | .aload _ => 2 | .istore _ => 2 | .lstore _ => 2 | .astore _ => 2 | .iinc _ _ => 3
  | _ => 1
def x_ldi (L : List (Option Value)) (st : List Value) (i : Nat) : Option (List (Option Value) × List Value) := match L[i]? with
  | some (some (.int x)) => some (L, .int x :: st)
  | _ => none
def x_ldl (L : List (Option Value)) (st : List Value) (i : Nat) : Option (List (Option Value) × List Value) := match L[i]? with
  | some (some (.long x)) => some (L, .long x :: st)
  | _ => none
def x_lda (L : List (Option Value)) (st : List Value) (i : Nat) : Option (List (Option Value) × List Value) := match L[i]? with
  | some (some (.ref x)) => some (L, .ref x :: st)
  | _ => none
def x_sti (L : List (Option Value)) (st : List Value) (i : Nat) : Option (List (Option Value) × List Value) := match st with
  | .int x :: r => (x_st1 L i (.int x)).map fun L' => (L', r)
  | _ => none
def x_stl (L : List (Option Value)) (st : List Value) (i : Nat) : Option (List (Option Value) × List Value) := match st with
  | .long x :: r => (x_st2 L i (.long x)).map fun L' => (L', r)
  | _ => none
def x_sta (L : List (Option Value)) (st : List Value) (i : Nat) : Option (List (Option Value) × List Value) := match st with
  | .ref x :: r => (x_st1 L i (.ref x)).map fun L' => (L', r)
  | _ => none
def x_ii (L : List (Option Value)) (st : List Value) (f : Int32 → Int32 → Int32) : Option (List (Option Value) × List Value) := match st with
  | .int y :: .int x :: r => some (L, .int (f x y) :: r)
  | _ => none
def x_ll (L : List (Option Value)) (st : List Value) (f : Int64 → Int64 → Int64) : Option (List (Option Value) × List Value) := match st with
  | .long y :: .long x :: r => some (L, .long (f x y) :: r)
  | _ => none
def x_li (L : List (Option Value)) (st : List Value) (f : Int64 → Int32 → Int64) : Option (List (Option Value) × List Value) := match st with
  | .int y :: .long x :: r => some (L, .long (f x y) :: r)
  | _ => none
def x_i1 (L : List (Option Value)) (st : List Value) (f : Int32 → Int32) : Option (List (Option Value) × List Value) := match st with
  | .int x :: r => some (L, .int (f x) :: r)
  | _ => none
def x_ev1 (i : Instr) (L : List (Option Value)) (st : List Value) : Option (List (Option Value) × List Value) := match i with
  | .iconst n => some (L, .int (Int32.ofInt n) :: st)
  | .bipush n => some (L, .int (Int8.ofInt n).toInt32 :: st)
  | .sipush n => some (L, .int (Int16.ofInt n).toInt32 :: st)
  | .lconst n => some (L, .long (Int64.ofNat (n : Nat)) :: st)
  | .iload_n k => x_ldi L st k
  | .iload k => x_ldi L st k
  | .lload_n k => x_ldl L st k
  | .lload k => x_ldl L st k
  | .aload_n k => x_lda L st k
  | .aload k => x_lda L st k
  | .istore_n k => x_sti L st k
  | .istore k => x_sti L st k
  | .lstore_n k => x_stl L st k
  | .lstore k => x_stl L st k
  | .astore_n k => x_sta L st k
  | .astore k => x_sta L st k
  | .iinc k n => match L[k]? with
    | some (some (.int x)) => (x_st1 L k (.int (x + Int32.ofInt n))).map fun L' => (L', st)
    | _ => none
  | .iadd => x_ii L st (fun x y => x + y)
  | .isub => x_ii L st (fun x y => x - y)
  | .imul => x_ii L st (fun x y => x * y)
  | .iand => x_ii L st (fun x y => x &&& y)
  | .ior => x_ii L st (fun x y => x ||| y)
  | .ixor => x_ii L st (fun x y => x ^^^ y)
  | .ishl => x_ii L st (fun x y => x <<< (y &&& 31))
  | .ishr => x_ii L st (fun x y => x >>> (y &&& 31))
  | .iushr => x_ii L st (fun x y => (x.toUInt32 >>> (y.toUInt32 &&& Int32.toUInt32 31)).toInt32)
  | .ladd => x_ll L st (fun x y => x + y)
  | .land => x_ll L st (fun x y => x &&& y)
  | .lor => x_ll L st (fun x y => x ||| y)
  | .lshl => x_li L st (fun x y => x <<< (y.toInt64 &&& 63))
  | .lshr => x_li L st (fun x y => x >>> (y.toInt64 &&& 63))
  | .lushr => x_li L st (fun x y => (x.toUInt64 >>> (y.toInt64.toUInt64 &&& Int64.toUInt64 63)).toInt64)
  | .i2l => match st with
    | .int x :: r => some (L, .long x.toInt64 :: r)
    | _ => none
  | .l2i => match st with
    | .long x :: r => some (L, .int x.toInt32 :: r)
    | _ => none
  | .i2b => x_i1 L st (fun x => x.toInt8.toInt32)
  | .i2s => x_i1 L st (fun x => x.toInt16.toInt32)
  | .i2c => x_i1 L st (fun x => (x.toUInt32 % 65536).toInt32)
  | .lcmp => match st with
    | .long y :: .long x :: r => some (L, .int (lg_cmp x y) :: r)
    | _ => none
  | .dup => match st with
    | .int x :: r => some (L, .int x :: .int x :: r)
    | .ref x :: r => some (L, .ref x :: .ref x :: r)
    | _ => none
  | .dup2 => match st with
    | .int x :: .ref y :: r => some (L, .int x :: .ref y :: .int x :: .ref y :: r)
    | _ => none
  | .pop => match st with
    | .int _ :: r => some (L, r)
    | _ => none
  | _ => none
theorem x_ldi_at {L L' : List (Option Value)} {st st' : List Value} {i : Nat} (h : x_ldi L st i = some (L', st')) : L' = L ∧ ∃ x, L[i]? = some (some (.int x)) ∧ st' = .int x :: st := by
  unfold x_ldi at h
  split at h
  · next x hx => cases h; exact ⟨rfl, x, hx, rfl⟩
  · cases h
theorem x_ldl_at {L L' : List (Option Value)} {st st' : List Value} {i : Nat} (h : x_ldl L st i = some (L', st')) : L' = L ∧ ∃ x, L[i]? = some (some (.long x)) ∧ st' = .long x :: st := by
  unfold x_ldl at h
  split at h
  · next x hx => cases h; exact ⟨rfl, x, hx, rfl⟩
  · cases h
theorem x_lda_at {L L' : List (Option Value)} {st st' : List Value} {i : Nat} (h : x_lda L st i = some (L', st')) : L' = L ∧ ∃ x, L[i]? = some (some (.ref x)) ∧ st' = .ref x :: st := by
  unfold x_lda at h
  split at h
  · next x hx => cases h; exact ⟨rfl, x, hx, rfl⟩
  · cases h
theorem x_sti_at {L L' : List (Option Value)} {st st' : List Value} {i : Nat} (h : x_sti L st i = some (L', st')) : ∃ x, st = .int x :: st' ∧ x_st1 L i (.int x) = some L' := by
  unfold x_sti at h
  split at h
  · next x r => 
    obtain ⟨a, h1, h2⟩ := Option.map_eq_some_iff.mp h
    cases h2; exact ⟨x, rfl, h1⟩
  · cases h
theorem x_stl_at {L L' : List (Option Value)} {st st' : List Value} {i : Nat} (h : x_stl L st i = some (L', st')) : ∃ x, st = .long x :: st' ∧ x_st2 L i (.long x) = some L' := by
  unfold x_stl at h
  split at h
  · next x r => 
    obtain ⟨a, h1, h2⟩ := Option.map_eq_some_iff.mp h
    cases h2; exact ⟨x, rfl, h1⟩
  · cases h
theorem x_sta_at {L L' : List (Option Value)} {st st' : List Value} {i : Nat} (h : x_sta L st i = some (L', st')) : ∃ x, st = .ref x :: st' ∧ x_st1 L i (.ref x) = some L' := by
  unfold x_sta at h
  split at h
  · next x r => 
    obtain ⟨a, h1, h2⟩ := Option.map_eq_some_iff.mp h
    cases h2; exact ⟨x, rfl, h1⟩
  · cases h
theorem x_st1_lt {L L' : List (Option Value)} {i : Nat} {v : Value} (h : x_st1 L i v = some L') : i < L.length := by
  unfold x_st1 at h
  split at h
  · next hi => exact hi.1
  · cases h
theorem x_st2_lt {L L' : List (Option Value)} {i : Nat} {v : Value} (h : x_st2 L i v = some L') : i + 1 < L.length := by
  unfold x_st2 at h
  split at h
  · next hi => exact hi.1
  · cases h
theorem x_ii_at {L L' : List (Option Value)} {st st' : List Value} {f : Int32 → Int32 → Int32} (h : x_ii L st f = some (L', st')) : L' = L ∧ ∃ x y r, st = .int y :: .int x :: r ∧ st' = .int (f x y) :: r := by
  unfold x_ii at h
  split at h
  · next y x r => cases h; exact ⟨rfl, x, y, r, rfl, rfl⟩
  · cases h
theorem x_ll_at {L L' : List (Option Value)} {st st' : List Value} {f : Int64 → Int64 → Int64} (h : x_ll L st f = some (L', st')) : L' = L ∧ ∃ x y r, st = .long y :: .long x :: r ∧ st' = .long (f x y) :: r := by
  unfold x_ll at h
  split at h
  · next y x r => cases h; exact ⟨rfl, x, y, r, rfl, rfl⟩
  · cases h
theorem x_li_at {L L' : List (Option Value)} {st st' : List Value} {f : Int64 → Int32 → Int64} (h : x_li L st f = some (L', st')) : L' = L ∧ ∃ x y r, st = .int y :: .long x :: r ∧ st' = .long (f x y) :: r := by
  unfold x_li at h
  split at h
  · next y x r => cases h; exact ⟨rfl, x, y, r, rfl, rfl⟩
  · cases h
theorem x_i1_at {L L' : List (Option Value)} {st st' : List Value} {f : Int32 → Int32} (h : x_i1 L st f = some (L', st')) : L' = L ∧ ∃ x r, st = .int x :: r ∧ st' = .int (f x) :: r := by
  unfold x_i1 at h
  split at h
  · next x r => cases h; exact ⟨rfl, x, r, rfl, rfl⟩
  · cases h
set_option maxHeartbeats 4000000 in
theorem wy_ev1 (E : x_E D cy ad M p s m args c) {pc : Nat} {L L' : List (Option Value)} {st st' : List Value} {μ : xMu} {i : Instr} (hd : decode M.2.1 pc = .ok (i, x_sz1 i)) (hev : x_ev1 i L st = some (L', st'))
    (k : Wy p l e R s m args below meth c cells slots Qf D cy ad M (pc + x_sz1 i) L' st' μ) : Wy p l e R s m args below meth c cells slots Qf D cy ad M pc L st μ := by
  obtain ⟨hx, hb, -⟩ := E
  intro ls H locs hl hP hS
  unfold x_ev1 at hev
  split at hev
  case h_1 n => cases hev; exact lv_iconst hx hb hd rfl (k ls H locs hl hP hS)
  case h_2 n => cases hev; exact lv_bipush hx hb hd rfl (k ls H locs hl hP hS)
  case h_3 n => cases hev; exact lv_sipush hx hb hd rfl (k ls H locs hl hP hS)
  case h_4 n => cases hev; exact lv_lconst hx hb hd rfl (k ls H locs hl hP hS)
  case h_5 n => obtain ⟨rfl, x, h1, rfl⟩ := x_ldi_at hev; exact lv_iload_n hx hb hd rfl (hl.2.2.2 _ _ h1) (k ls H locs hl hP hS)
  case h_6 n => obtain ⟨rfl, x, h1, rfl⟩ := x_ldi_at hev; exact lv_iload hx hb hd (hl.2.2.2 _ _ h1) (k ls H locs hl hP hS)
  case h_7 n => obtain ⟨rfl, x, h1, rfl⟩ := x_ldl_at hev; exact lv_lload_n hx hb hd rfl (hl.2.2.2 _ _ h1) (k ls H locs hl hP hS)
  case h_8 n => obtain ⟨rfl, x, h1, rfl⟩ := x_ldl_at hev; exact lv_lload hx hb hd (hl.2.2.2 _ _ h1) (k ls H locs hl hP hS)
  case h_9 n => obtain ⟨rfl, x, h1, rfl⟩ := x_lda_at hev; exact lv_aload_n hx hb hd rfl (hl.2.2.2 _ _ h1) (k ls H locs hl hP hS)
  case h_10 n => obtain ⟨rfl, x, h1, rfl⟩ := x_lda_at hev; exact lv_aload hx hb hd (hl.2.2.2 _ _ h1) (k ls H locs hl hP hS)
  case h_11 n => obtain ⟨x, rfl, h1⟩ := x_sti_at hev; exact lv_istore_n hx hb hd rfl hl.has (by rw [← hl.2.1]; exact x_st1_lt h1) rfl (fun ls' hl' => k ls' H locs (hl.st1 h1 rfl hl') hP hS)
  case h_12 n => obtain ⟨x, rfl, h1⟩ := x_sti_at hev; exact lv_istore hx hb hd hl.has (by rw [← hl.2.1]; exact x_st1_lt h1) rfl (fun ls' hl' => k ls' H locs (hl.st1 h1 rfl hl') hP hS)
  case h_13 n => obtain ⟨x, rfl, h1⟩ := x_stl_at hev; exact lv_lstore_n hx hb hd rfl hl.has (by rw [← hl.2.1]; exact x_st2_lt h1) rfl (fun ls' hl' => k ls' H locs (hl.st2 h1 rfl hl') hP hS)
  case h_14 n => obtain ⟨x, rfl, h1⟩ := x_stl_at hev; exact lv_lstore hx hb hd hl.has (by rw [← hl.2.1]; exact x_st2_lt h1) rfl (fun ls' hl' => k ls' H locs (hl.st2 h1 rfl hl') hP hS)
  case h_15 n => obtain ⟨x, rfl, h1⟩ := x_sta_at hev; exact lv_astore_n hx hb hd rfl hl.has (by rw [← hl.2.1]; exact x_st1_lt h1) rfl (fun ls' hl' => k ls' H locs (hl.st1 h1 rfl hl') hP hS)
  case h_16 n => obtain ⟨x, rfl, h1⟩ := x_sta_at hev; exact lv_astore hx hb hd hl.has (by rw [← hl.2.1]; exact x_st1_lt h1) rfl (fun ls' hl' => k ls' H locs (hl.st1 h1 rfl hl') hP hS)
  case h_17 kk n =>
    split at hev
    · next x hx1 =>
      obtain ⟨a, h1, h2⟩ := Option.map_eq_some_iff.mp hev
      cases h2
      have hm : (kk, x_cv ad (.int x)) ∈ x_lp ad L := x_lp_mem.mpr ⟨_, hx1, rfl⟩
      obtain ⟨j, hj⟩ := List.getElem?_of_mem hm
      exact lv_iinc hx hb hd hl.has hj rfl (by rw [← hl.2.1]; exact x_st1_lt h1) rfl (fun ls' hl' => k ls' H locs (hl.st1 h1 rfl hl') hP hS)
    · cases hev
  case h_18 => obtain ⟨rfl, x, y, r, rfl, rfl⟩ := x_ii_at hev; exact lv_iadd hx hb hd (k ls H locs hl hP hS)
  case h_19 => obtain ⟨rfl, x, y, r, rfl, rfl⟩ := x_ii_at hev; exact lv_isub hx hb hd (k ls H locs hl hP hS)
  case h_20 => obtain ⟨rfl, x, y, r, rfl, rfl⟩ := x_ii_at hev; exact lv_imul hx hb hd (k ls H locs hl hP hS)
  case h_21 => obtain ⟨rfl, x, y, r, rfl, rfl⟩ := x_ii_at hev; exact lv_iand hx hb hd (k ls H locs hl hP hS)
  case h_22 => obtain ⟨rfl, x, y, r, rfl, rfl⟩ := x_ii_at hev; exact lv_ior hx hb hd (k ls H locs hl hP hS)
  case h_23 => obtain ⟨rfl, x, y, r, rfl, rfl⟩ := x_ii_at hev; exact lv_ixor hx hb hd (k ls H locs hl hP hS)
  case h_24 => obtain ⟨rfl, x, y, r, rfl, rfl⟩ := x_ii_at hev; exact lv_ishl hx hb hd (k ls H locs hl hP hS)
  case h_25 => obtain ⟨rfl, x, y, r, rfl, rfl⟩ := x_ii_at hev; exact lv_ishr hx hb hd (k ls H locs hl hP hS)
  case h_26 => obtain ⟨rfl, x, y, r, rfl, rfl⟩ := x_ii_at hev; exact lv_iushr hx hb hd rfl (k ls H locs hl hP hS)
  case h_27 => obtain ⟨rfl, x, y, r, rfl, rfl⟩ := x_ll_at hev; exact lv_ladd hx hb hd (k ls H locs hl hP hS)
  case h_28 => obtain ⟨rfl, x, y, r, rfl, rfl⟩ := x_ll_at hev; exact lv_land hx hb hd (k ls H locs hl hP hS)
  case h_29 => obtain ⟨rfl, x, y, r, rfl, rfl⟩ := x_ll_at hev; exact lv_lor hx hb hd (k ls H locs hl hP hS)
  case h_30 => obtain ⟨rfl, x, y, r, rfl, rfl⟩ := x_li_at hev; exact lv_lshl hx hb hd rfl (k ls H locs hl hP hS)
  case h_31 => obtain ⟨rfl, x, y, r, rfl, rfl⟩ := x_li_at hev; exact lv_lshr hx hb hd rfl (k ls H locs hl hP hS)
  case h_32 => obtain ⟨rfl, x, y, r, rfl, rfl⟩ := x_li_at hev; exact lv_lushr hx hb hd rfl (k ls H locs hl hP hS)
  case h_33 =>
    split at hev
    · cases hev; exact lv_i2l hx hb hd rfl (k ls H locs hl hP hS)
    · cases hev
  case h_34 =>
    split at hev
    · cases hev; exact lv_l2i hx hb hd rfl (k ls H locs hl hP hS)
    · cases hev
  case h_35 => obtain ⟨rfl, x, r, rfl, rfl⟩ := x_i1_at hev; exact lv_i2b hx hb hd rfl (k ls H locs hl hP hS)
  case h_36 => obtain ⟨rfl, x, r, rfl, rfl⟩ := x_i1_at hev; exact lv_i2s hx hb hd rfl (k ls H locs hl hP hS)
  case h_37 => obtain ⟨rfl, x, r, rfl, rfl⟩ := x_i1_at hev; exact lv_i2c hx hb hd rfl (k ls H locs hl hP hS)
  case h_38 =>
    split at hev
    · cases hev; exact W.lcmp hx hb hd (k ls H locs hl hP hS)
    · cases hev
  case h_39 =>
    split at hev
    · cases hev; exact lv_dup hx hb hd rfl (k ls H locs hl hP hS)
    · cases hev; exact lv_dup hx hb hd rfl (k ls H locs hl hP hS)
    · cases hev
  case h_40 =>
    split at hev
    · cases hev; exact lv_dup2_11 hx hb hd rfl rfl (k ls H locs hl hP hS)
    · cases hev
  case h_41 =>
    split at hev
    · cases hev; exact lv_pop hx hb hd rfl (k ls H locs hl hP hS)
    · cases hev
  case h_42 => cases hev
end Wy
