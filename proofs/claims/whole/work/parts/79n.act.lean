/-! PURE: read: the acts of a body -/
theorem ix7 (T A B C D E F G : List Nat) : ix T [A, B, C, D, E, F, G] = if T = A then 1 else if T = B then 2 else if T = C then 3 else if T = D then 4 else if T = E then 5 else if T = F then 6 else if T = G then 7 else 0 := by
  unfold ix
  split
  · rfl
  · unfold ix
    split
    · rfl
    · unfold ix
      split
      · rfl
      · rw [ix4]
        split
        · rfl
        · split
          · rfl
          · split
            · rfl
            · split
              · rfl
              · rfl
def wA (k : Nat) (T : List Nat) (way : Nat) : Nat := if wix k T nAct = 4 ∧ way ≠ 2 then 0 else wix k T nAct
theorem wix7 {k : Nat} {T : List Nat} : wix k T nAct ≤ 7 := by
  unfold wix nAct
  rw [ix7]
  split
  · split
    · omega
    · split
      · omega
      · split
        · omega
        · split
          · omega
          · split
            · omega
            · split
              · omega
              · split <;> omega
  · omega
theorem u_actw {β : Nat → Nat} {n k a e way : Nat} {μc μm : xMu} (h : KT β n k a e μc μm) (hw : way < 4) : f12_actOfWord μm (nI way) = some (cN (-1000000) (wA k (tx β a e) way)) := by
  have q0 : (lg_cmp (lN (wN k (tx β a e))) (6382692 : Int64) = 0) = (k = 1 ∧ tx β a e = [97, 100, 100]) := wis _ (by decide +kernel) h.let (by decide) (by decide) (by decide)
  have q1 : (lg_cmp (lN (wN k (tx β a e))) (7173484 : Int64) = 0) = (k = 1 ∧ tx β a e = [109, 117, 108]) := wis _ (by decide +kernel) h.let (by decide) (by decide) (by decide)
  have q2 : (lg_cmp (lN (wN k (tx β a e))) (7305070 : Int64) = 0) = (k = 1 ∧ tx β a e = [111, 119, 110]) := wis _ (by decide +kernel) h.let (by decide) (by decide) (by decide)
  have q3 : (lg_cmp (lN (wN k (tx β a e))) (31651020126119268 : Int64) = 0) = (k = 1 ∧ tx β a e = [112, 114, 111, 99, 101, 101, 100]) := wis _ (by decide +kernel) h.let (by decide) (by decide) (by decide)
  have q4 : (lg_cmp (lN (wN k (tx β a e))) (1667329132 : Int64) = 0) = (k = 1 ∧ tx β a e = [99, 97, 108, 108]) := wis _ (by decide +kernel) h.let (by decide) (by decide) (by decide)
  have q5 : (lg_cmp (lN (wN k (tx β a e))) (2002873189 : Int64) = 0) = (k = 1 ∧ tx β a e = [119, 97, 107, 101]) := wis _ (by decide +kernel) h.let (by decide) (by decide) (by decide)
  have q6 : (lg_cmp (lN (wN k (tx β a e))) (1717660012 : Int64) = 0) = (k = 1 ∧ tx β a e = [102, 97, 105, 108]) := wis _ (by decide +kernel) h.let (by decide) (by decide) (by decide)
  have e2 : (nI way = (2 : Int32)) = (way = 2) := propext (nI_eq (b := 2) (by omega) (by decide))
  unfold f12_actOfWord f12_actOfWord_j92 wA
  rw [h.wd, Option.bind_some]
  by_cases c : k = 1
  · have ew : wix k (tx β a e) nAct = if tx β a e = [97, 100, 100] then 1 else if tx β a e = [109, 117, 108] then 2 else if tx β a e = [111, 119, 110] then 3 else if tx β a e = [112, 114, 111, 99, 101, 101, 100] then 4 else if tx β a e = [99, 97, 108, 108] then 5 else if tx β a e = [119, 97, 107, 101] then 6 else if tx β a e = [102, 97, 105, 108] then 7 else 0 := by
      unfold wix nAct
      rw [if_pos c, ix7]
    by_cases z0 : tx β a e = [97, 100, 100]
    · rw [if_pos (q0.mpr ⟨c, z0⟩), if_neg (by decide), ew, if_pos z0, if_neg (by omega)]
      rfl
    · rw [if_neg (fun y => z0 (q0.mp y).2)]
      rw [if_neg z0] at ew
      by_cases z1 : tx β a e = [109, 117, 108]
      · rw [if_pos (q1.mpr ⟨c, z1⟩), if_neg (by decide), ew, if_pos z1, if_neg (by omega)]
        rfl
      · rw [if_neg (fun y => z1 (q1.mp y).2)]
        rw [if_neg z1] at ew
        by_cases z2 : tx β a e = [111, 119, 110]
        · rw [if_pos (q2.mpr ⟨c, z2⟩), if_neg (by decide), ew, if_pos z2, if_neg (by omega)]
          rfl
        · rw [if_neg (fun y => z2 (q2.mp y).2)]
          rw [if_neg z2] at ew
          by_cases z3 : tx β a e = [112, 114, 111, 99, 101, 101, 100]
          · rw [if_pos (q3.mpr ⟨c, z3⟩), if_pos rfl, ew, if_pos z3]
            by_cases y : way = 2
            · rw [if_pos (e2.mpr y), if_neg (by omega)]
              rfl
            · rw [if_neg (fun x => y (e2.mp x)), if_pos ⟨rfl, y⟩]
              rfl
          · rw [if_neg (fun y => z3 (q3.mp y).2)]
            rw [if_neg z3] at ew
            by_cases z4 : tx β a e = [99, 97, 108, 108]
            · rw [if_pos (q4.mpr ⟨c, z4⟩), if_neg (by decide), ew, if_pos z4, if_neg (by omega)]
              rfl
            · rw [if_neg (fun y => z4 (q4.mp y).2)]
              rw [if_neg z4] at ew
              by_cases z5 : tx β a e = [119, 97, 107, 101]
              · rw [if_pos (q5.mpr ⟨c, z5⟩), if_neg (by decide), ew, if_pos z5, if_neg (by omega)]
                rfl
              · rw [if_neg (fun y => z5 (q5.mp y).2)]
                rw [if_neg z5] at ew
                by_cases z6 : tx β a e = [102, 97, 105, 108]
                · rw [if_pos (q6.mpr ⟨c, z6⟩), if_neg (by decide), ew, if_pos z6, if_neg (by omega)]
                  rfl
                · rw [if_neg (fun y => z6 (q6.mp y).2), if_neg (by decide), ew, if_neg z6, if_neg (by omega)]
                  rfl
  · have ew : wix k (tx β a e) nAct = 0 := by unfold wix; rw [if_neg c]
    rw [if_neg (fun y => c (q0.mp y).1), if_neg (fun y => c (q1.mp y).1), if_neg (fun y => c (q2.mp y).1), if_neg (fun y => c (q3.mp y).1), if_neg (fun y => c (q4.mp y).1), if_neg (fun y => c (q5.mp y).1), if_neg (fun y => c (q6.mp y).1), if_neg (by decide), ew, if_neg (by omega)]
    rfl
theorem t_ract {β : Nat → Nat} {n k a e way r : Nat} {μc μm : xMu} (h : KT β n k a e μc μm) (hw : way < 4) (hr : x_isb r 1 = true) (h5 : μc r 5 = nI way) : f5_readAct r μc = if wA k (tx β a e) way = 0 then ((f5_refuse 1 μc).bind fun μ2 => some μ2) else f5_readAct_j35 r (nI (wA k (tx β a e) way - 1)) μc := by
  have w7 := wix7 (k := k) (T := tx β a e)
  have e2 : (nI way = (2 : Int32)) = (way = 2) := propext (nI_eq (b := 2) (by omega) (by decide))
  unfold f5_readAct f5_readAct_j27
  rw [h.na (c := 917) (L := 34) (by decide) (by decide) ly917 (by decide), Option.bind_some]
  unfold wA cN
  by_cases z : wix k (tx β a e) nAct = 0
  · rw [if_pos z, if_pos (by decide), if_neg (show ¬ (wix k (tx β a e) nAct = 4 ∧ way ≠ 2) by omega), if_pos z]
  · rw [if_neg z, if_neg (nI_pos (by omega))]
    by_cases y : wix k (tx β a e) nAct = 4
    · rw [y, if_pos (show nI (4 - 1) = 3 from rfl), a_chk hr, h5]
      by_cases x : way = 2
      · rw [if_pos (e2.mpr x), if_neg (show ¬ (4 = 4 ∧ way ≠ 2) by omega), if_neg (by decide)]
      · rw [if_neg (fun q => x (e2.mp q)), if_pos (show 4 = 4 ∧ way ≠ 2 from ⟨rfl, x⟩), if_pos rfl]
    · rw [if_neg (show ¬ nI (wix k (tx β a e) nAct - 1) = 3 from nI_ne (b := 3) (by omega) (by decide) (by omega)), if_neg (show ¬ (wix k (tx β a e) nAct = 4 ∧ way ≠ 2) from fun q => y q.1), if_neg z]
theorem l_r158 {β : Nat → Nat} {n a e : Nat} {μ : xMu} {v1 v3 : Int32} (tm : TM β n μ) (e0 : μ 162 30 = nI 3) (e2 : μ 162 32 = nI e) (hae : a ≤ e) (hen : e ≤ n) (h3 : e - a ≤ 3) (hf : ∀ i, a ≤ i → i < e → 48 ≤ β i ∧ β i ≤ 57) (k : Int32 → Int32 → Int32 → xMu → Option xMu) : ∀ (m f i : Nat), e - (a + i) = m → a + i ≤ e → m < f → f12_readAct_l158 k f v1 v3 (nI (vl β a i)) (nI (a + i)) μ = k v1 v3 (nI (vl β a (e - a))) μ := by
  intro m
  have hn := tm.1
  induction m with
  | zero =>
    intro f i hm hi hf'
    obtain ⟨f, rfl⟩ : ∃ z, f = z + 1 := ⟨f - 1, by omega⟩
    unfold f12_readAct_l158
    rw [e2, if_pos (nI_le (by omega) (by omega)), show e - a = i by omega]
  | succ m ih =>
    intro f i hm hi hf'
    obtain ⟨f, rfl⟩ : ∃ z, f = z + 1 := ⟨f - 1, by omega⟩
    have hb := tm.2.2 (a + i) (by omega)
    have hd := hf (a + i) (by omega) (by omega)
    unfold f12_readAct_l158
    rw [e2, if_neg (nI_ge (by omega) (by omega)), e0, if_pos (show nI 3 = 3 from rfl), a_ald (by omega) (by decide), hb.2, show (10 : Int32) = nI 10 from rfl, pk_mul, nI_add, show (48 : Int32) = nI 48 from rfl, pk_sub (by omega), nI_1, show 10 * vl β a i + β (a + i) - 48 = vl β a (i + 1) from by show _ = vl β a i * 10 + (β (a + i) - 48); omega, Nat.add_assoc]
    exact ih f (i + 1) (by omega) (by omega) (by omega)
/-- both take a layer to wake -/
theorem j_wak {P : xP} {β : Nat → Nat} {n k a e : Nat} {v1 v3 : Int32} {μc μm : xMu} (w : Pwf P) (h : KT β n k a e μc μm) (nf : NF μc μm) (pc : PC P μc) (pmx : PMx P μm) (c7 : μm 162 37 = nI (pL P)) :
    (∃ v k' a' e' μc' μm', v < pL P ∧ P 3 v 0 < 2 ∧ ((f5_refuseUnwoken μc).bind fun μ8 => f5_takeNumber (μ8 16 7) μ8) = some (nI v, μc') ∧ f12_readAct_l158 (fun (y14 : Int32) (y15 : Int32) (y16 : Int32) (μ17 : xMu) => (f12_readAct_j199 y14 y15 y16 μ17)) 1000 v1 v3 (0 : Int32) (μm 162 31) μm = (x_ast μm' 181 432 (v3 + (1 : Int32)) (nI v) fun μ19 => (f12_readAct_j259 v1 μ19)) ∧ KT β n k' a' e' μc' μm' ∧ NF μc' μm' ∧ a < a' ∧ gs p26 μc μc' ∧ gs p33 μm μm') ∨
    (∃ v μc' μm', ((f5_refuseUnwoken μc).bind fun μ8 => f5_takeNumber (μ8 16 7) μ8) = some (0, μc') ∧ f12_readAct_l158 (fun (y14 : Int32) (y15 : Int32) (y16 : Int32) (μ17 : xMu) => (f12_readAct_j199 y14 y15 y16 μ17)) 1000 v1 v3 (0 : Int32) (μm 162 31) μm = (x_ast μm' 181 432 (v3 + (1 : Int32)) v fun μ19 => (f12_readAct_j259 v1 μ19)) ∧ FX μc' μm' ∧ gs p26 μc μc' ∧ gs p33 μm μm') := by
  have hk := h.2.1.1
  have hL8 := w.1.2.2.1
  by_cases c : k = 2
  · subst c
    obtain ⟨f1, f2, f3⟩ := h.2.2.2.2.2.2.1 rfl
    have hae := h.2.1.2.1
    have hen := h.2.1.2.2
    have hn := h.1.1.1
    have hv := vl_lt β a (e - a) (fun j hj => f1 (a + j) (by omega) (by omega))
    have hv3 : vl β a (e - a) < 1000 := Nat.lt_of_lt_of_le hv (Nat.pow_le_pow_right (n := 10) (by decide) f2)
    have D : f12_readAct_l158 (fun (y14 : Int32) (y15 : Int32) (y16 : Int32) (μ17 : xMu) => (f12_readAct_j199 y14 y15 y16 μ17)) 1000 v1 v3 (0 : Int32) (μm 162 31) μm = f12_readAct_j199 v1 v3 (nI (vl β a (e - a))) μm := by
      rw [h.2.2.2.1.2.1]
      have := l_r158 (v1 := v1) (v3 := v3) h.1.2 (show μm 162 30 = nI 3 from h.2.2.2.1.1) h.2.2.2.1.2.2.1 hae hen f2 f1 (fun (y14 : Int32) (y15 : Int32) (y16 : Int32) (μ17 : xMu) => (f12_readAct_j199 y14 y15 y16 μ17)) (e - a) 1000 0 (by omega) (by omega) (by omega)
      rw [Nat.add_zero] at this
      exact this
    unfold f12_readAct_j199 f12_readAct_j227 f12_readAct_j232 f12_readAct_j246 at D
    rw [h.2.2.2.1.1, if_pos (show nI (mkk 2) = 3 from rfl), c7] at D
    have U : f5_refuseUnwoken μc = if vl β a (e - a) < pL P ∧ 2 ≤ P 3 (vl β a (e - a)) 0 then f5_refuse 2 μc else some μc := by
      unfold f5_refuseUnwoken f10_atNumber f10_number
      rw [h.2.2.1.1, if_pos (show nI 2 = 2 from rfl), Option.bind_some, if_neg (by decide), Option.bind_some, f3]
      by_cases y : vl β a (e - a) < pL P
      · have r8 : vl β a (e - a) < 8 := by omega
        rw [(t_isLayer w pc).1 (rb_nI y (by omega)), Option.bind_some, if_neg (by decide), Option.bind_some, a_rld r8 (by decide) (r_layer _ r8).1, a_chk (r_layer _ r8).2, t_woken w pc y, Option.bind_some]
        by_cases x : P 3 (vl β a (e - a)) 0 < 2
        · rw [if_pos x, if_neg (by decide), if_neg (by omega)]
        · rw [if_neg x, if_pos rfl, if_pos ⟨y, by omega⟩]
          cases f5_refuse 2 μc <;> rfl
      · rw [(t_isLayer w pc).2 (fun q => y (by have := q.2; rw [nI_toInt (by omega)] at this; omega)), Option.bind_some, if_pos rfl, if_neg (fun q => y q.1)]
    by_cases y : vl β a (e - a) < pL P
    · have r8 : vl β a (e - a) < 8 := by omega
      have lo := w.2.2.2.1 _ y
      rw [if_neg (nI_ge y (by omega)), a_ald r8 (by decide), (pmx.2.2.1 _ y).1] at D
      have e1 : (nI (P 3 (vl β a (e - a)) 0) ≤ (1 : Int32)) = (P 3 (vl β a (e - a)) 0 ≤ 1) := propext (nI_leI (b := 1) (by omega) (by decide))
      by_cases x : P 3 (vl β a (e - a)) 0 < 2
      · left
        rw [if_neg (by omega)] at U
        rw [if_pos (e1.mpr (by omega)), if_pos (show nI (mkk 2) = 3 from rfl)] at D
        obtain ⟨k', a', e', μc', μm', x1, x2, x3, x4, x5, x6⟩ := j_nx h (by decide)
        rw [j_must1 nf.2, x2, Option.bind_some] at D
        refine ⟨vl β a (e - a), k', a', e', μc', μm', y, x, ?_, D, x3, nf.nx x5 x6, x4, p26o x5, p33o x6⟩
        rw [U, Option.bind_some]
        unfold f5_takeNumber f10_atNumber f10_number
        rw [nf.1, if_pos rfl, h.2.2.1.1, if_pos (show nI 2 = 2 from rfl), Option.bind_some, if_neg (by decide), Option.bind_some, f3, pc.1.2.2.1, if_pos (nI_lt y (by omega)), x1, Option.bind_some]
      · right
        rw [if_pos ⟨y, by omega⟩] at U
        obtain ⟨μc', μm', x1, x2, x3, x4, x5, x6⟩ := j_bad (f := 2) h nf (by decide) (by decide)
        obtain ⟨g, g1, g2, g7⟩ := x3.m
        rw [if_neg (fun q => x (by have := e1.mp q; omega)), show f12_bad 2 μm = _ from x2, Option.bind_some, x4.2.2.2.1.1, if_pos (show nI (mkk 2) = 3 from rfl), mf_must g7 g1 g2, Option.bind_some] at D
        refine ⟨_, μc', μm', ?_, D, x3, x5, x6⟩
        rw [U, show f5_refuse 2 μc = _ from x1, Option.bind_some, cf_num x3.c]
    · right
      rw [if_neg (fun q => y q.1)] at U
      obtain ⟨μc', μm', x1, x2, x3, x4, x5, x6⟩ := j_bad (f := 2) h nf (by decide) (by decide)
      obtain ⟨g, g1, g2, g7⟩ := x3.m
      rw [if_pos (nI_le (by omega) (by omega)), show f12_bad 2 μm = _ from x2, Option.bind_some, x4.2.2.2.1.1, if_pos (show nI (mkk 2) = 3 from rfl), mf_must g7 g1 g2, Option.bind_some] at D
      refine ⟨_, μc', μm', ?_, D, x3, x5, x6⟩
      rw [U, Option.bind_some]
      unfold f5_takeNumber f10_atNumber f10_number
      rw [nf.1, if_pos rfl, h.2.2.1.1, if_pos (show nI 2 = 2 from rfl), Option.bind_some, if_neg (by decide), Option.bind_some, f3, pc.1.2.2.1, if_neg (nI_nlt (by omega) (by omega)), show f5_refuse 2 μc = _ from x1, Option.bind_some]
  · right
    obtain ⟨μc', μm', x1, x2, x3, x4, x5, x6⟩ := j_bad (f := 1) h nf (by decide) (by decide)
    obtain ⟨g, g1, g2, g7⟩ := x3.m
    have n3 : ¬ nI (mkk k) = (3 : Int32) := by rw [mk3 hk]; exact c
    have n2 : ¬ nI k = (2 : Int32) := nI_ne (b := 2) (by omega) (by decide) c
    refine ⟨0, μc', μm', ?_, ?_, x3, x5, x6⟩
    · have U : f5_refuseUnwoken μc = some μc := by
        unfold f5_refuseUnwoken f10_atNumber
        rw [h.2.2.1.1, if_neg n2, Option.bind_some, if_pos rfl]
      rw [U, Option.bind_some]
      unfold f5_takeNumber f10_atNumber
      rw [nf.1, if_pos rfl, h.2.2.1.1, if_neg n2, Option.bind_some, if_pos rfl, show f5_refuse 1 μc = _ from x1, Option.bind_some]
    · unfold f12_readAct_l158
      have q : f12_readAct_j199 v1 v3 0 μm = (x_ast μm' 181 432 (v3 + (1 : Int32)) 0 fun μ19 => (f12_readAct_j259 v1 μ19)) := by
        unfold f12_readAct_j199 f12_readAct_j232 f12_readAct_j246
        rw [h.2.2.2.1.1, if_neg n3, if_neg n3, j_must0, show f12_bad 1 μm = _ from x2, Option.bind_some, j_m9 g7 g1 g2, Option.bind_some]
      rw [h.2.2.2.1.1, if_neg n3, q, ite_self]
