/-! PURE: read: a telling, its frame -/
def pQ (K T L B : Nat) : Nat → Nat → Bool := fun a b => decide ((a = 14 ∧ (2 ≤ b ∧ b ≤ 5)) ∨ (a = 126 ∧ (2 ≤ b ∧ b ≤ 4)) ∨ (a = 16 ∧ (5 ≤ b ∧ b ≤ 8)) ∨ (a = 17 ∧ K ≤ b) ∨ ((a = 18 ∨ a = 19) ∧ T ≤ b) ∨ (22 + L ≤ a ∧ a < 30) ∨ (30 + 4 * B ≤ a ∧ a < 126))
def pU (K T L B : Nat) : Nat → Nat → Bool := fun a b => decide ((a = 162 ∧ (29 ≤ b ∧ b ≤ 38)) ∨ (a = 166 ∧ K ≤ b) ∨ ((a = 167 ∨ a = 168) ∧ T ≤ b) ∨ (169 ≤ a ∧ a ≤ 175 ∧ L ≤ b) ∨ (176 ≤ a ∧ a ≤ 180 ∧ B ≤ b) ∨ (a = 181 ∧ 18 * B ≤ b))
theorem pQy {K T L B a b : Nat} (q : (a = 14 ∧ (2 ≤ b ∧ b ≤ 5)) ∨ (a = 126 ∧ (2 ≤ b ∧ b ≤ 4)) ∨ (a = 16 ∧ (5 ≤ b ∧ b ≤ 8)) ∨ (a = 17 ∧ K ≤ b) ∨ ((a = 18 ∨ a = 19) ∧ T ≤ b) ∨ (22 + L ≤ a ∧ a < 30) ∨ (30 + 4 * B ≤ a ∧ a < 126)) : pQ K T L B a b = true := decide_eq_true q
theorem pQn {K T L B a b : Nat} (q : ¬ ((a = 14 ∧ (2 ≤ b ∧ b ≤ 5)) ∨ (a = 126 ∧ (2 ≤ b ∧ b ≤ 4)) ∨ (a = 16 ∧ (5 ≤ b ∧ b ≤ 8)) ∨ (a = 17 ∧ K ≤ b) ∨ ((a = 18 ∨ a = 19) ∧ T ≤ b) ∨ (22 + L ≤ a ∧ a < 30) ∨ (30 + 4 * B ≤ a ∧ a < 126))) : pQ K T L B a b = false := decide_eq_false q
theorem pUy {K T L B a b : Nat} (q : (a = 162 ∧ (29 ≤ b ∧ b ≤ 38)) ∨ (a = 166 ∧ K ≤ b) ∨ ((a = 167 ∨ a = 168) ∧ T ≤ b) ∨ (169 ≤ a ∧ a ≤ 175 ∧ L ≤ b) ∨ (176 ≤ a ∧ a ≤ 180 ∧ B ≤ b) ∨ (a = 181 ∧ 18 * B ≤ b)) : pU K T L B a b = true := decide_eq_true q
theorem pUn {K T L B a b : Nat} (q : ¬ ((a = 162 ∧ (29 ≤ b ∧ b ≤ 38)) ∨ (a = 166 ∧ K ≤ b) ∨ ((a = 167 ∨ a = 168) ∧ T ≤ b) ∨ (169 ≤ a ∧ a ≤ 175 ∧ L ≤ b) ∨ (176 ≤ a ∧ a ≤ 180 ∧ B ≤ b) ∨ (a = 181 ∧ 18 * B ≤ b))) : pU K T L B a b = false := decide_eq_false q
theorem pQ6 {K T L B : Nat} {μ μ' : xMu} (g : gs p26 μ μ') : gs (pQ K T L B) μ μ' := g.mono (fun a b q => pQy (by have := of_decide_eq_true q; omega))
theorem pU3 {K T L B : Nat} {μ μ' : xMu} (g : gs p33 μ μ') : gs (pU K T L B) μ μ' := g.mono (fun a b q => pUy (by have := of_decide_eq_true q; omega))
theorem pQm {K T L B K' T' L' B' : Nat} {μ μ' : xMu} (g : gs (pQ K' T' L' B') μ μ') (h : K ≤ K' ∧ T ≤ T' ∧ L ≤ L' ∧ B ≤ B') : gs (pQ K T L B) μ μ' := g.mono (fun a b q => pQy (by have := of_decide_eq_true q; omega))
theorem pUm {K T L B K' T' L' B' : Nat} {μ μ' : xMu} (g : gs (pU K' T' L' B') μ μ') (h : K ≤ K' ∧ T ≤ T' ∧ L ≤ L' ∧ B ≤ B') : gs (pU K T L B) μ μ' := g.mono (fun a b q => pUy (by have := of_decide_eq_true q; omega))
def PMx (P : xP) (μ : xMu) : Prop :=
  (∀ k, k < pK P → μ 166 k = cN (-1000000) (P 1 k 0)) ∧
  (∀ t, t < pT P → μ 167 t = nI (P 2 t 0) ∧ μ 168 t = nI (P 2 t 1)) ∧
  (∀ l, l < pL P → μ 169 l = nI (P 3 l 0) ∧ μ 170 l = nI (P 3 l 1) ∧ μ 174 l = nI (P 3 l 2) ∧ μ 175 l = nI (P 3 l 3) ∧ (P 3 l 4 = 0 → μ 171 l = -1000000) ∧ (P 3 l 4 = 1 → μ 171 l = nI (P 3 l 5) ∧ μ 172 l = nI (P 3 l 6) ∧ μ 173 l = nI (P 3 l 7))) ∧
  (∀ b, b < pB P → μ 180 b = nI (P 4 b 4) ∧ μ 176 b = cN (-1000000) (P 4 b 0) ∧ μ 179 b = nI (P 4 b 3) ∧ μ 177 b = nI (P 4 b 1) ∧ μ 178 b = nI (P 4 b 2) ∧
    ∀ i, i < P 4 b 4 → μ 181 (18 * b + 3 * i) = nI (P (5 + i) b 0) ∧ μ 181 (18 * b + 3 * i + 1) = nI (P (5 + i) b 1) ∧ μ 181 (18 * b + 3 * i + 2) = nI (P (5 + i) b 2))
theorem PMq {P : xP} {μ μ' : xMu} (w : Pwf P) (h : PMx P μ) (g : gs (pU (pK P) (pT P) (pL P) (pB P)) μ μ') : PMx P μ' := by
  have g' : ∀ a b, ¬ ((a = 162 ∧ (29 ≤ b ∧ b ≤ 38)) ∨ (a = 166 ∧ pK P ≤ b) ∨ ((a = 167 ∨ a = 168) ∧ pT P ≤ b) ∨ (169 ≤ a ∧ a ≤ 175 ∧ pL P ≤ b) ∨ (176 ≤ a ∧ a ≤ 180 ∧ pB P ≤ b) ∨ (a = 181 ∧ 18 * pB P ≤ b)) → μ' a b = μ a b := fun a b q => g a b (pUn q)
  obtain ⟨h1, h2, h3, h4⟩ := h
  refine ⟨fun k hk => ?_, fun t ht => ?_, fun l hl => ?_, fun b hb => ?_⟩
  · rw [g' _ _ (by omega)]; exact h1 k hk
  · rw [g' _ _ (by omega), g' _ _ (by omega)]; exact h2 t ht
  · rw [g' _ _ (by omega), g' _ _ (by omega), g' _ _ (by omega), g' _ _ (by omega), g' _ _ (by omega), g' _ _ (by omega), g' _ _ (by omega)]; exact h3 l hl
  · have q := w.2.2.2.2 b hb
    rw [g' _ _ (by omega), g' _ _ (by omega), g' _ _ (by omega), g' _ _ (by omega), g' _ _ (by omega)]
    obtain ⟨x1, x2, x3, x4, x5, x6⟩ := h4 b hb
    refine ⟨x1, x2, x3, x4, x5, fun i hi => ?_⟩
    rw [g' _ _ (by omega), g' _ _ (by omega), g' _ _ (by omega)]
    exact x6 i hi
theorem PCq {P : xP} {μ μ' : xMu} (w : Pwf P) (h : PC P μ) (g : gs (pQ (pK P) (pT P) (pL P) (pB P)) μ μ') (gc : ∀ j, 5 ≤ j → j ≤ 8 → μ' 16 j = μ 16 j) : PC P μ' := by
  have g' : ∀ a b, ¬ ((a = 14 ∧ (2 ≤ b ∧ b ≤ 5)) ∨ (a = 126 ∧ (2 ≤ b ∧ b ≤ 4)) ∨ (a = 16 ∧ (5 ≤ b ∧ b ≤ 8)) ∨ (a = 17 ∧ pK P ≤ b) ∨ ((a = 18 ∨ a = 19) ∧ pT P ≤ b) ∨ (22 + pL P ≤ a ∧ a < 30) ∨ (30 + 4 * pB P ≤ a ∧ a < 126)) → μ' a b = μ a b := fun a b q => g a b (pQn q)
  have hB := w.1.2.2.2
  have hL := w.1.2.2.1
  obtain ⟨⟨c1, c2, c3, c4⟩, h1, h2, h3, h4⟩ := h
  refine ⟨⟨by rw [gc 5 (by decide) (by decide)]; exact c1, by rw [gc 6 (by decide) (by decide)]; exact c2, by rw [gc 7 (by decide) (by decide)]; exact c3, by rw [gc 8 (by decide) (by decide)]; exact c4⟩, fun k hk => ?_, fun t ht => ?_, fun l hl => ?_, fun b hb => ?_⟩
  · rw [g' _ _ (by omega)]; exact h1 k hk
  · rw [g' _ _ (by omega), g' _ _ (by omega)]; exact h2 t ht
  · rw [g' _ _ (by omega), g' _ _ (by omega), g' _ _ (by omega), g' _ _ (by omega), g' _ _ (by omega), g' _ _ (by omega), g' _ _ (by omega), g' _ _ (by omega)]; exact h3 l hl
  · rw [g' _ _ (by omega), g' _ _ (by omega), g' _ _ (by omega), g' _ _ (by omega), g' _ _ (by omega)]
    obtain ⟨x1, x2, x3, x4, x5, x6⟩ := h4 b hb
    refine ⟨x1, x2, x3, x4, x5, fun i hi => ?_⟩
    rw [g' _ _ (by omega), g' _ _ (by omega), g' _ _ (by omega)]
    exact x6 i hi
def Jok (P : xP) (β : Nat → Nat) (n k a e : Nat) (μc μm : xMu) : Prop :=
  KT β n k a e μc μm ∧ NF μc μm ∧ PC P μc ∧ PMx P μm ∧ (μm 162 35 = nI (pK P) ∧ μm 162 36 = nI (pT P) ∧ μm 162 37 = nI (pL P) ∧ μm 162 38 = nI (pB P)) ∧ Pwf P
/-- the end of a telling: ok with a larger program, or a fault -/
def RT (P : xP) (β : Nat → Nat) (n a : Nat) (μc μm : xMu) (rc : Option xMu) (Rm : (xMu → Option (Int32 × xMu)) → Nat → Option (Int32 × xMu)) : Prop :=
  (∃ P' k' a' e' μc' μm', rc = some μc' ∧ (∀ K f, Rm K f = f12_read_l64 K f μm') ∧ Jok P' β n k' a' e' μc' μm' ∧ a < a' ∧ (pK P ≤ pK P' ∧ pT P ≤ pT P' ∧ pL P ≤ pL P' ∧ pB P ≤ pB P') ∧ gs (pQ (pK P) (pT P) (pL P) (pB P)) μc μc' ∧ gs (pU (pK P) (pT P) (pL P) (pB P)) μm μm') ∨
  (∃ μc' μm', rc = some μc' ∧ (∀ K f, Rm K (f + 1) = K μm') ∧ FX μc' μm' ∧ gs (pQ (pK P) (pT P) (pL P) (pB P)) μc μc' ∧ gs (pU (pK P) (pT P) (pL P) (pB P)) μm μm')
/-! the reference's iteration -/
theorem rf_64 {μ : xMu} {K : xMu → Option (Int32 × xMu)} {f g : Nat} (h : μ 162 33 = nI g) (h1 : 1 ≤ g) (h3 : g ≤ 3) : f12_read_l64 K (f + 1) μ = K μ := by
  unfold f12_read_l64
  rw [h, if_neg (ne33 h1 h3)]
theorem rf_275 {μ : xMu} {K : xMu → Option (Int32 × xMu)} {f g : Nat} (h : μ 162 33 = nI g) (h1 : 1 ≤ g) (h3 : g ≤ 3) : f12_read_j275 (f12_read_l64 K (f + 1)) μ = K μ := by
  unfold f12_read_j275 f12_read_j292
  rw [h, if_neg (ne33 h1 h3), rf_64 h h1 h3]
theorem rf_195 {μ : xMu} {K : xMu → Option (Int32 × xMu)} {f g : Nat} {W : Int64} {s : Int32} (h : μ 162 33 = nI g) (h1 : 1 ≤ g) (h3 : g ≤ 3) : f12_read_j195 (f12_read_l64 K (f + 1)) W s μ = K μ := by
  unfold f12_read_j195 f12_read_j220 f12_read_j242 f12_read_j264
  rw [mf_must h h1 h3, Option.bind_some, h, if_neg (ne33 h1 h3), if_neg (ne33 h1 h3), if_neg (ne33 h1 h3), if_neg (ne33 h1 h3), rf_275 h h1 h3]
theorem rf_157 {μ : xMu} {K : xMu → Option (Int32 × xMu)} {f g : Nat} {W : Int64} (h : μ 162 33 = nI g) (h1 : 1 ≤ g) (h3 : g ≤ 3) : f12_read_j157 (f12_read_l64 K (f + 1)) W μ = K μ := by
  unfold f12_read_j157 f12_read_j190
  rw [rf_195 h h1 h3, rf_195 h h1 h3, ite_self, ite_self, ite_self, ite_self]
theorem rf_152 {μ μb : xMu} {K : xMu → Option (Int32 × xMu)} {f g : Nat} {W : Int64} (hb : f12_bad 3 μ = some μb) (h : μb 162 33 = nI g) (h1 : 1 ≤ g) (h3 : g ≤ 3) : f12_read_j152 (f12_read_l64 K (f + 1)) W μ = K μb := by
  unfold f12_read_j152
  rw [hb, Option.bind_some, rf_157 h h1 h3]
/-- the sign at the end -/
theorem j_end {β : Nat → Nat} {n k a e : Nat} {μc μm : xMu} (h : KT β n k a e μc μm) (nf : NF μc μm) :
    (∃ k' a' e' μc' μm', f5_takeSign 59 μc = some μc' ∧ (∀ K f, f12_read_j275 (f12_read_l64 K f) μm = f12_read_l64 K f μm') ∧ KT β n k' a' e' μc' μm' ∧ NF μc' μm' ∧ a < a' ∧ gs p26 μc μc' ∧ gs p33 μm μm') ∨
    (∃ μc' μm', f5_takeSign 59 μc = some μc' ∧ (∀ K f, f12_read_j275 (f12_read_l64 K (f + 1)) μm = K μm') ∧ FX μc' μm' ∧ gs p26 μc μc' ∧ gs p33 μm μm') := by
  have D : ∀ k64 : xMu → Option (Int32 × xMu), f12_read_j275 k64 μm = (f12_must (if k = 3 ∧ β a = 59 then 1 else 0) μm).bind fun μ14 => k64 μ14 := fun k64 => by
    unfold f12_read_j275 f12_read_j292
    rw [nf.2, if_pos rfl, show f12_is μm 59 = _ from (t_as h (s := 59) (by decide)).2, Option.bind_some]
  rcases j_sgn (s := 59) h nf (by decide) with ⟨k', a', e', μc', μm', x0, x1, x2, x3, x4, x5, x6, x7⟩ | ⟨μc', μm', x0, x1, x2, x3, x4, x5, x6⟩
  · left
    exact ⟨k', a', e', μc', μm', x1, fun K f => by rw [D, x2, Option.bind_some], x3, x4, x5, x6, x7⟩
  · right
    obtain ⟨f, pl, g1, g2, g3, g4, g5, g6, g7, g8⟩ := x3
    exact ⟨μc', μm', x1, fun K f => by rw [D, x2, Option.bind_some, rf_64 g7 g1 g2], ⟨f, pl, g1, g2, g3, g4, g5, g6, g7, g8⟩, x5, x6⟩
def cKin : Int64 := 1802071652
def cThi : Int64 := 499967946343
def cLay : Int64 := 465491813746
def cBod : Int64 := 1651467385
theorem u_kin {μ μ2 : xMu} {K : xMu → Option (Int32 × xMu)} {f : Nat} {W : Int64} (h33 : μ 162 33 = 0) (h30 : ¬ μ 162 30 = 1) (hW : f12_word μ = some W) (q1 : lg_cmp W cKin = 0) (q2 : ¬ lg_cmp W cThi = 0) (q3 : ¬ lg_cmp W cLay = 0) (q4 : ¬ lg_cmp W cBod = 0) (hc : ¬ μ 162 35 = 8) (st : f12_step μ = some μ2) (h2 : μ2 162 33 = 0) : f12_read_l64 K (f + 1) μ = (f12_readKind μ2).bind fun μ18 => f12_read_j275 (f12_read_l64 K f) μ18 := by
  conv => lhs; unfold f12_read_l64
  unfold f12_read_j101 f12_read_j118 f12_read_j135 f12_read_j157 f12_read_j190 f12_read_j195
  rw [h33, if_pos rfl, if_neg h30, hW, Option.bind_some, if_pos (show lg_cmp W 1802071652 = 0 from q1), if_neg hc, if_neg (show ¬ lg_cmp W 499967946343 = 0 from q2), if_neg (show ¬ lg_cmp W 465491813746 = 0 from q3), if_neg (show ¬ lg_cmp W 1651467385 = 0 from q4), if_pos (show lg_cmp W 1802071652 = 0 from q1), j_must1 h33, st, Option.bind_some, h2, if_pos rfl, if_pos (show lg_cmp W 1802071652 = 0 from q1)]
theorem u_thi {μ μ2 : xMu} {K : xMu → Option (Int32 × xMu)} {f : Nat} {W : Int64} (h33 : μ 162 33 = 0) (h30 : ¬ μ 162 30 = 1) (hW : f12_word μ = some W) (q1 : ¬ lg_cmp W cKin = 0) (q2 : lg_cmp W cThi = 0) (q3 : ¬ lg_cmp W cLay = 0) (q4 : ¬ lg_cmp W cBod = 0) (hc : ¬ μ 162 36 = 8) (st : f12_step μ = some μ2) (h2 : μ2 162 33 = 0) : f12_read_l64 K (f + 1) μ = (f12_readThing μ2).bind fun μ18 => f12_read_j275 (f12_read_l64 K f) μ18 := by
  conv => lhs; unfold f12_read_l64
  unfold f12_read_j101 f12_read_j118 f12_read_j135 f12_read_j157 f12_read_j190 f12_read_j195 f12_read_j220
  rw [h33, if_pos rfl, if_neg h30, hW, Option.bind_some, if_neg (show ¬ lg_cmp W 1802071652 = 0 from q1), if_pos (show lg_cmp W 499967946343 = 0 from q2), if_neg hc, if_neg (show ¬ lg_cmp W 465491813746 = 0 from q3), if_neg (show ¬ lg_cmp W 1651467385 = 0 from q4), if_neg (show ¬ lg_cmp W 1802071652 = 0 from q1), if_pos (show lg_cmp W 499967946343 = 0 from q2), j_must1 h33, st, Option.bind_some, h2, if_pos rfl, if_neg (show ¬ lg_cmp W 1802071652 = 0 from q1), if_pos rfl, if_pos (show lg_cmp W 499967946343 = 0 from q2)]
theorem u_lae {μ μ2 : xMu} {K : xMu → Option (Int32 × xMu)} {f : Nat} {W : Int64} (h33 : μ 162 33 = 0) (h30 : ¬ μ 162 30 = 1) (hW : f12_word μ = some W) (q1 : ¬ lg_cmp W cKin = 0) (q2 : ¬ lg_cmp W cThi = 0) (q3 : lg_cmp W cLay = 0) (q4 : ¬ lg_cmp W cBod = 0) (hc : ¬ μ 162 37 = 8) (st : f12_step μ = some μ2) (h2 : μ2 162 33 = 0) : f12_read_l64 K (f + 1) μ = (f12_readLayer μ2).bind fun μ18 => f12_read_j275 (f12_read_l64 K f) μ18 := by
  conv => lhs; unfold f12_read_l64
  unfold f12_read_j101 f12_read_j118 f12_read_j135 f12_read_j157 f12_read_j190 f12_read_j195 f12_read_j220 f12_read_j242
  rw [h33, if_pos rfl, if_neg h30, hW, Option.bind_some, if_neg (show ¬ lg_cmp W 1802071652 = 0 from q1), if_neg (show ¬ lg_cmp W 499967946343 = 0 from q2), if_pos (show lg_cmp W 465491813746 = 0 from q3), if_neg hc, if_neg (show ¬ lg_cmp W 1651467385 = 0 from q4), if_neg (show ¬ lg_cmp W 1802071652 = 0 from q1), if_neg (show ¬ lg_cmp W 499967946343 = 0 from q2), if_pos (show lg_cmp W 465491813746 = 0 from q3), j_must1 h33, st, Option.bind_some, h2, if_pos rfl, if_neg (show ¬ lg_cmp W 1802071652 = 0 from q1), if_pos rfl, if_neg (show ¬ lg_cmp W 499967946343 = 0 from q2), if_pos rfl, if_pos (show lg_cmp W 465491813746 = 0 from q3)]
theorem u_bod {μ μ2 : xMu} {K : xMu → Option (Int32 × xMu)} {f : Nat} {W : Int64} (h33 : μ 162 33 = 0) (h30 : ¬ μ 162 30 = 1) (hW : f12_word μ = some W) (q1 : ¬ lg_cmp W cKin = 0) (q2 : ¬ lg_cmp W cThi = 0) (q3 : ¬ lg_cmp W cLay = 0) (q4 : lg_cmp W cBod = 0) (hc : ¬ μ 162 38 = 24) (st : f12_step μ = some μ2) (h2 : μ2 162 33 = 0) : f12_read_l64 K (f + 1) μ = (f12_readBody μ2).bind fun μ18 => f12_read_j275 (f12_read_l64 K f) μ18 := by
  conv => lhs; unfold f12_read_l64
  unfold f12_read_j101 f12_read_j118 f12_read_j135 f12_read_j157 f12_read_j190 f12_read_j195 f12_read_j220 f12_read_j242 f12_read_j264
  rw [h33, if_pos rfl, if_neg h30, hW, Option.bind_some, if_neg (show ¬ lg_cmp W 1802071652 = 0 from q1), if_neg (show ¬ lg_cmp W 499967946343 = 0 from q2), if_neg (show ¬ lg_cmp W 465491813746 = 0 from q3), if_pos (show lg_cmp W 1651467385 = 0 from q4), if_neg hc, if_neg (show ¬ lg_cmp W 1802071652 = 0 from q1), if_neg (show ¬ lg_cmp W 499967946343 = 0 from q2), if_neg (show ¬ lg_cmp W 465491813746 = 0 from q3), if_pos (show lg_cmp W 1651467385 = 0 from q4), j_must1 h33, st, Option.bind_some, h2, if_pos rfl, if_neg (show ¬ lg_cmp W 1802071652 = 0 from q1), if_pos rfl, if_neg (show ¬ lg_cmp W 499967946343 = 0 from q2), if_pos rfl, if_neg (show ¬ lg_cmp W 465491813746 = 0 from q3), if_pos rfl]
