/-! PURE: runs: the acts of a body -/
/-- one act of the class -/
def cAC (rf : Nat → Int32 → Int32 → Int32 → xMu → Option (Int32 × xMu)) (v0 b i s p v o : Nat) (op : Int32) (μ : xMu) : Option (Int32 × xMu) :=
  (x_sw op (nI 0) [
(some ((((nI v) + (nI o)) - ((nI v) + (nI o)) / (1000003 : Int32) * (1000003 : Int32)), μ)),
(some ((((nI v) * (nI o)) - ((nI v) * (nI o)) / (1000003 : Int32) * (1000003 : Int32)), μ)),
(x_chk v0 7 (x_rfd v0 5 fun r9 =>
(x_chk r9 13 (x_ald μ r9 (x_sz r9) (nI s) fun x10 =>
(x_ald μ 19 8 x10 fun x12 =>
(some ((((nI v) + x12) - ((nI v) + x12) / (1000003 : Int32) * (1000003 : Int32)), μ))))))),
(x_chk v0 7 ((rf v0 (nI s) ((nI p) + (1 : Int32)) (nI v) μ).bind fun q14 =>
(some (q14.1, q14.2)))),
(x_rfd (30 + 4 * b) 2 fun r15 =>
(x_chk r15 13 (x_ald μ r15 (x_sz r15) (nI i) fun x16 =>
(x_chk v0 7 ((f7_callAt rf v0 ((nI s) + (1 : Int32)) (nI o) x16 (nI v) μ).bind fun q19 =>
(some (q19.1, q19.2))))))),
(x_chk v0 7 ((f7_wokenThing μ v0 (nI o) (nI s)).bind fun x21 =>
((f2_openWaking (nI o) x21 μ).bind fun q22 =>
(if q22.1 = 0 then
(some ((-1000004 : Int32), q22.2))
else
(some ((nI v), q22.2))))))] 
(some ((-1000004 : Int32), μ)))
abbrev K0 : Int32 → xMu → Option (Int32 × xMu) := fun (y11 : Int32) (μ12 : xMu) => (some (y11, μ12))
theorem t_acp {P : xP} {v0 s p b v i fc : Nat} {μ : xMu} (w : Pwf P) (hv : rnr v0) (pc : PC P μ) (hbB : b < pB P) (hi : i < P 4 b 4) (hv3 : v < 1000003) (rf : Nat → Int32 → Int32 → Int32 → xMu → Option (Int32 × xMu)) :
    f7_doActs_l24 rf K0 (fc + 1) v0 (nI s) (nI p) (30 + 4 * b) (nI v) (nI i) μ = (cAC rf v0 b i s p v (P (5 + i) b 1) (nI (P (5 + i) b 0)) μ).bind fun q10 => f7_doActs_l24 rf K0 fc v0 (nI s) (nI p) (30 + 4 * b) q10.1 (nI (i + 1)) q10.2 := by
  have hB := w.1.2.2.2
  have q := w.2.2.2.2 b hbB
  have a := pc.2.2.2.2 b hbB
  obtain ⟨-, r1, r2, r3, r4, r5, r6, r7, r8, r9, r10⟩ := r_body b (by omega)
  conv => lhs; unfold f7_doActs_l24 f7_doAct
  rw [a_chk r1, a.1, if_neg (nI_ge hi (by omega)), if_neg (nI_pos (by omega)), a_chk (rn1 hv).1, a_chk r1, a_rfd r3, a_chk r6, r9, a_ald (by omega) (by decide), (a.2.2.2.2.2 i hi).2.1, a_rfd r2, a_chk r5, r8, a_ald (by omega) (by decide), (a.2.2.2.2.2 i hi).1, nI_1 i]
  rfl
theorem t_ace {P : xP} {v0 s p b v fc : Nat} {μ : xMu} (w : Pwf P) (pc : PC P μ) (hbB : b < pB P) (rf : Nat → Int32 → Int32 → Int32 → xMu → Option (Int32 × xMu)) :
    f7_doActs_l24 rf K0 (fc + 1) v0 (nI s) (nI p) (30 + 4 * b) (nI v) (nI (P 4 b 4)) μ = some (nI v, μ) := by
  have hB := w.1.2.2.2
  have q := w.2.2.2.2 b hbB
  conv => lhs; unfold f7_doActs_l24
  rw [a_chk (r_body b (by omega)).2.1, (pc.2.2.2.2 b hbB).1, if_pos (nI_le (Nat.le_refl _) (by omega))]
theorem t_acr {v0 s p b fc : Nat} {j : Int32} {μ : xMu} (hb : b < 24) (rf : Nat → Int32 → Int32 → Int32 → xMu → Option (Int32 × xMu)) :
    f7_doActs_l24 rf K0 (fc + 1) v0 (nI s) (nI p) (30 + 4 * b) (-1000004) j μ = some (-1000004, μ) := by
  conv => lhs; unfold f7_doActs_l24
  rw [a_chk (r_body b hb).2.1, if_pos (show (-1000004 : Int32) < 0 by decide)]
  split <;> rfl
section
variable {α : Type} {a0 a1 a2 a3 a4 a5 d : Option α} {r : List (Option α)}
theorem sw0 : x_sw (nI 0) (nI 0) (a0 :: r) d = a0 := rfl
theorem sw1 : x_sw (nI 1) (nI 0) (a0 :: a1 :: r) d = a1 := rfl
theorem sw2 : x_sw (nI 2) (nI 0) (a0 :: a1 :: a2 :: r) d = a2 := rfl
theorem sw3 : x_sw (nI 3) (nI 0) (a0 :: a1 :: a2 :: a3 :: r) d = a3 := rfl
theorem sw4 : x_sw (nI 4) (nI 0) (a0 :: a1 :: a2 :: a3 :: a4 :: r) d = a4 := rfl
theorem sw5 : x_sw (nI 5) (nI 0) (a0 :: a1 :: a2 :: a3 :: a4 :: a5 :: r) d = a5 := rfl
theorem sw6 : x_sw (nI 6) (nI 0) [a0, a1, a2, a3, a4, a5] d = d := rfl
end
def AR (k v0 : Nat) (P : xP) (O : xO) (h s p g0 y b fc g i j n v : Nat) (μc μm : xMu) : Prop :=
  ∃ (rc a F' n' x' T g' i' u : Nat) (E' : xO) (μc' μm' : xMu),
    f7_doActs_l24 (f7_runFrom k) K0 fc v0 (nI s) (nI p) (30 + 4 * b) (nI v) (nI i) μc = some (cd rc a, μc') ∧
    (rc = 0 → ∀ K f, DA K (f + T) g μm = DA K f (g' + 2) μm') ∧
    (rc = 1 → ∀ K f, DA K (f + T) g μm = (f12_over 1 μm').bind fun μ => f12_outermost_l47 K f μ) ∧
    T ≤ 16 * (n' - n) + 2 * j ∧ n ≤ n' ∧ rc < 2 ∧ a < 1000003 ∧ (x' = 1 → rc = 1) ∧ SS v0 P (O ++ E') F' n' x' μc' μm' ∧
    EN h s p g0 u i' E'.length y μm' ∧ (rc = 0 → i' = P 4 b 4 ∧ u = a) ∧ μm' 162 48 = nI (h + 1) ∧ gs (pC v0 (s + 1)) μc μc' ∧ gs (pD h (s + 1)) μm μm'
theorem AR.step {k v0 : Nat} {P : xP} {O : xO} {h s p g0 y b fc g i j n v v' : Nat} {μc μm μc1 μm1 : xMu} (C : f7_doActs_l24 (f7_runFrom k) K0 (fc + 1) v0 (nI s) (nI p) (30 + 4 * b) (nI v) (nI i) μc = f7_doActs_l24 (f7_runFrom k) K0 fc v0 (nI s) (nI p) (30 + 4 * b) (nI v') (nI (i + 1)) μc1) (D : f12_doActs_l2 (fun (μ47 : xMu) => (some μ47)) (g + 1) 1 μm = f12_doActs_l2 (fun (μ47 : xMu) => (some μ47)) g 1 μm1) (gc : gs (pC v0 (s + 1)) μc μc1) (gm : gs (pD h (s + 1)) μm μm1) (H : AR k v0 P O h s p g0 y b fc g (i + 1) j n v' μc1 μm1) : AR k v0 P O h s p g0 y b (fc + 1) (g + 1) i (j + 1) n v μc μm := by
  obtain ⟨rc, a, F', n', x', T, g', i', u, E', μc', μm', h1, h2, h3, h4, h5, h6, h7, h8, h9, h10, h11, h12, h13, h14⟩ := H
  refine ⟨rc, a, F', n', x', T, g', i', u, E', μc', μm', C.trans h1, fun z K f => ?_, fun z K f => ?_, by omega, h5, h6, h7, h8, h9, h10, h11, h12, gc.trans h13, gm.trans h14⟩
  · rw [← h2 z K f]; unfold DA; rw [D]
  · rw [← h3 z K f]; unfold DA; rw [D]
theorem AR.nest {k v0 : Nat} {P : xP} {O : xO} {h s p g0 y b fc g i j n n1 v v' T1 : Nat} {μc μm μc1 μm1 : xMu} (C : f7_doActs_l24 (f7_runFrom k) K0 (fc + 1) v0 (nI s) (nI p) (30 + 4 * b) (nI v) (nI i) μc = f7_doActs_l24 (f7_runFrom k) K0 fc v0 (nI s) (nI p) (30 + 4 * b) (nI v') (nI (i + 1)) μc1) (D : ∀ K f, DA K (f + T1) (g + 1) μm = DA K f 1000 μm1) (hT : T1 ≤ 16 * (n1 - n) + 2) (hn : n ≤ n1) (gc : gs (pC v0 (s + 1)) μc μc1) (gm : gs (pD h (s + 1)) μm μm1) (H : AR k v0 P O h s p g0 y b fc 1000 (i + 1) j n1 v' μc1 μm1) : AR k v0 P O h s p g0 y b (fc + 1) (g + 1) i (j + 1) n v μc μm := by
  obtain ⟨rc, a, F', n', x', T, g', i', u, E', μc', μm', h1, h2, h3, h4, h5, h6, h7, h8, h9, h10, h11, h12, h13, h14⟩ := H
  refine ⟨rc, a, F', n', x', T + T1, g', i', u, E', μc', μm', C.trans h1, fun z K f => ?_, fun z K f => ?_, by omega, by omega, h6, h7, h8, h9, h10, h11, h12, gc.trans h13, gm.trans h14⟩
  · rw [← h2 z K f, ← D K (f + T), Nat.add_assoc]
  · rw [← h3 z K f, ← D K (f + T), Nat.add_assoc]
theorem AR.no {k v0 : Nat} {P : xP} {O E : xO} {h s p g0 y b fc g i j n n1 v T1 F x u i' : Nat} {μc μm μc1 μm1 : xMu} (hb : b < 24) (C : f7_doActs_l24 (f7_runFrom k) K0 (fc + 2) v0 (nI s) (nI p) (30 + 4 * b) (nI v) (nI i) μc = f7_doActs_l24 (f7_runFrom k) K0 (fc + 1) v0 (nI s) (nI p) (30 + 4 * b) (-1000004) (nI (i + 1)) μc1) (D : ∀ K f, DA K (f + T1) g μm = (f12_over 1 μm1).bind fun μ => f12_outermost_l47 K f μ) (hT : T1 ≤ 16 * (n1 - n) + 2) (hn : n ≤ n1) (hS : SS v0 P (O ++ E) F n1 x μc1 μm1) (hE : EN h s p g0 u i' E.length y μm1) (h8 : μm1 162 48 = nI (h + 1)) (gc : gs (pC v0 (s + 1)) μc μc1) (gm : gs (pD h (s + 1)) μm μm1) : AR k v0 P O h s p g0 y b (fc + 2) g i (j + 1) n v μc μm := by
  refine ⟨1, 0, F, n1, x, T1, 0, i', u, E, μc1, μm1, ?_, fun z => absurd z (by decide), fun _ => D, by omega, hn, by decide, by decide, fun _ => rfl, hS, hE, fun z => absurd z (by decide), h8, gc, gm⟩
  rw [C, t_acr hb]
  rfl
theorem DA_no {μ : xMu} {g : Nat} {μ1 : xMu} (D : f12_doActs_l2 (fun (μ47 : xMu) => (some μ47)) (g + 2) 1 μ = (f12_over 1 μ1).bind fun μ42 => f12_doActs_j436 (f12_doActs_l2 (fun (μ47 : xMu) => (some μ47)) (g + 1)) 0 μ42) : ∀ K f, DA K (f + 0) (g + 2) μ = (f12_over 1 μ1).bind fun μ => f12_outermost_l47 K f μ := by
  intro K f
  unfold DA
  rw [D]
  cases f12_over 1 μ1 with
  | none => rfl
  | some ν =>
    show (f12_doActs_j436 (f12_doActs_l2 (fun (μ47 : xMu) => (some μ47)) (g + 1)) 0 ν).bind _ = _
    unfold f12_doActs_j436 f12_doActs_l2
    rw [if_pos rfl]
    rfl
