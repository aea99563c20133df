section
/-! the law: what is only asked -/
theorem vQ.T {I J : zI} (h : vQ I J) : nT J = nT I := by
  obtain ⟨q1, -⟩ := h
  have f : ∀ y, (34 ≤ y ∧ y ≤ 66) ∨ (68 ≤ y ∧ y ≤ 70) → J y = I y := fun y hy => q1 y (by omega) (by omega) (by omega) (by omega) (by omega) (by omega) (by omega) (by omega) (by omega)
  have eR : nR J = nR I := by
    funext t
    unfold nR nb
    rw [f 68 (by omega), f 69 (by omega)]
  funext t q
  unfold nT
  rw [eR]
  by_cases ht : t < 6
  · rw [if_pos ht, if_pos ht]
    unfold mX mX0
    rw [f (46 + 3 * t) (by omega), f (45 + 3 * t) (by omega)]
  · rw [if_neg ht, if_neg ht]
theorem vQ.s {I J : zI} (h : vQ I J) : J 2000 = I 2000 := h.1 2000 (by decide) (by decide) (by decide) (by decide) (by decide) (by decide) (by decide) (by decide) (by decide)
theorem nG.Q {I J : zI} (h : nG I J) : vQ I J := h.F.Q
theorem nA.Q {I J : zI} (h : nA I J) : vQ I J := h.F.Q
theorem vN.E {I J : zI} (h : vN I) (q : vQ I J) : nE (mK 2 I) J := h.1.2.2.1.at (fun j a => q.2.2.1 j (by omega) (by omega) (by omega) (by omega)) q.2.2.2.1 q.2.2.2.2 h.1.1.1.1.1.2 h.1.1.2.1.2
theorem vN.hT2 {I J : zI} (h : vN I) (q : vQ I J) : ∀ k, mX I (mK 2 I 0 6).toNat k = nT J (mK 2 I 0 6).toNat k := by
  rw [q.T]
  exact h.hT
theorem vN.n13 {I : zI} (h : vN I) : I 67 13 = 0 := h.1.2.2.2.1
theorem vN.lk2 {I J : zI} (h : vN I) (q : vQ I J) : mlk (mK 2 I) (nK J) := (h.E q).lk (h.Q q).n13
theorem vN.a2 {I J : zI} (h : vN I) (q : vQ I J) : nAll J = mAll I := by
  funext x
  have h5 : 0 ≤ I 2 2 ∧ I 2 2 ≤ 5 := h.1.1.1.1.1
  have e9 : I 2 2 = J 67 9 := (h.E q).1.1
  unfold nAll mAll
  rw [← e9]
  refine (mall_lk (h.lk2 q) (h.hT2 q) _ 0 x ?_).symm
  show ((0 + (I 2 2).toNat : Nat) : Int) ≤ I 2 2
  omega
theorem vN.o2 {I J : zI} (h : vN I) (q : vQ I J) {p : Nat} (hp : (p : Int) < I 2 2) (x : Int) : nOne J p x = mOne I p x :=
  (mtell_lk (h.lk2 q) (h.hT2 q) hp x).symm
theorem vN.k5 {I : zI} (h : vN I) : 0 ≤ I 2 2 ∧ I 2 2 ≤ 5 := h.1.1.1.1.1
theorem vN.k8 {I : zI} (h : vN I) : 0 ≤ I 2 3 ∧ I 2 3 ≤ 8 := h.1.1.2.1
theorem vN.e9 {I : zI} (h : vN I) : I 2 2 = I 67 9 := h.1.2.2.1.1.1
theorem vN.e11 {I : zI} (h : vN I) : I 2 3 = I 67 11 := h.1.2.2.1.1.2.1
theorem vN.c40 {I : zI} (h : vN I) : ∀ s, s < 4 → 0 ≤ I (36 + 2 * s) 2 ∧ I (36 + 2 * s) 2 ≤ 40 := fun s hs => (h.2.2.2.1 s hs).1
theorem vN.r40 {I : zI} (h : vN I) : ∀ s, s < 4 → I 77 s ≠ 0 → 0 ≤ I 79 s ∧ I 79 s ≤ 40 := fun s hs q => by
  obtain ⟨a1, a2, a3⟩ := h.2.2.2.1 s hs
  rcases a3 with b | b
  · exact absurd b.2 q
  · rw [b.2.2.2.1]; exact a1
theorem vN.srt {I : zI} (h : vN I) {s : Nat} (hs : s < 4) : I (36 + 2 * s) 1 = -1 ↔ I 77 s = 0 := by
  obtain ⟨a1, a2, a3⟩ := h.2.2.2.1 s hs
  rcases a3 with b | b
  · exact ⟨fun _ => b.2, fun _ => b.1⟩
  · exact ⟨fun q => absurd q b.1, fun q => absurd q b.2.1⟩
theorem vN.sh {I : zI} (h : vN I) {s : Nat} (hs : s < 4) (q : I 77 s ≠ 0) : I 78 s = I (36 + 2 * s) 1 ∧ I 79 s = I (36 + 2 * s) 2 ∧ ∀ j : Nat, (j : Int) < I 79 s → I 80 (40 * s + j) = I (37 + 2 * s) j := by
  obtain ⟨a1, a2, a3⟩ := h.2.2.2.1 s hs
  rcases a3 with b | b
  · exact absurd b.2 q
  · exact b.2.2
theorem vN.fld {I : zI} (h : vN I) {x1 x2 : Int} (h1 : 1 ≤ x2 ∧ x2 ≤ 5) (hp : 0 ≤ x1 ∧ x1 < I 2 2) : I (2 + (3 + x1.toNat)) (mfi x2) = I 71 (5 * x1.toNat + (x2.toNat - 1)) := by
  obtain ⟨e0, e1, ⟨e2, -⟩, e3, e4⟩ := h.1.2.2.1.2.2 x1.toNat (show ((x1.toNat : Nat) : Int) < I 2 2 by omega)
  have hh : x2 = 1 ∨ x2 = 2 ∨ x2 = 3 ∨ x2 = 4 ∨ x2 = 5 := by omega
  rcases hh with rfl | rfl | rfl | rfl | rfl
  · exact e1
  · exact e2
  · exact e3
  · exact e4
  · exact e0
section
variable {c : Nat × Nat × Nat} {I : zI}
theorem p_told (h : vN I) {x1 x2 : Int} : vPr c I zi 79 140 [zr 0, zi x1, zi x2] [zr 67, zi x1, zi x2] := by
  intro g Q1 H
  have h5 := h.k5
  have h8 := h.k8
  have e9 := h.e9
  have e11 := h.e11
  have e7 : I 2 4 = I 67 7 := h.1.2.2.1.1.2.2.1
  have e12 : I 2 5 = I 67 12 := h.1.2.2.1.1.2.2.2.1
  have H := fun s0 q => H s0 I g rfl q
  refine x_told h5.2 h8.2 (fun q => H _ (fun Q2 H2 => ?_)) (fun q => H _ (fun Q2 H2 => ?_)) (fun q => H _ (fun Q2 H2 => ?_)) (fun q => H _ (fun Q2 H2 => ?_)) (fun q q1 q2 => H _ (fun Q2 H2 => ?_)) (fun q q1 q2 q3 => H _ (fun Q2 H2 => ?_))
  all_goals
    have H2 := H2 I g h rfl
    refine y_told (by decide) (by omega) (by omega) (fun z => ?_) (fun z => ?_) (fun z => ?_) (fun z => ?_) (fun z z1 z2 => ?_) (fun z z1 z2 z3 => ?_)
  all_goals
    first
      | exact H2
      | (exfalso; omega)
      | exact zQi e7.symm H2
      | exact zQi e11.symm H2
      | exact zQi e12.symm H2
      | exact zQi (h.1.2.2.1.2.1 x1.toNat (show ((x1.toNat : Nat) : Int) < I 2 3 by omega)).symm H2
      | exact zQi (h.fld (x1 := x1) (x2 := x2) ⟨z, z1⟩ ⟨z2, by omega⟩).symm H2
theorem p_asks (h : vN I) {x1 x2 x3 : Int} : vPr c I zi 81 168 [zr 0, zi x1, zi x2, zi x3] [zr 67, zi x1, zi x2, zi x3] := by
  intro g Q1 H
  have e9 := h.e9
  refine x_asks h.mW (fun q => H _ I g rfl (fun Q2 H2 => y_asks (by decide) h.nW (fun _ => H2 I g h rfl) (fun z => absurd (by omega) q))) (fun q J hJ => H _ J g (hJ 2000 (by decide)) (fun Q2 H2 => ?_))
  have hq := hJ.F.Q
  have hN := h.Q hq
  have e9J : I 2 2 = J 67 9 := (h.E hq).1.1
  have hp : ((x1.toNat : Nat) : Int) < I 2 2 := by omega
  refine y_asks (by decide) hN.nW (fun z => absurd (by omega) z) (fun _ J1 h1 => ?_)
  have H2 := H2 J1 g (hN.Q h1.Q) (h1.Q.s.trans hq.s)
  rw [mtell_lk (h.lk2 hq) (h.hT2 hq) hp x2, mkeep_lk (h.lk2 hq) (h.hT2 hq) hp x2, mtire_lk (h.lk2 hq) (h.hT2 hq) hp x2, mlearn_lk (h.lk2 hq) (h.hT2 hq) hp x2] at H2
  exact H2
theorem mrt_cg {F F1 : Nat → Int → Int} {cl : Nat → Int} : ∀ (n i : Nat) (x : Int), (∀ j, i ≤ j → j < i + n → ∀ y, F (cl j).toNat y = F1 (cl j).toNat y) → mrt F cl n i x = mrt F1 cl n i x
  | 0, _, _, _ => rfl
  | n + 1, i, x, h => by
    unfold mrt
    rw [h i (Nat.le_refl _) (by omega)]
    exact mrt_cg n (i + 1) _ (fun j h1 h2 => h j (by omega) (by omega))
theorem p_over (h : vN I) {x1 x2 x3 : Int} : vPr c I zi 88 171 [zr 0, zi x1, zi x2, zi x3] [zr 67, zi x1, zi x2, zi x3] := by
  intro g Q1 H
  have e9 := h.e9
  have ref : ∀ (J : zI) (g2 : Nat) (Q2 : zQ), mA I J → (¬ ((0 ≤ x1 ∧ x1 < 4) ∧ mR x2 ∧ 0 ≤ x3 ∧ x3 ≤ 3) → Q2 (some (zi (-2))) (c, J, zRg g2)) → ((0 ≤ x1 ∧ x1 < 4) → mR x2 → 0 ≤ x3 → x3 ≤ 3 → I (36 + 2 * x1.toNat) 1 = -1 → Q2 (some (zi (-11))) (c, J, zRg g2)) → ((0 ≤ x1 ∧ x1 < 4) → mR x2 → 0 ≤ x3 → x3 ≤ 3 → I (36 + 2 * x1.toNat) 1 ≠ -1 → ¬ (∀ i, i < (I (36 + 2 * x1.toNat) 2).toNat → 0 ≤ I (37 + 2 * x1.toNat) i ∧ I (37 + 2 * x1.toNat) i < I 2 2) → Q2 (some (zi (-2))) (c, J, zRg g2)) →
      ((0 ≤ x1 ∧ x1 < 4) → mR x2 → 0 ≤ x3 → x3 ≤ 3 → I (36 + 2 * x1.toNat) 1 ≠ -1 → (∀ i, i < (I (36 + 2 * x1.toNat) 2).toNat → 0 ≤ I (37 + 2 * x1.toNat) i ∧ I (37 + 2 * x1.toNat) i < I 2 2) → ∀ J1, nA J J1 → Q2 (some (zi (mov (mrt (mOne I) (I (37 + 2 * x1.toNat)) (I (36 + 2 * x1.toNat) 2).toNat 0 x2) x2 x3))) (c, J1, zRg g2)) → zcl 100 171 0 0 [zr 67, zi x1, zi x2, zi x3] (c, J, zRg g2) Q2 := by
    intro J g2 Q2 hJ k1 k2 k3 k4
    have hq := hJ.F.Q
    have hN := h.Q hq
    have e9J : I 2 2 = J 67 9 := (h.E hq).1.1
    have fs : ∀ s, s < 4 → J 77 s ≠ 0 → I (36 + 2 * s) 1 ≠ -1 ∧ J 79 s = I (36 + 2 * s) 2 ∧ ∀ j : Nat, (j : Int) < J 79 s → J 80 (40 * s + j) = I (37 + 2 * s) j := by
      intro s hs q
      obtain ⟨b1, b2, b3⟩ := hN.sh hs q
      rw [hJ (36 + 2 * s) (by omega)] at b2
      rw [hJ (37 + 2 * s) (by omega)] at b3
      refine ⟨fun z => q ((hN.srt hs).mp ?_), b2, b3⟩
      rw [hJ (36 + 2 * s) (by omega)]
      exact z
    refine y_over (cl := I (37 + 2 * x1.toNat)) (by decide) hN.nW hN.r40 (fun a b q => (fs x1.toNat (by omega) q).2.2) k1 (fun u a b e q => k2 u a b e ?_) (fun u a b e q w => ?_) (fun u a b e q w J1 h1 => ?_)
    · have := (hN.srt (s := x1.toNat) (by omega)).mpr q
      rw [hJ (36 + 2 * x1.toNat) (by omega)] at this
      exact this
    · obtain ⟨f1, f2, f3⟩ := fs x1.toNat (by omega) q
      rw [f2, ← e9J] at w
      exact k3 u a b e f1 w
    · obtain ⟨f1, f2, f3⟩ := fs x1.toNat (by omega) q
      rw [f2, ← e9J] at w
      rw [f2]
      rw [mrt_cg (F := nOne J) (F1 := mOne I) _ 0 x2 (fun j _ hj y => h.o2 hq (by have := w j (by omega); omega) y)]
      exact k4 u a b e f1 w J1 h1
  refine x_over h.mW h.c40 (fun q => H _ I g rfl (fun Q2 H2 => ref I g Q2 (mA.rf I) (fun _ => H2 I g h rfl) (fun _ _ _ _ _ => absurd (by omega) q) (fun _ _ _ _ _ _ => absurd (by omega) q) (fun _ _ _ _ _ _ _ _ => absurd (by omega) q))) (fun a b e f k => H _ I g rfl (fun Q2 H2 => ref I g Q2 (mA.rf I) (fun q => absurd (by omega) q) (fun _ _ _ _ _ => H2 I g h rfl) (fun _ _ _ _ q _ => absurd k q) (fun _ _ _ _ q _ _ _ => absurd k q))) (fun a b e f k l => H _ I g rfl (fun Q2 H2 => ref I g Q2 (mA.rf I) (fun q => absurd (by omega) q) (fun _ _ _ _ q => absurd q k) (fun _ _ _ _ _ _ => H2 I g h rfl) (fun _ _ _ _ _ q _ _ => absurd q l))) (fun a b e f k l J hJ => H _ J g (hJ 2000 (by decide)) (fun Q2 H2 => ref J g Q2 hJ (fun q => absurd (by omega) q) (fun _ _ _ _ q => absurd q k) (fun _ _ _ _ _ q => absurd l q) (fun _ _ _ _ _ _ J1 h1 => H2 J1 g ((h.Q hJ.F.Q).Q h1.Q) (h1.Q.s.trans hJ.F.Q.s))))
theorem p_run (h : vN I) {x1 x2 : Int} (hx2 : zIn x2) : vPr c I zi 90 177 [zr 0, zi x1, zi x2] [zr 67, zi x1, zi x2] := by
  intro g Q1 H
  refine x_run hx2 h.mW h.1.1 h.1.2.1 (fun q => H _ I g rfl (fun Q2 H2 => y_run (T := mX I) (K := mK 2 I) (by decide) hx2 h.1.1 h.1.2.1 h.1.2.2.1 h.n13 h.nX h.hT (fun _ => H2 I g h rfl) (fun a b e => absurd ⟨⟨a, b⟩, e⟩ q))) (fun a b J hJ => H _ J g hJ.Q.s (fun Q2 H2 => y_run (T := mX I) (K := mK 2 I) (by decide) hx2 h.1.1 h.1.2.1 (h.E hJ.Q) (h.Q hJ.Q).n13 (h.Q hJ.Q).nX (h.hT2 hJ.Q) (fun q => absurd ⟨a, b⟩ q) (fun _ _ _ J1 h1 => H2 J1 g ((h.Q hJ.Q).Q h1.Q) (h1.Q.s.trans hJ.Q.s))))
theorem p_fro (h : vN I) {x1 x2 : Int} : vPr c I zi 104 178 [zr 0, zi x1, zi x2] [zr 67, zi x1, zi x2] := by
  intro g Q1 H
  refine x_fro h.mW (fun q => H _ I g rfl (fun Q2 H2 => y_fro (by decide) h.nW (fun _ => H2 I g h rfl) (fun a b e => absurd ⟨a, b, e⟩ q))) (fun a b e J hJ => H _ J g hJ.Q.s (fun Q2 H2 => y_fro (by decide) (h.Q hJ.Q).nW (fun q => absurd ⟨a, b, e⟩ q) (fun _ _ _ J1 h1 => ?_)))
  rw [h.a2 hJ.Q]
  exact H2 J1 g ((h.Q hJ.Q).Q h1.Q) (h1.Q.s.trans hJ.Q.s)
theorem p_from (h : vN I) {x1 x2 : Int} : vPr c I zi 109 182 [zr 0, zi x1, zi x2] [zr 67, zi x1, zi x2] := by
  intro g Q1 H
  refine x_from h.mW (fun q => H _ I g rfl (fun Q2 H2 => y_from (by decide) h.nW (fun _ => H2 I g h rfl) (fun a b e => absurd ⟨a, b, e⟩ q))) (fun a b e J hJ => H _ J g hJ.Q.s (fun Q2 H2 => y_from (by decide) (h.Q hJ.Q).nW (fun q => absurd ⟨a, b, e⟩ q) (fun _ _ _ J1 h1 => ?_)))
  rw [h.a2 hJ.Q]
  exact H2 J1 g ((h.Q hJ.Q).Q h1.Q) (h1.Q.s.trans hJ.Q.s)
theorem p_drawn (h : vN I) {x1 x2 : Int} : vPr c I zi 118 190 [zr 0, zi x1, zi x2] [zr 67, zi x1, zi x2] := by
  intro g Q1 H
  refine x_drawn h.mW (fun q => H _ I g rfl (fun Q2 H2 => y_drawn (by decide) h.nW (fun _ => H2 I g h rfl) (fun a b => absurd ⟨a, b⟩ q))) (fun a b J hJ => H _ J g hJ.Q.s (fun Q2 H2 => y_drawn (by decide) (h.Q hJ.Q).nW (fun q => absurd ⟨a, b⟩ q) (fun _ _ J1 h1 => ?_)))
  rw [h.a2 hJ.Q]
  exact H2 J1 g ((h.Q hJ.Q).Q h1.Q) (h1.Q.s.trans hJ.Q.s)
theorem p_chance (h : vN I) {x1 x2 x3 x4 : Int} : vPr c I zl 119 191 [zr 0, zi x1, zi x2, zi x3, zi x4] [zr 67, zi x1, zi x2, zi x3, zi x4] := by
  intro g Q1 H
  refine x_chance h.mW (fun q => H _ I g rfl (fun Q2 H2 => y_chance (by decide) h.nW (fun _ => H2 I g h rfl) (fun a b e f k l => absurd ⟨⟨a, b⟩, ⟨e, f⟩, k, l⟩ q))) (fun a b e f k l J hJ => H _ J g hJ.Q.s (fun Q2 H2 => y_chance (by decide) (h.Q hJ.Q).nW (fun q => absurd ⟨⟨a, b⟩, ⟨e, f⟩, k, l⟩ q) (fun _ _ _ _ _ _ J1 h1 => ?_)))
  rw [h.a2 hJ.Q]
  exact H2 J1 g ((h.Q hJ.Q).Q h1.Q) (h1.Q.s.trans hJ.Q.s)
theorem mcd_cg {F F1 : Nat → Int → Int} {N : Nat} {th : Int} (h : ∀ p, p < N → ∀ y, F p y = F1 p y) : ∀ (m : Nat) (x dg tk : Int), mcd F N th m x dg tk = mcd F1 N th m x dg tk
  | 0, _, _, _ => rfl
  | m + 1, x, dg, tk => by
    unfold mcd
    have e : ∀ p, p ∈ List.range' 0 N → (if zand tk (zshl 1 (p : Int)) = 0 then mcd F N th m (F p x) (mdg10 dg p) (zor tk (zshl 1 (p : Int))) else []) = (if zand tk (zshl 1 (p : Int)) = 0 then mcd F1 N th m (F1 p x) (mdg10 dg p) (zor tk (zshl 1 (p : Int))) else []) := by
      intro p hp
      have hp : p < N := by have := List.mem_range'_1.mp hp; omega
      rw [h p hp, mcd_cg h m]
    rw [List.flatMap_def, List.flatMap_def, List.map_congr_left e]
theorem nrows_cg {F F1 : Nat → Int → Int} {N : Nat} {th : Int} (h : ∀ p, p < N → ∀ y, F p y = F1 p y) : ∀ (n s : Nat) (o : Option (Int × Int)), nrows F N th n s o = nrows F1 N th n s o
  | 0, _, _ => rfl
  | n + 1, s, o => by
    unfold nrows
    rw [mcd_cg h]
    exact nrows_cg h n (s + 1) _
theorem p_row (h : vN I) {x1 x2 x3 : Int} : vPr c I zi 105 180 [zr 0, zi x1, zi x2, zi x3] [zr 67, zi x1, zi x2, zi x3] := by
  intro g Q1 H
  have h5 := h.k5
  refine x_row h.mW (fun q => H _ I g rfl (fun Q2 H2 => y_row (by decide) h.nW (fun _ => H2 I g h rfl) (fun a b e f k => absurd ⟨a, ⟨b, e⟩, f, k⟩ q))) (fun a b e f k J hJ => H _ J g hJ.Q.s (fun Q2 H2 => y_row (by decide) (h.Q hJ.Q).nW (fun q => absurd ⟨a, ⟨b, e⟩, f, k⟩ q) (fun _ _ _ _ _ J1 h1 => ?_)))
  have e9J : I 2 2 = J 67 9 := (h.E hJ.Q).1.1
  rw [← e9J, nrows_cg (F := nOne J) (F1 := mOne I) (fun p hp y => h.o2 hJ.Q (by omega) y), ← mrows_n]
  exact H2 J1 g ((h.Q hJ.Q).Q h1.Q) (h1.Q.s.trans hJ.Q.s)
theorem p_learn (h : vN I) {x1 x2 : Int} : vPr c I zi 107 181 [zr 0, zi x1, zi x2] [zr 67, zi x1, zi x2] := by
  intro g Q1 H
  have en : nLn (mX I) (mK 2 I) = mLn I := rfl
  refine x_learn h.mW h.k8 (fun q => H _ I g rfl (fun Q2 H2 => y_learn (T := mX I) (K := mK 2 I) (by decide) h.1.1 h.1.2.2.1 h.n13 h.nX h.hT (fun _ => H2 I g h rfl) (fun a b e => absurd ⟨a, b, e⟩ q))) (fun a b e J hJ => H _ J g hJ.Q.s (fun Q2 H2 => y_learn (T := mX I) (K := mK 2 I) (by decide) h.1.1 (h.E hJ.Q) (h.Q hJ.Q).n13 (h.Q hJ.Q).nX (h.hT2 hJ.Q) (fun q => absurd ⟨a, b, e⟩ q) (fun _ _ _ J1 h1 => ?_)))
  rw [en, ← mlb_n]
  exact H2 J1 g ((h.Q hJ.Q).Q h1.Q) (h1.Q.s.trans hJ.Q.s)
theorem p_mean (h : vN I) {x1 : Int} : vPr c I zl 110 184 [zr 0, zi x1] [zr 67, zi x1] := by
  intro g Q1 H
  have H := fun s0 q => H s0 I g rfl q
  exact x_mean h.k5 h.1.1.1.1 (fun q => H _ (fun Q2 H2 => y_mean (by decide) h.1.1 h.1.2.2.1 (fun _ => H2 I g h rfl) (fun a b e => absurd ⟨⟨a, b⟩, e⟩ q))) (fun a b e => H _ (fun Q2 H2 => y_mean (by decide) h.1.1 h.1.2.2.1 (fun q => absurd ⟨⟨a, b⟩, e⟩ q) (fun _ _ _ => H2 I g h rfl)))
theorem p_count (h : vN I) {x1 : Int} : vPr c I zi 123 194 [zr 0, zi x1] [zr 67, zi x1] := by
  intro g Q1 H
  have H := fun s0 q => H s0 I g rfl q
  refine x_count (fun q => H _ (fun Q2 H2 => y_count (by decide) (fun _ => H2 I g h rfl) (fun a b => absurd ⟨a, b⟩ q))) (fun a b => H _ (fun Q2 H2 => y_count (by decide) (fun q => absurd ⟨a, b⟩ q) (fun _ _ => ?_)))
  have H2 := H2 I g h rfl
  have e7 : I 2 4 = I 67 7 := h.1.2.2.1.1.2.2.1
  have e6 : I 2 6 = I 67 4 := h.1.2.2.1.1.2.2.2.2
  rw [h.e9, h.e11, e7, e6, ← h.2.1.2.1, ← h.2.2.1.1] at H2
  exact H2
theorem p_taken (h : vN I) {x1 x2 : Int} : vPr c I zi 128 201 [zr 0, zi x1, zi x2] [zr 67, zi x1, zi x2] := by
  intro g Q1 H
  have e9 := h.e9
  have H := fun s0 q => H s0 I g rfl q
  have e5 := fun q : 0 ≤ x1 ∧ x1 < I 2 2 => h.fld (x1 := x1) (x2 := 5) (by decide) q
  have e1 := fun q : 0 ≤ x1 ∧ x1 < I 2 2 => h.fld (x1 := x1) (x2 := 1) (by decide) q
  have f5 : mfi 5 = 0 := rfl
  have f1 : mfi 1 = 1 := rfl
  have g5 : (5 : Int).toNat - 1 = 4 := rfl
  have g1 : (1 : Int).toNat - 1 = 0 := rfl
  rw [f5, g5] at e5
  rw [f1, g1] at e1
  refine x_taken h.mW (fun q => H _ (fun Q2 H2 => y_taken (by decide) h.nW (fun _ => H2 I g h rfl) (fun a _ => absurd a q) (fun a _ _ => absurd a q) (fun a _ _ => absurd a q))) (fun a q => H _ (fun Q2 H2 => y_taken (by decide) h.nW (fun z => absurd a z) (fun _ _ => H2 I g h rfl) (fun _ b _ => absurd (by omega) q) (fun _ b _ => absurd (by omega) q))) (fun a b q => H _ (fun Q2 H2 => y_taken (by decide) h.nW (fun z => absurd a z) (fun _ z => absurd (by omega) z) (fun _ _ _ => H2 I g h rfl) (fun _ _ z => ?_))) (fun a b q => H _ (fun Q2 H2 => y_taken (by decide) h.nW (fun z => absurd a z) (fun _ z => absurd (by omega) z) (fun _ _ z => ?_) (fun _ _ z => ?_)))
  · rw [← e5 b] at z
    exact absurd z q
  · rw [← e5 b] at z
    exact absurd q z
  · exact zQi (e1 b).symm (H2 I g h rfl)
theorem p_tells (h : vN I) {x1 x2 x3 : Int} : vPr c I zi 113 187 [zr 0, zi x1, zi x2, zi x3] [zr 67, zi x1, zi x2, zi x3] := by
  intro g Q1 H
  have hT := h.2.1
  have h06 : 0 ≤ I 0 7 ∧ I 0 7 ≤ 6 := ⟨by have := hT.1.1; omega, hT.1.2⟩
  have ref : ∀ (J : zI) (g2 : Nat) (Q2 : zQ), mFr I J → (¬ ((0 ≤ x1 ∧ x1 < 4) ∧ (0 ≤ x2 ∧ x2 < I 2 2) ∧ 0 ≤ x3 ∧ x3 ≤ 8) → Q2 (some (zi (-2))) (c, J, zRg g2)) → ((0 ≤ x1 ∧ x1 < 4) → (0 ≤ x2 ∧ x2 < I 2 2) → 0 ≤ x3 → x3 ≤ 8 → I (36 + 2 * x1.toNat) 1 = -1 → Q2 (some (zi (-11))) (c, J, zRg g2)) → ((0 ≤ x1 ∧ x1 < 4) → (0 ≤ x2 ∧ x2 < I 2 2) → 0 ≤ x3 → x3 ≤ 8 → I (36 + 2 * x1.toNat) 1 ≠ -1 → 10 < I (36 + 2 * x1.toNat) 2 → Q2 (some (zi (-2))) (c, J, zRg g2)) → ((0 ≤ x1 ∧ x1 < 4) → (0 ≤ x2 ∧ x2 < I 2 2) → 0 ≤ x3 → x3 ≤ 8 → I (36 + 2 * x1.toNat) 1 ≠ -1 → I (36 + 2 * x1.toNat) 2 ≤ 10 → ∀ J1, nF J J1 → Q2 (some (zi (mtv I x1.toNat x2.toNat x3))) (c, J1, zRg g2)) → zcl 100 187 0 0 [zr 67, zi x1, zi x2, zi x3] (c, J, zRg g2) Q2 := by
    intro J g2 Q2 hJ k1 k2 k3 k4
    have hq := hJ.Q
    have hN := h.Q hq
    have hs36 : ∀ s, s < 4 → J (36 + 2 * s) = I (36 + 2 * s) ∧ J (37 + 2 * s) = I (37 + 2 * s) := fun s hs => ⟨hJ.1 _ (by omega) (by omega) (by omega) (by omega), hJ.1 _ (by omega) (by omega) (by omega) (by omega)⟩
    have fs : ∀ s, s < 4 → J 77 s ≠ 0 → I (36 + 2 * s) 1 ≠ -1 ∧ J 79 s = I (36 + 2 * s) 2 ∧ ∀ j : Nat, (j : Int) < J 79 s → J 80 (40 * s + j) = I (37 + 2 * s) j := by
      intro s hs q
      obtain ⟨b1, b2, b3⟩ := hN.sh hs q
      rw [(hs36 s hs).1] at b2
      rw [(hs36 s hs).2] at b3
      refine ⟨fun z => q ((hN.srt hs).mp ?_), b2, b3⟩
      rw [(hs36 s hs).1]
      exact z
    have e3 : J 67 3 = I 0 7 := by rw [hq.2.2.1 3 (by decide) (by decide) (by decide) (by decide)]; exact hT.2.1
    have e7J : J 0 7 = I 0 7 := hq.2.1 7 (by decide) (by decide)
    have t3J := hN.2.1.2.2
    rw [e7J] at t3J
    have w5 : mK 2 I 0 6 < I 0 7 := h.1.2.2.2.2
    refine y_tells (T := mX I) (K := mK 2 I) (cl := I (37 + 2 * x1.toNat)) (by decide) h.1.1 (h.E hq) hN.n13 (by rw [e3]; exact h06) (by rw [e3]; exact w5) (by rw [e3]; exact fun t ht => (t3J t ht).1) (by rw [e3]; exact fun t ht => (t3J t ht).2.1) (by rw [e3, hq.T]; exact fun t ht => (hT.2.2 t ht).2.2) (fun s hs q => (hN.r40 s hs q).1) (fun a b q => (fs x1.toNat (by omega) q).2.2) k1 (fun u a b e q => k2 u a b e ?_) (fun u a b e q w => ?_) (fun u a b e q w J1 h1 => ?_)
    · have := (hN.srt (s := x1.toNat) (by omega)).mpr q
      rw [(hs36 x1.toNat (by omega)).1] at this
      exact this
    · obtain ⟨f1, f2, f3⟩ := fs x1.toNat (by omega) q
      rw [f2] at w
      exact k3 u a b e f1 w
    · obtain ⟨f1, f2, f3⟩ := fs x1.toNat (by omega) q
      rw [f2] at w
      rw [f2, e3]
      exact k4 u a b e f1 w J1 h1
  refine x_tells h.mW h.k8 h.c40 h06 (fun t ht => (hT.2.2 t ht).1) (fun q => H _ I g rfl (fun Q2 H2 => ref I g Q2 (mFr.rf I) (fun _ => H2 I g h rfl) (fun a b e f _ => absurd ⟨a, b, e, f⟩ q) (fun a b e f _ _ => absurd ⟨a, b, e, f⟩ q) (fun a b e f _ _ _ _ => absurd ⟨a, b, e, f⟩ q))) (fun a b e f k => H _ I g rfl (fun Q2 H2 => ref I g Q2 (mFr.rf I) (fun q => absurd ⟨a, b, e, f⟩ q) (fun _ _ _ _ _ => H2 I g h rfl) (fun _ _ _ _ q _ => absurd k q) (fun _ _ _ _ q _ _ _ => absurd k q))) (fun a b e f k l => H _ I g rfl (fun Q2 H2 => ref I g Q2 (mFr.rf I) (fun q => absurd ⟨a, b, e, f⟩ q) (fun _ _ _ _ q => absurd q k) (fun _ _ _ _ _ _ => H2 I g h rfl) (fun _ _ _ _ _ q _ _ => absurd l (by omega)))) (fun a b e f k l J hJ => H _ J g hJ.Q.s (fun Q2 H2 => ref J g Q2 hJ (fun q => absurd ⟨a, b, e, f⟩ q) (fun _ _ _ _ q => absurd q k) (fun _ _ _ _ _ q => absurd l (by omega)) (fun _ _ _ _ _ _ J1 h1 => H2 J1 g ((h.Q hJ.Q).Q h1.Q) (h1.Q.s.trans hJ.Q.s))))
end
end
