section
/-! the law: sheets, crews, the tape, texts -/
theorem vSh_o {I J : zI} {s : Nat} (ha : J (36 + 2 * s) = I (36 + 2 * s)) (hb : J (37 + 2 * s) = I (37 + 2 * s)) (h77 : J 77 s = I 77 s) (h78 : J 78 s = I 78 s) (h79 : J 79 s = I 79 s) (h80 : ∀ j, j < 40 → J 80 (40 * s + j) = I 80 (40 * s + j)) (hS : vSh I s) : vSh J s := by
  obtain ⟨a1, a2, a3⟩ := hS
  unfold vSh
  rw [ha, hb, h77, h78, h79]
  refine ⟨a1, a2, a3.imp id (fun q => ⟨q.1, q.2.1, q.2.2.1, q.2.2.2.1, fun j hj => ?_⟩)⟩
  rw [h80 j (by have := q.2.2.2.1; omega)]
  exact q.2.2.2.2 j hj
theorem vN_s {I J : zI} (h : vN I) (f : ∀ y, (2 ≤ y ∧ y < 18) ∨ (44 ≤ y ∧ y ≤ 66) ∨ (68 ≤ y ∧ y ≤ 76) → J y = I y) (f0 : J 0 4 = I 0 4 ∧ J 0 7 = I 0 7) (f67 : ∀ j, (j < 14 ∨ 28 < j) → J 67 j = I 67 j) (hS : vS J) : vN J := by
  obtain ⟨hW, hT, hP, -, hI⟩ := id h
  exact ⟨vW_mk (K := mK 2 I) h.1.1 h.1.2.1 (h.1.2.2.1.at (fun j q => f67 j (by omega)) (fun j _ => by rw [f 71 (by omega)]) (fun j _ => by rw [f 72 (by omega)]) h.k5.2 h.k8.2) (mEq.lk (mE2 (L := I) (mEq.rf _) (fun y b e => f y (by omega))) h.k5.2) (by rw [f67 13 (by decide)]; exact h.n13) (by rw [f0.2]; exact h.1.2.2.2.2), vT_cg f0.2 (f67 3 (by decide)) (fun y hy => f y (by omega)) hT, vP_cg (f67 6 (by decide)) (by rw [f 62 (by omega)]) (f 70 (by omega)) (f 63 (by omega)) hP, hS, vI_cg f0.1 (by rw [f0.2]; exact Int.le_refl _) (fun j a b => f67 j (by omega)) (fun y hy => f y (by omega)) hI⟩
section
variable {c : Nat × Nat × Nat} {I : zI}
theorem p_sheet (h : vN I) {x1 x2 x3 : Int} : vPr c I zi 124 196 [zr 0, zi x1, zi x2, zi x3] [zr 67, zi x1, zi x2, zi x3] := by
  intro g Q1 H
  refine x_sheet (fun q => H _ I g rfl (fun Q2 H2 => y_sheet (by decide) (fun _ => H2 I g h rfl) (fun a b e => absurd ⟨a, ⟨by omega, b.2⟩, fun _ => by omega⟩ q) (fun a b => absurd ⟨a, by omega, fun _ => by omega⟩ q))) (fun a b e => H _ I g rfl (fun Q2 H2 => y_sheet (by decide) (fun q => absurd ⟨a, by omega, fun _ => by omega⟩ q) (fun _ _ _ => H2 I g h rfl) (fun _ q => absurd q (by omega)))) (fun a n hn J f1 f2 f3 f4 => H _ J g (f1 2000 (by omega) (by omega)) (fun Q2 H2 => ?_))
  have hs : x1.toNat < 4 := by omega
  refine y_sheet (by decide) (fun q => absurd ⟨a, by omega, fun _ => by omega⟩ q) (fun _ b e => absurd e (by omega)) (fun _ _ J1 hJ1 hz => ?_)
  obtain ⟨j1, j2, j3, j4, j5, j6⟩ := hJ1
  generalize x1.toNat = s at *
  have k : ∀ y, y ≠ 36 + 2 * s → y ≠ 37 + 2 * s → y ≠ 77 → y ≠ 78 → y ≠ 79 → y ≠ 80 → J1 y = I y := fun y a b e f l m => (j1 y e f l m).trans (f1 y a b)
  have k36 : J1 (36 + 2 * s) = J (36 + 2 * s) := j1 _ (by omega) (by omega) (by omega) (by omega)
  have k37 : J1 (37 + 2 * s) = J (37 + 2 * s) := j1 _ (by omega) (by omega) (by omega) (by omega)
  have kJ : ∀ y, 77 ≤ y → y ≤ 80 → J y = I y := fun y a b => f1 y (by omega) (by omega)
  refine H2 J1 g (vN_s h (fun y hy => k y (by omega) (by omega) (by omega) (by omega) (by omega) (by omega)) ⟨by rw [k 0 (by omega) (by omega) (by omega) (by omega) (by omega) (by omega)], by rw [k 0 (by omega) (by omega) (by omega) (by omega) (by omega) (by omega)]⟩ (fun j _ => by rw [k 67 (by omega) (by omega) (by omega) (by omega) (by omega) (by omega)]) (fun t ht => ?_)) (k 2000 (by omega) (by omega) (by omega) (by omega) (by omega) (by omega))
  by_cases w : t = s
  · rw [w]
    unfold vSh
    rw [k36, k37, f2, f3, j4, j5, j6]
    refine ⟨by omega, by omega, ?_⟩
    by_cases q : x2 < 0
    · rw [if_pos q]
      exact Or.inl ⟨by omega, rfl⟩
    · rw [if_neg q]
      refine Or.inr ⟨by omega, by decide, rfl, by omega, fun j hj => ?_⟩
      rw [hz (by omega) j hj, f4 j (by omega)]
  · obtain ⟨l1, l2, l3⟩ := j2 t w
    exact vSh_o (k _ (by omega) (by omega) (by omega) (by omega) (by omega) (by omega)) (k _ (by omega) (by omega) (by omega) (by omega) (by omega) (by omega)) (by rw [l1, kJ 77 (by decide) (by decide)]) (by rw [l2, kJ 78 (by decide) (by decide)]) (by rw [l3, kJ 79 (by decide) (by decide)]) (fun j hj => by rw [j3 _ (by omega), kJ 80 (by decide) (by decide)]) (h.2.2.2.1 t ht)
theorem p_film (h : vN I) {x1 x2 : Int} : vPr c I zi 117 188 [zr 0, zi x1, zi x2] [zr 67, zi x1, zi x2] := by
  intro g Q1 H
  have e9 := h.e9
  refine x_film h.mW (fun q => H _ I g rfl (fun Q2 H2 => y_film (by decide) h.nW (fun _ => H2 I g h rfl) (fun a b => absurd ⟨a, by omega⟩ q))) (fun a b J f1 f2 f3 f4 => H _ J g (f1 2000 (by decide) (by omega) (by omega)) (fun Q2 H2 => ?_))
  have hs : x1.toNat < 4 := by omega
  have hp : ((x2.toNat : Nat) : Int) < I 2 2 := by omega
  have fr : ∀ y, (2 ≤ y ∧ y < 18) ∨ (44 ≤ y ∧ y ≤ 80) ∨ y = 0 ∨ y = 2000 → J y = I y := fun y hy => f1 y (by omega) (by omega) (by omega)
  have eT : nT J = nT I := nT_f (fr 68 (by omega)) (fr 69 (by omega)) (fun y a b => fr y (by omega))
  have eK : nK J = nK I := by
    funext x j
    unfold nK
    rw [fr 67 (by omega), fr 71 (by omega), fr 72 (by omega)]
  have hWJ : nW J := by
    obtain ⟨w1, w2, w3, w4⟩ := h.nW
    refine ⟨by rw [eK]; exact w1, by rw [fr 67 (by omega)]; exact w2, by rw [fr 67 (by omega)]; exact w3, ?_⟩
    rw [fr 67 (by omega)]
    exact nXo_f (fr 68 (by omega)) (fr 69 (by omega)) w4
  have eO : ∀ x, nOne J x2.toNat x = mOne I x2.toNat x := fun x => by
    rw [← h.one hp x]
    unfold nOne
    rw [eT, eK]
  refine y_film (by decide) hWJ (fun q => absurd ⟨a, by rw [fr 67 (by omega)]; omega⟩ q) (fun _ _ J1 b1 b2 b3 b4 b5 b6 b7 => ?_)
  have eP : (fun i : Nat => decide (nOne J x2.toNat (zshl 1 (i : Int)) = zshl 1 (i : Int))) = mfl I x2.toNat := by
    funext i
    rw [eO]
    rfl
  rw [eP]
  have k : ∀ y, (2 ≤ y ∧ y < 18) ∨ (44 ≤ y ∧ y ≤ 66) ∨ (68 ≤ y ∧ y ≤ 76) ∨ y = 0 ∨ y = 2000 → J1 y = I y := fun y hy => (b1.1 y (by omega) (by omega) (by omega) (by omega) (by omega)).trans (fr y (by omega))
  refine H2 J1 g (vN_s h (fun y hy => k y (by omega)) ⟨by rw [k 0 (by omega)], by rw [k 0 (by omega)]⟩ (fun j hj => by rw [b1.2 j hj, fr 67 (by omega)]) (fun t ht => ?_)) (k 2000 (by omega))
  generalize x1.toNat = s at *
  have kk : ∀ y, 36 ≤ y → y ≤ 43 → J1 y = J y := fun y a b => b1.1 y (by omega) (by omega) (by omega) (by omega) (by omega)
  by_cases w : t = s
  · rw [w]
    unfold vSh
    rw [kk (36 + 2 * s) (by omega) (by omega), kk (37 + 2 * s) (by omega) (by omega), f2, f3, b4, b5, b6]
    refine ⟨by decide, by decide, Or.inr ⟨by decide, by decide, rfl, rfl, fun j hj => ?_⟩⟩
    rw [b7 j (by omega), f4 j (by omega), eO]
  · obtain ⟨l1, l2, l3⟩ := b2 t w
    exact vSh_o (by rw [kk _ (by omega) (by omega), f1 _ (by omega) (by omega) (by omega)]) (by rw [kk _ (by omega) (by omega), f1 _ (by omega) (by omega) (by omega)]) (by rw [l1, fr 77 (by omega)]) (by rw [l2, fr 78 (by omega)]) (by rw [l3, fr 79 (by omega)]) (fun j hj => by rw [b3 _ (by omega), fr 80 (by omega)]) (h.2.2.2.1 t ht)
theorem p_cell (h : vN I) {x1 x2 x3 : Int} : vPr c I zi 125 197 [zr 0, zi x1, zi x2, zi x3] [zr 67, zi x1, zi x2, zi x3] := by
  intro g Q1 H
  have hsrt := fun q : 0 ≤ x1 ∧ x1 < 4 => h.srt (s := x1.toNat) (by omega)
  have hsh := fun q : 0 ≤ x1 ∧ x1 < 4 => h.sh (s := x1.toNat) (by omega)
  refine x_cell h.c40 (fun q => H _ I g rfl (fun Q2 H2 => y_cell (by decide) h.r40 (fun _ => H2 I g h rfl) (fun a _ => absurd a q) (fun a _ _ => absurd a q) (fun a _ _ => absurd a q))) (fun a b => H _ I g rfl (fun Q2 H2 => y_cell (by decide) h.r40 (fun q => absurd a q) (fun _ _ => H2 I g h rfl) (fun _ z _ => absurd ((hsrt a).mp b) z) (fun _ z _ => absurd ((hsrt a).mp b) z))) (fun a b e => H _ I g rfl (fun Q2 H2 => y_cell (by decide) h.r40 (fun q => absurd a q) (fun _ z => absurd ((hsrt a).mpr z) b) (fun _ _ _ => H2 I g h rfl) (fun _ z w => absurd (by rw [← (hsh a z).2.1]; exact w) e))) (fun a b e => H _ _ g (z2_r (by omega)) (fun Q2 H2 => ?_))
  have hs : x1.toNat < 4 := by omega
  have z : I 77 x1.toNat ≠ 0 := fun z => b ((hsrt a).mpr z)
  obtain ⟨s1, s2, s3⟩ := hsh a z
  have h4 := h.c40 x1.toNat hs
  clear hsrt hsh
  have hx2 : x2.toNat < 40 := by omega
  have hx2' : ((x2.toNat : Nat) : Int) = x2 := by omega
  have kJ : ∀ y, y ≠ 37 + 2 * x1.toNat → z2 I (37 + 2 * x1.toNat) x2.toNat (mcv (I (36 + 2 * x1.toNat) 1) x3) y = I y := fun y q => z2_r q
  have kS : z2 I (37 + 2 * x1.toNat) x2.toNat (mcv (I (36 + 2 * x1.toNat) 1) x3) (37 + 2 * x1.toNat) x2.toNat = mcv (I (36 + 2 * x1.toNat) 1) x3 := z2_s
  have kN : ∀ j, j ≠ x2.toNat → z2 I (37 + 2 * x1.toNat) x2.toNat (mcv (I (36 + 2 * x1.toNat) 1) x3) (37 + 2 * x1.toNat) j = I (37 + 2 * x1.toNat) j := fun j q => z2_n (Or.inr q)
  generalize z2 I (37 + 2 * x1.toNat) x2.toNat (mcv (I (36 + 2 * x1.toNat) 1) x3) = J at *
  have e77 := kJ 77 (by omega)
  have e78 := kJ 78 (by omega)
  have e79 := kJ 79 (by omega)
  have e80 := kJ 80 (by omega)
  refine y_cell (by decide) (by rw [e77, e79]; exact h.r40) (fun q => absurd a q) (fun _ q => absurd (by rw [e77] at q; exact q) z) (fun _ _ q => absurd (by rw [e79, s2]; exact e) q) (fun _ _ _ => ?_)
  rw [e78, s1]
  have k : ∀ y, y ≠ 37 + 2 * x1.toNat → y ≠ 80 → z2 J 80 (40 * x1.toNat + x2.toNat) (mcv (I (36 + 2 * x1.toNat) 1) x3) y = I y := fun y q q1 => (z2_r q1).trans (kJ y q)
  have k37 : z2 J 80 (40 * x1.toNat + x2.toNat) (mcv (I (36 + 2 * x1.toNat) 1) x3) (37 + 2 * x1.toNat) = J (37 + 2 * x1.toNat) := z2_r (by omega)
  refine H2 _ g (vN_s h (fun y hy => k y (by omega) (by omega)) ⟨by rw [k 0 (by omega) (by omega)], by rw [k 0 (by omega) (by omega)]⟩ (fun j hj => by rw [k 67 (by omega) (by omega)]) (fun t ht => ?_)) (k 2000 (by omega) (by omega))
  by_cases w : t = x1.toNat
  · rw [w]
    unfold vSh
    obtain ⟨a1, a2, a3⟩ := h.2.2.2.1 _ hs
    rw [k (36 + 2 * x1.toNat) (by omega) (by omega), k 77 (by omega) (by omega), k 78 (by omega) (by omega), k 79 (by omega) (by omega), k37]
    refine ⟨a1, a2, Or.inr ⟨b, z, s1, s2, fun j hj => ?_⟩⟩
    by_cases q : j = x2.toNat
    · rw [q, z2_s, kS]
    · rw [z2_n (Or.inr (by omega)), kN j q, e80]
      exact s3 j hj
  · exact vSh_o (k _ (by omega) (by omega)) (k _ (by omega) (by omega)) (by rw [k 77 (by omega) (by omega)]) (by rw [k 78 (by omega) (by omega)]) (by rw [k 79 (by omega) (by omega)]) (fun j hj => by rw [z2_n (Or.inr (by omega)), e80]) (h.2.2.2.1 t ht)
theorem p_copy (h : vN I) {x1 x2 x3 x4 x5 : Int} (hx5 : zIn x5) : vPr c I zi 126 198 [zr 0, zi x1, zi x2, zi x3, zi x4, zi x5] [zr 67, zi x1, zi x2, zi x3, zi x4, zi x5] := by
  intro g Q1 H
  have s1 := fun q : 0 ≤ x1 ∧ x1 < 4 => h.srt (s := x1.toNat) (by omega)
  have s3 := fun q : 0 ≤ x3 ∧ x3 < 4 => h.srt (s := x3.toNat) (by omega)
  have t1 := fun q : 0 ≤ x1 ∧ x1 < 4 => h.sh (s := x1.toNat) (by omega)
  have t3 := fun q : 0 ≤ x3 ∧ x3 < 4 => h.sh (s := x3.toNat) (by omega)
  refine x_copy h.c40 (fun q => H _ I g rfl (fun Q2 H2 => y_copy (by decide) hx5 h.r40 (fun _ => H2 I g h rfl) (fun a b _ => absurd ⟨a, b⟩ q) (fun a b _ _ _ => absurd ⟨a, b⟩ q) (fun a b _ _ _ _ => absurd ⟨a, b⟩ q) (fun a b _ _ _ _ => absurd ⟨a, b⟩ q))) (fun a b e => H _ I g rfl (fun Q2 H2 => y_copy (by decide) hx5 h.r40 (fun q => absurd ⟨a, b⟩ q) (fun _ _ _ => H2 I g h rfl) (fun _ _ z z1 _ => ?_) (fun _ _ z z1 _ _ => ?_) (fun _ _ z z1 _ _ => ?_))) (fun a b e f k => H _ I g rfl (fun Q2 H2 => y_copy (by decide) hx5 h.r40 (fun q => absurd ⟨a, b⟩ q) (fun _ _ q => ?_) (fun _ _ _ _ _ => H2 I g h rfl) (fun _ _ z z1 q _ => ?_) (fun _ _ z z1 q _ => ?_))) (fun a b e f k l => H _ I g rfl (fun Q2 H2 => y_copy (by decide) hx5 h.r40 (fun q => absurd ⟨a, b⟩ q) (fun _ _ q => ?_) (fun _ _ z z1 q => ?_) (fun _ _ _ _ _ _ => H2 I g h rfl) (fun _ _ z z1 _ q => ?_))) (fun a b e f k l => ?_)
  · rcases e with q | q
    · exact absurd ((s1 a).mp q) z
    · exact absurd ((s3 b).mp q) z1
  · rcases e with q | q
    · exact absurd ((s1 a).mp q) z
    · exact absurd ((s3 b).mp q) z1
  · rcases e with q | q
    · exact absurd ((s1 a).mp q) z
    · exact absurd ((s3 b).mp q) z1
  · rcases q with q | q
    · exact absurd ((s1 a).mpr q) e
    · exact absurd ((s3 b).mpr q) f
  · rw [(t1 a z).1, (t3 b z1).1] at q
    exact absurd q k
  · rw [(t1 a z).1, (t3 b z1).1] at q
    exact absurd q k
  · rcases q with q | q
    · exact absurd ((s1 a).mpr q) e
    · exact absurd ((s3 b).mpr q) f
  · rw [(t1 a z).1, (t3 b z1).1] at q
    exact absurd k q
  · rw [(t1 a z).2.1, (t3 b z1).2.1] at q
    exact absurd q l
  · have za : I 77 x1.toNat ≠ 0 := fun z => e ((s1 a).mpr z)
    have zb : I 77 x3.toNat ≠ 0 := fun z => f ((s3 b).mpr z)
    have hsa : x1.toNat < 4 := by omega
    have hsb : x3.toNat < 4 := by omega
    obtain ⟨u1, u2, u3⟩ := t1 a za
    obtain ⟨v1, v2, v3⟩ := t3 b zb
    have ca := h.c40 x1.toNat hsa
    have cb := h.c40 x3.toNat hsb
    clear s1 s3 t1 t3
    have kJ : ∀ y, y ≠ 37 + 2 * x3.toNat → zcp I (37 + 2 * x1.toNat) x2.toNat (37 + 2 * x3.toNat) x4.toNat x5.toNat y = I y := fun y q => by
      funext j
      unfold zcp
      rw [if_neg (by omega)]
    have kI : ∀ i, i < x5.toNat → zcp I (37 + 2 * x1.toNat) x2.toNat (37 + 2 * x3.toNat) x4.toNat x5.toNat (37 + 2 * x3.toNat) (x4.toNat + i) = I (37 + 2 * x1.toNat) (x2.toNat + i) := fun i q => by
      unfold zcp
      rw [if_pos (by omega), show x4.toNat + i - x4.toNat = i by omega]
    have kO : ∀ j, ¬ (x4.toNat ≤ j ∧ j < x4.toNat + x5.toNat) → zcp I (37 + 2 * x1.toNat) x2.toNat (37 + 2 * x3.toNat) x4.toNat x5.toNat (37 + 2 * x3.toNat) j = I (37 + 2 * x3.toNat) j := fun j q => by
      unfold zcp
      rw [if_neg (by omega)]
    generalize hJ : zcp I (37 + 2 * x1.toNat) x2.toNat (37 + 2 * x3.toNat) x4.toNat x5.toNat = J at *
    refine H _ J g (kJ 2000 (by omega)) (fun Q2 H2 => ?_)
    have e77 := kJ 77 (by omega)
    have e78 := kJ 78 (by omega)
    have e79 := kJ 79 (by omega)
    have e80 := kJ 80 (by omega)
    refine y_copy (by decide) hx5 (by rw [e77, e79]; exact h.r40) (fun q => absurd ⟨a, b⟩ q) (fun _ _ q => absurd q (by rw [e77]; omega)) (fun _ _ _ _ q => absurd (by rw [e78, u1, v1]; exact k) q) (fun _ _ _ _ _ q => absurd (by rw [e79, u2, v2]; exact l) q) (fun _ _ _ _ _ _ J1 a1 a2 a3 => ?_)
    rw [e80] at a2 a3
    have k1 : ∀ y, y ≠ 37 + 2 * x3.toNat → y ≠ 80 → J1 y = I y := fun y q q1 => (a1 y q1).trans (kJ y q)
    have k37 : J1 (37 + 2 * x3.toNat) = J (37 + 2 * x3.toNat) := a1 _ (by omega)
    refine H2 J1 g (vN_s h (fun y hy => k1 y (by omega) (by omega)) ⟨by rw [k1 0 (by omega) (by omega)], by rw [k1 0 (by omega) (by omega)]⟩ (fun j hj => by rw [k1 67 (by omega) (by omega)]) (fun t ht => ?_)) (k1 2000 (by omega) (by omega))
    by_cases w : t = x3.toNat
    · rw [w]
      unfold vSh
      obtain ⟨b1, b2, b3⟩ := h.2.2.2.1 _ hsb
      rw [k1 (36 + 2 * x3.toNat) (by omega) (by omega), k1 77 (by omega) (by omega), k1 78 (by omega) (by omega), k1 79 (by omega) (by omega), k37]
      refine ⟨b1, b2, Or.inr ⟨f, zb, v1, v2, fun j hj => ?_⟩⟩
      by_cases q : x4.toNat ≤ j ∧ j < x4.toNat + x5.toNat
      · have ej : j = x4.toNat + (j - x4.toNat) := by omega
        have l1 := a2 (j - x4.toNat) (by omega)
        have l2 := kI (j - x4.toNat) (by omega)
        have l3 := u3 (x2.toNat + (j - x4.toNat)) (by omega)
        rw [← ej] at l2
        rw [show 40 * x3.toNat + x4.toNat + (j - x4.toNat) = 40 * x3.toNat + j by omega, show 40 * x1.toNat + x2.toNat + (j - x4.toNat) = 40 * x1.toNat + (x2.toNat + (j - x4.toNat)) by omega] at l1
        rw [l1, l2]
        exact l3
      · rw [a3 _ (by omega), kO j q]
        exact v3 j hj
    · exact vSh_o (k1 _ (by omega) (by omega)) (k1 _ (by omega) (by omega)) (by rw [k1 77 (by omega) (by omega)]) (by rw [k1 78 (by omega) (by omega)]) (by rw [k1 79 (by omega) (by omega)]) (fun j hj => a3 _ (by omega)) (h.2.2.2.1 t ht)
theorem mcw_Wd {cl : Nat → Int} {size : Int} : ∀ (n : Nat) (K : zI) (pl m : Int), mWd K → mWd (mcw cl size n K pl m).1 ∧ (mcw cl size n K pl m).1 0 4 = K 0 4 ∧ (mcw cl size n K pl m).1 0 6 = K 0 6
  | 0, K, pl, m, h => ⟨h, rfl, rfl⟩
  | n + 1, K, pl, m, h => by
    unfold mcw
    by_cases q : 0 ≤ pl ∧ pl + 4 ≤ size
    · rw [if_pos q]
      obtain ⟨b1, b2, b3⟩ := mper_Wd h (a := cl pl.toNat) (b := cl (pl.toNat + 1)) (e := cl (pl.toNat + 2)) (f := cl (pl.toNat + 3))
      obtain ⟨d1, d2, d3⟩ := mcw_Wd n _ (pl + 4) (if mperr K (cl pl.toNat) (cl (pl.toNat + 1)) (cl (pl.toNat + 2)) (cl (pl.toNat + 3)) < 0 then m else m + 1) b1
      exact ⟨d1, d2.trans b2, d3.trans b3⟩
    · rw [if_neg q]
      exact ⟨h, rfl, rfl⟩
theorem p_crew (h : vN I) {x1 x2 x3 x4 : Int} (hx3 : zIn x3) : vPr c I zi 127 199 [zr 0, zi x1, zi x2, zi x3, zi x4] [zr 67, zi x1, zi x2, zi x3, zi x4] := by
  intro g Q1 H
  have h5 := h.k5
  have ko : ∀ (K1 : zI) (y : Nat), 10 ≤ y ∨ y < 2 → mput 2 I K1 y = I y := fun K1 y q => mput_out (by omega)
  have s1 := fun q : 0 ≤ x1 ∧ x1 < 4 => h.srt (s := x1.toNat) (by omega)
  have t1 := fun q : 0 ≤ x1 ∧ x1 < 4 => h.sh (s := x1.toNat) (by omega)
  have hcl : 0 ≤ x1 → x1 < 4 → I 77 x1.toNat ≠ 0 → ∀ j : Nat, (j : Int) < I 79 x1.toNat → I 80 (40 * x1.toNat + j) = I (37 + 2 * x1.toNat) j := fun a b q => (t1 ⟨a, b⟩ q).2.2
  refine x_crew h.c40 h5 (fun q => H _ I g rfl (fun Q2 H2 => y_crew (K := mK 2 I) (by decide) hx3 h5 h.1.2.2.1 h.r40 hcl (fun _ => H2 I g h rfl) (fun a b e f _ => absurd ⟨a, b, e, f⟩ q) (fun a b e f _ _ => absurd ⟨a, b, e, f⟩ q) (fun a b e f _ _ => absurd ⟨a, b, e, f⟩ q))) (fun a b e f k => H _ I g rfl (fun Q2 H2 => y_crew (K := mK 2 I) (by decide) hx3 h5 h.1.2.2.1 h.r40 hcl (fun q => absurd ⟨a, b, e, f⟩ q) (fun _ _ _ _ _ => H2 I g h rfl) (fun _ _ _ _ z _ => absurd ((s1 a).mp k) z) (fun _ _ _ _ z _ => absurd ((s1 a).mp k) z))) (fun a b e f k l => H _ I g rfl (fun Q2 H2 => y_crew (K := mK 2 I) (by decide) hx3 h5 h.1.2.2.1 h.r40 hcl (fun q => absurd ⟨a, b, e, f⟩ q) (fun _ _ _ _ z => absurd ((s1 a).mpr z) k) (fun _ _ _ _ _ _ => H2 I g h rfl) (fun _ _ _ _ z z1 => absurd (by rw [← (t1 a z).1]; exact z1) l))) (fun a b e f k l => H _ _ g (ko _ 2000 (by decide)) (fun Q2 H2 => ?_))
  have z : I 77 x1.toNat ≠ 0 := fun z => k ((s1 a).mpr z)
  obtain ⟨u1, u2, u3⟩ := t1 a z
  clear s1 t1
  have hw := mcw_Wd (cl := I (37 + 2 * x1.toNat)) (size := I (36 + 2 * x1.toNat) 2) x4.toNat (mK 2 I) x3 0 h.1.1
  generalize hJ : mput 2 I (mcw (I (37 + 2 * x1.toNat)) (I (36 + 2 * x1.toNat) 2) x4.toNat (mK 2 I) x3 0).1 = J at *
  have kJ : ∀ y, 10 ≤ y ∨ y < 2 → J y = I y := fun y q => by rw [← hJ]; exact ko _ y q
  have e77 := kJ 77 (by omega)
  have e78 := kJ 78 (by omega)
  have e79 := kJ 79 (by omega)
  have e80 := kJ 80 (by omega)
  refine y_crew (K := mK 2 I) (cl := I (37 + 2 * x1.toNat)) (by decide) hx3 h5 (h.Ef (kJ 67 (by decide)) (kJ 71 (by decide)) (kJ 72 (by decide))) (by rw [e77, e79]; exact h.r40) (by rw [e77, e79, e80]; exact hcl) (fun q => absurd ⟨a, b, e, f⟩ q) (fun _ _ _ _ q => absurd (by rw [e77] at q; exact q) z) (fun _ _ _ _ _ q => absurd (by rw [e78, u1]; exact l) q) (fun _ _ _ _ _ _ J1 h1 hE => ?_)
  rw [e79, u2] at hE ⊢
  refine H2 J1 g (vN_w (K := (mcw (I (37 + 2 * x1.toNat)) (I (36 + 2 * x1.toNat) 2) x4.toNat (mK 2 I) x3 0).1) h (fun y hy => by rw [h1.1 y (by omega) (by omega), kJ y (by omega)]) ⟨by rw [h1.1 0 (by decide) (by decide), kJ 0 (by decide)], by rw [h1.1 0 (by decide) (by decide), kJ 0 (by decide)]⟩ (fun j hj => by rw [h1.2 j (by omega), kJ 67 (by decide)]) hw.1 (by rw [hw.2.1]; exact h.1.2.1) hE ?_ (by rw [hw.2.2]; exact h.1.2.2.2.2)) (by rw [h1.1 2000 (by decide) (by decide), kJ 2000 (by decide)])
  refine mEq.lk (mE2 (L := J) ?_ (fun y a b => h1.1 y (by omega) (by omega))) hw.1.1.1.1.2
  rw [← hJ]
  exact mEq_put.sy
/-- only the tape, the texts are changed -/
theorem vN_t {I J : zI} (h : vN I) (f : ∀ y, (2 ≤ y ∧ y < 18) ∨ (36 ≤ y ∧ y ≤ 43) ∨ (71 ≤ y ∧ y ≤ 80) → J y = I y) (f04 : J 0 4 = I 0 4) (f07 : I 0 7 ≤ J 0 7) (f67 : ∀ j, j ≠ 3 → j ≠ 6 → (j < 14 ∨ 28 < j) → J 67 j = I 67 j) (hT : vT J) (hP : vP J) : vN J := by
  obtain ⟨hW, -, -, hS, hI⟩ := id h
  exact ⟨vW_mk (K := mK 2 I) h.1.1 h.1.2.1 (h.1.2.2.1.at (fun j q => f67 j (by omega) (by omega) (by omega)) (fun j _ => by rw [f 71 (by omega)]) (fun j _ => by rw [f 72 (by omega)]) h.k5.2 h.k8.2) (mEq.lk (mE2 (L := I) (mEq.rf _) (fun y b e => f y (by omega))) h.k5.2) (by rw [f67 13 (by decide) (by decide) (by decide)]; exact h.n13) (by have := h.1.2.2.2.2; show I 2 6 < J 0 7; omega), hT, hP, vS_cg (fun y hy => f y (by omega)) hS, vI_cg f04 f07 (fun j a b => f67 j (by omega) (by omega) (by omega)) (fun y hy => f y (by omega)) hI⟩
theorem p_feed (h : vN I) {x1 : Int} : vPr c I zi 84 142 [zr 0, zi x1] [zr 67, zi x1] := by
  intro g Q1 H
  obtain ⟨p1, p2, p3⟩ := h.2.2.1
  refine x_feed p2.1 p2.2 (fun q => H _ I g rfl (fun Q2 H2 => y_feed (by decide) (by omega) (by omega) (fun _ => H2 I g h rfl) (fun a _ => absurd a q) (fun a _ => absurd a q))) (fun q q1 => H _ I g rfl (fun Q2 H2 => y_feed (by decide) (by omega) (by omega) (fun z => absurd q z) (fun _ _ => H2 I g h rfl) (fun _ a => absurd a (by omega)))) (fun q q1 => H _ _ g (by rw [z2_r (by decide), z2_r (by decide)]) (fun Q2 H2 => ?_))
  have k : ∀ y, y ≠ 62 → y ≠ 63 → z2 (z2 I 63 (I 62 1).toNat x1) 62 1 (I 62 1 + 1) y = I y := fun y a b => by rw [z2_r a, z2_r b]
  have k62 : z2 (z2 I 63 (I 62 1).toNat x1) 62 1 (I 62 1 + 1) 62 1 = I 62 1 + 1 := z2_s
  have k63 : ∀ j, z2 (z2 I 63 (I 62 1).toNat x1) 62 1 (I 62 1 + 1) 63 j = if j = (I 62 1).toNat then x1 else I 63 j := fun j => by
    rw [z2_n (Or.inl (by decide))]
    by_cases w : j = (I 62 1).toNat
    · rw [w, z2_s, if_pos rfl]
    · rw [z2_n (Or.inr w), if_neg w]
  generalize z2 (z2 I 63 (I 62 1).toNat x1) 62 1 (I 62 1 + 1) = J at *
  have e6 : J 67 6 = I 62 1 := by rw [k 67 (by decide) (by decide)]; exact p1
  refine y_feed (by decide) (by omega) (by omega) (fun z => absurd q z) (fun _ a => absurd a (by omega)) (fun _ _ => ?_)
  rw [e6]
  have m : ∀ y, y ≠ 62 → y ≠ 63 → y ≠ 67 → y ≠ 70 → z2 (z2 J 70 (I 62 1).toNat x1) 67 6 (I 62 1 + 1) y = I y := fun y a b e f => by rw [z2_r e, z2_r f, k y a b]
  have m67 : ∀ j, j ≠ 6 → z2 (z2 J 70 (I 62 1).toNat x1) 67 6 (I 62 1 + 1) 67 j = I 67 j := fun j a => by rw [z2_n (Or.inr a), z2_n (Or.inl (by decide)), k 67 (by decide) (by decide)]
  refine H2 _ g (vN_t h (fun y hy => m y (by omega) (by omega) (by omega) (by omega)) (by rw [m 0 (by decide) (by decide) (by decide) (by decide)]) (by rw [m 0 (by decide) (by decide) (by decide) (by decide)]; exact Int.le_refl _) (fun j a b e => m67 j b) (vT_cg (by rw [m 0 (by decide) (by decide) (by decide) (by decide)]) (m67 3 (by decide)) (fun y hy => m y (by omega) (by omega) (by omega) (by omega)) h.2.1) ⟨?_, ?_, fun j hj => ?_⟩) (m 2000 (by decide) (by decide) (by decide) (by decide))
  · rw [z2_s, z2_r (show 62 ≠ 67 by decide), z2_r (show 62 ≠ 70 by decide), k62]
  · rw [z2_r (show 62 ≠ 67 by decide), z2_r (show 62 ≠ 70 by decide), k62]; omega
  · rw [z2_r (show 62 ≠ 67 by decide), z2_r (show 62 ≠ 70 by decide), k62] at hj
    rw [z2_r (show 63 ≠ 67 by decide), z2_r (show 63 ≠ 70 by decide), k63, z2_n (Or.inl (show 70 ≠ 67 by decide))]
    by_cases w : j = (I 62 1).toNat
    · rw [if_pos w, w, z2_s]
      exact ⟨rfl, q⟩
    · rw [if_neg w, z2_n (Or.inr w), k 70 (by decide) (by decide)]
      exact p3 j (by omega)
set_option maxHeartbeats 1000000 in
theorem p_text (h : vN I) : vPr c I zi 85 159 [zr 0] [zr 67] := by
  intro g Q1 H
  obtain ⟨⟨t1, t2⟩, t3, t4⟩ := h.2.1
  obtain ⟨p1, p2, p3⟩ := h.2.2.1
  have hn : I 62 1 = (((I 62 1).toNat : Nat) : Int) := by omega
  have h160 : (I 62 1).toNat ≤ 160 := by omega
  have hby : ∀ i, i < (I 62 1).toNat → I 70 i = I 63 i ∧ 0 ≤ I 63 i ∧ I 63 i ≤ 255 := fun i hi => p3 i (by omega)
  have et : I 0 7 = (((I 0 7).toNat : Nat) : Int) := by omega
  -- the texts that were there
  have old : ∀ J1 : zI, (∀ y, (44 ≤ y ∧ y ≤ 61) → ¬ (44 + 3 * (I 0 7).toNat ≤ y ∧ y ≤ 46 + 3 * (I 0 7).toNat) → J1 y = I y) → (∀ i, ¬ (160 * (I 0 7).toNat ≤ i ∧ i < 160 * (I 0 7).toNat + 160) → J1 68 i = I 68 i) → (∀ i, i ≠ (I 0 7).toNat → J1 69 i = I 69 i) → ∀ t : Nat, (t : Int) < I 0 7 → mXo J1 t ∧ nXo J1 t ∧ ∀ q, mX J1 t q = nT J1 t q := by
    intro J1 g1 g2 g3 t ht
    obtain ⟨b1, b2, b3⟩ := t4 t ht
    obtain ⟨c1, c2, c3⟩ := b2
    have e46 : J1 (46 + 3 * t) = I (46 + 3 * t) := g1 _ (by omega) (by omega)
    have e45 : J1 (45 + 3 * t) = I (45 + 3 * t) := g1 _ (by omega) (by omega)
    have e69 : J1 69 t = I 69 t := g3 t (by omega)
    have eb : ∀ j, j < 160 → nb J1 t j = nb I t j := fun j hj => g2 _ (by omega)
    have eR : nR J1 t = nR I t := by
      unfold nR
      rw [e69, mkd_cg (b := nb J1 t) (b1 := nb I t) (fun j hj => eb j (by omega)), mvl_cg (b := nb J1 t) (b1 := nb I t) (fun j hj => eb j (by omega))]
    refine ⟨by unfold mXo at b1 ⊢; rw [e46]; exact b1, ⟨by rw [eR]; exact c1, by rw [e69]; exact c2, fun i hi => ?_⟩, fun q => ?_⟩
    · rw [e69] at hi
      rw [eb i (by omega)]
      exact c3 i hi
    · have := b3 q
      unfold nT mX mX0 at this ⊢
      rw [eR, e46, e45]
      exact this
  refine x_text hn h160 ⟨by omega, t2⟩ (fun q => H _ I g rfl (fun Q2 H2 => y_text (n := (I 62 1).toNat) (by decide) (p1.trans hn) h160 (by omega) (fun i hi => by have := hby i hi; omega) (fun _ => H2 I g h rfl) (fun z => absurd z (by omega)) (fun z => absurd z (by omega)))) (fun q J k c0 c1 c2 g1 f1 f2 f3 f4 ht m1 m2 m3 m4 => H _ J g1 (f1 2000 (by omega) (by omega) (by omega) (by omega) (by omega) (by omega)) (fun Q2 H2 => ?_)) (fun q J k g1 f1 f4 ht => H _ J g1 (f1 2000 (by omega) (by omega) (by omega) (by omega) (by omega)) (fun Q2 H2 => ?_))
  · have kJ : ∀ y, y ≠ 0 → ¬ (44 ≤ y ∧ y ≤ 66) ∨ y = 63 → J y = I y := fun y a b => f1 y a (by omega) (by omega) (by omega) (by omega) (by omega)
    have e67 := kJ 67 (by decide) (by omega)
    have e70 := kJ 70 (by decide) (by omega)
    have e3 : J 67 3 = I 0 7 := by rw [e67]; exact t3
    refine y_text (n := (I 62 1).toNat) (by decide) (by rw [e67]; exact p1.trans hn) h160 (by omega) (fun i hi => by rw [e70]; have := hby i hi; omega) (fun z => absurd z (by omega)) (fun _ J1 b k' c0' c1' c2' a1 a2 a3 a4 a5 a6 a7 a8 a9 a10 => ?_) (fun _ J1 b k' c0' c1' c2' a1 a2 a3 a4 a5 a6 a7 => ?_)
    · rw [e3] at a4 a5 a6 a7 a10 ⊢
      have hb : ∀ i, i < (I 62 1).toNat → b i = I 63 i := fun i hi => by rw [a8 i hi, e70]; exact (hby i hi).1
      rw [mkd_cg hb, mvl_cg hb, ht] at a9
      cases a9
      have k1 : ∀ y, y ≠ 0 → (¬ (44 ≤ y ∧ y ≤ 70)) → J1 y = I y := fun y q1 q2 => (a1 y (by omega) (by omega) (by omega)).trans (kJ y q1 (by omega))
      have k0 : ∀ j, J1 0 j = J 0 j := fun j => by rw [a1 0 (by decide) (by decide) (by decide)]
      have k67 : ∀ j, j ≠ 3 → j ≠ 6 → (j < 14 ∨ 28 < j) → J1 67 j = I 67 j := fun j q1 q2 q3 => by rw [a2 j q1 q2 q3, e67]
      have k07 : J1 0 7 = I 0 7 + 1 := by rw [k0, f3]
      have h68 : J 68 = I 68 := kJ 68 (by decide) (by omega)
      have h69 : J 69 = I 69 := kJ 69 (by decide) (by omega)
      refine H2 J1 g1 (vN_t h (fun y hy => k1 y (by omega) (by omega)) (by rw [k0, f2 4 (by decide)]) (by omega) k67 ⟨by omega, by omega, fun t ht2 => ?_⟩ ⟨?_, ?_, fun j hj => ?_⟩) (k1 2000 (by decide) (by decide))
      · by_cases w : t = (I 0 7).toNat
        · have h46 : J1 (46 + 3 * t) = J (46 + 3 * t) := a1 _ (by omega) (by omega) (by omega)
          have h45 : J1 (45 + 3 * t) = J (45 + 3 * t) := a1 _ (by omega) (by omega) (by omega)
          have eX : ∀ q, mX J1 t q = mX J t q := fun q => by unfold mX mX0; rw [h46, h45]
          rw [← w] at a6 a7 m1 m2 m3 m4
          have eR : nR J1 t = (true, k, c0, c1, c2) := by
            unfold nR
            rw [a6, Int.toNat_natCast, a7, mkd_cg hb, mvl_cg hb]
            exact ht
          refine ⟨by unfold mXo at m1 ⊢; rw [h46]; exact m1, ⟨by rw [eR], by rw [a6]; omega, fun i hi => ?_⟩, fun q => ?_⟩
          · rw [a6] at hi
            rw [a7, hb i (by omega)]
            exact (hby i (by omega)).2
          · rw [eX]
            unfold nT
            rw [eR]
            by_cases q3 : q < 3
            · rw [if_pos q3]
              have hq : q = 0 ∨ q = 1 ∨ q = 2 := by omega
              rcases hq with rfl | rfl | rfl
              · exact m2
              · exact m3
              · exact m4
            · rw [if_neg q3, if_pos (by omega), eX]
        · exact old J1 (fun y hy hn => (a1 y (by omega) (by omega) (by omega)).trans (f1 y (by omega) (by omega) (by omega) (by omega) (by omega) hn)) (fun i hi => by rw [a4 i hi, h68]) (fun i hi => by rw [a5 i hi, h69]) t (by omega)
      · rw [a3, a1 62 (by decide) (by decide) (by decide), f4]
      · rw [a1 62 (by decide) (by decide) (by decide), f4]; decide
      · rw [a1 62 (by decide) (by decide) (by decide), f4] at hj
        exact absurd hj (by omega)
    · have hb : ∀ i, i < (I 62 1).toNat → b i = I 63 i := fun i hi => by rw [a6 i hi, e70]; exact (hby i hi).1
      rw [mkd_cg hb, mvl_cg hb, ht] at a7
      cases a7
  · have kJ : ∀ y, ¬ (44 ≤ y ∧ y ≤ 66) ∨ y = 63 → J y = I y := fun y b => f1 y (by omega) (by omega) (by omega) (by omega) (by omega)
    have e67 := kJ 67 (by omega)
    have e70 := kJ 70 (by omega)
    have e3 : J 67 3 = I 0 7 := by rw [e67]; exact t3
    refine y_text (n := (I 62 1).toNat) (by decide) (by rw [e67]; exact p1.trans hn) h160 (by omega) (fun i hi => by rw [e70]; have := hby i hi; omega) (fun z => absurd z (by omega)) (fun _ J1 b k' c0' c1' c2' a1 a2 a3 a4 a5 a6 a7 a8 a9 a10 => ?_) (fun _ J1 b k' c0' c1' c2' a1 a2 a3 a4 a5 a6 a7 => ?_)
    · have hb : ∀ i, i < (I 62 1).toNat → b i = I 63 i := fun i hi => by rw [a8 i hi, e70]; exact (hby i hi).1
      rw [mkd_cg hb, mvl_cg hb, ht] at a9
      cases a9
    · rw [e3] at a4 a5
      have hb : ∀ i, i < (I 62 1).toNat → b i = I 63 i := fun i hi => by rw [a6 i hi, e70]; exact (hby i hi).1
      rw [mkd_cg hb, mvl_cg hb, ht] at a7
      cases a7
      rw [mpl_cg hb]
      have k1 : ∀ y, (¬ (44 ≤ y ∧ y ≤ 70)) → J1 y = I y := fun y q2 => (a1 y (by omega) (by omega) (by omega)).trans (kJ y (by omega))
      have k67 : ∀ j, j ≠ 6 → (j < 14 ∨ 28 < j) → J1 67 j = I 67 j := fun j q2 q3 => by rw [a2 j q2 q3, e67]
      have k0 := k1 0 (by decide)
      have h68 : J 68 = I 68 := kJ 68 (by omega)
      have h69 : J 69 = I 69 := kJ 69 (by omega)
      refine H2 J1 g1 (vN_t h (fun y hy => k1 y (by omega)) (by rw [k0]) (by rw [k0]; exact Int.le_refl _) (fun j _ q2 q3 => k67 j q2 q3) ⟨by rw [k0]; exact ⟨t1, t2⟩, by rw [k0, k67 3 (by decide) (by decide)]; exact t3, ?_⟩ ⟨?_, ?_, fun j hj => ?_⟩) (k1 2000 (by decide))
      · rw [k0]
        exact old J1 (fun y hy hn => (a1 y (by omega) (by omega) (by omega)).trans (f1 y (by omega) (by omega) (by omega) (by omega) hn)) (fun i hi => by rw [a4 i hi, h68]) (fun i hi => by rw [a5 i hi, h69])
      · rw [a3, a1 62 (by decide) (by decide) (by decide), f4]
      · rw [a1 62 (by decide) (by decide) (by decide), f4]; decide
      · rw [a1 62 (by decide) (by decide) (by decide), f4] at hj
        exact absurd hj (by omega)
end
end
