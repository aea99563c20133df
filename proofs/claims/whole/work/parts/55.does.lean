section
/-! the law: what is done to the world -/
theorem mK2_z2 {J : zI} {x j : Nat} {v : Int} : mK 2 (z2 J (2 + x) j v) = z2 (mK 2 J) x j v := by
  funext y k
  show z2 J (2 + x) j v (2 + y) k = _
  by_cases q : y = x ∧ k = j
  · rw [q.1, q.2, z2_s, z2_s]
  · rw [z2_n (by omega), z2_n (by omega)]
    rfl
theorem mE2 {K L J : zI} (h : mEq K (mK 2 L)) (f : ∀ y, 2 ≤ y → y < 10 → J y = L y) : mEq K (mK 2 J) := fun x hx => (h x hx).trans (f (2 + x) (by omega) (by omega)).symm
theorem vN_w {I J K : zI} (h : vN I) (f : ∀ y, (10 ≤ y ∧ y < 18) ∨ (34 ≤ y ∧ y ≤ 66) ∨ (68 ≤ y ∧ y ≤ 70) ∨ (75 ≤ y ∧ y ≤ 80) → J y = I y) (f0 : J 0 4 = I 0 4 ∧ J 0 7 = I 0 7) (f67 : ∀ j, j = 3 ∨ j = 6 ∨ j = 13 ∨ (36 ≤ j ∧ j ≤ 40) → J 67 j = I 67 j) (hK : mWd K) (h4 : K 0 4 ≤ 999) (hE : nE K J) (hl : mlk K (mK 2 J)) (h6 : K 0 6 < I 0 7) : vN J := by
  obtain ⟨-, hT, hP, hS, hI⟩ := id h
  exact ⟨vW_mk hK h4 hE hl (by rw [f67 13 (by omega)]; exact h.n13) (by rw [f0.2]; exact h6), vT_cg f0.2 (f67 3 (by omega)) (fun y hy => f y (by omega)) hT, vP_cg (f67 6 (by omega)) (by rw [f 62 (by omega)]) (f 70 (by omega)) (f 63 (by omega)) hP, vS_cg (fun y hy => f y (by omega)) hS, vI_cg f0.1 (by rw [f0.2]; exact Int.le_refl _) (fun j a b => f67 j (by omega)) (fun y hy => f y (by omega)) hI⟩
theorem mWd_dy {K : zI} {v : Int} (hK : mWd K) (hv : 0 ≤ v ∧ v < 5000) : mWd (z2 K 0 4 v) := by
  obtain ⟨⟨h1, h2, h3⟩, h4, h5, h6⟩ := hK
  refine ⟨⟨⟨by rw [z2_n (Or.inr (by decide))]; exact h1.1, fun q hq => ?_⟩, by rw [z2_s]; exact hv, by rw [z2_n (Or.inr (by decide))]; exact h3⟩, by rw [z2_n (Or.inr (by decide))]; exact h4, fun j hj => ?_, by rw [z2_n (Or.inr (by decide))]; exact h6⟩
  · rw [z2_n (Or.inr (by decide))] at hq
    rw [z2_r (by omega)]
    exact h1.2 q hq
  · rw [z2_n (Or.inr (by decide))] at hj
    rw [z2_r (by decide)]
    exact h5 j hj
theorem mWd_rul {K : zI} {v : Int} (hK : mWd K) (hv : 0 ≤ v ∧ v < 6) : mWd (z2 K 0 6 v) := by
  obtain ⟨⟨h1, h2, h3⟩, h4, h5, h6⟩ := hK
  refine ⟨⟨⟨by rw [z2_n (Or.inr (by decide))]; exact h1.1, fun q hq => ?_⟩, by rw [z2_n (Or.inr (by decide))]; exact h2, by rw [z2_s]; exact hv⟩, by rw [z2_n (Or.inr (by decide))]; exact h4, fun j hj => ?_, by rw [z2_n (Or.inr (by decide))]; exact h6⟩
  · rw [z2_n (Or.inr (by decide))] at hq
    rw [z2_r (by omega)]
    exact h1.2 q hq
  · rw [z2_n (Or.inr (by decide))] at hj
    rw [z2_r (by decide)]
    exact h5 j hj
theorem mWd_put {K : zI} {p j : Nat} {v : Int} (hK : mWd K) (hv : (j = 0 → 0 ≤ v ∧ v ≤ 5) ∧ (j = 1 → 0 ≤ v ∧ v ≤ 9) ∧ (j = 2 → mR v) ∧ (j = 3 → 0 ≤ v ∧ v ≤ 99) ∧ (j = 4 → 0 ≤ v ∧ v ≤ 99)) : mWd (z2 K (3 + p) j v) := by
  obtain ⟨⟨h1, h2, h3⟩, h4, h5, h6⟩ := hK
  have e0 : ∀ k, z2 K (3 + p) j v 0 k = K 0 k := fun k => z2_n (Or.inl (by omega))
  refine ⟨⟨mok_put h1 hv, by rw [e0]; exact h2, by rw [e0]; exact h3⟩, by rw [e0]; exact h4, fun k hk => ?_, by rw [e0]; exact h6⟩
  rw [e0] at hk
  rw [z2_r (by omega)]
  exact h5 k hk
theorem nE_day {K J : zI} {v : Int} (h : nE K J) : nE (z2 K 0 4 v) (z2 J 67 7 v) := by
  obtain ⟨⟨a1, a2, a3, a4, a5⟩, b, e⟩ := h
  have z0 : ∀ k, k ≠ 4 → z2 K 0 4 v 0 k = K 0 k := fun k q => z2_n (Or.inr q)
  have z6 : ∀ k, k ≠ 7 → z2 J 67 7 v 67 k = J 67 k := fun k q => z2_n (Or.inr q)
  refine ⟨⟨by rw [z0 2 (by decide), z6 9 (by decide)]; exact a1, by rw [z0 3 (by decide), z6 11 (by decide)]; exact a2, by rw [z2_s, z2_s], by rw [z0 5 (by decide), z6 12 (by decide)]; exact a4, by rw [z0 6 (by decide), z6 4 (by decide)]; exact a5⟩, fun k hk => ?_, fun p hp => ?_⟩
  · rw [z0 3 (by decide)] at hk
    rw [z2_r (show 2 ≠ 0 by decide), z2_r (show 72 ≠ 67 by decide)]
    exact b k hk
  · rw [z0 2 (by decide)] at hp
    rw [z2_r (show 3 + p ≠ 0 by omega), z2_r (show 71 ≠ 67 by decide)]
    exact e p hp
/-- the reference's world is as it was, where none of its cells is written -/
theorem vN.Ef {I J : zI} (h : vN I) (f67 : J 67 = I 67) (f71 : J 71 = I 71) (f72 : J 72 = I 72) : nE (mK 2 I) J := h.1.2.2.1.at (fun j _ => by rw [f67]) (fun j _ => by rw [f71]) (fun j _ => by rw [f72]) h.k5.2 h.k8.2
section
variable {c : Nat × Nat × Nat} {I : zI}
theorem p_set (h : vN I) {x1 x2 x3 : Int} : vPr c I zi 77 137 [zr 0, zi x1, zi x2, zi x3] [zr 67, zi x1, zi x2, zi x3] := by
  intro g Q1 H
  have h5 := h.k5
  have h8 := h.k8
  have e9 := h.e9
  have e11 := h.e11
  have e7 : I 2 4 = I 67 7 := h.1.2.2.1.1.2.2.1
  refine x_set h5.2 (fun q => H _ I g rfl (fun Q2 H2 => y_set (by decide) (by omega) (by omega) (fun _ => H2 I g h rfl) (fun a b e => absurd ?_ q) (fun a b e f k l => absurd ?_ q))) (fun q q1 q2 => H _ _ g (z2_r (by decide)) (fun Q2 H2 => ?_)) (fun q q1 q2 q3 q4 q5 => H _ _ g (z2_r (by omega)) (fun Q2 H2 => ?_))
  · subst a
    exact ⟨by decide, Or.inl rfl, b, e⟩
  · exact ⟨by omega, Or.inr (by omega), k, l⟩
  · have k67 : z2 I 2 4 x3 67 = I 67 := z2_r (by decide)
    refine y_set (by decide) (by rw [k67]; omega) (by rw [k67]; omega) (fun z => absurd ?_ z) (fun _ _ _ => ?_) (fun a _ _ _ _ _ => absurd a (by omega))
    · subst q
      exact ⟨by decide, Or.inl rfl, q1, q2⟩
    · rw [k67, ← e7]
      refine H2 _ g (vN_w (K := z2 (mK 2 I) 0 4 x3) h (fun y hy => by rw [z2_r (by omega), z2_r (by omega)]) ⟨by rw [z2_r (by decide), z2_r (by decide)], by rw [z2_r (by decide), z2_r (by decide)]⟩ (fun j hj => by rw [z2_n (Or.inr (by omega)), k67]) (mWd_dy h.1.1 (by omega)) (by rw [z2_s]; exact q2) (nE_day (h.Ef k67 (z2_r (by decide)) (z2_r (by decide)))) ?_ (by rw [z2_n (Or.inr (by decide))]; exact h.1.2.2.2.2)) (by rw [z2_r (by decide), z2_r (by decide)])
      refine mEq.lk (mE2 (L := z2 I 2 4 x3) (fun x _ => congrFun (mK2_z2 (J := I) (x := 0) (j := 4) (v := x3)).symm x) (fun y a b => z2_r (by omega))) (by rw [z2_n (Or.inr (by decide))]; exact h5.2)
  · have hp : x2.toNat < 5 := by omega
    have k67 : z2 I (2 + (3 + x2.toNat)) (mfi x1) x3 67 = I 67 := z2_r (by omega)
    have k71 : z2 I (2 + (3 + x2.toNat)) (mfi x1) x3 71 = I 71 := z2_r (by omega)
    have hj : mfi x1 < 5 ∧ nix5 (mfi x1) = x1.toNat - 1 ∧ ((mfi x1 = 0 → 0 ≤ x3 ∧ x3 ≤ 5) ∧ (mfi x1 = 1 → 0 ≤ x3 ∧ x3 ≤ 9) ∧ (mfi x1 = 2 → mR x3) ∧ (mfi x1 = 3 → 0 ≤ x3 ∧ x3 ≤ 99) ∧ (mfi x1 = 4 → 0 ≤ x3 ∧ x3 ≤ 99)) := by
      have hh : x1 = 1 ∨ x1 = 2 ∨ x1 = 3 ∨ x1 = 4 := by omega
      have m1 : mmo 1 = 9 := rfl
      have m2 : mmo 2 = 1023 := rfl
      have m3 : mmo 3 = 99 := rfl
      have m4 : mmo 4 = 99 := rfl
      have i1 : mfi 1 = 1 := rfl
      have i2 : mfi 2 = 2 := rfl
      have i3 : mfi 3 = 3 := rfl
      have i4 : mfi 4 = 4 := rfl
      rcases hh with rfl | rfl | rfl | rfl
      · rw [i1]; rw [m1] at q5; exact ⟨by decide, rfl, by omega, by omega, by omega, by omega, by omega⟩
      · rw [i2]; rw [m2] at q5; exact ⟨by decide, rfl, by omega, by omega, by omega, by omega, by omega⟩
      · rw [i3]; rw [m3] at q5; exact ⟨by decide, rfl, by omega, by omega, by omega, by omega, by omega⟩
      · rw [i4]; rw [m4] at q5; exact ⟨by decide, rfl, by omega, by omega, by omega, by omega, by omega⟩
    obtain ⟨hj5, hix, hvv⟩ := hj
    refine y_set (by decide) (by rw [k67]; omega) (by rw [k67]; omega) (fun z => absurd ?_ z) (fun a _ _ => absurd a (by omega)) (fun _ _ _ _ _ _ => ?_)
    · rw [k67]
      exact ⟨by omega, Or.inr (by omega), q4, q5⟩
    · rw [k71, ← hix]
      have ef : I (2 + (3 + x2.toNat)) (mfi x1) = I 71 (5 * x2.toNat + nix5 (mfi x1)) := by rw [hix]; exact h.fld ⟨q, by omega⟩ ⟨q2, q3⟩
      rw [← ef]
      refine H2 _ g (vN_w (K := z2 (mK 2 I) (3 + x2.toNat) (mfi x1) x3) h (fun y hy => by rw [z2_r (by omega), z2_r (by omega)]) ⟨by rw [z2_r (by decide), z2_r (by omega)], by rw [z2_r (by decide), z2_r (by omega)]⟩ (fun j hj => by rw [z2_n (Or.inl (by decide)), k67]) (mWd_put h.1.1 hvv) (by rw [z2_n (Or.inl (by omega))]; exact h.1.2.1) (nE_put (h.Ef k67 k71 (z2_r (by omega))) hj5 hvv.2.2.1) ?_ (by rw [z2_n (Or.inl (by omega))]; exact h.1.2.2.2.2)) (by rw [z2_r (by decide), z2_r (by omega)])
      refine mEq.lk (mE2 (L := z2 I (2 + (3 + x2.toNat)) (mfi x1) x3) (fun x _ => congrFun (mK2_z2 (J := I) (x := 3 + x2.toNat) (j := mfi x1) (v := x3)).symm x) (fun y a b => z2_r (by omega))) (by rw [z2_n (Or.inl (by omega))]; exact h5.2)
theorem mper_Wd {K : zI} (hK : mWd K) {a b e f : Int} : mWd (mper K a b e f) ∧ mper K a b e f 0 4 = K 0 4 ∧ mper K a b e f 0 6 = K 0 6 := by
  by_cases q : mpok a b e f ∧ K 0 2 < 5
  · have em : mper K a b e f = z2 (z2 (z2 (z2 (z2 (z2 K (3 + (K 0 2).toNat) 0 a) (3 + (K 0 2).toNat) 1 b) (3 + (K 0 2).toNat) 2 e) (3 + (K 0 2).toNat) 3 f) (3 + (K 0 2).toNat) 4 0) 0 2 (K 0 2 + 1) := if_pos q
    have h0 : 0 ≤ K 0 2 := hK.1.1.1.1
    rw [em]
    obtain ⟨⟨b1, b2, b3, b4⟩, b5⟩ := q
    obtain ⟨⟨⟨h1, h1p⟩, h2, h3⟩, h4, h5, h6⟩ := hK
    have hm : K 0 2 = (((K 0 2).toNat : Nat) : Int) := by omega
    generalize (K 0 2).toNat = m at *
    have r0 : ∀ j, j ≠ 2 → z2 (z2 (z2 (z2 (z2 (z2 K (3 + m) 0 a) (3 + m) 1 b) (3 + m) 2 e) (3 + m) 3 f) (3 + m) 4 0) 0 2 (K 0 2 + 1) 0 j = K 0 j := fun j q => by
      rw [z2_n (Or.inr q), z2_n (Or.inl (by omega)), z2_n (Or.inl (by omega)), z2_n (Or.inl (by omega)), z2_n (Or.inl (by omega)), z2_n (Or.inl (by omega))]
    have r2 : ∀ y, y ≠ 0 → y ≠ 3 + m → z2 (z2 (z2 (z2 (z2 (z2 K (3 + m) 0 a) (3 + m) 1 b) (3 + m) 2 e) (3 + m) 3 f) (3 + m) 4 0) 0 2 (K 0 2 + 1) y = K y := fun y q1 q2 => by
      rw [z2_r q1, z2_r q2, z2_r q2, z2_r q2, z2_r q2, z2_r q2]
    refine ⟨⟨⟨⟨by rw [z2_s]; omega, fun q hq => ?_⟩, by rw [r0 4 (by decide)]; exact h2, by rw [r0 6 (by decide)]; exact h3⟩, by rw [r0 3 (by decide)]; exact h4, fun j hj => ?_, by rw [r0 5 (by decide)]; exact h6⟩, r0 4 (by decide), r0 6 (by decide)⟩
    · rw [z2_s] at hq
      by_cases w : q = m
      · rw [w]
        have n0 : 3 + m ≠ 0 := by omega
        refine ⟨?_, ?_, ?_, ?_, ?_⟩
        · rw [z2_n (Or.inl n0), z2_n (Or.inr (by decide)), z2_n (Or.inr (by decide)), z2_n (Or.inr (by decide)), z2_n (Or.inr (by decide)), z2_s]; exact b1
        · rw [z2_n (Or.inl n0), z2_n (Or.inr (by decide)), z2_n (Or.inr (by decide)), z2_n (Or.inr (by decide)), z2_s]; exact b2
        · rw [z2_n (Or.inl n0), z2_n (Or.inr (by decide)), z2_n (Or.inr (by decide)), z2_s]; exact b3
        · rw [z2_n (Or.inl n0), z2_n (Or.inr (by decide)), z2_s]; exact b4
        · rw [z2_n (Or.inl n0), z2_s]; decide
      · rw [r2 (3 + q) (by omega) (by omega)]
        exact h1p q (by omega)
    · rw [r0 3 (by decide)] at hj
      rw [r2 2 (by decide) (by omega)]
      exact h5 j hj
  · have em : mper K a b e f = K := if_neg q
    rw [em]
    exact ⟨hK, rfl, rfl⟩
theorem p_person (h : vN I) {x1 x2 x3 x4 : Int} : vPr c I zi 78 139 [zr 0, zi x1, zi x2, zi x3, zi x4] [zr 67, zi x1, zi x2, zi x3, zi x4] := by
  intro g Q1 H
  have h5 := h.k5
  have ko : ∀ (K1 : zI) (y : Nat), 10 ≤ y ∨ y < 2 → mput 2 I K1 y = I y := fun K1 y q => mput_out (by omega)
  have hw := mper_Wd h.1.1 (a := x1) (b := x2) (e := x3) (f := x4)
  refine k_person h5.1 h5.2 (H _ _ g (ko _ 2000 (by decide)) (fun Q2 H2 => y_perK (K := mK 2 I) (by decide) h5 (h.Ef (ko _ 67 (by decide)) (ko _ 71 (by decide)) (ko _ 72 (by decide))) (fun J1 h1 hE => ?_)))
  refine H2 J1 g (vN_w (K := mper (mK 2 I) x1 x2 x3 x4) h (fun y hy => by rw [h1.1 y (by omega) (by omega), ko _ y (by omega)]) ⟨by rw [h1.1 0 (by decide) (by decide), ko _ 0 (by decide)], by rw [h1.1 0 (by decide) (by decide), ko _ 0 (by decide)]⟩ (fun j hj => by rw [h1.2 j (by omega), ko _ 67 (by decide)]) hw.1 (by rw [hw.2.1]; exact h.1.2.1) hE ?_ (by rw [hw.2.2]; exact h.1.2.2.2.2)) (by rw [h1.1 2000 (by decide) (by decide), ko _ 2000 (by decide)])
  exact mEq.lk (mE2 mEq_put.sy (fun y a b => h1.1 y (by omega) (by omega))) hw.1.1.1.1.2
theorem p_brings (h : vN I) {x1 : Int} : vPr c I zi 80 141 [zr 0, zi x1] [zr 67, zi x1] := by
  intro g Q1 H
  have h5 := h.k5
  have h8 := h.k8
  have e11 := h.e11
  refine x_brings h8.1 h8.2 (fun q => H _ I g rfl (fun Q2 H2 => y_brings (by decide) (by omega) (by omega) (fun _ => H2 I g h rfl) (fun a _ => absurd a q) (fun a _ => absurd a q))) (fun q q1 => H _ I g rfl (fun Q2 H2 => y_brings (by decide) (by omega) (by omega) (fun z => absurd q z) (fun _ _ => H2 I g h rfl) (fun _ a => absurd a (by omega)))) (fun q q1 => H _ _ g (by rw [z2_r (by decide), z2_r (by decide)]) (fun Q2 H2 => ?_))
  have k : ∀ y, y ≠ 2 → y ≠ 4 → z2 (z2 I 4 (I 2 3).toNat x1) 2 3 (I 2 3 + 1) y = I y := fun y a b => by rw [z2_r a, z2_r b]
  have k67 := k 67 (by decide) (by decide)
  have hE := h.Ef (k 67 (by decide) (by decide)) (k 71 (by decide) (by decide)) (k 72 (by decide) (by decide))
  refine y_brings (by decide) (by rw [k67]; omega) (by rw [k67]; omega) (fun z => absurd q z) (fun _ a => absurd a (by rw [k67]; omega)) (fun _ _ => ?_)
  rw [k67, ← e11]
  have hK := h.1.1
  have hm : I 2 3 = (((I 2 3).toNat : Nat) : Int) := by omega
  have hK03 : mK 2 I 0 3 = I 2 3 := rfl
  generalize hJ : z2 (z2 I 4 (I 2 3).toNat x1) 2 3 (I 2 3 + 1) = J at *
  have hEq : mEq (z2 (z2 (mK 2 I) 2 (I 2 3).toNat x1) 0 3 (I 2 3 + 1)) (mK 2 J) := fun x _ => by
    have e1 : mK 2 (z2 (z2 I (2 + 2) (I 2 3).toNat x1) (2 + 0) 3 (I 2 3 + 1)) = z2 (z2 (mK 2 I) 2 (I 2 3).toNat x1) 0 3 (I 2 3 + 1) := by rw [mK2_z2, mK2_z2]
    rw [← e1, ← hJ]
  generalize (I 2 3).toNat = n at *
  have r0 : ∀ j, j ≠ 3 → z2 (z2 (mK 2 I) 2 n x1) 0 3 (I 2 3 + 1) 0 j = mK 2 I 0 j := fun j q => by rw [z2_n (Or.inr q), z2_n (Or.inl (by decide))]
  have r3 : z2 (z2 (mK 2 I) 2 n x1) 0 3 (I 2 3 + 1) 0 3 = I 2 3 + 1 := z2_s
  have r2 : ∀ j, z2 (z2 (mK 2 I) 2 n x1) 0 3 (I 2 3 + 1) 2 j = if j = n then x1 else mK 2 I 2 j := fun j => by
    rw [z2_n (Or.inl (by decide))]
    by_cases w : j = n
    · rw [w, z2_s, if_pos rfl]
    · rw [z2_n (Or.inr w), if_neg w]
  have rp : ∀ p, z2 (z2 (mK 2 I) 2 n x1) 0 3 (I 2 3 + 1) (3 + p) = mK 2 I (3 + p) := fun p => by rw [z2_r (by omega), z2_r (by omega)]
  generalize z2 (z2 (mK 2 I) 2 n x1) 0 3 (I 2 3 + 1) = K at *
  have hKd : mWd K := by
    obtain ⟨⟨⟨h1, h1p⟩, g2, g3⟩, g4, g5, g6⟩ := hK
    refine ⟨⟨⟨by rw [r0 2 (by decide)]; exact h1, fun p hp => ?_⟩, by rw [r0 4 (by decide)]; exact g2, by rw [r0 6 (by decide)]; exact g3⟩, by rw [r3]; omega, fun j hj => ?_, by rw [r0 5 (by decide)]; exact g6⟩
    · rw [r0 2 (by decide)] at hp
      rw [rp]
      exact h1p p hp
    · rw [r3] at hj
      rw [r2]
      by_cases w : j = n
      · rw [if_pos w]; omega
      · rw [if_neg w]; exact g5 j (by omega)
  have hE1 : nE K (z2 (z2 J 72 n x1) 67 11 (I 2 3 + 1)) := by
    obtain ⟨⟨a1, a2, a3, a4, a5⟩, b, e⟩ := hE
    have w0 : ∀ j, j ≠ 11 → z2 (z2 J 72 n x1) 67 11 (I 2 3 + 1) 67 j = J 67 j := fun j q => by rw [z2_n (Or.inr q), z2_n (Or.inl (by decide))]
    refine ⟨⟨by rw [r0 2 (by decide), w0 9 (by decide)]; exact a1, by rw [r3, z2_s], by rw [r0 4 (by decide), w0 7 (by decide)]; exact a3, by rw [r0 5 (by decide), w0 12 (by decide)]; exact a4, by rw [r0 6 (by decide), w0 4 (by decide)]; exact a5⟩, fun j hj => ?_, fun p hp => ?_⟩
    · rw [r3] at hj
      rw [r2, z2_n (Or.inl (by decide))]
      by_cases w : j = n
      · rw [if_pos w, w, z2_s]
      · rw [if_neg w, z2_n (Or.inr w)]; exact b j (by omega)
    · rw [r0 2 (by decide)] at hp
      rw [rp, z2_r (show 71 ≠ 67 by decide), z2_r (show 71 ≠ 72 by decide)]
      exact e p hp
  refine H2 _ g (vN_w (K := K) h (fun y hy => by rw [z2_r (by omega), z2_r (by omega), k y (by omega) (by omega)]) ⟨by rw [z2_r (by decide), z2_r (by decide), k 0 (by decide) (by decide)], by rw [z2_r (by decide), z2_r (by decide), k 0 (by decide) (by decide)]⟩ (fun j hj => by rw [z2_n (Or.inr (by omega)), z2_n (Or.inl (by decide)), k67]) hKd (by rw [r0 4 (by decide)]; exact h.1.2.1) hE1 (mEq.lk (mE2 hEq (fun y a b => by rw [z2_r (by omega), z2_r (by omega)])) hKd.1.1.1.2) (by rw [r0 6 (by decide)]; exact h.1.2.2.2.2)) (by rw [z2_r (by decide), z2_r (by decide), k 2000 (by decide) (by decide)])
theorem p_force (h : vN I) {x1 : Int} : vPr c I zi 86 160 [zr 0, zi x1] [zr 67, zi x1] := by
  intro g Q1 H
  have hT := h.2.1
  have h06 : 0 ≤ I 0 7 ∧ I 0 7 ≤ 6 := ⟨by have := hT.1.1; omega, hT.1.2⟩
  have e3 : I 67 3 = I 0 7 := hT.2.1
  have e6 : I 2 6 = I 67 4 := h.1.2.2.1.1.2.2.2.2
  refine x_force (fun q => H _ I g rfl (fun Q2 H2 => y_force (by decide) (by rw [e3]; exact h06) (fun _ => H2 I g h rfl) (fun a b => absurd ⟨a, by rw [← e3]; exact b⟩ q))) (fun q q1 => H _ _ g (z2_r (by decide)) (fun Q2 H2 => ?_))
  have k67 : z2 I 2 6 x1 67 = I 67 := z2_r (by decide)
  refine y_force (by decide) (by rw [k67, e3]; exact h06) (fun z => absurd ⟨q, by rw [k67, e3]; exact q1⟩ z) (fun _ _ => ?_)
  rw [k67, ← e6]
  refine H2 _ g (vN_w (K := z2 (mK 2 I) 0 6 x1) h (fun y hy => by rw [z2_r (by omega), z2_r (by omega)]) ⟨by rw [z2_r (by decide), z2_r (by decide)], by rw [z2_r (by decide), z2_r (by decide)]⟩ (fun j hj => by rw [z2_n (Or.inr (by omega)), k67]) (mWd_rul h.1.1 (by omega)) (by rw [z2_n (Or.inr (by decide))]; exact h.1.2.1) (nE_rul (h.Ef k67 (z2_r (by decide)) (z2_r (by decide)))) ?_ (by rw [z2_s]; exact q1)) (by rw [z2_r (by decide), z2_r (by decide)])
  exact mEq.lk (mE2 (L := z2 I 2 6 x1) (fun x _ => congrFun (mK2_z2 (J := I) (x := 0) (j := 6) (v := x1)).symm x) (fun y a b => z2_r (by omega))) (by rw [z2_n (Or.inr (by decide))]; exact h.k5.2)
theorem nXo_f {I J : zI} {t : Nat} (h68 : J 68 = I 68) (h69 : J 69 = I 69) (o : nXo I t) : nXo J t := by
  have eR : nR J = nR I := by
    funext t
    unfold nR nb
    rw [h68, h69]
  unfold nXo nb at o ⊢
  rw [eR, h68, h69]
  exact o
theorem nT_f {I J : zI} (h68 : J 68 = I 68) (h69 : J 69 = I 69) (f : ∀ y, 44 ≤ y → y ≤ 61 → J y = I y) : nT J = nT I := by
  have eR : nR J = nR I := by
    funext t
    unfold nR nb
    rw [h68, h69]
  funext t q
  unfold nT
  rw [eR]
  by_cases ht : t < 6
  · rw [if_pos ht, if_pos ht]
    unfold mX mX0
    rw [f (46 + 3 * t) (by omega) (by omega), f (45 + 3 * t) (by omega) (by omega)]
  · rw [if_neg ht, if_neg ht]
theorem p_day (h : vN I) : vPr c I zi 89 174 [zr 0] [zr 67] := by
  intro g Q1 H
  have hd := h.1.2.1
  have hd0 : mK 2 I 0 4 = I 2 4 := rfl
  refine x_day h.mW h.1.1 (fun q => H _ I g rfl (fun Q2 H2 => y_day (T := mX I) (K := mK 2 I) (by decide) h.1.1 hd h.1.2.2.1 h.n13 h.nX h.hT (fun _ => H2 I g h rfl) (fun z => absurd z (by omega)))) (fun q J hJ => ?_)
  have k : ∀ y, y ≠ 27 → (10 ≤ y ∨ y < 2) → J y = I y := fun y a b => (hJ y a).trans (mput_out (by omega))
  refine H _ J g (k 2000 (by decide) (by decide)) (fun Q2 H2 => ?_)
  have hE := h.Ef (k 67 (by decide) (by decide)) (k 71 (by decide) (by decide)) (k 72 (by decide) (by decide))
  have eT : nT J = nT I := nT_f (k 68 (by decide) (by decide)) (k 69 (by decide) (by decide)) (fun y a b => k y (by omega) (by omega))
  have hw := mpass_K (T := mX I) h.1.1 (by omega)
  refine y_day (T := mX I) (K := mK 2 I) (by decide) h.1.1 hd hE (by rw [k 67 (by decide) (by decide)]; exact h.n13) (by rw [k 67 (by decide) (by decide)]; exact nXo_f (k 68 (by decide) (by decide)) (k 69 (by decide) (by decide)) h.nX) (by rw [eT]; exact h.hT) (fun z => absurd z (by omega)) (fun _ J1 a1 a2 a3 => ?_)
  have k1 : ∀ y, y ≠ 27 → y ≠ 67 → y ≠ 71 → y ≠ 72 → (10 ≤ y ∨ y < 2) → J1 y = I y := fun y a b e f l => (a1 y b e f).trans (k y a l)
  refine H2 J1 g (vN_w (K := (mpass (mX I) (mK 2 I)).1) h (fun y hy => k1 y (by omega) (by omega) (by omega) (by omega) (by omega)) ⟨by rw [k1 0 (by decide) (by decide) (by decide) (by decide) (by decide)], by rw [k1 0 (by decide) (by decide) (by decide) (by decide) (by decide)]⟩ (fun j hj => by rw [a2 j (by omega) (by omega) (by omega) (by omega), k 67 (by decide) (by decide)]) hw.1 (by rw [hw.2.1]; omega) a3 ?_ (by rw [hw.2.2.2.1]; exact h.1.2.2.2.2)) (k1 2000 (by decide) (by decide) (by decide) (by decide) (by decide))
  refine mEq.lk (mE2 (L := mput 2 I (mpass (mX I) (mK 2 I)).1) mEq_put.sy (fun y a b => ?_)) hw.1.1.1.1.2
  rw [a1 y (by omega) (by omega) (by omega)]
  exact hJ y (by omega)
theorem p_image (h : vN I) : vPr c I zi 121 192 [zr 0] [zr 67] := by
  intro g Q1 H
  have e9 := h.e9
  have h5 := h.k5
  refine x_image h.k5 h.k8 (fun J f1 f2 f3 hl => H _ J g (f1 2000 (by decide) (by decide)) (fun Q2 H2 => ?_))
  have hE := h.Ef (f1 67 (by decide) (by decide)) (f1 71 (by decide) (by decide)) (f1 72 (by decide) (by decide))
  refine y_image (K := mK 2 I) (by decide) h.k5.2 h.k8.2 hE (fun J1 a1 a2 a3 a4 => ?_)
  have e9J : J 67 9 = I 2 2 := by rw [f1 67 (by decide) (by decide)]; exact e9.symm
  have k : ∀ y, y ≠ 0 → y ≠ 67 → y ≠ 75 → y ≠ 76 → ¬ (10 ≤ y ∧ y < 18) → J1 y = I y := fun y b e f l m => (a1 y e f l).trans (f1 y b m)
  have k67 : ∀ j, (j < 36 ∨ 40 < j) → J1 67 j = I 67 j := fun j q => by rw [a2 j q, f1 67 (by decide) (by decide)]
  have k07 : J1 0 7 = I 0 7 := by rw [a1 0 (by decide) (by decide) (by decide), f2 7 (by decide)]
  rw [e9J]
  obtain ⟨hWo, hT, hP, hS, hI⟩ := id h
  refine H2 J1 g ⟨vW_mk (K := mK 2 I) h.1.1 h.1.2.1 (h.1.2.2.1.at (fun j q => k67 j (by omega)) (fun j _ => by rw [k 71 (by decide) (by decide) (by decide) (by decide) (by decide)]) (fun j _ => by rw [k 72 (by decide) (by decide) (by decide) (by decide) (by decide)]) h.k5.2 h.k8.2) (mEq.lk (mE2 (L := I) (mEq.rf _) (fun y b e => k y (by omega) (by omega) (by omega) (by omega) (by omega))) h.k5.2) (by rw [k67 13 (by decide)]; exact h.n13) (by rw [k07]; exact h.1.2.2.2.2), vT_cg k07 (k67 3 (by decide)) (fun y hy => k y (by omega) (by omega) (by omega) (by omega) (by omega)) hT, vP_cg (k67 6 (by decide)) (by rw [k 62 (by decide) (by decide) (by decide) (by decide) (by decide)]) (k 70 (by decide) (by decide) (by decide) (by decide) (by decide)) (k 63 (by decide) (by decide) (by decide) (by decide) (by decide)) hP, vS_cg (fun y hy => k y (by omega) (by omega) (by omega) (by omega) (by omega)) hS, ?_⟩ (k 2000 (by decide) (by decide) (by decide) (by decide) (by decide))
  have hm : mEq (mK 10 J) (mK 10 J1) := fun x hx => (a1 (10 + x) (by omega) (by omega) (by omega)).symm
  have e10 : mK 10 J 0 2 = I 2 2 := (hl.1 2 (by decide) (by decide)).symm
  have hl1 : mlk (mK 2 I) (mK 10 J1) := hl.tr (hm.lk (by rw [e10]; exact h5.2))
  have q4 : I 2 4 = J1 10 4 := hl1.1 4 (by decide) (by decide)
  have q6 : I 2 6 = J1 10 6 := hl1.1 6 (by decide) (by decide)
  exact Or.inr ⟨by rw [a1 0 (by decide) (by decide) (by decide)]; exact f3, mWd_lk hl1 h.1.1, by rw [← q4]; exact h.1.2.1, by rw [← q6, k07]; exact h.1.2.2.2.2, by rw [a3, e9J]; omega, nE.of hl1 a4⟩
theorem p_back (h : vN I) : vPr c I zi 122 193 [zr 0] [zr 67] := by
  intro g Q1 H
  have hI := h.2.2.2.2
  have hcase : I 0 4 = 0 ∨ I 0 4 = 1 := by rcases hI with a | a; exact Or.inl a.1; exact Or.inr a.1
  have hk : I 0 4 = 1 → mWd (mK 10 I) ∧ I 10 4 ≤ 999 ∧ I 10 6 < I 0 7 ∧ I 67 36 ≠ -1 ∧ nE (mK 10 I) (nkv I) := fun q => by
    rcases hI with a | a
    · exact absurd (a.1.symm.trans q) (by decide)
    · exact a.2
  have h0 : I 0 4 = 0 → I 67 36 = -1 := fun q => by
    rcases hI with a | a
    · exact a.2
    · exact absurd (a.1.symm.trans q) (by decide)
  have key : I 0 4 = 1 → ∀ (J : zI) (g1 : Nat) (Q2 : zQ), (∀ y, ¬ (2 ≤ y ∧ y < 10) → J y = I y) → mlk (mK 10 I) (mK 2 J) → (∀ (J1 : zI) (g2 : Nat), vN J1 → J1 2000 = I 2000 → Q2 (some (zi (I 10 2))) (c, J1, zRg g2)) → zcl 100 193 0 0 [zr 67] (c, J, zRg g1) Q2 := by
    intro q J g1 Q2 f1 hl H2
    obtain ⟨b1, b2, b3, b4, b5⟩ := hk q
    have h5 : mK 10 I 0 2 ≤ 5 := b1.1.1.1.2
    have h8 : mK 10 I 0 3 ≤ 8 := b1.2.1.2
    have k67 : J 67 = I 67 := f1 67 (by decide)
    have hE : nE (mK 10 I) (nkv J) := b5.at (fun j r => by
        rcases r with rfl | rfl | rfl | rfl | rfl
        · show J 67 36 = I 67 36; rw [k67]
        · show J 67 37 = I 67 37; rw [k67]
        · show J 67 39 = I 67 39; rw [k67]
        · show J 67 38 = I 67 38; rw [k67]
        · show J 67 40 = I 67 40; rw [k67]) (fun j _ => by show J 75 j = I 75 j; rw [f1 75 (by decide)]) (fun j _ => by show J 76 j = I 76 j; rw [f1 76 (by decide)]) h5 h8
    refine y_back (K := mK 10 I) (by decide) h5 h8 (fun z => absurd z (by rw [k67]; exact b4)) (fun _ => hE) (fun _ J1 a1 a2 a3 => ?_)
    have e36 : I 10 2 = I 67 36 := b5.1.1
    rw [k67, ← e36]
    have k : ∀ y, y ≠ 67 → y ≠ 71 → y ≠ 72 → ¬ (2 ≤ y ∧ y < 10) → J1 y = I y := fun y a b e f => (a1 y a b e).trans (f1 y f)
    exact H2 J1 g1 (vN_w (K := mK 10 I) h (fun y hy => k y (by omega) (by omega) (by omega) (by omega)) ⟨by rw [k 0 (by decide) (by decide) (by decide) (by decide)], by rw [k 0 (by decide) (by decide) (by decide) (by decide)]⟩ (fun j hj => by rw [a2 j (by omega) (by omega) (by omega) (by omega) (by omega), k67]) b1 b2 a3 (hl.tr (mEq.lk (fun x hx => (a1 (2 + x) (by omega) (by omega) (by omega)).symm) (by have := hl.1 2 (by decide) (by decide); rw [← this]; exact h5))) b3) (k 2000 (by decide) (by decide) (by decide) (by decide))
  refine x_back hcase (fun q => (hk q).1.1.1.1) (fun q => (hk q).1.2.1) (fun q => H _ I g rfl (fun Q2 H2 => y_back (K := mK 2 I) (by decide) h.k5.2 h.k8.2 (fun _ => H2 I g h rfl) (fun z => absurd (h0 q) z) (fun z => absurd (h0 q) z))) (fun q J f1 hl => H _ J g (f1 2000 (by decide)) (fun Q2 H2 => key q J g Q2 f1 hl H2))
end
end
