section
/-! the law: what is so before each call -/
theorem mwl_cg {b b1 : Nat → Int} {i e : Nat} (h : ∀ j, j < e → b j = b1 j) : mwl b i e = mwl b1 i e := by
  unfold mwl
  refine List.map_congr_left (fun j hj => ?_)
  have := List.mem_range.mp hj
  exact h _ (by omega)
theorem mnu_cg {b b1 : Nat → Int} : ∀ (n i : Nat) (v : Int), (∀ j, j < i + n → b j = b1 j) → mnu b n i v = mnu b1 n i v
  | 0, _, _, _ => rfl
  | n + 1, i, v, h => by
    unfold mnu
    rw [h i (by omega)]
    exact mnu_cg n (i + 1) _ (fun j hj => h j (by omega))
theorem mto_cg {b b1 : Nat → Int} {n : Nat} (h : ∀ j, j < n → b j = b1 j) (i : Nat) : mto b n i = mto b1 n i := by
  unfold mto
  by_cases q : n ≤ i
  · rw [if_pos q, if_pos q]
  · rw [if_neg q, if_neg q]
    have e0 := h i (by omega)
    have e1 : msc mlt b (n - i) i = msc mlt b1 (n - i) i := msc_congr _ _ (fun j _ h2 => h j (by omega))
    have e2 : msc mdg b (n - i) i = msc mdg b1 (n - i) i := msc_congr _ _ (fun j _ h2 => h j (by omega))
    have l1 := (msc_le mlt b1 (n - i) i).2
    have l2 := msc_le mdg b1 (n - i) i
    rw [e0, e1, e2, mwl_cg (fun j hj => h j (by omega)), mnu_cg _ _ _ (fun j hj => h j (by omega))]
theorem mlx_cg {b b1 : Nat → Int} {n : Nat} (h : ∀ j, j < n → b j = b1 j) (i : Nat) : mlx b n i = mlx b1 n i := by
  unfold mlx
  rw [show msc mbl b (n - i) i = msc mbl b1 (n - i) i from msc_congr _ _ (fun j _ h2 => h j (by omega))]
  exact mto_cg h _
theorem mhh_cg {b b1 : Nat → Int} {n : Nat} (h : ∀ j, j < n → b j = b1 j) : ∀ k, mhh b n k = mhh b1 n k
  | 0 => rfl
  | k + 1 => by
    unfold mhh
    rw [mhh_cg h k, mlx_cg h]
theorem mkd_cg {b b1 : Nat → Int} {n : Nat} (h : ∀ j, j < n → b j = b1 j) : mkd b n = mkd b1 n := by
  funext k
  unfold mkd
  rw [mhh_cg h k, mlx_cg h]
theorem mvl_cg {b b1 : Nat → Int} {n : Nat} (h : ∀ j, j < n → b j = b1 j) : mvl b n = mvl b1 n := by
  funext k
  unfold mvl
  rw [mhh_cg h k, mlx_cg h]
theorem mpl_cg {b b1 : Nat → Int} {n : Nat} (h : ∀ j, j < n → b j = b1 j) (k : Nat) : mpl b n k = mpl b1 n k := by
  unfold mpl
  rw [mhh_cg h k, mlx_cg h]
theorem mWd_lk {K K1 : zI} (h : mlk K K1) (hK : mWd K) : mWd K1 := by
  obtain ⟨⟨h1, h2, h3⟩, h4, h5, h6⟩ := hK
  refine ⟨⟨h1.lk h, by rw [← h.1 4 (by decide) (by decide)]; exact h2, by rw [← h.1 6 (by decide) (by decide)]; exact h3⟩, by rw [← h.1 3 (by decide) (by decide)]; exact h4, fun j hj => ?_, by rw [← h.1 5 (by decide) (by decide)]; exact h6⟩
  rw [← h.1 3 (by decide) (by decide)] at hj
  rw [← h.2.1 j hj]
  exact h5 j hj
def vW (I : zI) : Prop := mWd (mK 2 I) ∧ I 2 4 ≤ 999 ∧ nE (mK 2 I) I ∧ I 67 13 = 0 ∧ I 2 6 < I 0 7
def vT (I : zI) : Prop := (1 ≤ I 0 7 ∧ I 0 7 ≤ 6) ∧ I 67 3 = I 0 7 ∧ ∀ t : Nat, (t : Int) < I 0 7 → mXo I t ∧ nXo I t ∧ ∀ q, mX I t q = nT I t q
def vP (I : zI) : Prop := I 67 6 = I 62 1 ∧ (0 ≤ I 62 1 ∧ I 62 1 ≤ 160) ∧ ∀ j : Nat, (j : Int) < I 62 1 → I 70 j = I 63 j ∧ 0 ≤ I 63 j ∧ I 63 j ≤ 255
def vSh (I : zI) (s : Nat) : Prop := (0 ≤ I (36 + 2 * s) 2 ∧ I (36 + 2 * s) 2 ≤ 40) ∧ (-1 ≤ I (36 + 2 * s) 1 ∧ I (36 + 2 * s) 1 ≤ 2) ∧ ((I (36 + 2 * s) 1 = -1 ∧ I 77 s = 0) ∨ (I (36 + 2 * s) 1 ≠ -1 ∧ I 77 s ≠ 0 ∧ I 78 s = I (36 + 2 * s) 1 ∧ I 79 s = I (36 + 2 * s) 2 ∧ ∀ j : Nat, (j : Int) < I 79 s → I 80 (40 * s + j) = I (37 + 2 * s) j))
def vS (I : zI) : Prop := ∀ s, s < 4 → vSh I s
def vI (I : zI) : Prop := (I 0 4 = 0 ∧ I 67 36 = -1) ∨ (I 0 4 = 1 ∧ mWd (mK 10 I) ∧ I 10 4 ≤ 999 ∧ I 10 6 < I 0 7 ∧ I 67 36 ≠ -1 ∧ nE (mK 10 I) (nkv I))
def vN (I : zI) : Prop := vW I ∧ vT I ∧ vP I ∧ vS I ∧ vI I
theorem vW_mk {J K : zI} (hK : mWd K) (h4 : K 0 4 ≤ 999) (hE : nE K J) (hl : mlk K (mK 2 J)) (h13 : J 67 13 = 0) (h6 : K 0 6 < J 0 7) : vW J := by
  have e4 : K 0 4 = J 2 4 := hl.1 4 (by decide) (by decide)
  have e6 : K 0 6 = J 2 6 := hl.1 6 (by decide) (by decide)
  exact ⟨mWd_lk hl hK, by rw [← e4]; exact h4, hE.of hl, h13, by rw [← e6]; exact h6⟩
theorem vT_cg {I J : zI} (h0 : J 0 7 = I 0 7) (h3 : J 67 3 = I 67 3) (h : ∀ y, (44 ≤ y ∧ y ≤ 61) ∨ y = 68 ∨ y = 69 → J y = I y) (hT : vT I) : vT J := by
  obtain ⟨a1, a2, a3⟩ := hT
  refine ⟨by rw [h0]; exact a1, by rw [h0, h3]; exact a2, fun t ht => ?_⟩
  rw [h0] at ht
  have ht6 : t < 6 := by omega
  obtain ⟨b1, b2, b3⟩ := a3 t ht
  have eR : nR J = nR I := by
    funext t
    unfold nR nb
    rw [h 68 (by omega), h 69 (by omega)]
  have eX : ∀ q, mX J t q = mX I t q := fun q => by
    unfold mX mX0
    rw [h (46 + 3 * t) (by omega), h (45 + 3 * t) (by omega)]
  refine ⟨?_, ?_, fun q => ?_⟩
  · unfold mXo at b1 ⊢
    rw [h (46 + 3 * t) (by omega)]
    exact b1
  · unfold nXo nb at b2 ⊢
    rw [eR, h 68 (by omega), h 69 (by omega)]
    exact b2
  · have e := b3 q
    unfold nT at e ⊢
    rw [eR, eX q]
    exact e
theorem vP_cg {I J : zI} (h6 : J 67 6 = I 67 6) (h1 : J 62 1 = I 62 1) (h70 : J 70 = I 70) (h63 : J 63 = I 63) (hP : vP I) : vP J := by
  unfold vP at hP ⊢
  rw [h6, h1, h70, h63]
  exact hP
theorem vSh_cg {I J : zI} {s : Nat} (hs : s < 4) (h : ∀ y, (36 ≤ y ∧ y ≤ 43) → J y = I y) (h77 : J 77 s = I 77 s) (h78 : J 78 s = I 78 s) (h79 : J 79 s = I 79 s) (h80 : ∀ j, j < 40 → J 80 (40 * s + j) = I 80 (40 * s + j)) (hS : vSh I s) : vSh J s := by
  obtain ⟨a1, a2, a3⟩ := hS
  unfold vSh
  rw [h (36 + 2 * s) (by omega), h (37 + 2 * s) (by omega), h77, h78, h79]
  refine ⟨a1, a2, a3.imp id (fun q => ⟨q.1, q.2.1, q.2.2.1, q.2.2.2.1, fun j hj => ?_⟩)⟩
  rw [h80 j (by have := q.2.2.2.1; omega)]
  exact q.2.2.2.2 j hj
theorem vS_cg {I J : zI} (h : ∀ y, (36 ≤ y ∧ y ≤ 43) ∨ (77 ≤ y ∧ y ≤ 80) → J y = I y) (hS : vS I) : vS J := fun s hs =>
  vSh_cg hs (fun y q => h y (Or.inl q)) (by rw [h 77 (by omega)]) (by rw [h 78 (by omega)]) (by rw [h 79 (by omega)]) (fun j _ => by rw [h 80 (by omega)]) (hS s hs)
theorem vI_cg {I J : zI} (h4 : J 0 4 = I 0 4) (h7 : I 0 7 ≤ J 0 7) (h67 : ∀ j, 36 ≤ j → j ≤ 40 → J 67 j = I 67 j) (h : ∀ y, (10 ≤ y ∧ y < 18) ∨ y = 75 ∨ y = 76 → J y = I y) (hI : vI I) : vI J := by
  rcases hI with ⟨a1, a2⟩ | ⟨a1, a2, a3, a4, a5, a6⟩
  · exact Or.inl ⟨by rw [h4]; exact a1, by rw [h67 36 (by decide) (by decide)]; exact a2⟩
  · have e : mEq (mK 10 I) (mK 10 J) := fun x hx => (h (10 + x) (by omega)).symm
    have h5 : I 10 2 ≤ 5 := a2.1.1.1.2
    have h8 : I 10 3 ≤ 8 := a2.2.1.2
    refine Or.inr ⟨by rw [h4]; exact a1, a2.E e, by rw [h 10 (by omega)]; exact a3, by rw [h 10 (by omega)]; omega, by rw [h67 36 (by decide) (by decide)]; exact a5, ?_⟩
    refine nE.of (e.lk h5) (a6.at (fun j q => ?_) (fun j q => ?_) (fun j q => ?_) h5 h8)
    · rcases q with rfl | rfl | rfl | rfl | rfl
      · exact h67 36 (by decide) (by decide)
      · exact h67 37 (by decide) (by decide)
      · exact h67 39 (by decide) (by decide)
      · exact h67 38 (by decide) (by decide)
      · exact h67 40 (by decide) (by decide)
    · show J 75 j = I 75 j
      rw [h 75 (by omega)]
    · show J 76 j = I 76 j
      rw [h 76 (by omega)]
/-- what stays where both only ask -/
def vQ (I J : zI) : Prop := (∀ y, y ≠ 0 → y ≠ 27 → y ≠ 29 → ¬ (18 ≤ y ∧ y < 26) → y ≠ 67 → y ≠ 71 → y ≠ 72 → y ≠ 73 → y ≠ 74 → J y = I y) ∧ (∀ j, j ≠ 11 → j ≠ 12 → J 0 j = I 0 j) ∧ (∀ j, j ≠ 31 → j ≠ 32 → j ≠ 33 → (j < 14 ∨ 28 < j) → J 67 j = I 67 j) ∧ (∀ j, j < 25 → J 71 j = I 71 j) ∧ ∀ j, j < 8 → J 72 j = I 72 j
theorem vQ.rf (I : zI) : vQ I I := ⟨fun _ _ _ _ _ _ _ _ _ _ => rfl, fun _ _ _ => rfl, fun _ _ _ _ _ => rfl, fun _ _ => rfl, fun _ _ => rfl⟩
theorem vQ.tr {I J K : zI} (h : vQ I J) (h1 : vQ J K) : vQ I K := ⟨fun y a b e f k l m n o => (h1.1 y a b e f k l m n o).trans (h.1 y a b e f k l m n o), fun j a b => (h1.2.1 j a b).trans (h.2.1 j a b), fun j a b e f => (h1.2.2.1 j a b e f).trans (h.2.2.1 j a b e f), fun j a => (h1.2.2.2.1 j a).trans (h.2.2.2.1 j a), fun j a => (h1.2.2.2.2 j a).trans (h.2.2.2.2 j a)⟩
theorem mFr.Q {I J : zI} (h : mFr I J) : vQ I J := ⟨fun y a b e f _ _ _ _ _ => h.1 y b e f a, h.2, fun j _ _ _ _ => by rw [h.1 67 (by decide) (by decide) (by decide) (by decide)], fun j _ => by rw [h.1 71 (by decide) (by decide) (by decide) (by decide)], fun j _ => by rw [h.1 72 (by decide) (by decide) (by decide) (by decide)]⟩
theorem nF.Q {I J : zI} (h : nF I J) : vQ I J := ⟨fun y _ _ _ _ a b e f k => h.1 y a b e f k, fun j _ _ => by rw [h.1 0 (by decide) (by decide) (by decide) (by decide) (by decide)], h.2.1, h.2.2.1, h.2.2.2⟩
theorem vN.Q {I J : zI} (h : vQ I J) (hN : vN I) : vN J := by
  obtain ⟨⟨w1, w2, w3, w4, w5⟩, hT, hP, hS, hI⟩ := hN
  obtain ⟨q1, q2, q3, q4, q5⟩ := h
  have f : ∀ y, (2 ≤ y ∧ y < 18) ∨ (34 ≤ y ∧ y ≤ 66) ∨ (68 ≤ y ∧ y ≤ 70) ∨ (75 ≤ y ∧ y ≤ 80) → J y = I y := fun y hy => q1 y (by omega) (by omega) (by omega) (by omega) (by omega) (by omega) (by omega) (by omega) (by omega)
  have h5 : I 2 2 ≤ 5 := w1.1.1.1.2
  have h8 : I 2 3 ≤ 8 := w1.2.1.2
  have e : mEq (mK 2 I) (mK 2 J) := fun x hx => (f (2 + x) (by omega)).symm
  have e7 : J 0 7 = I 0 7 := q2 7 (by decide) (by decide)
  refine ⟨vW_mk w1 w2 (w3.at (fun j q => q3 j (by omega) (by omega) (by omega) (by omega)) q4 q5 h5 h8) (e.lk h5) (by rw [q3 13 (by decide) (by decide) (by decide) (by decide)]; exact w4) (by rw [e7]; exact w5), vT_cg e7 (q3 3 (by decide) (by decide) (by decide) (by decide)) (fun y hy => f y (by omega)) hT, vP_cg (q3 6 (by decide) (by decide) (by decide) (by decide)) (by rw [f 62 (by omega)]) (f 70 (by omega)) (f 63 (by omega)) hP, vS_cg (fun y hy => f y (by omega)) hS, vI_cg (q2 4 (by decide) (by decide)) (by rw [e7]; exact Int.le_refl _) (fun j a b => q3 j (by omega) (by omega) (by omega) (by omega)) (fun y hy => f y (by omega)) hI⟩
theorem vN.mW {I : zI} (h : vN I) : mW 2 I := by
  obtain ⟨⟨w1, w2, w3, w4, w5⟩, ⟨t1, t2, t3⟩, -⟩ := h
  have h6 : 0 ≤ I 2 6 ∧ I 2 6 < 6 := w1.1.2.2
  exact ⟨mB2, w1.1.1, w1.1.2.1, h6, (t3 _ (by omega)).1⟩
theorem vN.nX {I : zI} (h : vN I) : nXo I (I 67 4).toNat := by
  obtain ⟨⟨w1, w2, w3, w4, w5⟩, ⟨t1, t2, t3⟩, -⟩ := h
  have h6 : 0 ≤ I 2 6 ∧ I 2 6 < 6 := w1.1.2.2
  have e : I 2 6 = I 67 4 := w3.1.2.2.2.2
  rw [← e]
  exact (t3 _ (by omega)).2.1
theorem vN.nW {I : zI} (h : vN I) : nW I := nW_of h.1.1 h.1.2.2.1 h.1.2.2.2.1 h.nX
theorem vN.hT {I : zI} (h : vN I) : ∀ q, mX I (mK 2 I 0 6).toNat q = nT I (mK 2 I 0 6).toNat q := by
  obtain ⟨⟨w1, w2, w3, w4, w5⟩, ⟨t1, t2, t3⟩, -⟩ := h
  have h6 : 0 ≤ I 2 6 ∧ I 2 6 < 6 := w1.1.2.2
  exact fun q => (t3 (I 2 6).toNat (by omega)).2.2 q
theorem vN.all {I : zI} (h : vN I) : nAll I = mAll I := by
  funext x
  have hl := h.1.2.2.1.lk h.1.2.2.2.1
  have h5 : 0 ≤ I 2 2 ∧ I 2 2 ≤ 5 := h.1.1.1.1.1
  have e9 : I 2 2 = I 67 9 := h.1.2.2.1.1.1
  unfold nAll mAll
  rw [← e9]
  refine (mall_lk hl h.hT _ 0 x ?_).symm
  show ((0 + (I 2 2).toNat : Nat) : Int) ≤ I 2 2
  omega
theorem vN.one {I : zI} (h : vN I) {p : Nat} (hp : (p : Int) < I 2 2) (x : Int) : nOne I p x = mOne I p x :=
  (mtell_lk (h.1.2.2.1.lk h.1.2.2.2.1) h.hT hp x).symm
/-- both calls are made, their answers are alike, and all stands as it should -/
def vPr (c : Nat × Nat × Nat) (I : zI) (f : Int → zV) (kc kr : Nat) (ac ar : List zV) : Prop := ∀ (g : Nat) (Q1 : zQ), (∀ (s0 : Int) (J : zI) (g1 : Nat), J 2000 = I 2000 → (∀ Q2 : zQ, (∀ (J1 : zI) (g2 : Nat), vN J1 → J1 2000 = I 2000 → Q2 (some (f s0)) (c, J1, zRg g2)) → zcl 100 kr 0 0 ar (c, J, zRg g1) Q2) → Q1 (some (f s0)) (c, J, zRg g1)) → zcl 100 kc 0 0 ac (c, I, zRg g) Q1
end
