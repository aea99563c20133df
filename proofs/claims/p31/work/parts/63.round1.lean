section
/-! the law's round: the people come, things are told to and fro, over, what is to be learnt, from what -/
section
variable {c : Nat × Nat × Nat} {I : zI} {g : Nat} {Q : zQ} {n : Nat} {C a b dy sd : Int}
theorem o_learn0 {x : Int} (hO : nO I n C a b dy sd) (hx : mR x) (H : ∀ J, mFr I J → Q (some (zi (nD x C))) (c, J, zRg g)) : zcl 100 107 0 0 [zr 0, zi x, zi 0] (c, I, zRg g) Q :=
  o_learn hO hx (by decide) (fun J hJ => zQi (if_pos rfl) (H J hJ))
theorem o_learn1 {x : Int} (hO : nO I n C a b dy sd) (hx : mR x) (H : ∀ J, mFr I J → Q (some (zi (mbc (nD x C)))) (c, J, zRg g)) : zcl 100 107 0 0 [zr 0, zi x, zi 1] (c, I, zRg g) Q :=
  o_learn hO hx (by decide) (fun J hJ => zQi (if_neg (by decide)) (H J hJ))
theorem o_fromN0 {x : Int} (hO : nO I n C a b dy sd) (hx : mR x) (q : zand x C ≠ x) (H : ∀ J, mFr I J → Q (some (zi 0)) (c, J, zRg g)) : zcl 100 109 0 0 [zr 0, zi x, zi 0] (c, I, zRg g) Q :=
  o_fromN hO hx (by decide) q (fun J hJ => zQi (if_pos rfl) (H J hJ))
theorem o_fromN1 {x : Int} (hO : nO I n C a b dy sd) (hx : mR x) (q : zand x C ≠ x) (H : ∀ J, mFr I J → Q (some (zi (-1))) (c, J, zRg g)) : zcl 100 109 0 0 [zr 0, zi x, zi 1] (c, I, zRg g) Q :=
  o_fromN hO hx (by decide) q (fun J hJ => zQi (if_neg (by decide)) (H J hJ))
theorem o_over0 {x : Int} (hO : nO I n C a b dy sd) (hS : nSh I n) (hx : mR x) (H : ∀ J, mFr I J → Q (some (zi (zand x C))) (c, J, zRg g)) : zcl 100 88 0 0 [zr 0, zi 0, zi x, zi 0] (c, I, zRg g) Q :=
  o_over hO hS hx (by decide) (fun J hJ => zQi (if_pos rfl) (H J hJ))
theorem o_over1 {x : Int} (hO : nO I n C a b dy sd) (hS : nSh I n) (hx : mR x) (H : ∀ J, mFr I J → Q (some (zi (mbc (nD x (zand x C))))) (c, J, zRg g)) : zcl 100 88 0 0 [zr 0, zi 0, zi x, zi 1] (c, I, zRg g) Q :=
  o_over hO hS hx (by decide) (fun J hJ => zQi (by rw [if_neg (by decide), if_pos rfl]) (H J hJ))
theorem o_over2 {x : Int} (hO : nO I n C a b dy sd) (hS : nSh I n) (hx : mR x) (H : ∀ J, mFr I J → Q (some (zi (nD x (zand x C)))) (c, J, zRg g)) : zcl 100 88 0 0 [zr 0, zi 0, zi x, zi 2] (c, I, zRg g) Q :=
  o_over hO hS hx (by decide) (fun J hJ => zQi (by rw [if_neg (by decide), if_neg (by decide), if_pos rfl]) (H J hJ))
theorem o_over3 {x : Int} (hO : nO I n C a b dy sd) (hS : nSh I n) (hx : mR x) (H : ∀ J, mFr I J → Q (some (zi 0)) (c, J, zRg g)) : zcl 100 88 0 0 [zr 0, zi 0, zi x, zi 3] (c, I, zRg g) Q :=
  o_over hO hS hx (by decide) (fun J hJ => zQi (by rw [if_neg (by decide), if_neg (by decide), if_neg (by decide)]) (H J hJ))
end
theorem nO_person {I : zI} {p : Nat} {C w v m : Int} (hO : nO I p C 0 0 0 0) (hp : p < 5) (hw : mR w) (hv : 0 ≤ v ∧ v ≤ 9) (hm : 10 ≤ m ∧ m ≤ 99) : nO (z2 (z2 (z2 (z2 (z2 (z2 I (2 + (3 + p)) 0 0) (2 + (3 + p)) 1 v) (2 + (3 + p)) 2 w) (2 + (3 + p)) 3 m) (2 + (3 + p)) 4 0) 2 2 ((p : Int) + 1)) (p + 1) (zand C w) 0 0 0 0 := by
  obtain ⟨hB, h1, h2, h3, h4, h5, h6, h7, h8⟩ := hO
  generalize hJ : z2 (z2 (z2 (z2 (z2 (z2 I (2 + (3 + p)) 0 0) (2 + (3 + p)) 1 v) (2 + (3 + p)) 2 w) (2 + (3 + p)) 3 m) (2 + (3 + p)) 4 0) 2 2 ((p : Int) + 1) = J
  have e : ∀ y j, y ≠ 2 + (3 + p) → ¬ (y = 2 ∧ j = 2) → J y j = I y j := fun y j q1 q2 => by
    rw [← hJ, z2_n (by omega), z2_n (by omega), z2_n (by omega), z2_n (by omega), z2_n (by omega), z2_n (by omega)]
  have r0 : J (2 + (3 + p)) 0 = 0 := by rw [← hJ, z2_n (by omega), z2_n (by omega), z2_n (by omega), z2_n (by omega), z2_n (by omega), z2_s]
  have r1 : J (2 + (3 + p)) 1 = v := by rw [← hJ, z2_n (by omega), z2_n (by omega), z2_n (by omega), z2_n (by omega), z2_s]
  have r2 : J (2 + (3 + p)) 2 = w := by rw [← hJ, z2_n (by omega), z2_n (by omega), z2_n (by omega), z2_s]
  have r3 : J (2 + (3 + p)) 3 = m := by rw [← hJ, z2_n (by omega), z2_n (by omega), z2_s]
  have r4 : J (2 + (3 + p)) 4 = 0 := by rw [← hJ, z2_n (by omega), z2_s]
  have r : J 2 2 = (p : Int) + 1 := by rw [← hJ, z2_s]
  clear hJ
  have k : ∀ y j, y ≠ 3 + p → ¬ (y = 0 ∧ j = 2) → mK 2 J y j = mK 2 I y j := fun y j q1 q2 => e (2 + y) j (by omega) (by omega)
  refine ⟨hB.cg2 (fun y hy => funext (fun j => e y j (by omega) (by omega))) (e 0 7 (by omega) (by omega)), ?_, ?_, ?_, ?_, ?_, fun j hj => absurd hj (by omega), fun q hq => ?_, ?_⟩
  · show J 2 2 = _ ∧ _
    omega
  · rw [k 0 3 (by omega) (by omega)]; exact h2
  · rw [k 0 4 (by omega) (by omega)]; exact h3
  · rw [k 0 5 (by omega) (by omega)]; exact h4
  · rw [k 0 6 (by omega) (by omega)]; exact h5
  · by_cases q1 : q = p
    · subst q1
      show J (2 + (3 + q)) 0 = 0 ∧ (0 ≤ J (2 + (3 + q)) 1 ∧ J (2 + (3 + q)) 1 ≤ 9) ∧ mR (J (2 + (3 + q)) 2) ∧ (10 ≤ J (2 + (3 + q)) 3 ∧ J (2 + (3 + q)) 3 ≤ 99) ∧ J (2 + (3 + q)) 4 = 0 ∧ (0 : Int) ≤ 0 ∧ (0 : Int) ≤ 99
      rw [r0, r1, r2, r3, r4]
      exact ⟨rfl, hv, hw, hm, rfl, by decide, by decide⟩
    · rw [k _ 0 (by omega) (by omega), k _ 1 (by omega) (by omega), k _ 2 (by omega) (by omega), k _ 3 (by omega) (by omega), k _ 4 (by omega) (by omega)]
      exact h7 q (by omega)
  · rw [ncf_snoc, ncf_cg (K1 := mK 2 I) p 0 (fun q _ q2 => k (3 + q) 2 (by omega) (by omega)), h8, Nat.zero_add]
    exact congrArg (zand C) r2
section
variable {S : zK} {B : Nat × Nat} {Q : zQ} {c : Nat × Nat × Nat} {t n : Nat}
theorem w_people (ht : t < 3) (hn : n ≤ 5)
    (H : ∀ (I : zI) (g : Nat) (C : Int) (o7 o8 o9 o10 : Option zV), nO I n C 0 0 0 0 → zRw S (zcl 100) 205 B Q 133 [some (zr 2000), some (zi (t : Nat)), some (zr 0), some (zi (n : Nat)), some (zi C), some (zi (zwr (10 - mbc C))), some (zi 0), o7, o8, o9, o10] [] (c, I, zRg g)) :
    ∀ (m p : Nat) (I : zI) (g : Nat) (C : Int) (o6 o7 o8 o9 o10 : Option zV), p + m = n → nO I p C 0 0 0 0 → zRw S (zcl 100) 205 B Q 32 [some (zr 2000), some (zi (t : Nat)), some (zr 0), some (zi (n : Nat)), some (zi C), some (zi (p : Nat)), o6, o7, o8, o9, o10] [] (c, I, zRg g) := by
  intro m
  induction m with
  | zero =>
    intro p I g C o6 o7 o8 o9 o10 hp hO
    obtain rfl : p = n := by omega
    exact g_l_law_32 ⟨fun _ => k_bc (d := 99) hO.2.R (g_l_law_127 (H I g C o7 o8 o9 o10 hO)), fun u => absurd (Int.le_refl _) u⟩
  | succ m ih =>
    intro p I g C o6 o7 o8 o9 o10 hp hO
    have hs := hO.1.2.2.2.2
    have h2 := hO.n5.1
    refine g_l_law_32 ⟨fun u => absurd u (by omega), fun _ => k132 (d := 98) (by rw [n_w2 (by omega) (by omega) (by omega)]; omega) (by decide) hs (fun w1 hw1 => g_l_law_51 (k132 (d := 98) (by rw [n_w2 (by omega) (by omega) (by omega)]; omega) (by decide) hs (fun w2 hw2 => g_l_law_65 (k132 (d := 98) (by rw [n_w1 (by omega) (by omega)]; omega) (by decide) hs (fun v1 hv1 => g_l_law_88 (k132 (d := 98) (by rw [n_w1 (by omega) (by omega)]; omega) (by decide) hs (fun v2 hv2 => g_l_law_103 ?_)))))))⟩
    have hw : mR (zor w1 w2) := m_orR hw1 hw2
    have em : zwr (10 + v2) = 10 + v2 := n_w1 (by decide) (by omega)
    rw [em]
    refine x_person (d := 98) (by omega) (by omega) (fun h => absurd ⟨by decide, by omega, hw, by omega⟩ h) (fun _ h => absurd h (by omega)) (fun _ _ => g_l_law_107 ⟨fun _ => ?_, fun u => absurd h2 u⟩)
    rw [h2, Int.toNat_natCast, z1p p (by omega)]
    exact ih (p + 1) _ g _ _ _ _ _ _ (by omega) (nO_person hO (by omega) hw (by omega) (by omega))
/-- the row of the sheet, from the last to the first -/
theorem w_cells {x1 x5 x6 x7 x8 C : Int} {o10 : Option zV} (hn : n ≤ 5)
    (H : ∀ (I : zI) (g : Nat), nO I n C 0 0 0 0 → nSh I n → zRw S (zcl 100) 205 B Q 306 [some (zr 2000), some (zi x1), some (zr 0), some (zi (n : Nat)), some (zi C), some (zi x5), some (zi x6), some (zi x7), some (zi x8), some (zi (n : Nat)), o10] [] (c, I, zRg g)) :
    ∀ (m i : Nat) (I : zI) (g : Nat), i + m = n → nO I n C 0 0 0 0 → I 36 1 = 0 → I 36 2 = n → (∀ j, j < i → I 37 j = ((n - 1 - j : Nat) : Int)) → zRw S (zcl 100) 205 B Q 306 [some (zr 2000), some (zi x1), some (zr 0), some (zi (n : Nat)), some (zi C), some (zi x5), some (zi x6), some (zi x7), some (zi x8), some (zi (i : Nat)), o10] [] (c, I, zRg g) := by
  intro m
  induction m with
  | zero =>
    intro i I g hi hO s1 s2 s3
    obtain rfl : i = n := by omega
    exact H I g hO ⟨s1, s2, s3⟩
  | succ m ih =>
    intro i I g hi hO s1 s2 s3
    refine g_l_law_306 ⟨fun u => absurd u (by omega), fun _ => ?_⟩
    have e : zwr (zwr ((n : Int) - 1) - (i : Int)) = ((n - 1 - i : Nat) : Int) := by
      rw [zwr_eq (show zIn ((n : Int) - 1) by omega), zwr_eq (show zIn ((n : Int) - 1 - i) by omega)]
      omega
    rw [e]
    refine o_cell hO s1 (by omega) (by omega) (fun hO1 => g_l_law_325 ?_)
    rw [z1p i (by omega)]
    refine ih (i + 1) _ g (by omega) hO1 (by rw [z2_r (by omega)]; exact s1) (by rw [z2_r (by omega)]; exact s2) (fun j hj => ?_)
    by_cases q : j = i
    · rw [q, z2_s]
    · rw [z2_n (Or.inr q)]
      exact s3 j (by omega)
/-- one thing over, by the row, and on to the next -/
theorem w_over {x1 x5 x6 x C : Int} (hn : n ≤ 5) (hx : mR x)
    (H : ∀ (I : zI) (g : Nat) (o7 o8 o9 o10 : Option zV), nO I n C 0 0 0 0 → zRw S (zcl 100) 205 B Q 133 [some (zr 2000), some (zi x1), some (zr 0), some (zi (n : Nat)), some (zi C), some (zi x5), some (zi (zwr (x6 + 1))), o7, o8, o9, o10] [] (c, I, zRg g)) {I : zI} {g : Nat} (hO : nO I n C 0 0 0 0) (o9 o10 : Option zV) :
    zcl 100 124 0 0 [zr 0, zi 0, zi 0, zi (n : Nat)] (c, I, zRg g) (fun v h1 => zRw S (zcl 100) 205 B Q 302 [some (zr 2000), some (zi x1), some (zr 0), some (zi (n : Nat)), some (zi C), some (zi x5), some (zi x6), some (zi x), some (zi (zand x C)), o9, o10] (zva v []) h1) := by
  refine o_sheet hO (by omega) (fun J _ s1 s2 hO1 => g_l_law_302 (w_cells hn (fun I1 g1 hO2 hS => ?_) n 0 J g (by omega) hO1 s1 s2 (fun j hj => absurd hj (by omega))))
  refine g_l_law_306 ⟨fun _ => o_over0 hO2 hS hx (fun J1 f1 => g_l_law_340 ⟨fun u => absurd rfl u, fun _ => o_over1 (hO2.F f1) (hS.F f1) hx (fun J2 f2 => g_l_law_353 (k_bc (d := 99) (nD_R _ hx) (g_l_law_363 ⟨fun u => absurd rfl u, fun _ => ?_⟩)))⟩), fun u => absurd (Int.le_refl _) u⟩
  have hO3 := (hO2.F f1).F f2
  have hS3 := (hS.F f1).F f2
  exact o_over2 hO3 hS3 hx (fun J3 f3 => g_l_law_374 ⟨fun u => absurd rfl u, fun _ => o_over3 (hO3.F f3) (hS3.F f3) hx (fun J4 f4 => g_l_law_392 ⟨fun _ => H J4 g1 _ _ _ _ ((hO3.F f3).F f4), fun u => absurd rfl u⟩)⟩)
/-- one thing -/
theorem w_thing {x1 x6 x C : Int} (hn : n ≤ 5) (hx : mR x)
    (H : ∀ (I : zI) (g : Nat) (o7 o8 o9 o10 : Option zV), nO I n C 0 0 0 0 → zRw S (zcl 100) 205 B Q 133 [some (zr 2000), some (zi x1), some (zr 0), some (zi (n : Nat)), some (zi C), some (zi (zwr (10 - mbc C))), some (zi (zwr (x6 + 1))), o7, o8, o9, o10] [] (c, I, zRg g)) {I : zI} {g : Nat} (hO : nO I n C 0 0 0 0) (o7 o8 o9 o10 : Option zV) :
    zRw S (zcl 100) 205 B Q 153 [some (zr 2000), some (zi x1), some (zr 0), some (zi (n : Nat)), some (zi C), some (zi (zwr (10 - mbc C))), some (zi x6), o7, o8, o9, o10] [zi x] (c, I, zRg g) := by
  have hxC : mR (zand x C) := m_andR hx
  have hqC : zand (zand x C) C = zand x C := by rw [n_assoc, n_aa hO.2.R]
  refine g_l_law_153 (o_fro0 hO hx (fun J1 f1 => ?_))
  have hO1 := hO.F f1
  have A : zcl 100 104 0 0 [zr 0, zi x, zi 1] (c, J1, zRg g) (fun v h1 => zRw S (zcl 100) 205 B Q 191 [some (zr 2000), some (zi x1), some (zr 0), some (zi (n : Nat)), some (zi C), some (zi (zwr (10 - mbc C))), some (zi x6), some (zi x), some (zi (zand x C)), o9, o10] (zva v []) h1) := by
    refine o_fro1 hO1 hx (fun J2 f2 => g_l_law_191 ⟨fun _ => ?_, fun u => absurd rfl u⟩)
    have hO2 := hO1.F f2
    refine o_learn0 hO2 hx (fun J3 f3 => g_l_law_205 ⟨fun u => absurd rfl u, fun _ => ?_⟩)
    have hO3 := hO2.F f3
    refine o_learn1 hO3 hx (fun J4 f4 => g_l_law_222 (k_bc (d := 99) (nD_R C hx) (g_l_law_232 ⟨fun _ => ?_, fun u => absurd rfl u⟩)))
    have hO4 := hO3.F f4
    refine o_from0 hO4 hxC hqC (fun J5 f5 => g_l_law_244 ⟨fun u => absurd rfl u, fun _ => ?_⟩)
    have hO5 := hO4.F f5
    refine o_from1 hO5 hxC hqC (fun J6 f6 => g_l_law_258 ⟨fun _ => ⟨fun _ => w_over hn hx H (hO5.F f6) o9 o10, fun u => ?_⟩, fun u => absurd rfl u⟩)
    have hO6 := hO5.F f6
    exact o_fromN0 hO6 hx u (fun J7 f7 => g_l_law_279 ⟨fun u => absurd rfl u, fun _ => o_fromN1 (hO6.F f7) hx u (fun J8 f8 => g_l_law_289 ⟨fun _ => w_over hn hx H ((hO6.F f7).F f8) o9 o10, fun u => absurd rfl u⟩)⟩)
  exact g_l_law_169 ⟨fun u => ⟨fun u1 => absurd (if_neg u) u1, fun _ => A⟩, fun u => ⟨fun u1 => absurd (if_pos (Decidable.not_not.mp u)) u1, fun _ => A⟩⟩
theorem w_things {C : Int} (ht : t < 3) (hn : n ≤ 5)
    (H : ∀ (I : zI) (g : Nat) (o7 o8 o9 o10 : Option zV), nO I n C 0 0 0 0 → zRw S (zcl 100) 205 B Q 133 [some (zr 2000), some (zi (t : Nat)), some (zr 0), some (zi (n : Nat)), some (zi C), some (zi (zwr (10 - mbc C))), some (zi ((4 : Nat) : Int)), o7, o8, o9, o10] [] (c, I, zRg g)) :
    ∀ (m k : Nat) (I : zI) (g : Nat) (o7 o8 o9 o10 : Option zV), k + m = 4 → nO I n C 0 0 0 0 → zRw S (zcl 100) 205 B Q 133 [some (zr 2000), some (zi (t : Nat)), some (zr 0), some (zi (n : Nat)), some (zi C), some (zi (zwr (10 - mbc C))), some (zi (k : Nat)), o7, o8, o9, o10] [] (c, I, zRg g) := by
  intro m
  induction m with
  | zero =>
    intro k I g o7 o8 o9 o10 hk hO
    obtain rfl : k = 4 := by omega
    exact H I g o7 o8 o9 o10 hO
  | succ m ih =>
    intro k I g o7 o8 o9 o10 hk hO
    refine g_l_law_133 ⟨fun u => absurd u (by omega), fun _ => k132 (d := 98) (by rw [n_w2 (by omega) (by omega) (by omega)]; omega) (by decide) hO.1.2.2.2.2 (fun x hx => w_thing hn hx (fun I1 g1 p7 p8 p9 p10 hO1 => ?_) hO o7 o8 o9 o10)⟩
    rw [z1p k (by omega)]
    exact ih (k + 1) I1 g1 p7 p8 p9 p10 (by omega) hO1
end
end
