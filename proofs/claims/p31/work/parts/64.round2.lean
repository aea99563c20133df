section
/-! the law's round: things wait and come over, one a day; all laid back -/
section
variable {c : Nat × Nat × Nat} {I : zI} {g : Nat} {Q : zQ}
theorem t6 (h5 : I 2 2 ≤ 5) (h8 : I 2 3 ≤ 8) (h0 : 0 < I 2 3) (H : Q (some (zi (I 4 0))) (c, I, zRg g)) : zcl 100 79 0 0 [zr 0, zi 0, zi 6] (c, I, zRg g) Q :=
  x_told (d := 98) h5 h8 (fun h => absurd (Or.inr (Or.inl ⟨rfl, by decide, h0⟩)) h) (fun h => absurd h (by decide)) (fun h => absurd h (by decide)) (fun h => absurd h (by decide)) (fun _ _ _ => H) (fun _ h => absurd h (by decide))
theorem t7 (h5 : I 2 2 ≤ 5) (h8 : I 2 3 ≤ 8) (H : Q (some (zi (I 2 3))) (c, I, zRg g)) : zcl 100 79 0 0 [zr 0, zi 0, zi 7] (c, I, zRg g) Q :=
  x_told (d := 98) h5 h8 (fun h => absurd (Or.inl (Or.inr (Or.inl rfl))) h) (fun h => absurd h (by decide)) (fun _ => H) (fun h => absurd h (by decide)) (fun h => absurd h (by decide)) (fun _ h => absurd h (by decide))
theorem t8 (h5 : I 2 2 ≤ 5) (h8 : I 2 3 ≤ 8) (H : Q (some (zi (I 2 5))) (c, I, zRg g)) : zcl 100 79 0 0 [zr 0, zi 0, zi 8] (c, I, zRg g) Q :=
  x_told (d := 98) h5 h8 (fun h => absurd (Or.inl (Or.inr (Or.inr rfl))) h) (fun h => absurd h (by decide)) (fun h => absurd h (by decide)) (fun _ => H) (fun h => absurd h (by decide)) (fun _ h => absurd h (by decide))
theorem tp {p : Nat} {w : Int} (h5 : I 2 2 ≤ 5) (h8 : I 2 3 ≤ 8) (hw : 1 ≤ w ∧ w ≤ 5) (hp : (p : Int) < I 2 2) (H : Q (some (zi (I (2 + (3 + p)) (mfi w)))) (c, I, zRg g)) : zcl 100 79 0 0 [zr 0, zi (p : Nat), zi w] (c, I, zRg g) Q :=
  x_told (d := 98) h5 h8 (fun h => absurd (Or.inr (Or.inr ⟨hw, by omega, hp⟩)) h) (fun h => absurd h (by omega)) (fun h => absurd h (by omega)) (fun h => absurd h (by omega)) (fun h => absurd h (by omega)) (fun _ _ _ _ => H)
end
theorem nO_brings {I : zI} {n k : Nat} {C v : Int} (hO : nO I n C (k : Nat) 0 0 0) (hk : k < 8) (hv : mR v) : nO (z2 (z2 I 4 k v) 2 3 ((k : Int) + 1)) n C ((k + 1 : Nat) : Int) 0 0 0 := by
  obtain ⟨hB, h1, h2, h3, h4, h5, h6, h7, h8⟩ := hO
  generalize hJ : z2 (z2 I 4 k v) 2 3 ((k : Int) + 1) = J
  have e : ∀ y j, ¬ (y = 4 ∧ j = k) → ¬ (y = 2 ∧ j = 3) → J y j = I y j := fun y j q1 q2 => by
    rw [← hJ, z2_n (by omega), z2_n (by omega)]
  have r : J 2 3 = (k : Int) + 1 := by rw [← hJ, z2_s]
  have r4 : J 4 k = v := by rw [← hJ, z2_n (by omega), z2_s]
  clear hJ
  have m : ∀ y j, ¬ (y = 2 ∧ j = k) → ¬ (y = 0 ∧ j = 3) → mK 2 J y j = mK 2 I y j := fun y j q1 q2 => e (2 + y) j (by omega) (by omega)
  refine ⟨hB.cg2 (fun y hy => funext (fun j => e y j (by omega) (by omega))) (e 0 7 (by omega) (by omega)), ?_, ?_, ?_, ?_, ?_, fun j hj => ?_, fun p hp => ?_, ?_⟩
  · rw [m 0 2 (by omega) (by omega)]; exact h1
  · show J 2 3 = _ ∧ _
    omega
  · rw [m 0 4 (by omega) (by omega)]; exact h3
  · rw [m 0 5 (by omega) (by omega)]; exact h4
  · rw [m 0 6 (by omega) (by omega)]; exact h5
  · by_cases q : j = k
    · subst q
      show mR (J 4 j)
      rw [r4]; exact hv
    · rw [m 2 j (by omega) (by omega)]
      exact h6 j (by omega)
  · rw [m _ 0 (by omega) (by omega), m _ 1 (by omega) (by omega), m _ 2 (by omega) (by omega), m _ 3 (by omega) (by omega), m _ 4 (by omega) (by omega)]
    exact h7 p hp
  · rw [ncf_cg (K1 := mK 2 I) n 0 (fun q _ _ => m (3 + q) 2 (by omega) (by omega))]
    exact h8
/-- what the image keeps -/
def nIm (I : zI) (n : Nat) (C M : Int) : Prop := I 0 4 = 1 ∧ nV (mK 10 I) n C M 0 0 0
theorem nIm.F {I J : zI} {n : Nat} {C M : Int} (hF : mFr I J) (h : nIm I n C M) : nIm J n C M :=
  ⟨(hF.2 4 (by omega) (by omega)).trans h.1, h.2.lk (mEq.lk (fun x hx => (hF.1 (10 + x) (by omega) (by omega) (by omega) (by omega)).symm) (by have q : I 10 2 = n ∧ n ≤ 5 := h.2.1; show I 10 2 ≤ 5; omega))⟩
theorem mput_row {J J1 K : zI} (hA : mA (mput 2 J K) J1) {y : Nat} (h : y ≠ 27) (h2 : ¬ (2 ≤ y ∧ y < 10)) : J1 y = J y := (hA y h).trans (mput_out (by omega))
theorem nIm.put {J J1 K : zI} {n : Nat} {C M : Int} (hA : mA (mput 2 J K) J1) (h : nIm J n C M) : nIm J1 n C M :=
  ⟨by rw [mput_row hA (by omega) (by omega)]; exact h.1, h.2.lk (mEq.lk (fun x hx => (mput_row hA (y := 10 + x) (by omega) (by omega)).symm) (by have q : J 10 2 = n ∧ n ≤ 5 := h.2.1; show J 10 2 ≤ 5; omega))⟩
theorem nO.put {J J1 K : zI} {n : Nat} {C a b dy sd a1 b1 dy1 sd1 : Int} (hA : mA (mput 2 J K) J1) (h : nO J n C a b dy sd) (hV : nV K n C a1 b1 dy1 sd1) : nO J1 n C a1 b1 dy1 sd1 :=
  ⟨h.1.cg2 (fun y hy => mput_row hA (by omega) (by omega)) (by rw [mput_row hA (by omega) (by omega)]), hV.lk (mEq.lk (fun x hx => ((hA (2 + x) (by omega)).trans (mput_in hx)).symm) (by have := hV.1; omega))⟩
section
variable {S : zK} {B : Nat × Nat} {Q : zQ} {c : Nat × Nat × Nat} {t n : Nat}
theorem w_brings {C x5 : Int} {o8 o9 o10 : Option zV} (ht : t < 3) (M : Nat) (hM : M ≤ 8)
    (H : ∀ (I : zI) (g : Nat), nO I n C (M : Nat) 0 0 0 → zRw S (zcl 100) 205 B Q 420 [some (zr 2000), some (zi (t : Nat)), some (zr 0), some (zi (n : Nat)), some (zi C), some (zi x5), some (zi (M : Nat)), some (zi (M : Nat)), o8, o9, o10] [] (c, I, zRg g)) :
    ∀ (m k : Nat) (I : zI) (g : Nat), k + m = M → nO I n C (k : Nat) 0 0 0 → zRw S (zcl 100) 205 B Q 420 [some (zr 2000), some (zi (t : Nat)), some (zr 0), some (zi (n : Nat)), some (zi C), some (zi x5), some (zi (M : Nat)), some (zi (k : Nat)), o8, o9, o10] [] (c, I, zRg g) := by
  intro m
  induction m with
  | zero =>
    intro k I g hk hO
    obtain rfl : k = M := by omega
    exact H I g hO
  | succ m ih =>
    intro k I g hk hO
    have h3 : I 2 3 = (k : Nat) := hO.2.2.1.1
    refine g_l_law_420 ⟨fun u => absurd u (by omega), fun _ => k132 (d := 98) (by rw [n_w2 (by omega) (by omega) (by omega)]; omega) (by decide) hO.1.2.2.2.2 (fun v hv => g_l_law_443 ?_)⟩
    rw [zwr_eq (show zIn (1 + v) by omega)]
    refine x_brings (d := 99) (by omega) (by omega) (fun h => absurd ⟨by omega, by omega⟩ h) (fun _ h => absurd h (by omega)) (fun _ _ => g_l_law_447 ⟨fun _ => ?_, fun u => absurd ?_ u⟩)
    · rw [h3, Int.toNat_natCast, z1p k (by omega)]
      exact ih (k + 1) _ g (by omega) (nO_brings hO (by omega) (by omega))
    · rw [h3, z1p k (by omega)]
      omega
theorem w_days {C x5 : Int} (hn : n ≤ 5) (M : Nat) (hM : M ≤ 8)
    (H : ∀ (I : zI) (g : Nat) (o8 o9 o10 : Option zV), nO I n C 0 (M : Nat) (M : Nat) (M : Nat) → nIm I n C (M : Nat) → zRw S (zcl 100) 205 B Q 470 [some (zr 2000), some (zi (t : Nat)), some (zr 0), some (zi (n : Nat)), some (zi C), some (zi x5), some (zi (M : Nat)), some (zi (M : Nat)), o8, o9, o10] [] (c, I, zRg g)) :
    ∀ (m k : Nat) (I : zI) (g : Nat) (o8 o9 o10 : Option zV), k + m = M → nO I n C ((M : Int) - (k : Int)) (k : Nat) (k : Nat) (k : Nat) → nIm I n C (M : Nat) → zRw S (zcl 100) 205 B Q 470 [some (zr 2000), some (zi (t : Nat)), some (zr 0), some (zi (n : Nat)), some (zi C), some (zi x5), some (zi (M : Nat)), some (zi (k : Nat)), o8, o9, o10] [] (c, I, zRg g) := by
  intro m
  induction m with
  | zero =>
    intro k I g o8 o9 o10 hk hO hI
    obtain rfl : k = M := by omega
    rw [Int.sub_self] at hO
    exact H I g o8 o9 o10 hO hI
  | succ m ih =>
    intro k I g o8 o9 o10 hk hO hI
    have h5 := hO.n5
    have h3 : I 2 3 = (M : Int) - (k : Int) := hO.2.2.1.1
    have h4 : I 2 4 = (k : Nat) := hO.2.2.2.1.1
    have ek : zwr ((k : Int) + 1) = ((k + 1 : Nat) : Int) := z1p k (by omega)
    have ek2 : (k : Int) + 1 = ((k + 1 : Nat) : Int) := by omega
    have eM : zwr (zwr ((M : Int) - 1) - (k : Int)) = (M : Int) - (k : Int) - 1 := by
      rw [zwr_eq (show zIn ((M : Int) - 1) by omega), zwr_eq (show zIn ((M : Int) - 1 - k) by omega)]
      omega
    have eM2 : (M : Int) - (k : Int) - 1 = (M : Int) - ((k + 1 : Nat) : Int) := by omega
    have hk1 : k + 1 + m = M := by omega
    refine g_l_law_470 ⟨fun u => absurd u (by omega), fun _ => t6 (by omega) (by omega) (by omega) (g_l_law_484 ?_)⟩
    refine x_run (d := 92) zIn0 hO.W hO.2.W (by omega) (fun h => absurd ⟨by decide, Or.inl rfl⟩ h) (fun _ _ J f => ?_)
    have e1 : mrv (mrn (mX I) (1 : Int).toNat (mK 2 I) (-1) 0) 0 = zand (I 4 0) C := n_run1 hO.T hO.2 (by omega) (by omega) (by omega) (by omega)
    rw [e1]
    refine g_l_law_492 ⟨fun u => absurd rfl u, fun _ => ?_⟩
    have hO1 := hO.F f
    have hI1 := hI.F f
    have h41 : J 2 4 = (k : Nat) := hO1.2.2.2.1.1
    refine x_day (d := 92) hO1.W hO1.2.W (fun h => absurd h (by omega)) (fun _ J1 hA => ?_)
    obtain ⟨p1, p2, -⟩ := n_pass hO1.T hO1.2 (by omega) (by omega) (by omega) (by omega)
    have e2 : (mpass (mX J) (mK 2 J)).2 = zand (I 4 0) C := by
      rw [p1]
      show zand (J 4 0) C = _
      rw [f.1 4 (by omega) (by omega) (by omega) (by omega)]
    rw [e2]
    have hO2 := hO1.put hA p2
    have hI2 := hI1.put hA
    have g5 := hO2.n5
    have g3 : J1 2 3 = (M : Int) - (k : Int) - 1 := hO2.2.2.1.1
    have gb : J1 2 5 = (k : Int) + 1 := hO2.2.2.2.2.1.1
    have u5 : J1 2 2 ≤ 5 := by rw [g5.1]; omega
    have u8 : J1 2 3 ≤ 8 := by rw [g3]; omega
    clear p1 e1 e2 hA
    refine g_l_law_504 ⟨fun u => absurd rfl u, fun _ => t7 u5 u8 (g_l_law_519 ⟨fun u => absurd (g3.trans eM.symm) u, fun _ => t8 u5 u8 (g_l_law_536 ⟨fun _ => ?_, fun u => absurd (gb.trans (ek2.trans ek.symm)) u⟩)⟩)⟩
    rw [ek]
    rw [eM2, ek2] at hO2
    exact ih (k + 1) J1 _ _ _ _ hk1 hO2 hI2
/-- after the last day each is asked -/
theorem w_asked {C x5 : Int} {o8 o9 o10 : Option zV} {M : Nat} {b dy : Int} (hn : n ≤ 5) {I : zI} {g : Nat} (hO : nO I n C 0 b dy (M : Nat))
    (H : zRw S (zcl 100) 205 B Q 576 [some (zr 2000), some (zi (t : Nat)), some (zr 0), some (zi (n : Nat)), some (zi C), some (zi x5), some (zi (M : Nat)), some (zi (n : Nat)), o8, o9, o10] [] (c, I, zRg g)) :
    ∀ (m p : Nat), p + m = n → zRw S (zcl 100) 205 B Q 576 [some (zr 2000), some (zi (t : Nat)), some (zr 0), some (zi (n : Nat)), some (zi C), some (zi x5), some (zi (M : Nat)), some (zi (p : Nat)), o8, o9, o10] [] (c, I, zRg g) := by
  have h5 := hO.n5
  have h3 : I 2 3 = 0 := hO.2.2.1.1
  intro m
  induction m with
  | zero =>
    intro p hp
    obtain rfl : p = n := by omega
    exact H
  | succ m ih =>
    intro p hp
    obtain ⟨-, -, -, q3, q4, -, -⟩ := hO.2.2.2.2.2.2.2.1 p (by omega)
    have q3 : 10 ≤ I (2 + (3 + p)) 3 ∧ I (2 + (3 + p)) 3 ≤ 99 := q3
    have q4 : I (2 + (3 + p)) 4 = (M : Nat) := q4
    refine g_l_law_576 ⟨fun u => absurd u (by omega), fun _ => tp (p := p) (w := 4) (by omega) (by omega) (by decide) (by omega) (g_l_law_589 ⟨fun u => absurd q4 u, fun _ => tp (p := p) (w := 3) (by omega) (by omega) (by decide) (by omega) (g_l_law_601 ⟨fun _ => ?_, fun u => absurd q3.1 u⟩)⟩)⟩
    rw [z1p p (by omega)]
    exact ih (p + 1) (by omega)
/-- from the image on, through all days, till all is laid back -/
theorem w_wait {C x5 : Int} (ht : t < 3) (hn : n ≤ 5) (M : Nat) (hM : M ≤ 8)
    (H : ∀ (I : zI) (g : Nat) (o8 o9 o10 : Option zV), nO I n C (M : Nat) 0 0 0 → zRw S (zcl 100) 205 B Q 618 [some (zr 2000), some (zi (t : Nat)), some (zr 0), some (zi (n : Nat)), some (zi C), some (zi x5), some (zi (M : Nat)), some (zi (n : Nat)), o8, o9, o10] [zi (n : Nat)] (c, I, zRg g))
    {I : zI} {g : Nat} (o8 o9 o10 : Option zV) (hO : nO I n C (M : Nat) 0 0 0) : zRw S (zcl 100) 205 B Q 420 [some (zr 2000), some (zi (t : Nat)), some (zr 0), some (zi (n : Nat)), some (zi C), some (zi x5), some (zi (M : Nat)), some (zi (M : Nat)), o8, o9, o10] [] (c, I, zRg g) := by
  have h5 := hO.n5
  have h3 : I 2 3 = (M : Nat) := hO.2.2.1.1
  refine g_l_law_420 ⟨fun _ => x_image (d := 97) (by omega) (by omega) (fun J j1 j2 j3 j4 => g_l_law_466 ?_), fun u => absurd (Int.le_refl _) u⟩
  have hO1 : nO J n C (M : Nat) 0 0 0 := ⟨hO.1.cg2 (fun y hy => j1 y (by omega) (by omega)) (j2 7 (by omega)), hO.2.lk (mEq.lk (fun x hx => (j1 (2 + x) (by omega) (by omega)).symm) (by show I 2 2 ≤ 5; omega))⟩
  have hI1 : nIm J n C (M : Nat) := ⟨j3, hO.2.lk j4⟩
  refine w_days hn M hM (fun I1 g1 p8 p9 p10 hO2 hI2 => ?_) M 0 J g o8 o9 o10 (by omega) (by rw [show (M : Int) - ((0 : Nat) : Int) = (M : Nat) by omega]; exact hO1) hI1
  have h42 : I1 2 4 = (M : Nat) := hO2.2.2.2.1.1
  refine g_l_law_470 ⟨fun _ => x_day (d := 92) hO2.W hO2.2.W (fun h => absurd h (by omega)) (fun _ J1 hA => ?_), fun u => absurd (Int.le_refl _) u⟩
  obtain ⟨p1, p2⟩ := n_pass0 (T := mX I1) hO2.2 (by omega)
  rw [p1]
  have hO3 := hO2.put hA p2
  have hI3 := hI2.put hA
  have g5 := hO3.n5
  have g3 : J1 2 3 = 0 := hO3.2.2.1.1
  have gb : J1 2 5 = (M : Nat) := hO3.2.2.2.2.1.1
  refine g_l_law_555 ⟨fun u => absurd rfl u, fun _ => t8 (by omega) (by omega) (g_l_law_566 ⟨fun _ => w_asked hn hO3 ?_ n 0 (by omega), fun u => absurd gb u⟩)⟩
  have i5 : J1 10 2 = n ∧ n ≤ 5 := hI3.2.1
  have i3 : J1 10 3 = (M : Nat) ∧ _ := hI3.2.2.1
  refine g_l_law_576 ⟨fun _ => x_back (d := 97) (Or.inr hI3.1) (fun _ => by omega) (fun _ => by omega) (fun h => absurd h (by rw [hI3.1]; decide)) (fun _ J2 k1 k2 => ?_), fun u => absurd (Int.le_refl _) u⟩
  rw [i5.1]
  exact H J2 _ _ _ _ ⟨hO3.1.cg2 (fun y hy => k1 y (by omega)) (by rw [k1 0 (by omega)]), hI3.2.lk k2⟩
end
end
