section
/-! the reference's days in thought -/
/-- what stays where the reference tries something -/
def nF (I J : zI) : Prop := (∀ y, y ≠ 67 → y ≠ 71 → y ≠ 72 → y ≠ 73 → y ≠ 74 → J y = I y) ∧ (∀ j, j ≠ 31 → j ≠ 32 → j ≠ 33 → (j < 14 ∨ 28 < j) → J 67 j = I 67 j) ∧ (∀ j, j < 25 → J 71 j = I 71 j) ∧ ∀ j, j < 8 → J 72 j = I 72 j
theorem nF.rf (I : zI) : nF I I := ⟨fun _ _ _ _ _ _ => rfl, fun _ _ _ _ _ => rfl, fun _ _ => rfl, fun _ _ => rfl⟩
theorem nF.tr {I J K : zI} (h : nF I J) (h1 : nF J K) : nF I K := ⟨fun y a b d e f => (h1.1 y a b d e f).trans (h.1 y a b d e f), fun j a b d e => (h1.2.1 j a b d e).trans (h.2.1 j a b d e), fun j q => (h1.2.2.1 j q).trans (h.2.2.1 j q), fun j q => (h1.2.2.2 j q).trans (h.2.2.2 j q)⟩
theorem nA.F {I J : zI} (h : nA I J) : nF I J := ⟨fun y a _ _ _ _ => h.1 y a, fun j _ _ _ q => h.2 j q, fun j _ => by rw [h.1 71 (by decide)], fun j _ => by rw [h.1 72 (by decide)]⟩
theorem nF.R {I J : zI} (h : nF I J) : nR J = nR I := by
  funext t
  unfold nR nb
  rw [h.1 68 (by decide) (by decide) (by decide) (by decide) (by decide), h.1 69 (by decide) (by decide) (by decide) (by decide) (by decide)]
theorem nF.T {I J : zI} (h : nF I J) : nT J = nT I := by
  have e : ∀ t q, t < 6 → mX J t q = mX I t q := by
    intro t q ht
    unfold mX mX0
    rw [h.1 (46 + 3 * t) (by omega) (by omega) (by omega) (by omega) (by omega), h.1 (45 + 3 * t) (by omega) (by omega) (by omega) (by omega) (by omega)]
  funext t q
  unfold nT
  rw [h.R]
  by_cases ht : t < 6
  · rw [if_pos ht, if_pos ht, e t q ht]
  · rw [if_neg ht, if_neg ht]
theorem nF.Xo {I J : zI} (h : nF I J) {t : Nat} (o : nXo I t) : nXo J t := by
  unfold nXo nb at o ⊢
  rw [h.R, h.1 68 (by decide) (by decide) (by decide) (by decide) (by decide), h.1 69 (by decide) (by decide) (by decide) (by decide) (by decide)]
  exact o
theorem nF.E {I J K : zI} (h : nF I J) (h5 : K 0 2 ≤ 5) (h8 : K 0 3 ≤ 8) (hE : nE K I) : nE K J :=
  hE.at (fun j q => h.2.1 j (by omega) (by omega) (by omega) (by omega)) h.2.2.1 h.2.2.2 h5 h8
section
variable {c : Nat × Nat × Nat} {I : zI} {g : Nat} {Q : zQ} {K : zI} {T : Nat → Nat → List Int}
theorem r175 {e : Nat} (he : 1 ≤ e) (H : ∀ J, (∀ y, y ≠ 73 → J y = I y) → (∀ j, j < 25 → J 73 j = I 71 j) → (∀ j, j < 8 → J 73 (25 + j) = I 72 j) → J 73 33 = I 67 11 → J 73 34 = I 67 12 → J 73 35 = I 67 7 → Q none (c, J, zRg g)) : zcl e 175 0 0 [zr 67] (c, I, zRg g) Q := by
  obtain ⟨d, rfl⟩ : ∃ d, e = d + 1 := ⟨e - 1, by omega⟩
  refine zen rfl rfl (fun B Q1 hQ => g_x12_laysAside_0 ?_)
  have H := fun J a b e f i j => hQ _ _ _ (H J a b e f i j)
  have two : ∀ (a k : Nat) (J : zI), k + a = 8 → (∀ y, y ≠ 73 → J y = I y) → (∀ j, j < 25 → J 73 j = I 71 j) → (∀ j, j < k → J 73 (25 + j) = I 72 j) → zRn (zcl d) 175 B Q1 28 [some (zr 67), some (zi (k : Nat))] [] (c, J, zRg g) := by
    intro a
    induction a with
    | zero =>
      intro k J hk f1 f2 f3
      obtain rfl : k = 8 := by omega
      refine g_x12_laysAside_28 ⟨fun _ => H _ (fun y q => by rw [z2_r q, z2_r q, z2_r q]; exact f1 y q) (fun j q => by rw [z2_n (Or.inr (by omega)), z2_n (Or.inr (by omega)), z2_n (Or.inr (by omega))]; exact f2 j q) (fun j q => by rw [z2_n (Or.inr (by omega)), z2_n (Or.inr (by omega)), z2_n (Or.inr (by omega))]; exact f3 j q) ?_ ?_ ?_, fun w => absurd (by decide) w⟩
      · rw [z2_n (Or.inr (by decide)), z2_n (Or.inr (by decide)), z2_s, f1 67 (by decide)]
      · rw [z2_n (Or.inr (by decide)), z2_s, f1 67 (by decide)]
      · rw [z2_s, f1 67 (by decide)]
    | succ a ih =>
      intro k J hk f1 f2 f3
      have ek : zwr (25 + (k : Int)) = ((25 + k : Nat) : Int) := by rw [zwr_eq (show zIn (25 + (k : Int)) by omega)]; omega
      refine g_x12_laysAside_28 ⟨fun w => absurd w (by omega), fun _ => ⟨by omega, ?_⟩⟩
      rw [ek, z1p k (by omega), Int.toNat_natCast, Int.toNat_natCast, f1 72 (by decide)]
      refine ⟨by omega, ih (k + 1) _ (by omega) (fun y q => by rw [z2_r q]; exact f1 y q) (fun j q => by rw [z2_n (Or.inr (by omega))]; exact f2 j q) (fun j q => ?_)⟩
      by_cases w : j = k
      · rw [w, z2_s]
      · rw [z2_n (Or.inr (by omega))]; exact f3 j (by omega)
  have one : ∀ (a k : Nat) (J : zI), k + a = 25 → (∀ y, y ≠ 73 → J y = I y) → (∀ j, j < k → J 73 j = I 71 j) → zRn (zcl d) 175 B Q1 2 [some (zr 67), some (zi (k : Nat))] [] (c, J, zRg g) := by
    intro a
    induction a with
    | zero =>
      intro k J hk f1 f2
      obtain rfl : k = 25 := by omega
      exact g_x12_laysAside_2 ⟨fun _ => two 8 0 J (by omega) f1 f2 (fun j q => absurd q (by omega)), fun w => absurd (by decide) w⟩
    | succ a ih =>
      intro k J hk f1 f2
      refine g_x12_laysAside_2 ⟨fun w => absurd w (by omega), fun _ => ⟨by omega, by omega, ?_⟩⟩
      rw [z1p k (by omega), Int.toNat_natCast, f1 71 (by decide)]
      refine ih (k + 1) _ (by omega) (fun y q => by rw [z2_r q]; exact f1 y q) (fun j q => ?_)
      by_cases w : j = k
      · rw [w, z2_s]
      · rw [z2_n (Or.inr w)]; exact f2 j (by omega)
  exact one 25 0 I (by omega) (fun _ _ => rfl) (fun j q => absurd q (by omega))
theorem r176 {e : Nat} (he : 1 ≤ e) (H : ∀ J, (∀ y, y ≠ 67 → y ≠ 71 → y ≠ 72 → J y = I y) → (∀ j, j ≠ 11 → j ≠ 12 → j ≠ 7 → J 67 j = I 67 j) → (∀ j, j < 25 → J 71 j = I 73 j) → (∀ j, j < 8 → J 72 j = I 73 (25 + j)) → J 67 11 = I 73 33 → J 67 12 = I 73 34 → J 67 7 = I 73 35 → Q none (c, J, zRg g)) : zcl e 176 0 0 [zr 67] (c, I, zRg g) Q := by
  obtain ⟨d, rfl⟩ : ∃ d, e = d + 1 := ⟨e - 1, by omega⟩
  refine zen rfl rfl (fun B Q1 hQ => g_x12_laysBack_0 ?_)
  have H := fun J a b e f i j k => hQ _ _ _ (H J a b e f i j k)
  have two : ∀ (a k : Nat) (J : zI), k + a = 8 → (∀ y, y ≠ 71 → y ≠ 72 → J y = I y) → (∀ j, j < 25 → J 71 j = I 73 j) → (∀ j, j < k → J 72 j = I 73 (25 + j)) → zRn (zcl d) 176 B Q1 28 [some (zr 67), some (zi (k : Nat))] [] (c, J, zRg g) := by
    intro a
    induction a with
    | zero =>
      intro k J hk f1 f2 f3
      obtain rfl : k = 8 := by omega
      refine g_x12_laysBack_28 ⟨fun _ => H _ (fun y q1 q2 q3 => by rw [z2_r q1, z2_r q1, z2_r q1]; exact f1 y q2 q3) (fun j q1 q2 q3 => by rw [z2_n (Or.inr q3), z2_n (Or.inr q2), z2_n (Or.inr q1), f1 67 (by decide) (by decide)]) (fun j q => by rw [z2_n (Or.inl (by decide)), z2_n (Or.inl (by decide)), z2_n (Or.inl (by decide))]; exact f2 j q) (fun j q => by rw [z2_n (Or.inl (by decide)), z2_n (Or.inl (by decide)), z2_n (Or.inl (by decide))]; exact f3 j q) ?_ ?_ ?_, fun w => absurd (by decide) w⟩
      · rw [z2_n (Or.inr (by decide)), z2_n (Or.inr (by decide)), z2_s, f1 73 (by decide) (by decide)]
      · rw [z2_n (Or.inr (by decide)), z2_s, f1 73 (by decide) (by decide)]
      · rw [z2_s, f1 73 (by decide) (by decide)]
    | succ a ih =>
      intro k J hk f1 f2 f3
      have ek : zwr (25 + (k : Int)) = ((25 + k : Nat) : Int) := by rw [zwr_eq (show zIn (25 + (k : Int)) by omega)]; omega
      refine g_x12_laysBack_28 ⟨fun w => absurd w (by omega), fun _ => ?_⟩
      rw [ek, z1p k (by omega), Int.toNat_natCast, Int.toNat_natCast, f1 73 (by decide) (by decide)]
      refine ⟨by omega, by omega, ih (k + 1) _ (by omega) (fun y q1 q2 => by rw [z2_r q2]; exact f1 y q1 q2) (fun j q => by rw [z2_n (Or.inl (by decide))]; exact f2 j q) (fun j q => ?_)⟩
      by_cases w : j = k
      · rw [w, z2_s]
      · rw [z2_n (Or.inr (by omega))]; exact f3 j (by omega)
  have one : ∀ (a k : Nat) (J : zI), k + a = 25 → (∀ y, y ≠ 71 → J y = I y) → (∀ j, j < k → J 71 j = I 73 j) → zRn (zcl d) 176 B Q1 2 [some (zr 67), some (zi (k : Nat))] [] (c, J, zRg g) := by
    intro a
    induction a with
    | zero =>
      intro k J hk f1 f2
      obtain rfl : k = 25 := by omega
      exact g_x12_laysBack_2 ⟨fun _ => two 8 0 J (by omega) (fun y q _ => f1 y q) f2 (fun j q => absurd q (by omega)), fun w => absurd (by decide) w⟩
    | succ a ih =>
      intro k J hk f1 f2
      refine g_x12_laysBack_2 ⟨fun w => absurd w (by omega), fun _ => ⟨by omega, by omega, ?_⟩⟩
      rw [z1p k (by omega), Int.toNat_natCast, f1 73 (by decide)]
      refine ih (k + 1) _ (by omega) (fun y q => by rw [z2_r q]; exact f1 y q) (fun j q => ?_)
      by_cases w : j = k
      · rw [w, z2_s]
      · rw [z2_n (Or.inr w)]; exact f2 j (by omega)
  exact one 25 0 I (by omega) (fun _ _ => rfl) (fun j q => absurd q (by omega))
set_option maxHeartbeats 1000000 in
theorem y_run {e : Nat} (he : 60 ≤ e) {x1 x2 : Int} (hx2 : zIn x2) (hK : mWd K) (hd : K 0 4 ≤ 999) (hE : nE K I) (h13 : I 67 13 = 0) (hX : nXo I (I 67 4).toNat) (hT : ∀ q, T (K 0 6).toNat q = nT I (K 0 6).toNat q) (Hb : ¬ ((0 ≤ x1 ∧ x1 ≤ 20) ∧ (x2 = 0 ∨ x2 = 1 ∨ (10 ≤ x2 ∧ x2 < 10 + K 0 2) ∨ (20 ≤ x2 ∧ x2 < 20 + K 0 2))) → Q (some (zi (-1000))) (c, I, zRg g))
    (H : 0 ≤ x1 → x1 ≤ 20 → (x2 = 0 ∨ x2 = 1 ∨ (10 ≤ x2 ∧ x2 < 10 + K 0 2) ∨ (20 ≤ x2 ∧ x2 < 20 + K 0 2)) → ∀ J, nF I J → Q (some (zi (mrv (mrn T x1.toNat K (-1) 0) x2))) (c, J, zRg g)) : zcl e 177 0 0 [zr 67, zi x1, zi x2] (c, I, zRg g) Q := by
  obtain ⟨d, rfl⟩ : ∃ d, e = d + 1 := ⟨e - 1, by omega⟩
  have h5 := hK.1.1.1
  have h8 := hK.2.1
  have e9 : I 67 9 = K 0 2 := hE.1.1.symm
  have h9 : 0 ≤ I 67 9 ∧ I 67 9 ≤ 5 := by rw [e9]; exact h5
  refine zen rfl rfl (fun B Q1 hQ => g_x12_run_0 ?_)
  have Hb := fun q => hQ _ _ _ (Hb q)
  have H := fun a b e J h => hQ _ _ _ (H a b e J h)
  -- the days
  have days : (0 ≤ x1 ∧ x1 ≤ 20) → (x2 = 0 ∨ x2 = 1 ∨ (10 ≤ x2 ∧ x2 < 10 + K 0 2) ∨ (20 ≤ x2 ∧ x2 < 20 + K 0 2)) → ∀ (x3 : Int), zcl d 175 0 0 [zr 67] (c, I, zRg g) (fun v h1 => zRn (zcl d) 177 B Q1 79 [some (zr 67), some (zi x1), some (zi x2), some (zi x3), none, none, none, none] (zva v []) h1) := by
    intro hx1 hx x3
    refine r175 (by omega) (fun J f1 f2 f3 f4 f5 f6 => g_x12_run_79 ?_)
    have H := H hx1.1 hx1.2 hx
    have hE0 : nE K J := hE.at (fun j q => by rw [f1 67 (by decide)]) (fun j q => by rw [f1 71 (by decide)]) (fun j q => by rw [f1 72 (by decide)]) h5.2 h8.2
    have loop : ∀ (n i : Nat) (K1 : zI) (l m : Int) (J1 : zI) (o : Option zV), (i : Int) + n = x1 → mWd K1 → K1 0 4 + n < 4000 → K1 0 2 = K 0 2 → K1 0 6 = K 0 6 → nE K1 J1 → 0 ≤ m → m ≤ i → (∀ y, y ≠ 67 → y ≠ 71 → y ≠ 72 → J1 y = J y) → (∀ j, j ≠ 7 → j ≠ 11 → j ≠ 12 → (j < 14 ∨ 28 < j) → J1 67 j = J 67 j) → (∀ J2, nF I J2 → Q1 (some (zi (mrv (mrn T n K1 l m) x2))) (c, J2, zRg g)) → zRn (zcl d) 177 B Q1 88 [some (zr 67), some (zi x1), some (zi x2), some (zi x3), some (zi l), some (zi m), some (zi (i : Nat)), o] [] (c, J1, zRg g) := by
      intro n
      induction n with
      | zero =>
        intro i K1 l m J1 o hi hK1 hd1 k2 k6 hE1 hm0 hm g1 g2 H
        have H : ∀ J2, nF I J2 → Q1 (some (zi (mrv (K1, l, m) x2))) (c, J2, zRg g) := H
        have back : ∀ z, (∀ J2, nF I J2 → Q1 (some (zi z)) (c, J2, zRg g)) → zcl d 176 0 0 [zr 67] (c, J1, zRg g) (fun v h1 => zRn (zcl d) 177 B Q1 178 [some (zr 67), some (zi x1), some (zi x2), some (zi x3), some (zi l), some (zi m), some (zi z), o] (zva v []) h1) := by
          intro z H
          have g73 : J1 73 = J 73 := g1 73 (by decide) (by decide) (by decide)
          refine r176 (by omega) (fun J2 a1 a2 a3 a4 a5 a6 a7 => g_x12_run_178 (H J2 ⟨fun y q1 q2 q3 q4 q5 => ?_, fun j q1 q2 q3 q4 => ?_, fun j q => ?_, fun j q => ?_⟩))
          · rw [a1 y q1 q2 q3, g1 y q1 q2 q3, f1 y q4]
          · by_cases w11 : j = 11
            · rw [w11, a5, g73, f4]
            · by_cases w12 : j = 12
              · rw [w12, a6, g73, f5]
              · by_cases w7 : j = 7
                · rw [w7, a7, g73, f6]
                · rw [a2 j w11 w12 w7, g2 j w7 w11 w12 q4, f1 67 (by decide)]
          · rw [a3 j q, g73, f2 j q]
          · rw [a4 j q, g73, f3 j q]
        unfold mrv at H
        refine g_x12_run_88 ⟨fun _ => ⟨fun u => ⟨fun u1 => ?_, fun u1 => back _ (fun J2 h2 => ?_)⟩, fun u => back _ (fun J2 h2 => ?_)⟩, fun w => absurd (by omega) w⟩
        · have idx : ∃ p : Nat, p < 5 ∧ (p : Int) < K 0 2 ∧ ((x2 = 10 + p ∧ zwr (zwr (5 * zwr (Int.tmod x2 10)) + zwr (Int.tdiv x2 10)) = ((5 * p + 1 : Nat) : Int)) ∨ (x2 = 20 + p ∧ zwr (zwr (5 * zwr (Int.tmod x2 10)) + zwr (Int.tdiv x2 10)) = ((5 * p + 2 : Nat) : Int))) := by
            rcases hx with q | q | q | q
            · exact absurd q u
            · exact absurd q u1
            · refine ⟨(x2 - 10).toNat, by omega, by omega, Or.inl ⟨by omega, ?_⟩⟩
              rw [ztm (by omega) (by omega) (by omega) (by omega), ztd (by omega) (by omega) (by omega), zwr_eq (show zIn (5 * (x2 % 10)) by omega), zwr_eq (show zIn (5 * (x2 % 10) + x2 / 10) by omega)]
              omega
            · refine ⟨(x2 - 20).toNat, by omega, by omega, Or.inr ⟨by omega, ?_⟩⟩
              rw [ztm (by omega) (by omega) (by omega) (by omega), ztd (by omega) (by omega) (by omega), zwr_eq (show zIn (5 * (x2 % 10)) by omega), zwr_eq (show zIn (5 * (x2 % 10) + x2 / 10) by omega)]
              omega
          obtain ⟨p, hp5, hp, hi⟩ := idx
          obtain ⟨-, -, ⟨b2, -⟩, b3, -⟩ := hE1.2.2 p (by rw [k2]; exact hp)
          rcases hi with ⟨ex, ei⟩ | ⟨ex, ei⟩
          · rw [ei, Int.toNat_natCast, ← b2]
            refine ⟨by omega, back _ (fun J2 h2 => ?_)⟩
            have H := H J2 h2
            rw [if_neg u, if_neg u1, if_pos (by omega), show (x2 - 10).toNat = p by omega] at H
            exact H
          · rw [ei, Int.toNat_natCast, ← b3]
            refine ⟨by omega, back _ (fun J2 h2 => ?_)⟩
            have H := H J2 h2
            rw [if_neg u, if_neg u1, if_neg (by omega), show (x2 - 20).toNat = p by omega] at H
            exact H
        · have H := H J2 h2
          rw [if_neg u, if_pos (Decidable.not_not.mp u1)] at H
          exact H
        · have H := H J2 h2
          rw [if_pos (Decidable.not_not.mp u)] at H
          exact H
      | succ n ih =>
        intro i K1 l m J1 o hi hK1 hd1 k2 k6 hE1 hm0 hm g1 g2 H
        have hr6 := hK.1.2.2
        have eR : nR J1 = nR I := by
          funext t
          unfold nR nb
          rw [g1 68 (by decide) (by decide) (by decide), g1 69 (by decide) (by decide) (by decide), f1 68 (by decide), f1 69 (by decide)]
        have eT : ∀ t q, t < 6 → nT J1 t q = nT I t q := by
          intro t q ht
          unfold nT
          rw [eR, if_pos ht, if_pos ht]
          have ex : mX J1 t q = mX I t q := by
            unfold mX mX0
            rw [g1 (46 + 3 * t) (by omega) (by omega) (by omega), g1 (45 + 3 * t) (by omega) (by omega) (by omega), f1 (46 + 3 * t) (by omega), f1 (45 + 3 * t) (by omega)]
          rw [ex]
        have hd2 := mpass_K (T := T) hK1 (by omega)
        have em : mrn T (n + 1) K1 l m = if (mpass T K1).2 = -1 then mrn T n (mpass T K1).1 l m else mrn T n (mpass T K1).1 (mpass T K1).2 (m + 1) := rfl
        rw [em] at H
        refine g_x12_run_88 ⟨fun w => absurd w (by omega), fun _ => r173 (K := K1) (T := T) (by omega) hK1 (by omega) hE1 ?_ ?_ ?_ (fun J2 a1 a2 a3 => g_x12_run_98 ?_)⟩
        · rw [g2 13 (by decide) (by decide) (by decide) (by decide), f1 67 (by decide)]; exact h13
        · rw [g2 4 (by decide) (by decide) (by decide) (by decide), f1 67 (by decide)]
          unfold nXo nb at hX ⊢
          rw [eR, g1 68 (by decide) (by decide) (by decide), g1 69 (by decide) (by decide) (by decide), f1 68 (by decide), f1 69 (by decide)]
          exact hX
        · intro q
          rw [k6, hT q, eT _ _ (by omega)]
        · obtain ⟨d1, d2, d3, d4, d5⟩ := hd2
          rw [z1p i (by omega), zwr_eq (show zIn (m + 1) by omega), zwr_eq (show zIn (m + 0) by omega), Int.add_zero]
          have nx : ∀ (l1 m1 : Int) (o1 : Option zV), 0 ≤ m1 → m1 ≤ (i + 1 : Nat) → (∀ J2, nF I J2 → Q1 (some (zi (mrv (mrn T n (mpass T K1).1 l1 m1) x2))) (c, J2, zRg g)) → zRn (zcl d) 177 B Q1 88 [some (zr 67), some (zi x1), some (zi x2), some (zi x3), some (zi l1), some (zi m1), some (zi ((i + 1 : Nat) : Int)), o1] [] (c, J2, zRg g) := fun l1 m1 o1 q1 q2 H => ih (i + 1) _ l1 m1 J2 o1 (by omega) d1 (by rw [d2]; omega) (by rw [d3]; exact k2) (by rw [d4]; exact k6) a3 q1 q2 (fun y w1 w2 w3 => by rw [a1 y w1 w2 w3]; exact g1 y w1 w2 w3) (fun j w1 w2 w3 w4 => by rw [a2 j w1 w2 w3 w4]; exact g2 j w1 w2 w3 w4) H
          refine ⟨fun w => ⟨fun _ => nx _ _ _ (by omega) (by omega) ?_, fun z => absurd w z⟩, fun w => ⟨fun z => absurd z w, fun _ => nx _ _ _ (by omega) (by omega) ?_⟩⟩
          · rw [if_neg w] at H; exact H
          · rw [if_pos (Decidable.not_not.mp w)] at H; exact H
    exact loop x1.toNat 0 K (-1) 0 J none (by omega) hK (by omega) rfl rfl hE0 (by omega) (by omega) (fun _ _ _ _ => rfl) (fun _ _ _ _ _ => rfl) H
  -- whether it is asked so
  have gate : ∀ x3 : Int, (x3 ≠ 0 ↔ ((10 ≤ x2 ∧ x2 < 10 + K 0 2) ∨ (20 ≤ x2 ∧ x2 < 20 + K 0 2))) → zcl d 130 0 0 [zl x1, zl 0, zl 20] (c, I, zRg g) (fun v h1 => zRn (zcl d) 177 B Q1 54 [some (zr 67), some (zi x1), some (zi x2), some (zi x3), none, none, none, none] (zva v []) h1) := by
    intro x3 h3
    refine r130 (by omega) (g_x12_run_54 ⟨fun u => Hb (fun q => mbo_0.mp u q.1), fun u => r130 (by omega) (g_x12_run_64 ⟨fun v => days (mbo_n0.mp u) (by have := mbo_n0.mp v; omega) x3, fun v => ⟨fun w => days (mbo_n0.mp u) (Or.inr (Or.inr (h3.mp w))) x3, fun w => Hb (fun q => ?_)⟩⟩)⟩)
    have v := mbo_0.mp (Decidable.not_not.mp v)
    have w2 : ¬ ((10 ≤ x2 ∧ x2 < 10 + K 0 2) ∨ (20 ≤ x2 ∧ x2 < 20 + K 0 2)) := fun z => w (h3.mpr z)
    omega
  have one : ((10 ≤ x2 ∧ x2 ≤ 14) ∨ (20 ≤ x2 ∧ x2 ≤ 24)) → zcl d 134 0 0 [zr 67, zi (zwr (Int.tmod x2 10))] (c, I, zRg g) (fun v h1 => zRn (zcl d) 177 B Q1 36 [some (zr 67), some (zi x1), some (zi x2), none, none, none, none, none] (zva v []) h1) := by
    intro hx
    rw [ztm (by omega) (by omega) (by omega) (by omega)]
    refine r134 (by omega) h9 (g_x12_run_36 ⟨fun u => gate 0 ⟨fun q => absurd rfl q, fun q => ?_⟩, fun u => gate 1 ⟨fun _ => ?_, fun _ => by decide⟩⟩)
    · have u := mbo_0.mp u
      rw [e9] at u
      omega
    · have u := mbo_n0.mp u
      rw [e9] at u
      omega
  refine r130 (by omega) (g_x12_run_11 ⟨fun u => one (Or.inl (mbo_n0.mp u)), fun u => r130 (by omega) (g_x12_run_25 ⟨fun v => gate 0 ⟨fun q => absurd rfl q, fun q => ?_⟩, fun v => one (Or.inr (mbo_n0.mp v))⟩)⟩)
  have u := mbo_0.mp (Decidable.not_not.mp u)
  have v := mbo_0.mp v
  omega
end
end
