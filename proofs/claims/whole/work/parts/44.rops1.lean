section
/-! the reference's face: people, the jetty, texts -/
section
variable {c : Nat × Nat × Nat} {I : zI} {g : Nat} {Q : zQ}
theorem r135 {e : Nat} (he : 3 ≤ e) (h9 : 0 ≤ I 67 9 ∧ I 67 9 ≤ 5) (h11 : 0 ≤ I 67 11 ∧ I 67 11 ≤ 8) {x y : Int} (H0 : ¬ (x = 0 ∨ 6 < x ∨ (x = 6 ∧ 0 ≤ y ∧ y < I 67 11) ∨ (x ≠ 6 ∧ 0 ≤ y ∧ y < I 67 9)) → Q (some (zi 0)) (c, I, zRg g)) (H1 : (x = 0 ∨ 6 < x ∨ (x = 6 ∧ 0 ≤ y ∧ y < I 67 11) ∨ (x ≠ 6 ∧ 0 ≤ y ∧ y < I 67 9)) → Q (some (zi 1)) (c, I, zRg g)) : zcl e 135 0 0 [zr 67, zi x, zi y] (c, I, zRg g) Q := by
  obtain ⟨d, rfl⟩ : ∃ d, e = d + 1 := ⟨e - 1, by omega⟩
  refine zen rfl rfl (fun B Q1 hQ => g_x12_isOf_0 ⟨fun u => hQ _ _ _ (H1 (Or.inl u)), fun u => ⟨fun u1 => hQ _ _ _ (H1 (Or.inr (Or.inl u1))), fun u1 => ⟨fun u2 => r134 (by omega) h9 (g_x12_isOf_40 ⟨fun w => hQ _ _ _ (H0 (fun q => mbo_0.mp w (by omega))), fun w => hQ _ _ _ (H1 (by have := mbo_n0.mp w; omega))⟩), fun u2 => ?_⟩⟩⟩)
  rw [zwr_eq (show zIn (I 67 11 - 1) by omega)]
  exact r130 (by omega) (g_x12_isOf_29 ⟨fun w => hQ _ _ _ (H0 (fun q => mbo_0.mp w (by omega))), fun w => hQ _ _ _ (H1 (by have := mbo_n0.mp w; omega))⟩)
theorem r136 {e : Nat} (he : 1 ≤ e) {x : Int} (H : Q (some (zi (mmo x))) (c, I, zRg g)) : zcl e 136 0 0 [zi x] (c, I, zRg g) Q := by
  obtain ⟨d, rfl⟩ : ∃ d, e = d + 1 := ⟨e - 1, by omega⟩
  refine zen rfl rfl (fun B Q1 hQ => g_x12_mostOf_0 ?_)
  have H := hQ _ _ _ H
  unfold mmo at H
  refine ⟨fun u => ⟨fun u1 => ⟨fun u2 => ?_, fun u2 => ?_⟩, fun u1 => ?_⟩, fun u => ?_⟩
  · rw [if_neg u, if_neg u1, if_neg u2] at H; exact H
  · rw [if_neg u, if_neg u1, if_pos (Decidable.not_not.mp u2)] at H; exact H
  · rw [if_neg u, if_pos (Decidable.not_not.mp u1)] at H; exact H
  · rw [if_pos (Decidable.not_not.mp u)] at H; exact H
theorem nix1 {x y : Int} (hx : 0 ≤ x ∧ x < 5) (hy : 1 ≤ y ∧ y ≤ 5) : zwr (zwr (zwr (5 * x) + y) - 1) = ((5 * x.toNat + (y.toNat - 1) : Nat) : Int) := by
  rw [zwr_eq (show zIn (5 * x) by omega), zwr_eq (show zIn (5 * x + y) by omega), zwr_eq (show zIn (5 * x + y - 1) by omega)]
  omega
theorem y_told {e : Nat} (he : 4 ≤ e) {x1 x2 : Int} (h9 : 0 ≤ I 67 9 ∧ I 67 9 ≤ 5) (h11 : 0 ≤ I 67 11 ∧ I 67 11 ≤ 8)
    (Hn : ¬ ((x2 = 0 ∨ x2 = 7 ∨ x2 = 8) ∨ (x2 = 6 ∧ 0 ≤ x1 ∧ x1 < I 67 11) ∨ ((1 ≤ x2 ∧ x2 ≤ 5) ∧ 0 ≤ x1 ∧ x1 < I 67 9)) → Q (some (zi (-1000))) (c, I, zRg g))
    (H0 : x2 = 0 → Q (some (zi (I 67 7))) (c, I, zRg g)) (H7 : x2 = 7 → Q (some (zi (I 67 11))) (c, I, zRg g)) (H8 : x2 = 8 → Q (some (zi (I 67 12))) (c, I, zRg g))
    (H6 : x2 = 6 → 0 ≤ x1 → x1 < I 67 11 → Q (some (zi (I 72 x1.toNat))) (c, I, zRg g))
    (H1 : 1 ≤ x2 → x2 ≤ 5 → 0 ≤ x1 → x1 < I 67 9 → Q (some (zi (I 71 (5 * x1.toNat + (x2.toNat - 1))))) (c, I, zRg g)) : zcl e 140 0 0 [zr 67, zi x1, zi x2] (c, I, zRg g) Q := by
  obtain ⟨d, rfl⟩ : ∃ d, e = d + 1 := ⟨e - 1, by omega⟩
  refine zen rfl rfl (fun B Q1 hQ => g_x12_told_0 (r130 (by omega) (g_x12_told_9 ⟨fun u => hQ _ _ _ (Hn (fun q => mbo_0.mp u (by omega))), fun u => r135 (by omega) h9 h11 (fun v => g_x12_told_18 ⟨fun w => absurd rfl w, fun _ => hQ _ _ _ (Hn (fun q => v (by omega)))⟩) (fun v => g_x12_told_18 ⟨fun _ => ?_, fun w => absurd (by decide) w⟩)⟩)))
  have u := mbo_n0.mp u
  refine ⟨fun w => ⟨fun w1 => ⟨fun w2 => hQ _ _ _ (H8 (by omega)), fun w2 => hQ _ _ _ (H7 (by omega))⟩, fun w1 => ⟨by omega, hQ _ _ _ (H6 (by omega) (by omega) (by omega))⟩⟩, fun w => ⟨fun w1 => ?_, fun w1 => hQ _ _ _ (H0 (by omega))⟩⟩
  rw [nix1 (x := x1) (y := x2) (by omega) (by omega)]
  exact ⟨by omega, by rw [Int.toNat_natCast]; exact hQ _ _ _ (H1 (by omega) (by omega) (by omega) (by omega))⟩
theorem r138 {e : Nat} (he : 1 ≤ e) {x1 x2 x3 : Int} (h : 1 ≤ x1 → x1 ≤ 5 → 0 ≤ x2 ∧ x2 < 5) (H0 : x1 = 0 → Q none (c, z2 I 67 7 x3, zRg g)) (H6 : 6 ≤ x1 → Q none (c, z2 I 67 4 x3, zRg g)) (H1 : 1 ≤ x1 → x1 ≤ 5 → Q none (c, z2 I 71 (5 * x2.toNat + (x1.toNat - 1)) x3, zRg g)) (hx : 0 ≤ x1) : zcl e 138 0 0 [zr 67, zi x1, zi x2, zi x3] (c, I, zRg g) Q := by
  obtain ⟨d, rfl⟩ : ∃ d, e = d + 1 := ⟨e - 1, by omega⟩
  refine zen rfl rfl (fun B Q1 hQ => g_x12_lays_0 ⟨fun u => ⟨fun u1 => hQ _ _ _ (H6 u1), fun u1 => ?_⟩, fun u => hQ _ _ _ (H0 (Decidable.not_not.mp u))⟩)
  rw [nix1 (x := x2) (y := x1) (h (by omega) (by omega)) (by omega)]
  have h2 := h (by omega) (by omega)
  exact ⟨by omega, by rw [Int.toNat_natCast]; exact hQ _ _ _ (H1 (by omega) (by omega))⟩
theorem y_set {e : Nat} (he : 6 ≤ e) {x1 x2 x3 : Int} (h9 : 0 ≤ I 67 9 ∧ I 67 9 ≤ 5) (h11 : 0 ≤ I 67 11 ∧ I 67 11 ≤ 8)
    (Hb : ¬ ((0 ≤ x1 ∧ x1 ≤ 4) ∧ (x1 = 0 ∨ (0 ≤ x2 ∧ x2 < I 67 9)) ∧ 0 ≤ x3 ∧ x3 ≤ mmo x1) → Q (some (zi (-2))) (c, I, zRg g))
    (H0 : x1 = 0 → 0 ≤ x3 → x3 ≤ 999 → Q (some (zi (I 67 7))) (c, z2 I 67 7 x3, zRg g))
    (H1 : 1 ≤ x1 → x1 ≤ 4 → 0 ≤ x2 → x2 < I 67 9 → 0 ≤ x3 → x3 ≤ mmo x1 → Q (some (zi (I 71 (5 * x2.toNat + (x1.toNat - 1))))) (c, z2 I 71 (5 * x2.toNat + (x1.toNat - 1)) x3, zRg g)) : zcl e 137 0 0 [zr 67, zi x1, zi x2, zi x3] (c, I, zRg g) Q := by
  obtain ⟨d, rfl⟩ : ∃ d, e = d + 1 := ⟨e - 1, by omega⟩
  refine zen rfl rfl (fun B Q1 hQ => g_x12_set_0 (r130 (by omega) (g_x12_set_9 ⟨fun u => hQ _ _ _ (Hb (fun q => mbo_0.mp u (by omega))), fun u => r135 (by omega) h9 h11 (fun v => g_x12_set_18 ⟨fun _ => hQ _ _ _ (Hb (fun q => v (by omega))), fun w => absurd rfl w⟩) (fun v => g_x12_set_18 ⟨fun w => absurd w (by decide), fun _ => r136 (by omega) (g_x12_set_28 (r130 (by omega) (g_x12_set_32 ⟨fun w => ?_, fun w => hQ _ _ _ (Hb (fun q => mbo_0.mp (Decidable.not_not.mp w) q.2.2))⟩)))⟩)⟩)))
  have u := mbo_n0.mp u
  have w := mbo_n0.mp w
  have fin : ∀ (z : Int), (x1 = 0 → z = I 67 7) → (1 ≤ x1 → z = I 71 (5 * x2.toNat + (x1.toNat - 1))) → zRn (zcl d) 137 B Q1 44 [some (zr 67), some (zi x1), some (zi x2), some (zi x3), none] [zi z] (c, I, zRg g) := by
    intro z z0 z1
    refine g_x12_set_44 (r138 (by omega) (fun _ _ => by omega) (fun q => g_x12_set_53 ?_) (fun q => absurd q (by omega)) (fun q1 q2 => g_x12_set_53 ?_) (by omega))
    · rw [z0 q]
      subst q
      exact hQ _ _ _ (H0 rfl w.1 w.2)
    · rw [z1 q1]
      exact hQ _ _ _ (H1 q1 (by omega) (by omega) (by omega) w.1 w.2)
  refine y_told (by omega) h9 h11 (fun q => absurd ?_ q) (fun q => fin _ (fun _ => rfl) (fun r => absurd r (by omega))) (fun q => absurd q (by omega)) (fun q => absurd q (by omega)) (fun q => absurd q (by omega)) (fun q1 q2 q3 q4 => fin _ (fun r => absurd r (by omega)) (fun _ => rfl))
  omega
theorem y_person {e : Nat} (he : 2 ≤ e) {x1 x2 x3 x4 : Int} (h9 : 0 ≤ I 67 9 ∧ I 67 9 ≤ 5)
    (Hb : ¬ ((0 ≤ x1 ∧ x1 ≤ 5) ∧ (0 ≤ x2 ∧ x2 ≤ 9) ∧ mR x3 ∧ 0 ≤ x4 ∧ x4 ≤ 99) → Q (some (zi (-2))) (c, I, zRg g))
    (Hf : (0 ≤ x1 ∧ x1 ≤ 5) ∧ (0 ≤ x2 ∧ x2 ≤ 9) ∧ mR x3 ∧ 0 ≤ x4 ∧ x4 ≤ 99 → I 67 9 = 5 → Q (some (zi (-4))) (c, I, zRg g))
    (H1 : (0 ≤ x1 ∧ x1 ≤ 5) ∧ (0 ≤ x2 ∧ x2 ≤ 9) ∧ mR x3 ∧ 0 ≤ x4 ∧ x4 ≤ 99 → I 67 9 < 5 → ∀ J, (∀ y, y ≠ 67 → y ≠ 71 → J y = I y) → (∀ j, j ≠ 9 → J 67 j = I 67 j) → J 67 9 = I 67 9 + 1 → (∀ j, (j < 5 * (I 67 9).toNat ∨ 5 * (I 67 9).toNat + 5 ≤ j) → J 71 j = I 71 j) → J 71 (5 * (I 67 9).toNat) = x2 → J 71 (5 * (I 67 9).toNat + 1) = x3 → J 71 (5 * (I 67 9).toNat + 2) = x4 → J 71 (5 * (I 67 9).toNat + 3) = 0 → J 71 (5 * (I 67 9).toNat + 4) = x1 → Q (some (zi (I 67 9))) (c, J, zRg g)) : zcl e 139 0 0 [zr 67, zi x1, zi x2, zi x3, zi x4] (c, I, zRg g) Q := by
  obtain ⟨d, rfl⟩ : ∃ d, e = d + 1 := ⟨e - 1, by omega⟩
  refine zen rfl rfl (fun B Q1 hQ => g_x12_person_0 (r130 (by omega) (g_x12_person_9 ⟨fun u => hQ _ _ _ (Hb (fun q => mbo_0.mp u q.1)), fun u => r130 (by omega) (g_x12_person_21 ⟨fun v => hQ _ _ _ (Hb (fun q => mbo_0.mp v q.2.1)), fun v => r130 (by omega) (g_x12_person_33 ⟨fun w => hQ _ _ _ (Hb (fun q => mbo_0.mp w (by omega))), fun w => r130 (by omega) (g_x12_person_46 ⟨fun z => ?_, fun z => hQ _ _ _ (Hb (fun q => mbo_0.mp (Decidable.not_not.mp z) q.2.2.2))⟩)⟩)⟩)⟩)))
  have u := mbo_n0.mp u
  have v := mbo_n0.mp v
  have w := mbo_n0.mp w
  have z := mbo_n0.mp z
  have ok : (0 ≤ x1 ∧ x1 ≤ 5) ∧ (0 ≤ x2 ∧ x2 ≤ 9) ∧ mR x3 ∧ 0 ≤ x4 ∧ x4 ≤ 99 := ⟨u, v, by omega, z⟩
  refine ⟨fun u5 => ?_, fun u5 => hQ _ _ _ (Hf ok (by omega))⟩
  have hp : (I 67 9).toNat < 5 := by omega
  have ep : I 67 9 = (((I 67 9).toNat : Nat) : Int) := by omega
  have H1 := fun J a1 a2 a3 a4 a5 a6 a7 a8 a9 => hQ _ _ _ (H1 ok (by omega) J a1 a2 a3 a4 a5 a6 a7 a8 a9)
  have f0 : zwr (5 * I 67 9) = ((5 * (I 67 9).toNat : Nat) : Int) := by rw [ep]; exact nix0 hp
  have f1 : zwr (zwr (5 * I 67 9) + 1) = ((5 * (I 67 9).toNat + 1 : Nat) : Int) := by rw [ep]; exact nix (k := 1) hp (by decide)
  have f2 : zwr (zwr (5 * I 67 9) + 2) = ((5 * (I 67 9).toNat + 2 : Nat) : Int) := by rw [ep]; exact nix (k := 2) hp (by decide)
  have f3 : zwr (zwr (5 * I 67 9) + 3) = ((5 * (I 67 9).toNat + 3 : Nat) : Int) := by rw [ep]; exact nix (k := 3) hp (by decide)
  have f4 : zwr (zwr (5 * I 67 9) + 4) = ((5 * (I 67 9).toNat + 4 : Nat) : Int) := by rw [ep]; exact nix (k := 4) hp (by decide)
  rw [f1, f2, f3, f4, f0]
  rw [Int.toNat_natCast, Int.toNat_natCast, Int.toNat_natCast, Int.toNat_natCast, Int.toNat_natCast]
  have f9 : z2 (z2 (z2 (z2 (z2 I 71 (5 * (I 67 9).toNat) x2) 71 (5 * (I 67 9).toNat + 1) x3) 71 (5 * (I 67 9).toNat + 2) x4) 71 (5 * (I 67 9).toNat + 3) 0) 71 (5 * (I 67 9).toNat + 4) x1 67 9 = I 67 9 := by
    rw [z2_n (Or.inl (by decide)), z2_n (Or.inl (by decide)), z2_n (Or.inl (by decide)), z2_n (Or.inl (by decide)), z2_n (Or.inl (by decide))]
  rw [f9, zwr_eq (show zIn (I 67 9 + 1) by omega), zwr_eq (show zIn (I 67 9 + 1 - 1) by omega), show I 67 9 + 1 - 1 = I 67 9 by omega]
  clear f0 f1 f2 f3 f4 f9
  generalize (I 67 9).toNat = m at H1 hp ep ⊢
  refine ⟨by omega, by omega, by omega, by omega, by omega, H1 _ (fun y q1 q2 => ?_) (fun j q => ?_) z2_s (fun j q => ?_) ?_ ?_ ?_ ?_ ?_⟩
  · rw [z2_r q1, z2_r q2, z2_r q2, z2_r q2, z2_r q2, z2_r q2]
  · rw [z2_n (Or.inr q), z2_n (Or.inl (by decide)), z2_n (Or.inl (by decide)), z2_n (Or.inl (by decide)), z2_n (Or.inl (by decide)), z2_n (Or.inl (by decide))]
  · rw [z2_n (Or.inl (by decide)), z2_n (Or.inr (by omega)), z2_n (Or.inr (by omega)), z2_n (Or.inr (by omega)), z2_n (Or.inr (by omega)), z2_n (Or.inr (by omega))]
  · rw [z2_n (Or.inl (by decide)), z2_n (Or.inr (by omega)), z2_n (Or.inr (by omega)), z2_n (Or.inr (by omega)), z2_n (Or.inr (by omega)), z2_s]
  · rw [z2_n (Or.inl (by decide)), z2_n (Or.inr (by omega)), z2_n (Or.inr (by omega)), z2_n (Or.inr (by omega)), z2_s]
  · rw [z2_n (Or.inl (by decide)), z2_n (Or.inr (by omega)), z2_n (Or.inr (by omega)), z2_s]
  · rw [z2_n (Or.inl (by decide)), z2_n (Or.inr (by omega)), z2_s]
  · rw [z2_n (Or.inl (by decide)), z2_s]
theorem y_brings {e : Nat} (he : 2 ≤ e) {x1 : Int} (h0 : 0 ≤ I 67 11) (h8 : I 67 11 ≤ 8) (Hb : ¬ (1 ≤ x1 ∧ x1 < 1024) → Q (some (zi (-2))) (c, I, zRg g)) (Hf : 1 ≤ x1 ∧ x1 < 1024 → I 67 11 = 8 → Q (some (zi (-4))) (c, I, zRg g))
    (H1 : 1 ≤ x1 ∧ x1 < 1024 → I 67 11 < 8 → Q (some (zi (I 67 11 + 1))) (c, z2 (z2 I 72 (I 67 11).toNat x1) 67 11 (I 67 11 + 1), zRg g)) : zcl e 141 0 0 [zr 67, zi x1] (c, I, zRg g) Q := by
  obtain ⟨d, rfl⟩ : ∃ d, e = d + 1 := ⟨e - 1, by omega⟩
  refine zen rfl rfl (fun B Q1 hQ => g_x12_brings_0 (r130 (by omega) (g_x12_brings_9 ⟨fun u => ⟨fun v => ⟨by omega, ?_⟩, fun v => hQ _ _ _ (Hf (by have := mbo_n0.mp u; omega) (by omega))⟩, fun u => hQ _ _ _ (Hb (fun q => mbo_0.mp (Decidable.not_not.mp u) (by omega)))⟩)))
  rw [z2_n (Or.inl (by decide)), zwr_eq (show zIn (I 67 11 + 1) by omega)]
  exact hQ _ _ _ (H1 (by have := mbo_n0.mp u; omega) (by omega))
theorem y_feed {e : Nat} (he : 2 ≤ e) {x1 : Int} (h0 : 0 ≤ I 67 6) (h8 : I 67 6 ≤ 160) (Hb : ¬ (0 ≤ x1 ∧ x1 ≤ 255) → Q (some (zi (-2))) (c, I, zRg g)) (Hf : 0 ≤ x1 ∧ x1 ≤ 255 → I 67 6 = 160 → Q (some (zi (-4))) (c, I, zRg g))
    (H1 : 0 ≤ x1 ∧ x1 ≤ 255 → I 67 6 < 160 → Q (some (zi (I 67 6 + 1))) (c, z2 (z2 I 70 (I 67 6).toNat x1) 67 6 (I 67 6 + 1), zRg g)) : zcl e 142 0 0 [zr 67, zi x1] (c, I, zRg g) Q := by
  obtain ⟨d, rfl⟩ : ∃ d, e = d + 1 := ⟨e - 1, by omega⟩
  refine zen rfl rfl (fun B Q1 hQ => g_x12_feed_0 (r130 (by omega) (g_x12_feed_9 ⟨fun u => ⟨fun v => ⟨by omega, ?_⟩, fun v => hQ _ _ _ (Hf (mbo_n0.mp u) (by omega))⟩, fun u => hQ _ _ _ (Hb (mbo_0.mp (Decidable.not_not.mp u)))⟩)))
  rw [z2_n (Or.inl (by decide)), zwr_eq (show zIn (I 67 6 + 1) by omega)]
  exact hQ _ _ _ (H1 (mbo_n0.mp u) (by omega))
theorem y_force {e : Nat} (he : 2 ≤ e) {x1 : Int} (h : 0 ≤ I 67 3 ∧ I 67 3 ≤ 6) (Hb : ¬ (0 ≤ x1 ∧ x1 < I 67 3) → Q (some (zi (-2))) (c, I, zRg g)) (H1 : 0 ≤ x1 → x1 < I 67 3 → Q (some (zi (I 67 4))) (c, z2 I 67 4 x1, zRg g)) : zcl e 160 0 0 [zr 67, zi x1] (c, I, zRg g) Q := by
  obtain ⟨d, rfl⟩ : ∃ d, e = d + 1 := ⟨e - 1, by omega⟩
  refine zen rfl rfl (fun B Q1 hQ => g_x12_force_0 ?_)
  rw [zwr_eq (show zIn (I 67 3 - 1) by omega)]
  exact r130 (by omega) (g_x12_force_13 ⟨fun u => hQ _ _ _ (H1 (mbo_n0.mp u).1 (by have := mbo_n0.mp u; omega)), fun u => hQ _ _ _ (Hb (fun q => mbo_0.mp (Decidable.not_not.mp u) (by omega)))⟩)
theorem y_text {e : Nat} (he : 50 ≤ e) {n : Nat} (hn : I 67 6 = (n : Int)) (h160 : n ≤ 160) (h6 : 0 ≤ I 67 3 ∧ I 67 3 ≤ 6) (hby : ∀ i, i < n → 0 ≤ I 70 i ∧ I 70 i ≤ 255) (Hf : I 67 3 = 6 → Q (some (zi (-4))) (c, I, zRg g))
    (H1 : I 67 3 < 6 → ∀ J b k c0 c1 c2, (∀ y, y ≠ 67 → y ≠ 68 → y ≠ 69 → J y = I y) → (∀ j, j ≠ 3 → j ≠ 6 → (j < 14 ∨ 28 < j) → J 67 j = I 67 j) → J 67 6 = 0 → (∀ i, ¬ (160 * (I 67 3).toNat ≤ i ∧ i < 160 * (I 67 3).toNat + 160) → J 68 i = I 68 i) → (∀ i, i ≠ (I 67 3).toNat → J 69 i = I 69 i) → J 69 (I 67 3).toNat = (n : Int) → nb J (I 67 3).toNat = b → (∀ i, i < n → b i = I 70 i) → mtext (mkd b n) (mvl b n) = (true, k, c0, c1, c2) → J 67 3 = I 67 3 + 1 → Q (some (zi (I 67 3))) (c, J, zRg g))
    (H0 : I 67 3 < 6 → ∀ J b k c0 c1 c2, (∀ y, y ≠ 67 → y ≠ 68 → y ≠ 69 → J y = I y) → (∀ j, j ≠ 6 → (j < 14 ∨ 28 < j) → J 67 j = I 67 j) → J 67 6 = 0 → (∀ i, ¬ (160 * (I 67 3).toNat ≤ i ∧ i < 160 * (I 67 3).toNat + 160) → J 68 i = I 68 i) → (∀ i, i ≠ (I 67 3).toNat → J 69 i = I 69 i) → (∀ i, i < n → b i = I 70 i) → mtext (mkd b n) (mvl b n) = (false, k, c0, c1, c2) → Q (some (zi (-100 - (mpl b n k : Nat)))) (c, J, zRg g)) : zcl e 159 0 0 [zr 67] (c, I, zRg g) Q := by
  obtain ⟨d, rfl⟩ : ∃ d, e = d + 1 := ⟨e - 1, by omega⟩
  refine zen rfl rfl (fun B Q1 hQ => g_x12_text_0 ⟨fun u => ?_, fun u => hQ _ _ _ (Hf (by omega))⟩)
  have ht : (I 67 3).toNat < 6 := by omega
  have et : I 67 3 = (((I 67 3).toNat : Nat) : Int) := by omega
  have H1 := fun J b k c0 c1 c2 a1 a2 a3 a4 a5 a6 a7 a8 a9 a10 => hQ _ _ _ (H1 (by omega) J b k c0 c1 c2 a1 a2 a3 a4 a5 a6 a7 a8 a9 a10)
  have H0 := fun J b k c0 c1 c2 a1 a2 a3 a4 a5 a6 a7 => hQ _ _ _ (H0 (by omega) J b k c0 c1 c2 a1 a2 a3 a4 a5 a6 a7)
  have loop : ∀ (a i : Nat) (J : zI), i + a = n → (∀ y, y ≠ 68 → J y = I y) → (∀ j, ¬ (160 * (I 67 3).toNat ≤ j ∧ j < 160 * (I 67 3).toNat + 160) → J 68 j = I 68 j) → (∀ j, j < i → J 68 (160 * (I 67 3).toNat + j) = I 70 j) → zRn (zcl d) 159 B Q1 14 [some (zr 67), some (zi (i : Nat))] [] (c, J, zRg g) := by
    intro a
    induction a with
    | zero =>
      intro i J hi f1 f2 f3
      have e67 : J 67 = I 67 := f1 67 (by decide)
      refine g_x12_text_14 ⟨fun _ => ?_, fun w => absurd (by rw [e67, hn]; omega) w⟩
      rw [e67, z2_n (Or.inl (show 67 ≠ 69 by decide)), e67, hn]
      refine ⟨by omega, ?_⟩
      have hin : i = n := by omega
      have g1 : ∀ y, y ≠ 67 → y ≠ 68 → y ≠ 69 → z2 (z2 J 69 (I 67 3).toNat (n : Int)) 67 6 0 y = I y := fun y q1 q2 q3 => by rw [z2_r q1, z2_r q3]; exact f1 y q2
      have g2 : ∀ j, j ≠ 6 → z2 (z2 J 69 (I 67 3).toNat (n : Int)) 67 6 0 67 j = I 67 j := fun j q => by rw [z2_n (Or.inr q), z2_n (Or.inl (by decide)), e67]
      have g3 : z2 (z2 J 69 (I 67 3).toNat (n : Int)) 67 6 0 67 6 = 0 := z2_s
      have g4 : z2 (z2 J 69 (I 67 3).toNat (n : Int)) 67 6 0 68 = J 68 := by rw [z2_r (by decide), z2_r (by decide)]
      have g5 : ∀ j, j ≠ (I 67 3).toNat → z2 (z2 J 69 (I 67 3).toNat (n : Int)) 67 6 0 69 j = I 69 j := fun j q => by rw [z2_n (Or.inl (by decide)), z2_n (Or.inr q), f1 69 (by decide)]
      have g6 : z2 (z2 J 69 (I 67 3).toNat (n : Int)) 67 6 0 69 (I 67 3).toNat = (n : Int) := by rw [z2_n (Or.inl (by decide)), z2_s]
      generalize z2 (z2 J 69 (I 67 3).toNat (n : Int)) 67 6 0 = K at g1 g2 g3 g4 g5 g6 ⊢
      have hb : ∀ i, i < n → nb K (I 67 3).toNat i = I 70 i := fun j hj => by
        unfold nb
        rw [g4]
        exact f3 j (by omega)
      rw [et]
      refine r158 (q := 0) (by omega) ht (by decide) g6 h160 (fun j hj => by rw [hb j hj]; exact hby j hj) (fun J1 x hJ1 t1 t2 => g_x12_text_76 ?_)
      have e3 : J1 67 3 = I 67 3 := by rw [hJ1.2 3 (by decide), g2 3 (by decide)]
      have q1 : ∀ y, y ≠ 67 → y ≠ 68 → y ≠ 69 → J1 y = I y := fun y w1 w2 w3 => by rw [hJ1.1 y w1]; exact g1 y w1 w2 w3
      have q2 : ∀ j, j ≠ 6 → (j < 14 ∨ 28 < j) → J1 67 j = I 67 j := fun j w1 w2 => by rw [hJ1.2 j w2]; exact g2 j w1
      have q3 : J1 67 6 = 0 := by rw [hJ1.2 6 (by decide)]; exact g3
      have q4 : ∀ i, ¬ (160 * (I 67 3).toNat ≤ i ∧ i < 160 * (I 67 3).toNat + 160) → J1 68 i = I 68 i := fun i w => by rw [hJ1.1 68 (by decide), g4]; exact f2 i w
      have q5 : ∀ i, i ≠ (I 67 3).toNat → J1 69 i = I 69 i := fun i w => by rw [hJ1.1 69 (by decide)]; exact g5 i w
      have q6 : J1 69 (I 67 3).toNat = n := by rw [hJ1.1 69 (by decide)]; exact g6
      have eb : nb J1 (I 67 3).toNat = nb K (I 67 3).toNat := by
        unfold nb
        rw [hJ1.1 68 (by decide)]
      generalize hr : mtext (mkd (nb K (I 67 3).toNat) n) (mvl (nb K (I 67 3).toNat) n) = r at t1 t2
      obtain ⟨b0, k, c0, c1, c2⟩ := r
      cases b0 with
      | true =>
        have t1 := t1 k c0 c1 c2 rfl
        refine ⟨fun _ => ?_, fun w => absurd t1.1 w⟩
        rw [e3, zwr_eq (show zIn (I 67 3 + 1) by omega), zwr_eq (show zIn (I 67 3 + 1 - 1) by omega), show I 67 3 + 1 - 1 = I 67 3 by omega]
        refine H1 _ (nb K (I 67 3).toNat) k c0 c1 c2 (fun y w1 w2 w3 => by rw [z2_r w1]; exact q1 y w1 w2 w3) (fun j w1 w2 w3 => by rw [z2_n (Or.inr w1)]; exact q2 j w2 w3) (by rw [z2_n (Or.inr (by decide))]; exact q3) (fun i w => by rw [z2_n (Or.inl (by decide))]; exact q4 i w) (fun i w => by rw [z2_n (Or.inl (by decide))]; exact q5 i w) (by rw [z2_n (Or.inl (by decide))]; exact q6) ?_ hb hr z2_s
        rw [← eb]
        unfold nb
        rw [z2_r (by decide)]
      | false =>
        have t2 := t2 k c0 c1 c2 rfl
        refine ⟨fun w => absurd (t2.1.symm.trans w) (by decide), fun _ => ?_⟩
        have hpl : mpl (nb K (I 67 3).toNat) n k ≤ n := mlx_nx.2
        rw [t2.2, zwr_eq (show zIn (-100 - ((mpl (nb K (I 67 3).toNat) n k : Nat) : Int)) by omega)]
        exact H0 J1 (nb K (I 67 3).toNat) k c0 c1 c2 q1 q2 q3 q4 q5 hb hr
    | succ a ih =>
      intro i J hi f1 f2 f3
      have e67 : J 67 = I 67 := f1 67 (by decide)
      have ei : zwr (zwr (160 * I 67 3) + (i : Int)) = ((160 * (I 67 3).toNat + i : Nat) : Int) := by
        rw [zwr_eq (show zIn (160 * I 67 3) by omega), zwr_eq (show zIn (160 * I 67 3 + (i : Int)) by omega)]
        omega
      refine g_x12_text_14 ⟨fun w => absurd w (by rw [e67, hn]; omega), fun _ => ?_⟩
      rw [e67, ei]
      refine ⟨by omega, by omega, ?_⟩
      rw [Int.toNat_natCast, Int.toNat_natCast, z1p i (by omega), f1 70 (by decide)]
      refine ih (i + 1) _ (by omega) (fun y q => by rw [z2_r q]; exact f1 y q) (fun j q => by rw [z2_n (Or.inr (by omega))]; exact f2 j q) (fun j hj => ?_)
      by_cases q : j = i
      · rw [q, z2_s]
      · rw [z2_n (Or.inr (by omega))]; exact f3 j (by omega)
  exact loop n 0 I (by omega) (fun _ _ => rfl) (fun _ _ => rfl) (fun j hj => absurd hj (by omega))
end
end
