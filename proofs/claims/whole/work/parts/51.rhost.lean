section
/-! the reference: crew, taken, image, back, count, cell, copy -/
theorem nE_person {K J J1 : zI} (hE : nE K J) (h0 : 0 ≤ K 0 2) (h5 : K 0 2 < 5) {a b e f : Int} (ok : mpok a b e f) (g1 : ∀ y, y ≠ 67 → y ≠ 71 → J1 y = J y) (g2 : ∀ j, j ≠ 9 → J1 67 j = J 67 j) (g3 : J1 67 9 = J 67 9 + 1) (g4 : ∀ j, (j < 5 * (J 67 9).toNat ∨ 5 * (J 67 9).toNat + 5 ≤ j) → J1 71 j = J 71 j) (p0 : J1 71 (5 * (J 67 9).toNat) = b) (p1 : J1 71 (5 * (J 67 9).toNat + 1) = e) (p2 : J1 71 (5 * (J 67 9).toNat + 2) = f) (p3 : J1 71 (5 * (J 67 9).toNat + 3) = 0) (p4 : J1 71 (5 * (J 67 9).toNat + 4) = a) : nE (mper K a b e f) J1 := by
  obtain ⟨⟨a1, a2, a3, a4, a5⟩, bb, ee⟩ := hE
  rw [← a1] at g3 g4 p0 p1 p2 p3 p4
  have em : mper K a b e f = z2 (z2 (z2 (z2 (z2 (z2 K (3 + (K 0 2).toNat) 0 a) (3 + (K 0 2).toNat) 1 b) (3 + (K 0 2).toNat) 2 e) (3 + (K 0 2).toNat) 3 f) (3 + (K 0 2).toNat) 4 0) 0 2 (K 0 2 + 1) := if_pos ⟨ok, h5⟩
  rw [em]
  have hm : K 0 2 = (((K 0 2).toNat : Nat) : Int) := by omega
  generalize (K 0 2).toNat = m at *
  have r0 : ∀ j, j ≠ 2 → z2 (z2 (z2 (z2 (z2 (z2 K (3 + m) 0 a) (3 + m) 1 b) (3 + m) 2 e) (3 + m) 3 f) (3 + m) 4 0) 0 2 (K 0 2 + 1) 0 j = K 0 j := fun j q => by
    rw [z2_n (Or.inr q), z2_n (Or.inl (by omega)), z2_n (Or.inl (by omega)), z2_n (Or.inl (by omega)), z2_n (Or.inl (by omega)), z2_n (Or.inl (by omega))]
  have r2 : ∀ y, y ≠ 0 → y ≠ 3 + m → z2 (z2 (z2 (z2 (z2 (z2 K (3 + m) 0 a) (3 + m) 1 b) (3 + m) 2 e) (3 + m) 3 f) (3 + m) 4 0) 0 2 (K 0 2 + 1) y = K y := fun y q1 q2 => by
    rw [z2_r q1, z2_r q2, z2_r q2, z2_r q2, z2_r q2, z2_r q2]
  refine ⟨⟨by rw [z2_s, g3], by rw [r0 3 (by decide), g2 11 (by decide)]; exact a2, by rw [r0 4 (by decide), g2 7 (by decide)]; exact a3, by rw [r0 5 (by decide), g2 12 (by decide)]; exact a4, by rw [r0 6 (by decide), g2 4 (by decide)]; exact a5⟩, fun j hj => ?_, fun p hp => ?_⟩
  · rw [r0 3 (by decide)] at hj
    rw [r2 2 (by decide) (by omega), g1 72 (by decide) (by decide)]
    exact bb j hj
  · rw [z2_s] at hp
    by_cases q : p = m
    · rw [q]
      have n0 : 3 + m ≠ 0 := by omega
      refine ⟨?_, ?_, ⟨?_, ?_⟩, ?_, ?_⟩
      · rw [z2_n (Or.inl n0), z2_n (Or.inr (by decide)), z2_n (Or.inr (by decide)), z2_n (Or.inr (by decide)), z2_n (Or.inr (by decide)), z2_s, p4]
      · rw [z2_n (Or.inl n0), z2_n (Or.inr (by decide)), z2_n (Or.inr (by decide)), z2_n (Or.inr (by decide)), z2_s, p0]
      · rw [z2_n (Or.inl n0), z2_n (Or.inr (by decide)), z2_n (Or.inr (by decide)), z2_s, p1]
      · rw [p1]; exact ok.2.2.1
      · rw [z2_n (Or.inl n0), z2_n (Or.inr (by decide)), z2_s, p2]
      · rw [z2_n (Or.inl n0), z2_s, p3]
    · rw [r2 (3 + p) (by omega) (by omega), g4 (5 * p + 4) (by omega), g4 (5 * p) (by omega), g4 (5 * p + 1) (by omega), g4 (5 * p + 2) (by omega), g4 (5 * p + 3) (by omega)]
      exact ee p (by omega)
section
variable {c : Nat × Nat × Nat} {I : zI} {g : Nat} {Q : zQ}
/-- what stays where people come -/
def nC (I J : zI) : Prop := (∀ y, y ≠ 67 → y ≠ 71 → J y = I y) ∧ ∀ j, j ≠ 9 → J 67 j = I 67 j
theorem y_perK {e : Nat} (he : 2 ≤ e) {K : zI} (h : 0 ≤ K 0 2 ∧ K 0 2 ≤ 5) (hE : nE K I) {x1 x2 x3 x4 : Int} (H : ∀ J, nC I J → nE (mper K x1 x2 x3 x4) J → Q (some (zi (mperr K x1 x2 x3 x4))) (c, J, zRg g)) : zcl e 139 0 0 [zr 67, zi x1, zi x2, zi x3, zi x4] (c, I, zRg g) Q := by
  have e9 : K 0 2 = I 67 9 := hE.1.1
  refine y_person he (by omega) (fun q => ?_) (fun q q2 => ?_) (fun q q2 J a1 a2 a3 a4 a5 a6 a7 a8 a9 => ?_)
  · have H := H I ⟨fun _ _ _ => rfl, fun _ _ => rfl⟩
    have e1 : mper K x1 x2 x3 x4 = K := if_neg (fun w => q w.1)
    have e2 : mperr K x1 x2 x3 x4 = -2 := if_neg q
    rw [e1, e2] at H
    exact H hE
  · have H := H I ⟨fun _ _ _ => rfl, fun _ _ => rfl⟩
    have e1 : mper K x1 x2 x3 x4 = K := if_neg (fun w => by omega)
    have e2 : mperr K x1 x2 x3 x4 = -4 := by unfold mperr; rw [if_pos q, if_neg (by omega)]
    rw [e1, e2] at H
    exact H hE
  · have H := H J ⟨a1, a2⟩ (nE_person hE h.1 (by omega) q a1 a2 a3 a4 a5 a6 a7 a8 a9)
    have e2 : mperr K x1 x2 x3 x4 = I 67 9 := by unfold mperr; rw [if_pos q, if_pos (by omega), e9]
    rw [e2] at H
    exact H
theorem y_crew {e : Nat} (he : 4 ≤ e) {x1 x2 x3 x4 : Int} (hx3 : zIn x3) {cl : Nat → Int} {K : zI} (h2 : 0 ≤ K 0 2 ∧ K 0 2 ≤ 5) (hE : nE K I) (h40 : ∀ s, s < 4 → I 77 s ≠ 0 → 0 ≤ I 79 s ∧ I 79 s ≤ 40) (hcl : 0 ≤ x1 → x1 < 4 → I 77 x1.toNat ≠ 0 → ∀ j : Nat, (j : Int) < I 79 x1.toNat → I 80 (40 * x1.toNat + j) = cl j)
    (Hb : ¬ ((0 ≤ x1 ∧ x1 < 4) ∧ (0 ≤ x2 ∧ x2 < 3) ∧ 0 ≤ x4 ∧ x4 ≤ 5) → Q (some (zi (-2))) (c, I, zRg g)) (Hm : (0 ≤ x1 ∧ x1 < 4) → (0 ≤ x2 ∧ x2 < 3) → 0 ≤ x4 → x4 ≤ 5 → I 77 x1.toNat = 0 → Q (some (zi (-11))) (c, I, zRg g)) (Ha : (0 ≤ x1 ∧ x1 < 4) → (0 ≤ x2 ∧ x2 < 3) → 0 ≤ x4 → x4 ≤ 5 → I 77 x1.toNat ≠ 0 → I 78 x1.toNat ≠ x2 → Q (some (zi (-13))) (c, I, zRg g))
    (H : (0 ≤ x1 ∧ x1 < 4) → (0 ≤ x2 ∧ x2 < 3) → 0 ≤ x4 → x4 ≤ 5 → I 77 x1.toNat ≠ 0 → I 78 x1.toNat = x2 → ∀ J, nC I J → nE (mcw cl (I 79 x1.toNat) x4.toNat K x3 0).1 J → Q (some (zi (mcw cl (I 79 x1.toNat) x4.toNat K x3 0).2)) (c, J, zRg g)) : zcl e 199 0 0 [zr 67, zi x1, zi x2, zi x3, zi x4] (c, I, zRg g) Q := by
  obtain ⟨d, rfl⟩ : ∃ d, e = d + 1 := ⟨e - 1, by omega⟩
  refine zen rfl rfl (fun B Q1 hQ => g_x12_crew_0 (r195 (by omega) (g_x12_crew_4 ⟨fun u => hQ _ _ _ (Hb (fun q => mbo_0.mp u q.1)), fun u => r130 (by omega) (g_x12_crew_16 ⟨fun v => hQ _ _ _ (Hb (fun q => mbo_0.mp v (by omega))), fun v => r130 (by omega) (g_x12_crew_29 ⟨fun w => ?_, fun w => hQ _ _ _ (Hb (fun q => mbo_0.mp (Decidable.not_not.mp w) (by omega)))⟩)⟩)⟩)))
  have u := mbo_n0.mp u
  have v := mbo_n0.mp v
  have w := mbo_n0.mp w
  have hs : x1.toNat < 4 := by omega
  refine ⟨u, fun z => ⟨u, fun z1 => absurd z z1, fun _ => hQ _ _ _ (Hm u (by omega) w.1 w.2 z)⟩, fun z => ⟨u, fun z1 => ⟨u, fun _ => ?_, fun q => absurd z q⟩, fun z1 => hQ _ _ _ (Ha u (by omega) w.1 w.2 z z1)⟩⟩
  have H := fun J a1 a2 => hQ _ _ _ (H u (by omega) w.1 w.2 z z1 J a1 a2)
  have h4 := h40 _ hs z
  have hcl := hcl u.1 u.2 z
  have loop : ∀ (n i : Nat) (K1 : zI) (m : Int) (J : zI) (o : Option zV), (i : Int) + n = x4 → (0 < i → 0 ≤ x3) → (0 ≤ K1 0 2 ∧ K1 0 2 ≤ 5) → nE K1 J → nC I J → 0 ≤ m → m ≤ i → (∀ J1, nC I J1 → nE (mcw cl (I 79 x1.toNat) n K1 (x3 + 4 * i) m).1 J1 → Q1 (some (zi (mcw cl (I 79 x1.toNat) n K1 (x3 + 4 * i) m).2)) (c, J1, zRg g)) → zRn (zcl d) 199 B Q1 75 [some (zr 67), some (zi x1), some (zi x2), some (zi x3), some (zi x4), some (zi m), some (zi (i : Nat)), o] [] (c, J, zRg g) := by
    intro n
    induction n with
    | zero => exact fun i K1 m J o hi _ hK hE hC h0 h1 H => g_x12_crew_75 ⟨fun _ => H J hC hE, fun q => absurd (by omega) q⟩
    | succ n ih =>
      intro i K1 m J o hi hx hK hE hC h0 h1 H
      have em : mcw cl (I 79 x1.toNat) (n + 1) K1 (x3 + 4 * i) m = if 0 ≤ x3 + 4 * (i : Int) ∧ x3 + 4 * (i : Int) + 4 ≤ I 79 x1.toNat then mcw cl (I 79 x1.toNat) n (mper K1 (cl (x3 + 4 * (i : Int)).toNat) (cl ((x3 + 4 * (i : Int)).toNat + 1)) (cl ((x3 + 4 * (i : Int)).toNat + 2)) (cl ((x3 + 4 * (i : Int)).toNat + 3))) (x3 + 4 * (i : Int) + 4) (if mperr K1 (cl (x3 + 4 * (i : Int)).toNat) (cl ((x3 + 4 * (i : Int)).toNat + 1)) (cl ((x3 + 4 * (i : Int)).toNat + 2)) (cl ((x3 + 4 * (i : Int)).toNat + 3)) < 0 then m else m + 1) else (K1, -12) := rfl
      rw [em] at H
      have e79 : J 79 = I 79 := hC.1 79 (by decide) (by decide)
      have z4i : zwr (4 * (i : Int)) = 4 * (i : Int) := zwr_eq (by omega)
      have zs : zwr (zwr (I 79 x1.toNat - 4 * (i : Int)) - 4) = I 79 x1.toNat - 4 * (i : Int) - 4 := by
        rw [zwr_eq (show zIn (I 79 x1.toNat - 4 * (i : Int)) by omega), zwr_eq (show zIn (I 79 x1.toNat - 4 * (i : Int) - 4) by omega)]
      refine g_x12_crew_75 ⟨fun q => absurd q (by clear z4i zs; omega), fun _ => ⟨fun q => ?_, fun q => ⟨u, ?_⟩⟩⟩
      · clear z4i zs
        rw [if_neg (by omega)] at H
        exact H J hC hE
      · rw [e79, z4i, zs]
        clear z4i zs
        refine ⟨fun q1 => ?_, fun q1 => ?_⟩
        · rw [if_pos (by omega)] at H
          have hpl : x3 + 4 * (i : Int) = (((x3 + 4 * (i : Int)).toNat : Nat) : Int) := by omega
          have hp36 : (((x3 + 4 * (i : Int)).toNat : Nat) : Int) + 4 ≤ I 79 x1.toNat := by omega
          have ix : zwr (zwr (zwr (40 * x1) + x3) + 4 * (i : Int)) = ((40 * x1.toNat + (x3 + 4 * (i : Int)).toNat : Nat) : Int) := by
            rw [zwr_eq (show zIn (40 * x1) by omega), zwr_eq (show zIn (40 * x1 + x3) by omega), zwr_eq (show zIn (40 * x1 + x3 + 4 * (i : Int)) by omega)]
            omega
          rw [ix]
          clear ix
          generalize (x3 + 4 * (i : Int)).toNat = pl at H hpl hp36 ⊢
          have ik : ∀ k : Nat, k < 4 → zwr (((40 * x1.toNat + pl : Nat) : Int) + (k : Int)) = ((40 * x1.toNat + (pl + k) : Nat) : Int) := by
            intro k hk
            rw [zwr_eq (show zIn (((40 * x1.toNat + pl : Nat) : Int) + (k : Int)) by omega)]
            omega
          have i1 : zwr (((40 * x1.toNat + pl : Nat) : Int) + 1) = ((40 * x1.toNat + (pl + 1) : Nat) : Int) := ik 1 (by decide)
          have i2 : zwr (((40 * x1.toNat + pl : Nat) : Int) + 2) = ((40 * x1.toNat + (pl + 2) : Nat) : Int) := ik 2 (by decide)
          have i3 : zwr (((40 * x1.toNat + pl : Nat) : Int) + 3) = ((40 * x1.toNat + (pl + 3) : Nat) : Int) := ik 3 (by decide)
          rw [i1, i2, i3]
          clear i1 i2 i3 ik
          rw [Int.toNat_natCast, Int.toNat_natCast, Int.toNat_natCast, Int.toNat_natCast, hC.1 80 (by decide) (by decide), hcl pl (by omega), hcl (pl + 1) (by omega), hcl (pl + 2) (by omega), hcl (pl + 3) (by omega)]
          refine ⟨by omega, by omega, by omega, by omega, y_perK (K := K1) (by omega) hK hE (fun J1 c1 E1 => g_x12_crew_159 ?_)⟩
          have hC1 : nC I J1 := ⟨fun y a b => (c1.1 y a b).trans (hC.1 y a b), fun j a => (c1.2 j a).trans (hC.2 j a)⟩
          have e4 : x3 + 4 * (i : Int) + 4 = x3 + 4 * ((i + 1 : Nat) : Int) := by omega
          rw [e4] at H
          rw [z1p i (by omega), zwr_eq (show zIn (m + 0) by omega), zwr_eq (show zIn (m + 1) by omega), Int.add_zero]
          refine ⟨fun a => ?_, fun a => ?_⟩
          · rw [if_pos a] at H
            exact ih (i + 1) _ m J1 _ (by omega) (fun _ => by omega) (mper_0 K1 _ _ _ _ hK.1 hK.2) E1 hC1 h0 (by omega) H
          · rw [if_neg a] at H
            exact ih (i + 1) _ (m + 1) J1 _ (by omega) (fun _ => by omega) (mper_0 K1 _ _ _ _ hK.1 hK.2) E1 hC1 (by omega) (by omega) H
        · rw [if_neg (by omega)] at H
          exact H J hC hE
  refine loop x4.toNat 0 K 0 I _ (by omega) (fun q => absurd q (by decide)) h2 hE ⟨fun _ _ _ => rfl, fun _ _ => rfl⟩ (by decide) (by decide) ?_
  have e0 : x3 + 4 * ((0 : Nat) : Int) = x3 := by omega
  rw [e0]
  exact H
theorem r200 {e : Nat} (he : 1 ≤ e) {x : Int} (H : Q (some (zi (if x = 0 then -1 else if x = 3 then 1 else if x = 4 then 2 else 0))) (c, I, zRg g)) : zcl e 200 0 0 [zi x] (c, I, zRg g) Q := by
  obtain ⟨d, rfl⟩ : ∃ d, e = d + 1 := ⟨e - 1, by omega⟩
  refine zen rfl rfl (fun B Q1 hQ => g_x12_above_0 ?_)
  have H := hQ _ _ _ H
  refine ⟨fun a => ⟨fun b => ⟨fun f => ?_, fun f => ?_⟩, fun b => ?_⟩, fun a => ?_⟩
  · rw [if_neg a, if_neg b, if_neg f] at H; exact H
  · rw [if_neg a, if_neg b, if_pos (Decidable.not_not.mp f)] at H; exact H
  · rw [if_neg a, if_pos (Decidable.not_not.mp b)] at H; exact H
  · rw [if_pos (Decidable.not_not.mp a)] at H; exact H
theorem y_taken {e : Nat} (he : 3 ≤ e) {x1 x2 : Int} (hW : nW I) (Hb : ¬ (0 ≤ x2 ∧ x2 < 6) → Q (some (zi (-2))) (c, I, zRg g)) (Hn : 0 ≤ x2 ∧ x2 < 6 → ¬ (0 ≤ x1 ∧ x1 < I 67 9) → Q (some (zi (-11))) (c, I, zRg g)) (Ho : 0 ≤ x2 ∧ x2 < 6 → 0 ≤ x1 ∧ x1 < I 67 9 → ¬ mund (I 71 (5 * x1.toNat + 4)) x2 → Q (some (zi (-13))) (c, I, zRg g)) (H : 0 ≤ x2 ∧ x2 < 6 → 0 ≤ x1 ∧ x1 < I 67 9 → mund (I 71 (5 * x1.toNat + 4)) x2 → Q (some (zi (I 71 (5 * x1.toNat)))) (c, I, zRg g)) : zcl e 201 0 0 [zr 67, zi x1, zi x2] (c, I, zRg g) Q := by
  obtain ⟨d, rfl⟩ : ∃ d, e = d + 1 := ⟨e - 1, by omega⟩
  have h9 := hW.n9
  refine zen rfl rfl (fun B Q1 hQ => g_x12_taken_0 (r130 (by omega) (g_x12_taken_9 ⟨fun u => r134 (by omega) h9 (g_x12_taken_20 ⟨fun v => ?_, fun v => hQ _ _ _ (Hn (by have := mbo_n0.mp u; omega) (mbo_0.mp (Decidable.not_not.mp v)))⟩), fun u => hQ _ _ _ (Hb (fun q => mbo_0.mp (Decidable.not_not.mp u) (by omega)))⟩)))
  have u := mbo_n0.mp u
  have v := mbo_n0.mp v
  have Ho := fun q => hQ _ _ _ (Ho (by omega) v q)
  have H := fun q => hQ _ _ _ (H (by omega) v q)
  have ex1 : x1 = ((x1.toNat : Nat) : Int) := by omega
  have hp : ((x1.toNat : Nat) : Int) < I 67 9 := by omega
  obtain ⟨hp5, a1, -⟩ := hW.at hp
  rw [ex1]
  generalize x1.toNat = p at *
  have e4 : zwr (zwr (5 * (p : Int)) + 4) = ((5 * p + 4 : Nat) : Int) := nix (k := 4) hp5 (by decide)
  have e0 : zwr (5 * (p : Int)) = ((5 * p : Nat) : Int) := nix0 hp5
  rw [e4, Int.toNat_natCast]
  clear e4
  refine ⟨by clear e0; omega, ?_⟩
  generalize I 71 (5 * p + 4) = k at *
  have ans : mund k x2 → (0 ≤ zwr (5 * (p : Int)) ∧ zwr (5 * (p : Int)) < 25) ∧ Q1 (some (zi (I 71 (zwr (5 * (p : Int))).toNat))) (c, I, zRg g) := by
    intro q
    rw [e0, Int.toNat_natCast]
    clear e0
    exact ⟨by omega, H q⟩
  have step : ∀ x : Int, x ≠ -1 → (x = x2 → mund k x2) → (x ≠ x2 → zRn (zcl d) 201 B Q1 37 [some (zr 67), some (zi (p : Nat)), some (zi x2), some (zi (if x = 0 then -1 else if x = 3 then 1 else if x = 4 then 2 else 0))] [] (c, I, zRg g)) → zRn (zcl d) 201 B Q1 37 [some (zr 67), some (zi (p : Nat)), some (zi x2), some (zi x)] [] (c, I, zRg g) := by
    intro x hx h1 h2
    exact g_x12_taken_37 ⟨fun q => absurd q hx, fun _ => ⟨fun q => ⟨fun z => absurd q z, fun _ => ans (h1 q)⟩, fun q => r200 (by omega) (g_x12_taken_51 (h2 q))⟩⟩
  have last : ¬ mund k x2 → zRn (zcl d) 201 B Q1 37 [some (zr 67), some (zi (p : Nat)), some (zi x2), some (zi (-1))] [] (c, I, zRg g) := fun q => g_x12_taken_37 ⟨fun _ => ⟨fun _ => Ho q, fun z => absurd (Decidable.not_not.mp z) (by omega)⟩, fun z => absurd rfl z⟩
  have s0 : (x2 ≠ 0 → ¬ mund k x2) → zRn (zcl d) 201 B Q1 37 [some (zr 67), some (zi (p : Nat)), some (zi x2), some (zi 0)] [] (c, I, zRg g) := fun q => step 0 (by decide) (fun z => Or.inr (Or.inl z.symm)) (fun z => last (q (fun y => z y.symm)))
  clear ans H Ho e0
  unfold mund at *
  have hk : k = 0 ∨ k = 1 ∨ k = 2 ∨ k = 3 ∨ k = 4 ∨ k = 5 := by omega
  rcases hk with rfl | rfl | rfl | rfl | rfl | rfl
  · exact s0 (fun q => by omega)
  · exact step 1 (by decide) (fun z => Or.inl z.symm) (fun z => s0 (fun q => by omega))
  · exact step 2 (by decide) (fun z => Or.inl z.symm) (fun z => s0 (fun q => by omega))
  · exact step 3 (by decide) (fun z => Or.inl z.symm) (fun z => step 1 (by decide) (fun y => by omega) (fun y => s0 (fun q => by omega)))
  · exact step 4 (by decide) (fun z => Or.inl z.symm) (fun z => step 2 (by decide) (fun y => by omega) (fun y => s0 (fun q => by omega)))
  · exact step 5 (by decide) (fun z => Or.inl z.symm) (fun z => s0 (fun q => by omega))
/-- the reference's kept world, written as its own -/
def nkv (J : zI) : zI := fun y j => if y = 71 then J 75 j else if y = 72 then J 76 j else if y = 67 then (if j = 9 then J 67 36 else if j = 11 then J 67 37 else if j = 12 then J 67 38 else if j = 7 then J 67 39 else if j = 4 then J 67 40 else 0) else 0
theorem y_image {e : Nat} (he : 1 ≤ e) {K : zI} (h5 : K 0 2 ≤ 5) (h8 : K 0 3 ≤ 8) (hE : nE K I) (H : ∀ J, (∀ y, y ≠ 67 → y ≠ 75 → y ≠ 76 → J y = I y) → (∀ j, (j < 36 ∨ 40 < j) → J 67 j = I 67 j) → J 67 36 = I 67 9 → nE K (nkv J) → Q (some (zi (I 67 9))) (c, J, zRg g)) : zcl e 192 0 0 [zr 67] (c, I, zRg g) Q := by
  obtain ⟨d, rfl⟩ : ∃ d, e = d + 1 := ⟨e - 1, by omega⟩
  refine zen rfl rfl (fun B Q1 hQ => g_x12_image_0 ?_)
  have H := fun J a1 a2 a3 a4 => hQ _ _ _ (H J a1 a2 a3 a4)
  have two : ∀ (a k : Nat) (J : zI), k + a = 8 → (∀ y, y ≠ 75 → y ≠ 76 → J y = I y) → (∀ j, j < 25 → J 75 j = I 71 j) → (∀ j, j < k → J 76 j = I 72 j) → zRn (zcl d) 192 B Q1 28 [some (zr 67), some (zi (k : Nat))] [] (c, J, zRg g) := by
    intro a
    induction a with
    | zero =>
      intro k J hk f1 f2 f3
      obtain rfl : k = 8 := by omega
      have e67 : J 67 = I 67 := f1 67 (by decide) (by decide)
      have r0 : ∀ (L : zI) (j k : Nat) (v : Int), j ≠ k → z2 L 67 j v 67 k = L 67 k := fun L j k v q => z2_n (Or.inr (Ne.symm q))
      refine g_x12_image_28 ⟨fun _ => ?_, fun q => absurd (by decide) q⟩
      rw [e67]
      have k9 : ∀ j, (j < 36 ∨ 40 < j) → z2 (z2 (z2 (z2 (z2 J 67 36 (I 67 9)) 67 37 (I 67 11)) 67 38 (I 67 12)) 67 39 (I 67 7)) 67 40 (I 67 4) 67 j = I 67 j := fun j q => by
        rw [r0 _ 40 j _ (by omega), r0 _ 39 j _ (by omega), r0 _ 38 j _ (by omega), r0 _ 37 j _ (by omega), r0 _ 36 j _ (by omega), e67]
      have k36 : z2 (z2 (z2 (z2 (z2 J 67 36 (I 67 9)) 67 37 (I 67 11)) 67 38 (I 67 12)) 67 39 (I 67 7)) 67 40 (I 67 4) 67 36 = I 67 9 := by rw [r0 _ 40 36 _ (by omega), r0 _ 39 36 _ (by omega), r0 _ 38 36 _ (by omega), r0 _ 37 36 _ (by omega), z2_s]
      have k37 : z2 (z2 (z2 (z2 (z2 J 67 36 (I 67 9)) 67 37 (I 67 11)) 67 38 (I 67 12)) 67 39 (I 67 7)) 67 40 (I 67 4) 67 37 = I 67 11 := by rw [r0 _ 40 37 _ (by omega), r0 _ 39 37 _ (by omega), r0 _ 38 37 _ (by omega), z2_s]
      have k38 : z2 (z2 (z2 (z2 (z2 J 67 36 (I 67 9)) 67 37 (I 67 11)) 67 38 (I 67 12)) 67 39 (I 67 7)) 67 40 (I 67 4) 67 38 = I 67 12 := by rw [r0 _ 40 38 _ (by omega), r0 _ 39 38 _ (by omega), z2_s]
      have k39 : z2 (z2 (z2 (z2 (z2 J 67 36 (I 67 9)) 67 37 (I 67 11)) 67 38 (I 67 12)) 67 39 (I 67 7)) 67 40 (I 67 4) 67 39 = I 67 7 := by rw [r0 _ 40 39 _ (by omega), z2_s]
      have k40 : z2 (z2 (z2 (z2 (z2 J 67 36 (I 67 9)) 67 37 (I 67 11)) 67 38 (I 67 12)) 67 39 (I 67 7)) 67 40 (I 67 4) 67 40 = I 67 4 := z2_s
      have kr : ∀ y, y ≠ 67 → z2 (z2 (z2 (z2 (z2 J 67 36 (I 67 9)) 67 37 (I 67 11)) 67 38 (I 67 12)) 67 39 (I 67 7)) 67 40 (I 67 4) y = J y := fun y q => by rw [z2_r q, z2_r q, z2_r q, z2_r q, z2_r q]
      generalize z2 (z2 (z2 (z2 (z2 J 67 36 (I 67 9)) 67 37 (I 67 11)) 67 38 (I 67 12)) 67 39 (I 67 7)) 67 40 (I 67 4) = L at *
      refine H L (fun y q1 q2 q3 => by rw [kr y q1]; exact f1 y q2 q3) k9 k36 (hE.at (fun j q => ?_) (fun j q => ?_) (fun j q => ?_) h5 h8)
      · rcases q with rfl | rfl | rfl | rfl | rfl
        · exact k36
        · exact k37
        · exact k39
        · exact k38
        · exact k40
      · show L 75 j = I 71 j
        rw [kr 75 (by decide)]; exact f2 j q
      · show L 76 j = I 72 j
        rw [kr 76 (by decide)]; exact f3 j q
    | succ a ih =>
      intro k J hk f1 f2 f3
      refine g_x12_image_28 ⟨fun w => absurd w (by omega), fun _ => ⟨by omega, by omega, ?_⟩⟩
      rw [z1p k (by omega), Int.toNat_natCast, f1 72 (by decide) (by decide)]
      refine ih (k + 1) _ (by omega) (fun y q1 q2 => by rw [z2_r q2]; exact f1 y q1 q2) (fun j q => by rw [z2_n (Or.inl (by decide))]; exact f2 j q) (fun j q => ?_)
      by_cases w : j = k
      · rw [w, z2_s]
      · rw [z2_n (Or.inr w)]; exact f3 j (by omega)
  have one : ∀ (a k : Nat) (J : zI), k + a = 25 → (∀ y, y ≠ 75 → J y = I y) → (∀ j, j < k → J 75 j = I 71 j) → zRn (zcl d) 192 B Q1 2 [some (zr 67), some (zi (k : Nat))] [] (c, J, zRg g) := by
    intro a
    induction a with
    | zero =>
      intro k J hk f1 f2
      obtain rfl : k = 25 := by omega
      exact g_x12_image_2 ⟨fun _ => two 8 0 J (by omega) (fun y q _ => f1 y q) f2 (fun j q => absurd q (by omega)), fun w => absurd (by decide) w⟩
    | succ a ih =>
      intro k J hk f1 f2
      refine g_x12_image_2 ⟨fun w => absurd w (by omega), fun _ => ⟨by omega, by omega, ?_⟩⟩
      rw [z1p k (by omega), Int.toNat_natCast, f1 71 (by decide)]
      refine ih (k + 1) _ (by omega) (fun y q => by rw [z2_r q]; exact f1 y q) (fun j q => ?_)
      by_cases w : j = k
      · rw [w, z2_s]
      · rw [z2_n (Or.inr w)]; exact f2 j (by omega)
  exact one 25 0 I (by omega) (fun _ _ => rfl) (fun j q => absurd q (by omega))
theorem y_back {e : Nat} (he : 1 ≤ e) {K : zI} (h5 : K 0 2 ≤ 5) (h8 : K 0 3 ≤ 8) (H0 : I 67 36 = -1 → Q (some (zi (-3))) (c, I, zRg g)) (hE : I 67 36 ≠ -1 → nE K (nkv I)) (H : I 67 36 ≠ -1 → ∀ J, (∀ y, y ≠ 67 → y ≠ 71 → y ≠ 72 → J y = I y) → (∀ j, j ≠ 9 → j ≠ 11 → j ≠ 12 → j ≠ 7 → j ≠ 4 → J 67 j = I 67 j) → nE K J → Q (some (zi (I 67 36))) (c, J, zRg g)) : zcl e 193 0 0 [zr 67] (c, I, zRg g) Q := by
  obtain ⟨d, rfl⟩ : ∃ d, e = d + 1 := ⟨e - 1, by omega⟩
  refine zen rfl rfl (fun B Q1 hQ => g_x12_back_0 ⟨fun u => ?_, fun u => hQ _ _ _ (H0 (Decidable.not_not.mp u))⟩)
  have H := fun J a1 a2 a3 => hQ _ _ _ (H u J a1 a2 a3)
  have hE := hE u
  have two : ∀ (a k : Nat) (J : zI), k + a = 8 → (∀ y, y ≠ 71 → y ≠ 72 → J y = I y) → (∀ j, j < 25 → J 71 j = I 75 j) → (∀ j, j < k → J 72 j = I 76 j) → zRn (zcl d) 193 B Q1 39 [some (zr 67), some (zi (k : Nat))] [] (c, J, zRg g) := by
    intro a
    induction a with
    | zero =>
      intro k J hk f1 f2 f3
      obtain rfl : k = 8 := by omega
      have e67 : J 67 = I 67 := f1 67 (by decide) (by decide)
      have r0 : ∀ (L : zI) (j k : Nat) (v : Int), j ≠ k → z2 L 67 j v 67 k = L 67 k := fun L j k v q => z2_n (Or.inr (Ne.symm q))
      refine g_x12_back_39 ⟨fun _ => ?_, fun q => absurd (by decide) q⟩
      rw [e67]
      have k9 : ∀ j, j ≠ 9 → j ≠ 11 → j ≠ 12 → j ≠ 7 → j ≠ 4 → z2 (z2 (z2 (z2 (z2 J 67 9 (I 67 36)) 67 11 (I 67 37)) 67 12 (I 67 38)) 67 7 (I 67 39)) 67 4 (I 67 40) 67 j = I 67 j := fun j q1 q2 q3 q4 q5 => by
        rw [r0 _ 4 j _ (by omega), r0 _ 7 j _ (by omega), r0 _ 12 j _ (by omega), r0 _ 11 j _ (by omega), r0 _ 9 j _ (by omega), e67]
      have k36 : z2 (z2 (z2 (z2 (z2 J 67 9 (I 67 36)) 67 11 (I 67 37)) 67 12 (I 67 38)) 67 7 (I 67 39)) 67 4 (I 67 40) 67 9 = I 67 36 := by rw [r0 _ 4 9 _ (by omega), r0 _ 7 9 _ (by omega), r0 _ 12 9 _ (by omega), r0 _ 11 9 _ (by omega), z2_s]
      have k37 : z2 (z2 (z2 (z2 (z2 J 67 9 (I 67 36)) 67 11 (I 67 37)) 67 12 (I 67 38)) 67 7 (I 67 39)) 67 4 (I 67 40) 67 11 = I 67 37 := by rw [r0 _ 4 11 _ (by omega), r0 _ 7 11 _ (by omega), r0 _ 12 11 _ (by omega), z2_s]
      have k38 : z2 (z2 (z2 (z2 (z2 J 67 9 (I 67 36)) 67 11 (I 67 37)) 67 12 (I 67 38)) 67 7 (I 67 39)) 67 4 (I 67 40) 67 12 = I 67 38 := by rw [r0 _ 4 12 _ (by omega), r0 _ 7 12 _ (by omega), z2_s]
      have k39 : z2 (z2 (z2 (z2 (z2 J 67 9 (I 67 36)) 67 11 (I 67 37)) 67 12 (I 67 38)) 67 7 (I 67 39)) 67 4 (I 67 40) 67 7 = I 67 39 := by rw [r0 _ 4 7 _ (by omega), z2_s]
      have k40 : z2 (z2 (z2 (z2 (z2 J 67 9 (I 67 36)) 67 11 (I 67 37)) 67 12 (I 67 38)) 67 7 (I 67 39)) 67 4 (I 67 40) 67 4 = I 67 40 := z2_s
      have kr : ∀ y, y ≠ 67 → z2 (z2 (z2 (z2 (z2 J 67 9 (I 67 36)) 67 11 (I 67 37)) 67 12 (I 67 38)) 67 7 (I 67 39)) 67 4 (I 67 40) y = J y := fun y q => by rw [z2_r q, z2_r q, z2_r q, z2_r q, z2_r q]
      generalize z2 (z2 (z2 (z2 (z2 J 67 9 (I 67 36)) 67 11 (I 67 37)) 67 12 (I 67 38)) 67 7 (I 67 39)) 67 4 (I 67 40) = L at *
      refine H L (fun y q1 q2 q3 => by rw [kr y q1]; exact f1 y q2 q3) k9 (hE.at (fun j q => ?_) (fun j q => ?_) (fun j q => ?_) h5 h8)
      · rcases q with rfl | rfl | rfl | rfl | rfl
        · exact k36
        · exact k37
        · exact k39
        · exact k38
        · exact k40
      · show L 71 j = I 75 j
        rw [kr 71 (by decide)]; exact f2 j q
      · show L 72 j = I 76 j
        rw [kr 72 (by decide)]; exact f3 j q
    | succ a ih =>
      intro k J hk f1 f2 f3
      refine g_x12_back_39 ⟨fun w => absurd w (by omega), fun _ => ⟨by omega, by omega, ?_⟩⟩
      rw [z1p k (by omega), Int.toNat_natCast, f1 76 (by decide) (by decide)]
      refine ih (k + 1) _ (by omega) (fun y q1 q2 => by rw [z2_r q2]; exact f1 y q1 q2) (fun j q => by rw [z2_n (Or.inl (by decide))]; exact f2 j q) (fun j q => ?_)
      by_cases w : j = k
      · rw [w, z2_s]
      · rw [z2_n (Or.inr w)]; exact f3 j (by omega)
  have one : ∀ (a k : Nat) (J : zI), k + a = 25 → (∀ y, y ≠ 71 → J y = I y) → (∀ j, j < k → J 71 j = I 75 j) → zRn (zcl d) 193 B Q1 13 [some (zr 67), some (zi (k : Nat))] [] (c, J, zRg g) := by
    intro a
    induction a with
    | zero =>
      intro k J hk f1 f2
      obtain rfl : k = 25 := by omega
      exact g_x12_back_13 ⟨fun _ => two 8 0 J (by omega) (fun y q _ => f1 y q) f2 (fun j q => absurd q (by omega)), fun w => absurd (by decide) w⟩
    | succ a ih =>
      intro k J hk f1 f2
      refine g_x12_back_13 ⟨fun w => absurd w (by omega), fun _ => ⟨by omega, by omega, ?_⟩⟩
      rw [z1p k (by omega), Int.toNat_natCast, f1 75 (by decide)]
      refine ih (k + 1) _ (by omega) (fun y q => by rw [z2_r q]; exact f1 y q) (fun j q => ?_)
      by_cases w : j = k
      · rw [w, z2_s]
      · rw [z2_n (Or.inr w)]; exact f2 j (by omega)
  exact one 25 0 I (by omega) (fun _ _ => rfl) (fun j q => absurd q (by omega))
theorem y_count {e : Nat} (he : 2 ≤ e) {x1 : Int} (Hb : ¬ (0 ≤ x1 ∧ x1 ≤ 5) → Q (some (zi (-2))) (c, I, zRg g)) (H : 0 ≤ x1 → x1 ≤ 5 → Q (some (zi (if x1 = 0 then I 67 9 else if x1 = 1 then I 67 11 else if x1 = 2 then I 67 7 else if x1 = 3 then I 67 3 else if x1 = 4 then I 67 6 else I 67 4))) (c, I, zRg g)) : zcl e 194 0 0 [zr 67, zi x1] (c, I, zRg g) Q := by
  obtain ⟨d, rfl⟩ : ∃ d, e = d + 1 := ⟨e - 1, by omega⟩
  refine zen rfl rfl (fun B Q1 hQ => g_x12_count_0 (r130 (by omega) (g_x12_count_9 ⟨fun u => ?_, fun u => hQ _ _ _ (Hb (mbo_0.mp (Decidable.not_not.mp u)))⟩)))
  have u := mbo_n0.mp u
  have H := hQ _ _ _ (H u.1 u.2)
  refine ⟨fun a => ⟨fun b => ⟨fun f => ⟨fun h => ⟨fun k => ?_, fun k => ?_⟩, fun h => ?_⟩, fun f => ?_⟩, fun b => ?_⟩, fun a => ?_⟩
  · rw [if_neg a, if_neg b, if_neg f, if_neg h, if_neg k] at H; exact H
  · rw [if_neg a, if_neg b, if_neg f, if_neg h, if_pos (Decidable.not_not.mp k)] at H; exact H
  · rw [if_neg a, if_neg b, if_neg f, if_pos (Decidable.not_not.mp h)] at H; exact H
  · rw [if_neg a, if_neg b, if_pos (Decidable.not_not.mp f)] at H; exact H
  · rw [if_neg a, if_pos (Decidable.not_not.mp b)] at H; exact H
  · rw [if_pos (Decidable.not_not.mp a)] at H; exact H
theorem y_cell {e : Nat} (he : 3 ≤ e) {x1 x2 x3 : Int} (h40 : ∀ s, s < 4 → I 77 s ≠ 0 → 0 ≤ I 79 s ∧ I 79 s ≤ 40) (Hb : ¬ (0 ≤ x1 ∧ x1 < 4) → Q (some (zi (-2))) (c, I, zRg g)) (Hm : (0 ≤ x1 ∧ x1 < 4) → I 77 x1.toNat = 0 → Q (some (zi (-11))) (c, I, zRg g)) (Ho : (0 ≤ x1 ∧ x1 < 4) → I 77 x1.toNat ≠ 0 → ¬ (0 ≤ x2 ∧ x2 < I 79 x1.toNat) → Q (some (zi (-12))) (c, I, zRg g))
    (H : (0 ≤ x1 ∧ x1 < 4) → I 77 x1.toNat ≠ 0 → (0 ≤ x2 ∧ x2 < I 79 x1.toNat) → Q (some (zi 1)) (c, z2 I 80 (40 * x1.toNat + x2.toNat) (mcv (I 78 x1.toNat) x3), zRg g)) : zcl e 197 0 0 [zr 67, zi x1, zi x2, zi x3] (c, I, zRg g) Q := by
  obtain ⟨d, rfl⟩ : ∃ d, e = d + 1 := ⟨e - 1, by omega⟩
  refine zen rfl rfl (fun B Q1 hQ => g_x12_cell_0 (r195 (by omega) (g_x12_cell_4 ⟨fun u => ?_, fun u => hQ _ _ _ (Hb (mbo_0.mp (Decidable.not_not.mp u)))⟩)))
  have u := mbo_n0.mp u
  refine ⟨u, fun z => ⟨u, ?_⟩, fun z => hQ _ _ _ (Hm u (Decidable.not_not.mp z))⟩
  have h4 := h40 x1.toNat (by omega) z
  rw [zwr_eq (show zIn (I 79 x1.toNat - 1) by omega)]
  refine r130 (by omega) (g_x12_cell_37 ⟨fun w => ⟨u, ?_⟩, fun w => hQ _ _ _ (Ho u z (fun q => mbo_0.mp (Decidable.not_not.mp w) (by omega)))⟩)
  have w := mbo_n0.mp w
  have H := hQ _ _ _ (H u z (by omega))
  have ix : zwr (zwr (40 * x1) + x2) = ((40 * x1.toNat + x2.toNat : Nat) : Int) := by
    rw [zwr_eq (show zIn (40 * x1) by omega), zwr_eq (show zIn (40 * x1 + x2) by omega)]
    omega
  rw [ix, Int.toNat_natCast]
  clear ix
  unfold mcv at H
  refine ⟨fun a => ⟨u, fun b => ⟨by omega, ?_⟩, fun b => ⟨by omega, ?_⟩⟩, fun a => ⟨by omega, ?_⟩⟩
  · rw [if_neg a, if_neg b] at H; exact H
  · rw [if_neg a, if_pos (Decidable.not_not.mp b)] at H; exact H
  · rw [if_pos (Decidable.not_not.mp a)] at H; exact H
theorem y_copy {e : Nat} (he : 3 ≤ e) {x1 x2 x3 x4 x5 : Int} (hx5 : zIn x5) (h40 : ∀ s, s < 4 → I 77 s ≠ 0 → 0 ≤ I 79 s ∧ I 79 s ≤ 40) (Hb : ¬ ((0 ≤ x1 ∧ x1 < 4) ∧ (0 ≤ x3 ∧ x3 < 4)) → Q (some (zi (-2))) (c, I, zRg g)) (Hm : (0 ≤ x1 ∧ x1 < 4) → (0 ≤ x3 ∧ x3 < 4) → (I 77 x1.toNat = 0 ∨ I 77 x3.toNat = 0) → Q (some (zi (-11))) (c, I, zRg g))
    (Ha : (0 ≤ x1 ∧ x1 < 4) → (0 ≤ x3 ∧ x3 < 4) → I 77 x1.toNat ≠ 0 → I 77 x3.toNat ≠ 0 → I 78 x1.toNat ≠ I 78 x3.toNat → Q (some (zi (-13))) (c, I, zRg g))
    (Ho : (0 ≤ x1 ∧ x1 < 4) → (0 ≤ x3 ∧ x3 < 4) → I 77 x1.toNat ≠ 0 → I 77 x3.toNat ≠ 0 → I 78 x1.toNat = I 78 x3.toNat → ¬ (0 ≤ x5 ∧ 0 ≤ x2 ∧ 0 ≤ x4 ∧ x2 + x5 ≤ I 79 x1.toNat ∧ x4 + x5 ≤ I 79 x3.toNat) → Q (some (zi (-12))) (c, I, zRg g))
    (H : (0 ≤ x1 ∧ x1 < 4) → (0 ≤ x3 ∧ x3 < 4) → I 77 x1.toNat ≠ 0 → I 77 x3.toNat ≠ 0 → I 78 x1.toNat = I 78 x3.toNat → (0 ≤ x5 ∧ 0 ≤ x2 ∧ 0 ≤ x4 ∧ x2 + x5 ≤ I 79 x1.toNat ∧ x4 + x5 ≤ I 79 x3.toNat) → ∀ J, (∀ y, y ≠ 80 → J y = I y) → (∀ i, i < x5.toNat → J 80 (40 * x3.toNat + x4.toNat + i) = I 80 (40 * x1.toNat + x2.toNat + i)) → (∀ k, ¬ (40 * x3.toNat + x4.toNat ≤ k ∧ k < 40 * x3.toNat + x4.toNat + x5.toNat) → J 80 k = I 80 k) → Q (some (zi x5)) (c, J, zRg g)) : zcl e 198 0 0 [zr 67, zi x1, zi x2, zi x3, zi x4, zi x5] (c, I, zRg g) Q := by
  obtain ⟨d, rfl⟩ : ∃ d, e = d + 1 := ⟨e - 1, by omega⟩
  refine zen rfl rfl (fun B Q1 hQ => g_x12_copy_0 (r195 (by omega) (g_x12_copy_4 ⟨fun u => hQ _ _ _ (Hb (fun q => mbo_0.mp u q.1)), fun u => r195 (by omega) (g_x12_copy_11 ⟨fun v => ?_, fun v => hQ _ _ _ (Hb (fun q => mbo_0.mp (Decidable.not_not.mp v) q.2))⟩)⟩)))
  have u := mbo_n0.mp u
  have v := mbo_n0.mp v
  refine ⟨u, fun z => hQ _ _ _ (Hm u v (Or.inl z)), fun z => ⟨v, fun z1 => ⟨u, v, fun z2 => ?_, fun z2 => hQ _ _ _ (Ha u v z z1 z2)⟩, fun z1 => hQ _ _ _ (Hm u v (Or.inr (Decidable.not_not.mp z1)))⟩⟩
  have Ho := fun q => hQ _ _ _ (Ho u v z z1 z2 q)
  have h4 := h40 x1.toNat (by omega) z
  have h5 := h40 x3.toNat (by omega) z1
  refine ⟨fun a => Ho (by omega), fun a => ⟨fun b => Ho (by omega), fun b => ⟨fun f => Ho (by omega), fun f => ⟨u, ?_⟩⟩⟩⟩
  rw [zwr_eq (show zIn (I 79 x1.toNat - x5) by omega), zwr_eq (show zIn (I 79 x3.toNat - x5) by omega)]
  refine ⟨fun h => Ho (by omega), fun h => ⟨v, fun k => ?_, fun k => Ho (by omega)⟩⟩
  have H := fun J a b e => hQ _ _ _ (H u v z z1 z2 (by omega) J a b e)
  have hn : x5 = ((x5.toNat : Nat) : Int) := by omega
  have ha : ∀ _ : Unit, zwr (zwr (40 * x1) + x2) = ((40 * x1.toNat + x2.toNat : Nat) : Int) := fun _ => by
    rw [zwr_eq (show zIn (40 * x1) by omega), zwr_eq (show zIn (40 * x1 + x2) by omega)]
    omega
  have hb : ∀ _ : Unit, zwr (zwr (40 * x3) + x4) = ((40 * x3.toNat + x4.toNat : Nat) : Int) := fun _ => by
    rw [zwr_eq (show zIn (40 * x3) by omega), zwr_eq (show zIn (40 * x3 + x4) by omega)]
    omega
  have ra : 40 * x1.toNat + x2.toNat + x5.toNat ≤ 160 := by omega
  have rb : 40 * x3.toNat + x4.toNat + x5.toNat ≤ 160 := by omega
  have hsep : x1 ≠ x3 → ∀ i j, i < x5.toNat → j < x5.toNat → 40 * x1.toNat + x2.toNat + i ≠ 40 * x3.toNat + x4.toNat + j := fun q i j q1 q2 => by omega
  have hle : x1 = x3 → (x4 ≤ x2 ↔ 40 * x3.toNat + x4.toNat ≤ 40 * x1.toNat + x2.toNat) := fun q => by omega
  generalize 40 * x1.toNat + x2.toNat = A at *
  generalize 40 * x3.toNat + x4.toNat = C at *
  generalize x5.toNat = n at *
  subst hn
  have ix : ∀ (b i : Nat), b + i < 160 → zwr ((b : Int) + (i : Int)) = ((b + i : Nat) : Int) := fun b i q => by
    rw [zwr_eq (show zIn ((b : Int) + (i : Int)) by omega)]; omega
  have up : (C ≤ A ∨ ∀ i j, i < n → j < n → A + i ≠ C + j) → ∀ (a i : Nat) (J : zI) (o : Option zV), i + a = n → (∀ y, y ≠ 80 → J y = I y) → (∀ j, j < i → J 80 (C + j) = I 80 (A + j)) → (∀ k, ¬ (C ≤ k ∧ k < C + i) → J 80 k = I 80 k) → zRn (zcl d) 198 B Q1 121 [some (zr 67), some (zi x1), some (zi x2), some (zi x3), some (zi x4), some (zi (n : Nat)), some (zi 0), some (zi (i : Nat)), o] [] (c, J, zRg g) := by
    intro hs a
    induction a with
    | zero =>
      intro i J o hi f1 f2 f3
      obtain rfl : i = n := by omega
      exact g_x12_copy_121 ⟨fun _ => H J f1 f2 f3, fun q => absurd (Int.le_refl _) q⟩
    | succ a ih =>
      intro i J o hi f1 f2 f3
      refine g_x12_copy_121 ⟨fun q => absurd q (by omega), fun _ => ⟨fun _ => ?_, fun q => absurd rfl q⟩⟩
      rw [ha (), hb (), ix A i (by omega), ix C i (by omega), Int.toNat_natCast, Int.toNat_natCast, z1p i (by omega)]
      have hr : J 80 (A + i) = I 80 (A + i) := f3 _ (by
        rcases hs with q | q
        · omega
        · intro w
          exact q i (A + i - C) (by omega) (by omega) (by omega))
      rw [hr]
      refine ⟨by omega, by omega, ih (i + 1) _ _ (by omega) (fun y q => by rw [z2_r q]; exact f1 y q) (fun j q => ?_) (fun k q => ?_)⟩
      · by_cases w : j = i
        · rw [w, z2_s]
        · rw [z2_n (Or.inr (by omega))]; exact f2 j (by omega)
      · rw [z2_n (Or.inr (by omega))]; exact f3 k (by omega)
  have down : A < C → ∀ (a i : Nat) (J : zI) (o : Option zV), i + a = n → (∀ y, y ≠ 80 → J y = I y) → (∀ j, j < n → n ≤ j + i → J 80 (C + j) = I 80 (A + j)) → (∀ k, ¬ (C + n ≤ k + i ∧ k < C + n) → J 80 k = I 80 k) → zRn (zcl d) 198 B Q1 121 [some (zr 67), some (zi x1), some (zi x2), some (zi x3), some (zi x4), some (zi (n : Nat)), some (zi 1), some (zi (i : Nat)), o] [] (c, J, zRg g) := by
    intro hs a
    induction a with
    | zero =>
      intro i J o hi f1 f2 f3
      obtain rfl : i = n := by omega
      exact g_x12_copy_121 ⟨fun _ => H J f1 (fun j q => f2 j q (by omega)) (fun k q => f3 k (by omega)), fun q => absurd (Int.le_refl _) q⟩
    | succ a ih =>
      intro i J o hi f1 f2 f3
      have ek : zwr (zwr ((n : Int) - 1) - (i : Int)) = ((n - 1 - i : Nat) : Int) := by
        rw [zwr_eq (show zIn ((n : Int) - 1) by omega), zwr_eq (show zIn ((n : Int) - 1 - (i : Int)) by omega)]; omega
      refine g_x12_copy_121 ⟨fun q => absurd q (by clear ek; omega), fun _ => ⟨fun q => absurd q (by decide), fun _ => ?_⟩⟩
      rw [ek]
      clear ek
      rw [ha (), hb (), ix A (n - 1 - i) (by omega), ix C (n - 1 - i) (by omega), Int.toNat_natCast, Int.toNat_natCast, z1p i (by omega)]
      have hr : J 80 (A + (n - 1 - i)) = I 80 (A + (n - 1 - i)) := f3 _ (by omega)
      rw [hr]
      refine ⟨by omega, by omega, ih (i + 1) _ _ (by omega) (fun y q => by rw [z2_r q]; exact f1 y q) (fun j q1 q2 => ?_) (fun k q => ?_)⟩
      · by_cases w : j = n - 1 - i
        · rw [w, z2_s]
        · rw [z2_n (Or.inr (by omega))]; exact f2 j q1 (by omega)
      · rw [z2_n (Or.inr (by omega))]; exact f3 k (by omega)
  refine ⟨fun q => up (Or.inr (hsep q)) n 0 I _ (by omega) (fun _ _ => rfl) (fun j q => absurd q (by omega)) (fun _ _ => rfl), fun q => ⟨fun q1 => up (Or.inl ((hle (Decidable.not_not.mp q)).mp q1)) n 0 I _ (by omega) (fun _ _ => rfl) (fun j q => absurd q (by omega)) (fun _ _ => rfl), fun q1 => down (by have := hle (Decidable.not_not.mp q); omega) n 0 I _ (by omega) (fun _ _ => rfl) (fun j q1 q2 => absurd q2 (by omega)) (fun _ _ => rfl)⟩⟩
end
end
