section
/-! the reference: over, sheets, film, drawn, chance -/
/-- what stays where the reference writes a sheet -/
def nP (I J : zI) : Prop := (∀ y, y ≠ 67 → y ≠ 77 → y ≠ 78 → y ≠ 79 → y ≠ 80 → J y = I y) ∧ ∀ j, (j < 14 ∨ 28 < j) → J 67 j = I 67 j
theorem nP.rf (I : zI) : nP I I := ⟨fun _ _ _ _ _ _ => rfl, fun _ _ => rfl⟩
theorem nP.tr {I J K : zI} (h : nP I J) (h1 : nP J K) : nP I K := ⟨fun y a b d e f => (h1.1 y a b d e f).trans (h.1 y a b d e f), fun j q => (h1.2 j q).trans (h.2 j q)⟩
theorem nA.P {I J : zI} (h : nA I J) : nP I J := ⟨fun y a _ _ _ _ => h.1 y a, h.2⟩
theorem nP.K {I J : zI} (h : nP I J) : nK J = nK I := by
  funext x j
  unfold nK
  rw [h.2 9 (by decide), h.2 11 (by decide), h.2 7 (by decide), h.2 12 (by decide), h.2 4 (by decide), h.2 13 (by decide), h.1 72 (by decide) (by decide) (by decide) (by decide) (by decide), h.1 71 (by decide) (by decide) (by decide) (by decide) (by decide)]
theorem nP.R {I J : zI} (h : nP I J) : nR J = nR I := by
  funext t
  unfold nR nb
  rw [h.1 68 (by decide) (by decide) (by decide) (by decide) (by decide), h.1 69 (by decide) (by decide) (by decide) (by decide) (by decide)]
theorem nP.T {I J : zI} (h : nP I J) : nT J = nT I := by
  have e : ∀ t q, t < 6 → mX J t q = mX I t q := by
    intro t q ht
    unfold mX mX0
    rw [h.1 (46 + 3 * t) (by omega) (by omega) (by omega) (by omega) (by omega), h.1 (45 + 3 * t) (by omega) (by omega) (by omega) (by omega) (by omega)]
  funext t q
  unfold nT
  rw [h.R]
  by_cases ht : t < 6
  · rw [if_pos ht, if_pos ht, e t q ht]
  · rw [if_neg ht, if_neg ht]
theorem nP.Xo {I J : zI} (h : nP I J) {t : Nat} (o : nXo I t) : nXo J t := by
  unfold nXo nb at o ⊢
  rw [h.R, h.1 68 (by decide) (by decide) (by decide) (by decide) (by decide), h.1 69 (by decide) (by decide) (by decide) (by decide) (by decide)]
  exact o
theorem nP.W {I J : zI} (h : nP I J) (hW : nW I) : nW J := by
  obtain ⟨h1, h2, h3, h4⟩ := hW
  exact ⟨by rw [h.K]; exact h1, by rw [h.2 7 (by decide)]; exact h2, by rw [h.2 4 (by decide)]; exact h3, by rw [h.2 4 (by decide)]; exact h.Xo h4⟩
theorem nix40 {x : Int} {i : Nat} (hx : 0 ≤ x ∧ x < 4) (hi : i < 40) : zwr (zwr (40 * x) + (i : Int)) = ((40 * x.toNat + i : Nat) : Int) := by
  rw [zwr_eq (show zIn (40 * x) by omega), zwr_eq (show zIn (40 * x + (i : Int)) by omega)]
  omega
section
variable {c : Nat × Nat × Nat} {I : zI} {g : Nat} {Q : zQ}
theorem nrt_R (hW : nW I) {cl : Nat → Int} : ∀ (n i : Nat) (x : Int), (∀ j, j < i + n → 0 ≤ cl j ∧ cl j < I 67 9) → mR x → mR (mrt (nOne I) cl n i x)
  | 0, _, _, _, hx => hx
  | n + 1, i, x, hc, hx => nrt_R hW n (i + 1) _ (fun j hj => hc j (by omega)) (nOne_R hW (by have := hc i (by omega); omega) hx)
theorem y_over {e : Nat} (he : 55 ≤ e) {x1 x2 x3 : Int} {cl : Nat → Int} (hW : nW I) (h40 : ∀ s, s < 4 → I 77 s ≠ 0 → 0 ≤ I 79 s ∧ I 79 s ≤ 40) (hcl : 0 ≤ x1 → x1 < 4 → I 77 x1.toNat ≠ 0 → ∀ j : Nat, (j : Int) < I 79 x1.toNat → I 80 (40 * x1.toNat + j) = cl j)
    (Hb : ¬ ((0 ≤ x1 ∧ x1 < 4) ∧ mR x2 ∧ 0 ≤ x3 ∧ x3 ≤ 3) → Q (some (zi (-2))) (c, I, zRg g)) (Hm : (0 ≤ x1 ∧ x1 < 4) → mR x2 → 0 ≤ x3 → x3 ≤ 3 → I 77 x1.toNat = 0 → Q (some (zi (-11))) (c, I, zRg g))
    (Hn : (0 ≤ x1 ∧ x1 < 4) → mR x2 → 0 ≤ x3 → x3 ≤ 3 → I 77 x1.toNat ≠ 0 → ¬ (∀ i, i < (I 79 x1.toNat).toNat → 0 ≤ cl i ∧ cl i < I 67 9) → Q (some (zi (-2))) (c, I, zRg g))
    (H : (0 ≤ x1 ∧ x1 < 4) → mR x2 → 0 ≤ x3 → x3 ≤ 3 → I 77 x1.toNat ≠ 0 → (∀ i, i < (I 79 x1.toNat).toNat → 0 ≤ cl i ∧ cl i < I 67 9) → ∀ J, nA I J → Q (some (zi (mov (mrt (nOne I) cl (I 79 x1.toNat).toNat 0 x2) x2 x3))) (c, J, zRg g)) : zcl e 171 0 0 [zr 67, zi x1, zi x2, zi x3] (c, I, zRg g) Q := by
  obtain ⟨d, rfl⟩ : ∃ d, e = d + 1 := ⟨e - 1, by omega⟩
  have h9 := hW.n9
  refine zen rfl rfl (fun B Q1 hQ => g_x12_over_0 (r195 (by omega) (g_x12_over_4 ⟨fun u => hQ _ _ _ (Hb (fun q => mbo_0.mp u q.1)), fun u => r130 (by omega) (g_x12_over_16 ⟨fun v => hQ _ _ _ (Hb (fun q => mbo_0.mp v (by omega))), fun v => r130 (by omega) (g_x12_over_28 ⟨fun w => ?_, fun w => hQ _ _ _ (Hb (fun q => mbo_0.mp (Decidable.not_not.mp w) (by omega)))⟩)⟩)⟩)))
  have u := mbo_n0.mp u
  have v := mbo_n0.mp v
  have w := mbo_n0.mp w
  have hx2 : mR x2 := by omega
  refine ⟨u, fun z => ?_, fun z => hQ _ _ _ (Hm u hx2 w.1 w.2 (Decidable.not_not.mp z))⟩
  have Hn := fun q => hQ _ _ _ (Hn u hx2 w.1 w.2 z q)
  have H := fun q J h => hQ _ _ _ (H u hx2 w.1 w.2 z q J h)
  have h4 := h40 x1.toNat (by omega) z
  have hcl := hcl u.1 u.2 z
  have hn : I 79 x1.toNat = (((I 79 x1.toNat).toNat : Nat) : Int) := by omega
  generalize (I 79 x1.toNat).toNat = n at H Hn hn
  have two : (∀ i, i < n → 0 ≤ cl i ∧ cl i < I 67 9) → ∀ (a i : Nat) (y : Int) (J : zI), i + a = n → mR y → nA I J → (∀ J, nA I J → Q1 (some (zi (mov (mrt (nOne I) cl a i y) x2 x3))) (c, J, zRg g)) → zRn (zcl d) 171 B Q1 94 [some (zr 67), some (zi x1), some (zi x2), some (zi x3), some (zi y), some (zi (i : Nat))] [] (c, J, zRg g) := by
    intro hall a
    induction a with
    | zero =>
      intro i y J hi hy hJ H
      have H : ∀ J, nA I J → Q1 (some (zi (mov y x2 x3))) (c, J, zRg g) := H
      unfold mov at H
      refine g_x12_over_94 ⟨u, fun _ => ⟨fun z0 => ⟨fun z1 => ⟨fun z2 => ?_, fun z2 => ?_⟩, fun z1 => r170 (by omega) hx2 hy (g_x12_over_151 ?_)⟩, fun z0 => ?_⟩, fun q => absurd (by rw [hJ.1 79 (by decide), hn]; omega) q⟩
      · have H := H J hJ; rw [if_neg z0, if_neg z1, if_neg z2] at H; exact H
      · have H := H J hJ; rw [if_neg z0, if_neg z1, if_pos (Decidable.not_not.mp z2)] at H; exact H
      · have H := H J hJ; rw [if_neg z0, if_pos (Decidable.not_not.mp z1), m_xorC] at H; exact H
      · have H := H J hJ; rw [if_pos (Decidable.not_not.mp z0)] at H; exact H
    | succ a ih =>
      intro i y J hi hy hJ H
      obtain ⟨c0, c1⟩ := hall i (by omega)
      refine g_x12_over_94 ⟨u, fun q => absurd q (by rw [hJ.1 79 (by decide), hn]; omega), fun _ => ?_⟩
      rw [nix40 u (show i < 40 by omega), Int.toNat_natCast, hJ.1 80 (by decide), hcl i (by omega)]
      have ec : cl i = (((cl i).toNat : Nat) : Int) := by omega
      have hc9 : (((cl i).toNat : Nat) : Int) < I 67 9 := by omega
      refine ⟨by omega, ?_⟩
      rw [ec]
      refine r165 (by omega) (hJ.W hW) (by rw [hJ.2 9 (by decide)]; exact hc9) hy (fun J1 h1 => g_x12_over_123 ?_)
      rw [hJ.K, hJ.T, z1p i (by omega)]
      exact ih (i + 1) _ J1 (by omega) (nOne_R hW hc9 hy) (hJ.tr h1) H
  have one : ∀ (a i : Nat), i + a = n → (∀ j, j < i → 0 ≤ cl j ∧ cl j < I 67 9) → zRn (zcl d) 171 B Q1 52 [some (zr 67), some (zi x1), some (zi x2), some (zi x3), some (zi x2), some (zi (i : Nat))] [] (c, I, zRg g) := by
    intro a
    induction a with
    | zero =>
      intro i hi hj
      obtain rfl : i = n := by omega
      exact g_x12_over_52 ⟨u, fun _ => two hj i 0 x2 I (by omega) hx2 (nA.rf I) (H hj), fun q => absurd (by omega) q⟩
    | succ a ih =>
      intro i hi hj
      refine g_x12_over_52 ⟨u, fun q => absurd q (by omega), fun _ => ?_⟩
      rw [nix40 u (show i < 40 by omega), Int.toNat_natCast, hcl i (by omega)]
      refine ⟨by omega, r134 (by omega) h9 (g_x12_over_79 ⟨fun q => ?_, fun q => Hn (fun a1 => mbo_0.mp (Decidable.not_not.mp q) (a1 i (by omega)))⟩)⟩
      rw [z1p i (by omega)]
      refine ih (i + 1) (by omega) (fun j h => ?_)
      by_cases e : j = i
      · rw [e]; exact mbo_n0.mp q
      · exact hj j (by omega)
  exact one n 0 (by omega) (fun j h => absurd h (by omega))
/-- a sheet written anew: what is so behind it -/
def nSh (I J : zI) (s : Nat) (sort size : Int) : Prop := (∀ y, y ≠ 77 → y ≠ 78 → y ≠ 79 → y ≠ 80 → J y = I y) ∧ (∀ j, j ≠ s → J 77 j = I 77 j ∧ J 78 j = I 78 j ∧ J 79 j = I 79 j) ∧ (∀ j, ¬ (40 * s ≤ j ∧ j < 40 * s + 40) → J 80 j = I 80 j) ∧ J 77 s = (if sort < 0 then 0 else 1) ∧ J 78 s = sort ∧ J 79 s = size
theorem y_sheet {e : Nat} (he : 3 ≤ e) {x1 x2 x3 : Int} (Hb : ¬ ((0 ≤ x1 ∧ x1 < 4) ∧ (-1 ≤ x2 ∧ x2 ≤ 2) ∧ (0 ≤ x2 → x3 ≤ 40)) → Q (some (zi (-2))) (c, I, zRg g)) (Hs : (0 ≤ x1 ∧ x1 < 4) → (0 ≤ x2 ∧ x2 ≤ 2) → x3 < 0 → Q (some (zi (-14))) (c, I, zRg g))
    (H : (0 ≤ x1 ∧ x1 < 4) → (x2 = -1 ∨ ((0 ≤ x2 ∧ x2 ≤ 2) ∧ 0 ≤ x3 ∧ x3 ≤ 40)) → ∀ J, nSh I J x1.toNat x2 x3 → (0 ≤ x2 → ∀ j : Nat, (j : Int) < x3 → J 80 (40 * x1.toNat + j) = 0) → Q (some (zi 1)) (c, J, zRg g)) : zcl e 196 0 0 [zr 67, zi x1, zi x2, zi x3] (c, I, zRg g) Q := by
  obtain ⟨d, rfl⟩ : ∃ d, e = d + 1 := ⟨e - 1, by omega⟩
  refine zen rfl rfl (fun B Q1 hQ => g_x12_sheet_0 (r195 (by omega) (g_x12_sheet_4 ⟨fun u => hQ _ _ _ (Hb (fun q => mbo_0.mp u q.1)), fun u => r130 (by omega) (g_x12_sheet_18 ⟨fun v => hQ _ _ _ (Hb (fun q => mbo_0.mp v q.2.1)), fun v => ?_⟩)⟩)))
  have u := mbo_n0.mp u
  have v := mbo_n0.mp v
  have hs : x1.toNat < 4 := by omega
  have put : ∀ b : Int, b = (if x2 < 0 then 0 else 1) → nSh I (z2 (z2 (z2 I 77 x1.toNat b) 78 x1.toNat x2) 79 x1.toNat x3) x1.toNat x2 x3 := by
    intro b hb
    refine ⟨fun y a1 a2 a3 a4 => by rw [z2_r a3, z2_r a2, z2_r a1], fun j hj => ⟨?_, ?_, ?_⟩, fun j _ => ?_, ?_, ?_, z2_s⟩
    · rw [z2_n (Or.inl (by decide)), z2_n (Or.inl (by decide)), z2_n (Or.inr hj)]
    · rw [z2_n (Or.inl (by decide)), z2_n (Or.inr hj), z2_n (Or.inl (by decide))]
    · rw [z2_n (Or.inr hj), z2_n (Or.inl (by decide)), z2_n (Or.inl (by decide))]
    · rw [z2_n (Or.inl (by decide)), z2_n (Or.inl (by decide)), z2_n (Or.inl (by decide))]
    · rw [z2_n (Or.inl (by decide)), z2_n (Or.inl (by decide)), z2_s]; exact hb
    · rw [z2_n (Or.inl (by decide)), z2_s]
  have loop : 0 ≤ x2 → (0 ≤ x3 ∧ x3 ≤ 40) → ∀ (a i : Nat) (J : zI), (i : Int) + a = x3 → nSh I J x1.toNat x2 x3 → (∀ j, j < i → J 80 (40 * x1.toNat + j) = 0) → zRn (zcl d) 196 B Q1 77 [some (zr 67), some (zi x1), some (zi x2), some (zi x3), some (zi (i : Nat))] [] (c, J, zRg g) := by
    intro h2 h3 a
    induction a with
    | zero =>
      intro i J hi hJ hz
      exact g_x12_sheet_77 ⟨fun _ => hQ _ _ _ (H u (Or.inr ⟨⟨h2, v.2⟩, h3⟩) J hJ (fun _ j hj => hz j (by omega))), fun q => absurd (by omega) q⟩
    | succ a ih =>
      intro i J hi hJ hz
      refine g_x12_sheet_77 ⟨fun q => absurd q (by omega), fun _ => ⟨fun q => absurd q (by omega), fun _ => ?_⟩⟩
      rw [nix40 u (show i < 40 by omega), Int.toNat_natCast, z1p i (by omega)]
      obtain ⟨j1, j2, j3, j4, j5, j6⟩ := hJ
      refine ⟨by omega, ih (i + 1) _ (by omega) ⟨fun y a1 a2 a3 a4 => by rw [z2_r a4]; exact j1 y a1 a2 a3 a4, fun j q => ?_, fun j q => ?_, ?_, ?_, ?_⟩ (fun j q => ?_)⟩
      · rw [z2_n (Or.inl (by decide)), z2_n (Or.inl (by decide)), z2_n (Or.inl (by decide))]; exact j2 j q
      · rw [z2_n (Or.inr (by omega))]; exact j3 j q
      · rw [z2_n (Or.inl (by decide))]; exact j4
      · rw [z2_n (Or.inl (by decide))]; exact j5
      · rw [z2_n (Or.inl (by decide))]; exact j6
      · by_cases e : j = i
        · rw [e, z2_s]
        · rw [z2_n (Or.inr (by omega))]; exact hz j (by omega)
  refine ⟨fun a => ⟨fun _ => ⟨fun _ => ⟨u, u, u, ?_⟩, fun z => absurd a z⟩, fun z => absurd a z⟩, fun a => ⟨fun b => ⟨fun z => absurd z a, fun _ => ⟨fun f => ⟨fun z => absurd z a, fun _ => ⟨u, u, u, ?_⟩⟩, fun f => hQ _ _ _ (Hs u (by omega) (by omega))⟩⟩, fun b => hQ _ _ _ (Hb (fun q => b (q.2.2 (by omega))))⟩⟩
  · have fin := hQ _ _ _ (H u (Or.inl (by omega)) _ (put 0 (by rw [if_pos a])) (fun q => absurd q (by omega)))
    exact g_x12_sheet_77 ⟨fun _ => fin, fun _ => ⟨fun _ => fin, fun z => absurd a z⟩⟩
  · exact loop (by omega) (by omega) x3.toNat 0 _ (by omega) (put 1 (by rw [if_neg a])) (fun j hj => absurd hj (by omega))
theorem y_film {e : Nat} (he : 54 ≤ e) {x1 x2 : Int} (hW : nW I) (Hb : ¬ ((0 ≤ x1 ∧ x1 < 4) ∧ (0 ≤ x2 ∧ x2 < I 67 9)) → Q (some (zi (-2))) (c, I, zRg g))
    (H : (0 ≤ x1 ∧ x1 < 4) → (0 ≤ x2 ∧ x2 < I 67 9) → ∀ J, nP I J → (∀ j, j ≠ x1.toNat → J 77 j = I 77 j ∧ J 78 j = I 78 j ∧ J 79 j = I 79 j) → (∀ j, ¬ (40 * x1.toNat ≤ j ∧ j < 40 * x1.toNat + 40) → J 80 j = I 80 j) → J 77 x1.toNat = 1 → J 78 x1.toNat = 1 → J 79 x1.toNat = 10 → (∀ i : Nat, i < 10 → J 80 (40 * x1.toNat + i) = nOne I x2.toNat (zshl 1 (i : Int))) → Q (some (zi (mcn (fun i => decide (nOne I x2.toNat (zshl 1 (i : Int)) = zshl 1 (i : Int))) 10))) (c, J, zRg g)) : zcl e 188 0 0 [zr 67, zi x1, zi x2] (c, I, zRg g) Q := by
  obtain ⟨d, rfl⟩ : ∃ d, e = d + 1 := ⟨e - 1, by omega⟩
  refine zen rfl rfl (fun B Q1 hQ => g_x12_film_0 (r195 (by omega) (g_x12_film_4 ⟨fun u => hQ _ _ _ (Hb (fun q => mbo_0.mp u q.1)), fun u => r134 (by omega) hW.n9 (g_x12_film_12 ⟨fun v => ?_, fun v => hQ _ _ _ (Hb (fun q => mbo_0.mp (Decidable.not_not.mp v) q.2))⟩)⟩)))
  have u := mbo_n0.mp u
  have v := mbo_n0.mp v
  have H := fun J a1 a2 a3 a4 a5 a6 a7 => hQ _ _ _ (H u v J a1 a2 a3 a4 a5 a6 a7)
  have ex2 : x2 = ((x2.toNat : Nat) : Int) := by omega
  have hp9 : ((x2.toNat : Nat) : Int) < I 67 9 := by omega
  rw [ex2]
  generalize x2.toNat = p at H hp9
  generalize hP : (fun i : Nat => decide (nOne I p (zshl 1 (i : Int)) = zshl 1 (i : Int))) = P at H
  have hP1 : ∀ i : Nat, P i = decide (nOne I p (zshl 1 (i : Int)) = zshl 1 (i : Int)) := fun i => by rw [← hP]
  refine y_sheet (by omega) (fun q => absurd ?_ q) (fun _ _ q => absurd q (by decide)) (fun _ _ J0 hJ0 _ => g_x12_film_26 ?_)
  · exact ⟨u, by decide, fun _ => by decide⟩
  have loop : ∀ (a i : Nat) (J : zI) (o : Option zV), i + a = 10 → nP I J → (∀ j, j ≠ x1.toNat → J 77 j = I 77 j ∧ J 78 j = I 78 j ∧ J 79 j = I 79 j) → (∀ j, ¬ (40 * x1.toNat ≤ j ∧ j < 40 * x1.toNat + 40) → J 80 j = I 80 j) → J 77 x1.toNat = 1 → J 78 x1.toNat = 1 → J 79 x1.toNat = 10 → (∀ j : Nat, j < i → J 80 (40 * x1.toNat + j) = nOne I p (zshl 1 (j : Int))) → zRn (zcl d) 188 B Q1 32 [some (zr 67), some (zi x1), some (zi (p : Nat)), some (zi (mcn P i)), some (zi (i : Nat)), o] [] (c, J, zRg g) := by
    intro a
    induction a with
    | zero =>
      intro i J o hi a1 a2 a3 a4 a5 a6 a7
      obtain rfl : i = 10 := by omega
      exact g_x12_film_32 ⟨fun _ => H J a1 a2 a3 a4 a5 a6 a7, fun q => absurd (by decide) q⟩
    | succ a ih =>
      intro i J o hi a1 a2 a3 a4 a5 a6 a7
      have hsh : mR (zshl 1 (i : Int)) := m_shl (by omega) (by omega)
      have hr := mcn_r P i
      have hi10 : i < 10 := by omega
      refine g_x12_film_32 ⟨fun q => absurd q (by omega), fun _ => r165 (by omega) (a1.W hW) (by rw [a1.2 9 (by decide)]; exact hp9) hsh (fun J1 h1 => g_x12_film_48 ?_)⟩
      have hv : mtell (nT J) (nK J) p (zshl 1 (i : Int)) = nOne I p (zshl 1 (i : Int)) := by rw [a1.K, a1.T]; rfl
      have em : mcn P (i + 1) = if P i = true then mcn P i + 1 else mcn P i := rfl
      rw [hv, nix40 u (show i < 40 by omega), Int.toNat_natCast, z1p i (by omega), zwr_eq (show zIn (mcn P i + 0) by omega), zwr_eq (show zIn (mcn P i + 1) by omega), Int.add_zero]
      have ih := fun o => ih (i + 1) (z2 J1 80 (40 * x1.toNat + i) (nOne I p (zshl 1 (i : Int)))) o (by omega) (a1.tr (h1.P.tr ⟨fun y _ _ _ _ q => z2_r q, fun j _ => z2_n (Or.inl (by decide))⟩)) (fun j q => by
          rw [z2_n (Or.inl (by decide)), z2_n (Or.inl (by decide)), z2_n (Or.inl (by decide)), h1.1 77 (by decide), h1.1 78 (by decide), h1.1 79 (by decide)]
          exact a2 j q) (fun j q => by rw [z2_n (Or.inr (by omega)), h1.1 80 (by decide)]; exact a3 j q) (by rw [z2_n (Or.inl (by decide)), h1.1 77 (by decide)]; exact a4) (by rw [z2_n (Or.inl (by decide)), h1.1 78 (by decide)]; exact a5) (by rw [z2_n (Or.inl (by decide)), h1.1 79 (by decide)]; exact a6) (fun j q => by
          by_cases w : j = i
          · rw [w, z2_s]
          · rw [z2_n (Or.inr (by omega)), h1.1 80 (by decide)]; exact a7 j (by omega))
      rw [em] at ih
      refine ⟨by omega, fun w => ?_, fun w => ?_⟩
      · rw [if_neg (fun q => w (of_decide_eq_true ((hP1 i).symm.trans q)))] at ih
        exact ih _
      · rw [if_pos ((hP1 i).trans (decide_eq_true (Decidable.not_not.mp w)))] at ih
        exact ih _
  obtain ⟨j1, j2, j3, j4, j5, j6⟩ := hJ0
  exact loop 10 0 J0 _ (by omega) ⟨fun y _ q1 q2 q3 q4 => j1 y q1 q2 q3 q4, fun j _ => by rw [j1 67 (by decide) (by decide) (by decide) (by decide)]⟩ j2 j3 (by rw [j4]; rfl) j5 j6 (fun j q => absurd q (by omega))
theorem r189 {e : Nat} (he : 56 ≤ e) (hW : nW I) {J : zI} (hG : nG I J) {x1 x2 : Int} (h0 : 0 ≤ x2) (h40 : x2 ≤ 40) (H : ∀ J1, nG I J1 → Q (some (zi (mdrs (nAll I) x2.toNat x1 0))) (c, J1, zRg g)) : zcl e 189 0 0 [zr 67, zi x1, zi x2] (c, J, zRg g) Q := by
  obtain ⟨d, rfl⟩ : ∃ d, e = d + 1 := ⟨e - 1, by omega⟩
  refine zen rfl rfl (fun B Q1 hQ => g_x12_offDrawn_0 ?_)
  have loop : ∀ (n i : Nat) (z s : Int) (J : zI) (o6 : Option zV), (i : Int) + n = x2 → 0 ≤ s → s ≤ 10 * i → nG I J → (∀ J1, nG I J1 → Q1 (some (zi (mdrs (nAll I) n z s))) (c, J1, zRg g)) → zRn (zcl d) 189 B Q1 8 [some (zr 67), some (zi x1), some (zi x2), some (zi z), some (zi s), some (zi (i : Nat)), o6] [] (c, J, zRg g) := by
    intro n
    induction n with
    | zero => exact fun i z s J o6 hi q0 q1 hF H => g_x12_offDrawn_8 ⟨fun _ => H J hF, fun u => absurd (by omega) u⟩
    | succ n ih =>
      intro i z s J o6 hi q0 q1 hF H
      have hr := mth_R z
      have hb := mbc_r (zxor (mth z) (nAll I (mth z)))
      have hi6 : i < 1000000 := by omega
      refine g_x12_offDrawn_8 ⟨fun u => absurd u (by omega), fun _ => ?_⟩
      refine r_all (by omega) hW hF hr (fun J1 hJ1 _ _ _ _ => g_x12_offDrawn_44 (r170 (by omega) hr (nAll_R hW hr) (g_x12_offDrawn_47 ?_)))
      have := ih (i + 1) (mrg z) (s + mbc (zxor (mth z) (nAll I (mth z)))) J1 (some (zi (mth z))) (by omega) (by omega) (by omega) hJ1 H
      rw [z1p i hi6]
      have e : zwr (s + mbc (zxor (mth z) (nAll I (mth z)))) = s + mbc (zxor (mth z) (nAll I (mth z))) := zwr_eq (by omega)
      show zRn (zcl d) 189 B Q1 8 [some (zr 67), some (zi x1), some (zi x2), some (zi (mrg z)), some (zi (zwr (s + mbc (zxor (mth z) (nAll I (mth z)))))), some (zi ((i + 1 : Nat) : Int)), some (zi (mth z))] [] (c, J1, zRg g)
      rw [e]
      exact this
  exact loop x2.toNat 0 x1 0 J _ (by omega) (by omega) (by omega) hG (fun J1 h1 => hQ _ _ _ (H J1 h1))
theorem y_drawn {e : Nat} (he : 58 ≤ e) {x1 x2 : Int} (hW : nW I) (Hb : ¬ (0 ≤ x2 ∧ x2 ≤ 40) → Q (some (zi (-2))) (c, I, zRg g)) (H : 0 ≤ x2 → x2 ≤ 40 → ∀ J, nG I J → Q (some (zi (mdrs (nAll I) x2.toNat x1 0))) (c, J, zRg g)) : zcl e 190 0 0 [zr 67, zi x1, zi x2] (c, I, zRg g) Q := by
  obtain ⟨d, rfl⟩ : ∃ d, e = d + 1 := ⟨e - 1, by omega⟩
  refine zen rfl rfl (fun B Q1 hQ => g_x12_drawn_0 (r130 (by omega) (g_x12_drawn_9 ⟨fun u => hQ _ _ _ (Hb (mbo_0.mp u)), fun u => ?_⟩)))
  have u := mbo_n0.mp u
  exact r189 (by omega) hW (nG.rf I) u.1 u.2 (fun J h => g_x12_drawn_18 (hQ _ _ _ (H u.1 u.2 J h)))
def nch (F : Int → Int) (x1 k : Int) (i : Nat) : Bool := decide (mdrs F 1 (zwr (x1 + (i : Int))) 0 ≤ k)
theorem mch_n {I : zI} : mch I = nch (mAll I) := rfl
theorem y_chance {e : Nat} (he : 58 ≤ e) {x1 x2 x3 x4 : Int} (hW : nW I) (Hb : ¬ ((1 ≤ x2 ∧ x2 ≤ 40) ∧ (0 ≤ x3 ∧ x3 ≤ 10) ∧ 0 ≤ x4 ∧ x4 ≤ 1) → Q (some (zl mNO)) (c, I, zRg g)) (H : 1 ≤ x2 → x2 ≤ 40 → 0 ≤ x3 → x3 ≤ 10 → 0 ≤ x4 → x4 ≤ 1 → ∀ J, nG I J → Q (some (zl (mlo (mcn (nch (nAll I) x1 x3) x2.toNat) x2 x4))) (c, J, zRg g)) : zcl e 191 0 0 [zr 67, zi x1, zi x2, zi x3, zi x4] (c, I, zRg g) Q := by
  obtain ⟨d, rfl⟩ : ∃ d, e = d + 1 := ⟨e - 1, by omega⟩
  refine zen rfl rfl (fun B Q1 hQ => g_x12_chance_0 (r130 (by omega) (g_x12_chance_9 ⟨fun u => hQ _ _ _ (Hb (fun q => mbo_0.mp u q.1)), fun u => r130 (by omega) (g_x12_chance_21 ⟨fun v => hQ _ _ _ (Hb (fun q => mbo_0.mp v q.2.1)), fun v => r130 (by omega) (g_x12_chance_32 ⟨fun w => ?_, fun w => hQ _ _ _ (Hb (fun q => mbo_0.mp (Decidable.not_not.mp w) q.2.2))⟩)⟩)⟩)))
  have u := mbo_n0.mp u
  have v := mbo_n0.mp v
  have w := mbo_n0.mp w
  have H := fun J h => hQ _ _ _ (H u.1 u.2 v.1 v.2 w.1 w.2 J h)
  have loop : ∀ (n i : Nat) (J : zI), (i : Int) + n = x2 → nG I J → zRn (zcl d) 191 B Q1 45 [some (zr 67), some (zi x1), some (zi x2), some (zi x3), some (zi x4), some (zl (mcn (nch (nAll I) x1 x3) i)), none, some (zi (i : Nat))] [] (c, J, zRg g) := by
    intro n
    induction n with
    | zero =>
      intro i J hi hF
      have hr := mcn_r (nch (nAll I) x1 x3) i
      have ei : i = x2.toNat := by omega
      rw [← ei] at H
      exact g_x12_chance_45 ⟨fun _ => r183 (by omega) (by omega) (by omega) (g_x12_chance_89 (H J hF)), fun q => absurd (by omega) q⟩
    | succ n ih =>
      intro i J hi hF
      have hr := mcn_r (nch (nAll I) x1 x3) i
      have hi6 : i < 1000000 := by omega
      have em : mcn (nch (nAll I) x1 x3) (i + 1) = if nch (nAll I) x1 x3 i = true then mcn (nch (nAll I) x1 x3) i + 1 else mcn (nch (nAll I) x1 x3) i := rfl
      refine g_x12_chance_45 ⟨fun q => absurd q (by omega), fun _ => r189 (by omega) hW hF (by decide) (by decide) (fun J1 h1 => g_x12_chance_62 ⟨fun q => ?_, fun q => ?_⟩)⟩
      · have := ih (i + 1) J1 (by omega) h1
        rw [em, if_neg (fun z => by have z : mdrs (nAll I) 1 (zwr (x1 + (i : Int))) 0 ≤ x3 := of_decide_eq_true z; exact absurd q (Int.not_lt.mpr z))] at this
        have ez : zwl (mcn (nch (nAll I) x1 x3) i + 0) = mcn (nch (nAll I) x1 x3) i := by unfold zwl; omega
        rw [z1p i hi6, ez]
        exact this
      · have := ih (i + 1) J1 (by omega) h1
        rw [em, if_pos (show nch (nAll I) x1 x3 i = true from decide_eq_true (Int.not_lt.mp q))] at this
        have ez : zwl (mcn (nch (nAll I) x1 x3) i + 1) = mcn (nch (nAll I) x1 x3) i + 1 := by unfold zwl; omega
        rw [z1p i hi6, ez]
        exact this
  exact loop x2.toNat 0 I (by omega) (nG.rf I)
end
end
