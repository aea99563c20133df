/-! contracts: sheets, crew, over -/
def mcv (s v : Int) : Int := if s = 0 then zi2b v else if s = 1 then zi2s v else v
abbrev mpok (a b e f : Int) : Prop := (0 ≤ a ∧ a ≤ 5) ∧ (0 ≤ b ∧ b ≤ 9) ∧ mR e ∧ 0 ≤ f ∧ f ≤ 99
/-- one of PEOPLE comes -/
def mper (K : zI) (a b e f : Int) : zI := if mpok a b e f ∧ K 0 2 < 5 then z2 (z2 (z2 (z2 (z2 (z2 K (3 + (K 0 2).toNat) 0 a) (3 + (K 0 2).toNat) 1 b) (3 + (K 0 2).toNat) 2 e) (3 + (K 0 2).toNat) 3 f) (3 + (K 0 2).toNat) 4 0) 0 2 (K 0 2 + 1) else K
def mperr (K : zI) (a b e f : Int) : Int := if mpok a b e f then (if K 0 2 < 5 then K 0 2 else -4) else -2
def mcw (cl : Nat → Int) (size : Int) : Nat → zI → Int → Int → zI × Int
  | 0, K, _, m => (K, m)
  | n + 1, K, pl, m => if 0 ≤ pl ∧ pl + 4 ≤ size then mcw cl size n (mper K (cl pl.toNat) (cl (pl.toNat + 1)) (cl (pl.toNat + 2)) (cl (pl.toNat + 3))) (pl + 4) (if mperr K (cl pl.toNat) (cl (pl.toNat + 1)) (cl (pl.toNat + 2)) (cl (pl.toNat + 3)) < 0 then m else m + 1) else (K, -12)
def mrt (F : Nat → Int → Int) (cl : Nat → Int) : Nat → Nat → Int → Int
  | 0, _, x => x
  | n + 1, i, x => mrt F cl n (i + 1) (F (cl i).toNat x)
theorem mper_0 (K : zI) (a b e f : Int) (h0 : 0 ≤ K 0 2) (h5 : K 0 2 ≤ 5) : 0 ≤ mper K a b e f 0 2 ∧ mper K a b e f 0 2 ≤ 5 := by
  unfold mper
  split
  · rw [z2_s]; omega
  · exact ⟨h0, h5⟩
section
variable {d : Nat} {c : Nat × Nat × Nat} {I : zI} {g : Nat} {Q : zQ}
theorem k60 {s : Nat} (hs : s < 4) (H : Q (some (zi (mbo (I (36 + 2 * s) 1 = -1)))) (c, I, zRg g)) : zcl (d + 1) 60 0 0 [zr (36 + 2 * s)] (c, I, zRg g) Q :=
  zen rfl rfl (fun B Q1 hQ => g_x8_isMissing_0 ⟨(mS_0 hs).1, fun u => zQi (mbo_f u).symm (hQ _ _ _ H), fun u => zQi (mbo_t (Decidable.not_not.mp u)).symm (hQ _ _ _ H)⟩)
theorem k61 {s : Nat} (hs : s < 4) (h40 : 0 ≤ I (36 + 2 * s) 2 ∧ I (36 + 2 * s) 2 ≤ 40) {i n : Int} (H : Q (some (zi (mbo (0 ≤ i ∧ 0 ≤ n ∧ i ≤ I (36 + 2 * s) 2 ∧ n ≤ I (36 + 2 * s) 2 - i)))) (c, I, zRg g)) : zcl (d + 1) 61 0 0 [zr (36 + 2 * s), zi i, zi n] (c, I, zRg g) Q := by
  have H0 : ¬ (0 ≤ i ∧ 0 ≤ n ∧ i ≤ I (36 + 2 * s) 2 ∧ n ≤ I (36 + 2 * s) 2 - i) → Q (some (zi 0)) (c, I, zRg g) := fun q => zQi (mbo_f q).symm H
  have H1 : (0 ≤ i ∧ 0 ≤ n ∧ i ≤ I (36 + 2 * s) 2 ∧ n ≤ I (36 + 2 * s) 2 - i) → Q (some (zi 1)) (c, I, zRg g) := fun q => zQi (mbo_t q).symm H
  have h8 := (mS_0 hs).1
  generalize 36 + 2 * s = a at h40 H0 H1 h8 ⊢
  refine zen rfl rfl (fun B Q1 hQ => g_x8_has_0 ⟨fun u => hQ _ _ _ (H0 (fun q => by omega)), fun u => ⟨fun u1 => hQ _ _ _ (H0 (fun q => by omega)), fun u1 => ⟨h8, fun u2 => hQ _ _ _ (H0 (fun q => by omega)), fun u2 => ⟨h8, ?_⟩⟩⟩⟩)
  rw [zwr_eq (show zIn (I a 2 - i) by omega)]
  exact ⟨fun u3 => hQ _ _ _ (H0 (fun q => by omega)), fun u3 => hQ _ _ _ (H1 (by omega))⟩
theorem l_clr {s : Nat} {B : Nat × Nat} (hs : s < 4) {x1 x2 : Int} {e : Nat} (he : e ≤ 40) : ∀ (n i : Nat) (J : zI), i + n = e → J (36 + 2 * s) 2 = e → (∀ j, j < i → J (37 + 2 * s) j = 0) → (∀ J1, (∀ y, y ≠ 37 + 2 * s → J1 y = J y) → (∀ j, j < e → J1 (37 + 2 * s) j = 0) → Q none (c, J1, zRg g)) → zRn (zcl d) 62 B Q 17 [some (zr (36 + 2 * s)), some (zi x1), some (zi x2), some (zi (i : Nat))] [] (c, J, zRg g) := by
  have h8 := (mS_0 hs).1
  have h9 := (mS_0 hs).2
  have hg := (mX_s (g := g) hs).2
  intro n
  induction n with
  | zero => exact fun i J hi hJ hj H => g_x8_become_17 (y1 := 0) ⟨h8, fun _ => H J (fun _ _ => rfl) (fun j h => hj j (by omega)), fun u => absurd (by rw [hJ]; omega) u⟩
  | succ n ih =>
    intro i J hi hJ hj H
    refine g_x8_become_17 (y1 := 37 + 2 * s) ⟨h8, fun u => absurd u (by rw [hJ]; omega), fun _ => ⟨h8, hg, by rw [h9], by rw [h9]; simp only; omega, ?_⟩⟩
    rw [z1p i (by omega), show ((i : Nat) : Int).toNat = i from rfl]
    refine ih (i + 1) _ (by omega) (by rw [z2_n (Or.inl (by omega))]; exact hJ) (fun j h => ?_) (fun J1 h1 h2 => H J1 (fun y hy => by rw [h1 y hy, z2_r hy]) h2)
    by_cases q : j = i
    · rw [q, z2_s]
    · rw [z2_n (Or.inr q)]; exact hj j (by omega)
theorem k62 {s : Nat} (hs : s < 4) {x1 x2 : Int} (h : 0 ≤ x2 ∧ x2 ≤ 40) (H : ∀ J, (∀ y, y ≠ 36 + 2 * s → y ≠ 37 + 2 * s → J y = I y) → J (36 + 2 * s) 1 = x1 → J (36 + 2 * s) 2 = x2 → (∀ j : Nat, (j : Int) < x2 → J (37 + 2 * s) j = 0) → Q none (c, J, zRg g)) : zcl (d + 2) 62 0 0 [zr (36 + 2 * s), zi x1, zi x2] (c, I, zRg g) Q := by
  have h8 := (mS_0 hs).1
  have e : mcl x2 0 40 = ((x2.toNat : Nat) : Int) := by unfold mcl; omega
  refine zen rfl rfl (fun B Q1 hQ => g_x8_become_0 ⟨h8, k_within (by omega) (g_x8_become_12 ⟨h8, ?_⟩)⟩)
  rw [e]
  refine l_clr (e := x2.toNat) (i := 0) hs (by omega) x2.toNat _ (by omega) z2_s (fun j hj => absurd hj (by omega)) (fun J1 h1 h2 => hQ _ _ _ (H J1 (fun y a b => by rw [h1 y b, z2_r a, z2_r a]) ?_ ?_ (fun j hj => h2 j (by omega))))
  · rw [h1 _ (by omega), z2_n (Or.inr (by decide)), z2_s]
  · rw [h1 _ (by omega), z2_s]; omega
theorem k63 {s : Nat} (hs : s < 4) {i v : Int} (h : 0 ≤ i ∧ i < 40) (H : Q none (c, z2 I (37 + 2 * s) i.toNat (mcv (I (36 + 2 * s) 1) v), zRg g)) : zcl (d + 1) 63 0 0 [zr (36 + 2 * s), zi i, zi v] (c, I, zRg g) Q := by
  have h8 := (mS_0 hs).1
  have h9 : (zSh (37 + 2 * s)).1 = 100 := by rw [(mS_0 hs).2]
  have hb : 0 ≤ i ∧ i < ((zSh (37 + 2 * s)).2 : Nat) := by rw [(mS_0 hs).2]; exact h
  have hg := (mX_s (g := g) hs).2
  refine zen rfl rfl (fun B Q1 hQ => g_x8_put_0 (y1 := 37 + 2 * s) (y2 := 37 + 2 * s) (y3 := 37 + 2 * s) ⟨h8, fun u => ⟨h8, hg, h9, hb, ?_⟩, fun u => ⟨fun u1 => ⟨h8, hg, h9, hb, ?_⟩, fun u1 => ⟨h8, hg, h9, hb, ?_⟩⟩⟩)
  · have H := hQ _ _ _ H
    unfold mcv at H
    rw [if_pos u] at H
    exact H
  · have H := hQ _ _ _ H
    unfold mcv at H
    rw [if_neg u, if_pos u1] at H
    exact H
  · have H := hQ _ _ _ H
    unfold mcv at H
    rw [if_neg u, if_neg u1] at H
    exact H
theorem x_sheet {x1 x2 x3 : Int} (Hb : ¬ ((0 ≤ x1 ∧ x1 < 4) ∧ (-1 ≤ x2 ∧ x2 ≤ 2) ∧ (0 ≤ x2 → x3 ≤ 40)) → Q (some (zi (-2))) (c, I, zRg g)) (Hs : (0 ≤ x1 ∧ x1 < 4) → (0 ≤ x2 ∧ x2 ≤ 2) → x3 < 0 → Q (some (zi (-14))) (c, I, zRg g))
    (H : (0 ≤ x1 ∧ x1 < 4) → ∀ n : Int, (x2 = -1 ∧ n = 0) ∨ ((0 ≤ x2 ∧ x2 ≤ 2) ∧ (0 ≤ x3 ∧ x3 ≤ 40) ∧ n = x3) → ∀ J, (∀ y, y ≠ 36 + 2 * x1.toNat → y ≠ 37 + 2 * x1.toNat → J y = I y) → J (36 + 2 * x1.toNat) 1 = x2 → J (36 + 2 * x1.toNat) 2 = n → (∀ j : Nat, (j : Int) < n → J (37 + 2 * x1.toNat) j = 0) → Q (some (zi 1)) (c, J, zRg g)) : zcl (d + 3) 124 0 0 [zr 0, zi x1, zi x2, zi x3] (c, I, zRg g) Q := by
  refine zen rfl rfl (fun B Q1 hQ => g_x11_sheet_0 (k_isSheet (g_x11_sheet_4 (y1 := 36 + 2 * x1.toNat) (y2 := 36 + 2 * x1.toNat) ⟨fun u => hQ _ _ _ (Hb (fun q => mbo_0.mp u q.1)), fun u => ⟨fun u1 => hQ _ _ _ (Hb (fun q => by omega)), fun u1 => ⟨fun u2 => ⟨fun u3 => ⟨fun u4 => ⟨fun u5 => ?_, fun u5 => hQ _ _ _ (Hs (mbo_n0.mp u) (by omega) (by omega))⟩, fun u4 => hQ _ _ _ (Hb (fun q => by omega))⟩, fun u3 => ?_⟩, fun u2 => hQ _ _ _ (Hb (fun q => by omega))⟩⟩⟩)))
  · have u := mbo_n0.mp u
    have hs : x1.toNat < 4 := by omega
    exact ⟨u, (mX_s hs).1, by rw [(mS_0 hs).1]; rfl, k62 hs ⟨u5, u4⟩ (fun J a b e f => g_x11_sheet_65 (hQ _ _ _ (H u x3 (Or.inr ⟨by omega, by omega, rfl⟩) J a b e f)))⟩
  · have u := mbo_n0.mp u
    have hs : x1.toNat < 4 := by omega
    have e1 : x2 = -1 := Decidable.not_not.mp u3
    exact ⟨u, (mX_s hs).1, by rw [(mS_0 hs).1]; rfl, k62 hs (by omega) (fun J a b e f => g_x11_sheet_36 (hQ _ _ _ (H u 0 (Or.inl ⟨e1, rfl⟩) J a (by rw [e1]; exact b) e f)))⟩
theorem x_cell {x1 x2 x3 : Int} (h40 : ∀ s, s < 4 → 0 ≤ I (36 + 2 * s) 2 ∧ I (36 + 2 * s) 2 ≤ 40) (Hb : ¬ (0 ≤ x1 ∧ x1 < 4) → Q (some (zi (-2))) (c, I, zRg g)) (Hm : (0 ≤ x1 ∧ x1 < 4) → I (36 + 2 * x1.toNat) 1 = -1 → Q (some (zi (-11))) (c, I, zRg g)) (Ho : (0 ≤ x1 ∧ x1 < 4) → I (36 + 2 * x1.toNat) 1 ≠ -1 → ¬ (0 ≤ x2 ∧ x2 < I (36 + 2 * x1.toNat) 2) → Q (some (zi (-12))) (c, I, zRg g))
    (H : (0 ≤ x1 ∧ x1 < 4) → I (36 + 2 * x1.toNat) 1 ≠ -1 → (0 ≤ x2 ∧ x2 < I (36 + 2 * x1.toNat) 2) → Q (some (zi 1)) (c, z2 I (37 + 2 * x1.toNat) x2.toNat (mcv (I (36 + 2 * x1.toNat) 1) x3), zRg g)) : zcl (d + 2) 125 0 0 [zr 0, zi x1, zi x2, zi x3] (c, I, zRg g) Q := by
  refine zen rfl rfl (fun B Q1 hQ => g_x11_cell_0 (k_isSheet (g_x11_cell_4 (y1 := 36 + 2 * x1.toNat) ⟨fun u => ?_, fun u => hQ _ _ _ (Hb (mbo_0.mp (Decidable.not_not.mp u)))⟩)))
  have u := mbo_n0.mp u
  have hs : x1.toNat < 4 := by omega
  have h4 := h40 _ hs
  refine ⟨u, (mX_s hs).1, by rw [(mS_0 hs).1]; rfl, k60 hs (g_x11_cell_19 (y1 := 36 + 2 * x1.toNat) ⟨fun u1 => ⟨u, (mX_s hs).1, by rw [(mS_0 hs).1]; rfl, k61 hs h4 (g_x11_cell_36 (y1 := 36 + 2 * x1.toNat) ⟨fun u2 => ⟨u, (mX_s hs).1, by rw [(mS_0 hs).1]; rfl, ?_⟩, fun u2 => hQ _ _ _ (Ho u (mbo_0.mp u1) ?_)⟩)⟩, fun u1 => hQ _ _ _ (Hm u (mbo_n0.mp u1))⟩)⟩
  · have u2 := mbo_n0.mp u2
    exact k63 hs (by omega) (g_x11_cell_53 (hQ _ _ _ (H u (mbo_0.mp u1) (by omega))))
  · have u2 := mbo_0.mp (Decidable.not_not.mp u2)
    omega
theorem k_person {x1 x2 x3 x4 : Int} (h0 : 0 ≤ I 2 2) (h5 : I 2 2 ≤ 5) (H : Q (some (zi (mperr (mK 2 I) x1 x2 x3 x4))) (c, mput 2 I (mper (mK 2 I) x1 x2 x3 x4), zRg g)) : zcl (d + 2) 78 0 0 [zr 0, zi x1, zi x2, zi x3, zi x4] (c, I, zRg g) Q := by
  have hK : mK 2 I 0 2 = I 2 2 := rfl
  refine x_person h0 h5 (fun q => ?_) (fun q q2 => ?_) (fun q q2 => ?_)
  · have e1 : mper (mK 2 I) x1 x2 x3 x4 = mK 2 I := if_neg (fun w => q w.1)
    have e2 : mperr (mK 2 I) x1 x2 x3 x4 = -2 := if_neg q
    rw [e1, e2, mput_self] at H
    exact H
  · have e1 : mper (mK 2 I) x1 x2 x3 x4 = mK 2 I := if_neg (fun w => by omega)
    have e2 : mperr (mK 2 I) x1 x2 x3 x4 = -4 := by unfold mperr; rw [if_pos q, if_neg (by omega)]
    rw [e1, e2, mput_self] at H
    exact H
  · have e1 : mper (mK 2 I) x1 x2 x3 x4 = z2 (z2 (z2 (z2 (z2 (z2 (mK 2 I) (3 + (I 2 2).toNat) 0 x1) (3 + (I 2 2).toNat) 1 x2) (3 + (I 2 2).toNat) 2 x3) (3 + (I 2 2).toNat) 3 x4) (3 + (I 2 2).toNat) 4 0) 0 2 (I 2 2 + 1) := if_pos ⟨q, q2⟩
    have e2 : mperr (mK 2 I) x1 x2 x3 x4 = I 2 2 := by unfold mperr; rw [if_pos q, if_pos (by omega)]; rfl
    rw [e1, e2, ← mput_z2 (by omega), ← mput_z2 (by omega), ← mput_z2 (by omega), ← mput_z2 (by omega), ← mput_z2 (by omega), ← mput_z2 (by omega), mput_self] at H
    exact H
end

