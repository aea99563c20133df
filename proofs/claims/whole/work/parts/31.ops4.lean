/-! contracts: fractions, the mean, chance, over, taken, count, image, back -/
def mgc (a b : Int) : Int := ((Nat.gcd a.toNat b.toNat : Nat) : Int)
def mlo (a b p : Int) : Int := if p = 0 then a / mgc a b else b / mgc a b
def msm (K : zI) : Nat → Nat → Int → Int
  | 0, _, s => s
  | n + 1, p, s => msm K n (p + 1) (s + mbc (K (3 + p) 2))
def mund (k x : Int) : Prop := x = k ∨ x = 0 ∨ (k = 3 ∧ x = 1) ∨ (k = 4 ∧ x = 2)
def mNO : Int := -4611686018427387904
theorem mgc_rec {u v : Nat} (hv : 0 < v) : Nat.gcd u v = Nat.gcd v (u % v) := by
  rw [Nat.gcd_comm u v, Nat.gcd_rec v u, Nat.gcd_comm]
section
variable {d : Nat} {c : Nat × Nat × Nat} {I : zI} {g : Nat} {Q : zQ}
theorem l_div {B : Nat × Nat} {x0 x1 : Int} : ∀ (n : Nat) (u v i : Nat) (o : Option zV), v < n → u < 100000 → v + i ≤ 60 → Q (some (zi ((Nat.gcd u v : Nat) : Int))) (c, I, zRg g) → zRn (zcl d) 112 B Q 7 [some (zi x0), some (zi x1), some (zi (u : Nat)), some (zi (v : Nat)), some (zi (i : Nat)), o] [] (c, I, zRg g) := by
  intro n
  induction n with
  | zero => exact fun u v i o hv _ _ _ => absurd hv (by omega)
  | succ n ih =>
    intro u v i o hv hu hi H
    refine g_x11_commonDivisor_7 ⟨fun w => absurd w (by omega), fun _ => ⟨fun w => ?_, fun w => ⟨w, ?_⟩⟩⟩
    · obtain rfl : v = 0 := by omega
      rw [Nat.gcd_zero_right] at H
      exact H
    · have hv0 : 0 < v := by omega
      have hm : u % v < v := Nat.mod_lt _ hv0
      rw [ztm (show 0 ≤ (u : Int) by omega) (by omega) (show 0 < (v : Int) by omega) (by omega), z1p i (by omega), show (u : Int) % (v : Int) = ((u % v : Nat) : Int) from rfl]
      rw [mgc_rec hv0] at H
      exact ih v (u % v) (i + 1) _ (by omega) (by omega) (by omega) H
theorem k_div {a b : Int} (ha : 0 ≤ a ∧ a ≤ 1000) (hb : 0 ≤ b ∧ b ≤ 50) (H : Q (some (zi (mgc a b))) (c, I, zRg g)) : zcl (d + 1) 112 0 0 [zi a, zi b] (c, I, zRg g) Q := by
  refine zen rfl rfl (fun B Q1 hQ => g_x11_commonDivisor_0 ?_)
  have := l_div (d := d) (B := B) (x0 := a) (x1 := b) (I := I) (c := c) (g := g) (Q := Q1) (b.toNat + 1) a.toNat b.toNat 0 none (by omega) (by omega) (by omega) (hQ _ _ _ H)
  rw [show ((a.toNat : Nat) : Int) = a by omega, show ((b.toNat : Nat) : Int) = b by omega] at this
  exact this
theorem mgc_pos {a b : Int} (hb : 0 < b) : 0 < mgc a b := by
  unfold mgc
  have := Nat.gcd_pos_of_pos_right a.toNat (show 0 < b.toNat by omega)
  omega
theorem k_inLow {a b p : Int} (ha : 0 ≤ a ∧ a ≤ 1000) (hb : 0 < b ∧ b ≤ 50) (H : Q (some (zl (mlo a b p))) (c, I, zRg g)) : zcl (d + 2) 111 0 0 [zi a, zi b, zi p] (c, I, zRg g) Q := by
  have hg := mgc_pos (a := a) hb.1
  refine zen rfl rfl (fun B Q1 hQ => g_x11_inLowestTerms_0 (k_div ha (by omega) (g_x11_inLowestTerms_5 ⟨fun u => ⟨fun v => ⟨u, ?_⟩, fun v => ⟨u, ?_⟩⟩, fun u => absurd (Decidable.not_not.mp u) (by omega)⟩)))
  · rw [ztd (by omega) (by omega) hg]
    have H := hQ _ _ _ H
    unfold mlo at H
    rw [if_neg v] at H
    exact H
  · rw [ztd (by omega) (by omega) hg]
    have H := hQ _ _ _ H
    unfold mlo at H
    rw [if_pos (Decidable.not_not.mp v)] at H
    exact H
theorem l_mean {B : Nat × Nat} {x1 : Int} (h2 : 0 < I 2 2 ∧ I 2 2 ≤ 5) (hK : mok (mK 2 I)) : ∀ (n p : Nat) (s : Int), ((p + n : Nat) : Int) = I 2 2 → 0 ≤ s → s ≤ 10 * p → Q (some (zl (mlo (msm (mK 2 I) n p s) (I 2 2) x1))) (c, I, zRg g) → zRn (zcl (d + 2)) 110 B Q 27 [some (zr 0), some (zi x1), some (zi s), some (zi (p : Nat))] [] (c, I, zRg g) := by
  intro n
  induction n with
  | zero => exact fun p s hp h0 h1 H => g_x11_mean_27 (y2 := 0) ⟨fun _ => k_inLow (by omega) (by omega) (g_x11_mean_74 H), fun u => absurd (by omega) u⟩
  | succ n ih =>
    intro p s hp h0 h1 H
    have hp5 : p < 5 := by omega
    have hw : mR (I (2 + (3 + p)) 2) := (hK.2 p (show (p : Int) < I 2 2 by omega)).2.2.1
    have hb := mbc_r (I (2 + (3 + p)) 2)
    refine g_x11_mean_27 (y2 := 2 + (3 + p)) ⟨fun u => absurd u (by omega), fun _ => ⟨by omega, (mP2 hp5).1, (mP2 (g := g) hp5).2, k_bc hw (g_x11_mean_54 ?_)⟩⟩
    have := ih (p + 1) (s + mbc (I (2 + (3 + p)) 2)) (by omega) (by omega) (by omega) H
    have e : zwr (s + mbc (I (2 + (3 + p)) 2)) = s + mbc (I (2 + (3 + p)) 2) := zwr_eq (by omega)
    rw [z1p p (by omega), e]
    exact this
theorem x_mean {x1 : Int} (h2 : 0 ≤ I 2 2 ∧ I 2 2 ≤ 5) (hK : mok (mK 2 I)) (Hb : ¬ ((0 ≤ x1 ∧ x1 ≤ 1) ∧ 0 < I 2 2) → Q (some (zl mNO)) (c, I, zRg g)) (H : 0 ≤ x1 → x1 ≤ 1 → 0 < I 2 2 → Q (some (zl (mlo (msm (mK 2 I) (I 2 2).toNat 0 0) (I 2 2) x1))) (c, I, zRg g)) : zcl (d + 3) 110 0 0 [zr 0, zi x1] (c, I, zRg g) Q :=
  zen rfl rfl (fun B Q1 hQ => g_x11_mean_0 ⟨fun u => hQ _ _ _ (Hb (fun q => by omega)), fun u => ⟨fun u1 => hQ _ _ _ (Hb (fun q => by omega)), fun u1 => ⟨fun u2 => l_mean (p := 0) (by omega) hK (I 2 2).toNat 0 (by omega) (by omega) (by omega) (hQ _ _ _ (H (by omega) (by omega) (by omega))), fun u2 => hQ _ _ _ (Hb (fun q => by omega))⟩⟩⟩)
-- chance
def mch (I : zI) (x1 k : Int) (i : Nat) : Bool := decide (mdrs (mAll I) 1 (zwr (x1 + (i : Int))) 0 ≤ k)
theorem l_chance {B : Nat × Nat} (hW : mW 2 I) {x1 x2 x3 x4 : Int} (h1 : 0 < x2) (h40 : x2 ≤ 40) : ∀ (n i : Nat) (J : zI), (i : Int) + n = x2 → mFr I J → (∀ J1, mFr I J1 → Q (some (zl (mlo (mcn (mch I x1 x3) x2.toNat) x2 x4))) (c, J1, zRg g)) → zRn (zcl (d + 7)) 119 B Q 42 [some (zr 0), some (zi x1), some (zi x2), some (zi x3), some (zi x4), some (zi (mcn (mch I x1 x3) i)), some (zi (i : Nat))] [] (c, J, zRg g) := by
  intro n
  induction n with
  | zero =>
    intro i J hi hF H
    have hr := mcn_r (mch I x1 x3) i
    have ei : i = x2.toNat := by omega
    subst ei
    exact g_x11_chance_42 ⟨fun _ => k_inLow (by omega) (by omega) (g_x11_chance_78 (H J hF)), fun u => absurd (by omega) u⟩
  | succ n ih =>
    intro i J hi hF H
    have hr := mcn_r (mch I x1 x3) i
    have hi6 : i < 1000000 := by omega
    have em : mcn (mch I x1 x3) (i + 1) = if mch I x1 x3 i = true then mcn (mch I x1 x3) i + 1 else mcn (mch I x1 x3) i := rfl
    refine g_x11_chance_42 ⟨fun u => absurd u (by omega), fun _ => k_drawn hF hW (by omega) (by omega) (fun J1 h1 => g_x11_chance_57 ⟨fun u => ?_, fun u => ?_⟩)⟩
    · have := ih (i + 1) J1 (by omega) h1 H
      rw [em, if_neg (fun q => by have q : mdrs (mAll I) 1 (zwr (x1 + (i : Int))) 0 ≤ x3 := of_decide_eq_true q; exact absurd u (Int.not_lt.mpr q))] at this
      rw [z1p i hi6]
      exact this
    · have := ih (i + 1) J1 (by omega) h1 H
      rw [em, if_pos (show mch I x1 x3 i = true from decide_eq_true (Int.not_lt.mp u))] at this
      rw [z1p i hi6, zwr_eq (show zIn (mcn (mch I x1 x3) i + 1) by omega)]
      exact this
theorem x_chance {x1 x2 x3 x4 : Int} (hW : mW 2 I) (Hb : ¬ ((1 ≤ x2 ∧ x2 ≤ 40) ∧ (0 ≤ x3 ∧ x3 ≤ 10) ∧ 0 ≤ x4 ∧ x4 ≤ 1) → Q (some (zl mNO)) (c, I, zRg g)) (H : 1 ≤ x2 → x2 ≤ 40 → 0 ≤ x3 → x3 ≤ 10 → 0 ≤ x4 → x4 ≤ 1 → ∀ J, mFr I J → Q (some (zl (mlo (mcn (mch I x1 x3) x2.toNat) x2 x4))) (c, J, zRg g)) : zcl (d + 8) 119 0 0 [zr 0, zi x1, zi x2, zi x3, zi x4] (c, I, zRg g) Q :=
  zen rfl rfl (fun B Q1 hQ => g_x11_chance_0 ⟨fun u => hQ _ _ _ (Hb (fun q => by omega)), fun u => ⟨fun u1 => hQ _ _ _ (Hb (fun q => by omega)), fun u1 => ⟨fun u2 => hQ _ _ _ (Hb (fun q => by omega)), fun u2 => ⟨fun u3 => hQ _ _ _ (Hb (fun q => by omega)), fun u3 => ⟨fun u4 => hQ _ _ _ (Hb (fun q => by omega)), fun u4 => ⟨fun u5 => l_chance (i := 0) hW (by omega) (by omega) x2.toNat I (by omega) (mFr.rf I) (fun J hJ => hQ _ _ _ (H (by omega) (by omega) (by omega) (by omega) (by omega) u5 J hJ)), fun u5 => hQ _ _ _ (Hb (fun q => by omega))⟩⟩⟩⟩⟩⟩)
-- taken
theorem k65 {a : Nat} {x : Int} (H : Q (some (zi (mbo (x = 0)))) (c, I, zRg g)) : zcl (d + 1) 65 0 0 [zr a, zi x] (c, I, zRg g) Q :=
  zen rfl rfl (fun B Q1 hQ => g_x9_isUnder_0 ⟨fun u => zQi (mbo_f u).symm (hQ _ _ _ H), fun u => zQi (mbo_t (Decidable.not_not.mp u)).symm (hQ _ _ _ H)⟩)
theorem k5 {a : Nat} (ha : (zSh a).1 < 13) {x : Int} (H : Q (some (zi (mbo (x = 2 ∨ x = 0)))) (c, I, zRg g)) : zcl (d + 2) 5 0 0 [zr a, zi x] (c, I, zRg g) Q :=
  zen rfl rfl (fun B Q1 hQ => g_x1_isUnder_0 ⟨fun u => zQi (mbo_t (Or.inl u)).symm (hQ _ _ _ H), fun u => ⟨ha, k65 (g_x1_isUnder_10 ⟨fun v => zQi (mbo_f (fun q => q.elim u (mbo_0.mp v))).symm (hQ _ _ _ H), fun v => zQi (mbo_t (Or.inr (mbo_n0.mp v))).symm (hQ _ _ _ H)⟩)⟩⟩)
theorem k11 {a : Nat} (ha : (zSh a).1 < 13) {x : Int} (H : Q (some (zi (mbo (x = 1 ∨ x = 0)))) (c, I, zRg g)) : zcl (d + 2) 11 0 0 [zr a, zi x] (c, I, zRg g) Q :=
  zen rfl rfl (fun B Q1 hQ => g_x2_isUnder_0 ⟨fun u => zQi (mbo_t (Or.inl u)).symm (hQ _ _ _ H), fun u => ⟨ha, k65 (g_x2_isUnder_10 ⟨fun v => zQi (mbo_f (fun q => q.elim u (mbo_0.mp v))).symm (hQ _ _ _ H), fun v => zQi (mbo_t (Or.inr (mbo_n0.mp v))).symm (hQ _ _ _ H)⟩)⟩⟩)
theorem k31 {a : Nat} (ha : (zSh a).1 < 13) {x : Int} (H : Q (some (zi (mbo (x = 5 ∨ x = 0)))) (c, I, zRg g)) : zcl (d + 2) 31 0 0 [zr a, zi x] (c, I, zRg g) Q :=
  zen rfl rfl (fun B Q1 hQ => g_x6_isUnder_0 ⟨fun u => zQi (mbo_t (Or.inl u)).symm (hQ _ _ _ H), fun u => ⟨ha, k65 (g_x6_isUnder_10 ⟨fun v => zQi (mbo_f (fun q => q.elim u (mbo_0.mp v))).symm (hQ _ _ _ H), fun v => zQi (mbo_t (Or.inr (mbo_n0.mp v))).symm (hQ _ _ _ H)⟩)⟩⟩)
theorem k17 {a : Nat} (ha : (zSh a).1 < 13) {x : Int} (H : Q (some (zi (mbo (x = 3 ∨ x = 1 ∨ x = 0)))) (c, I, zRg g)) : zcl (d + 3) 17 0 0 [zr a, zi x] (c, I, zRg g) Q :=
  zen rfl rfl (fun B Q1 hQ => g_x3_isUnder_0 ⟨fun u => zQi (mbo_t (Or.inl u)).symm (hQ _ _ _ H), fun u => ⟨ha, k11 ha (g_x3_isUnder_10 ⟨fun v => zQi (mbo_f (fun q => q.elim u (mbo_0.mp v))).symm (hQ _ _ _ H), fun v => zQi (mbo_t (Or.inr (mbo_n0.mp v))).symm (hQ _ _ _ H)⟩)⟩⟩)
theorem k22 {a : Nat} (ha : (zSh a).1 < 13) {x : Int} (H : Q (some (zi (mbo (x = 4 ∨ x = 2 ∨ x = 0)))) (c, I, zRg g)) : zcl (d + 3) 22 0 0 [zr a, zi x] (c, I, zRg g) Q :=
  zen rfl rfl (fun B Q1 hQ => g_x4_isUnder_0 ⟨fun u => zQi (mbo_t (Or.inl u)).symm (hQ _ _ _ H), fun u => ⟨ha, k5 ha (g_x4_isUnder_10 ⟨fun v => zQi (mbo_f (fun q => q.elim u (mbo_0.mp v))).symm (hQ _ _ _ H), fun v => zQi (mbo_t (Or.inr (mbo_n0.mp v))).symm (hQ _ _ _ H)⟩)⟩⟩)
theorem k_isUnder {k : Nat} (hk : k < 6) {x : Int} : ∃ m, zsel ((zSh (30 + k)).1 : Nat) [(9, 65), (1, 5), (2, 11), (3, 17), (4, 22), (6, 31)] = some m ∧ ∀ {d : Nat} {c : Nat × Nat × Nat} {I : zI} {g : Nat} {Q : zQ}, (∀ b : Int, (b = 0 → ¬ mund k x) → (b ≠ 0 → mund k x) → Q (some (zi b)) (c, I, zRg g)) → zcl (d + 3) m 0 0 [zr (30 + k), zi x] (c, I, zRg g) Q := by
  have e : ∀ (p : Prop) [Decidable p], (p ↔ mund k x) → (mbo p = 0 → ¬ mund k x) ∧ (mbo p ≠ 0 → mund k x) := fun p _ h => ⟨fun q w => mbo_0.mp q (h.mpr w), fun q => h.mp (mbo_n0.mp q)⟩
  unfold mund at e ⊢
  match k, hk with
  | 0, _ => exact ⟨65, rfl, fun H => k65 (H _ (e _ (by omega)).1 (e _ (by omega)).2)⟩
  | 1, _ => exact ⟨11, rfl, fun H => k11 (by decide) (H _ (e _ (by omega)).1 (e _ (by omega)).2)⟩
  | 2, _ => exact ⟨5, rfl, fun H => k5 (by decide) (H _ (e _ (by omega)).1 (e _ (by omega)).2)⟩
  | 3, _ => exact ⟨17, rfl, fun H => k17 (by decide) (H _ (e _ (by omega)).1 (e _ (by omega)).2)⟩
  | 4, _ => exact ⟨22, rfl, fun H => k22 (by decide) (H _ (e _ (by omega)).1 (e _ (by omega)).2)⟩
  | 5, _ => exact ⟨31, rfl, fun H => k31 (by decide) (H _ (e _ (by omega)).1 (e _ (by omega)).2)⟩
  | k + 6, q => exact absurd q (by omega)
theorem x_taken {x1 x2 : Int} (hW : mW 2 I) (Hb : ¬ (0 ≤ x2 ∧ x2 < 6) → Q (some (zi (-2))) (c, I, zRg g)) (Hn : 0 ≤ x2 ∧ x2 < 6 → ¬ (0 ≤ x1 ∧ x1 < I 2 2) → Q (some (zi (-11))) (c, I, zRg g)) (Ho : 0 ≤ x2 ∧ x2 < 6 → 0 ≤ x1 ∧ x1 < I 2 2 → ¬ mund (I (2 + (3 + x1.toNat)) 0) x2 → Q (some (zi (-13))) (c, I, zRg g)) (H : 0 ≤ x2 ∧ x2 < 6 → 0 ≤ x1 ∧ x1 < I 2 2 → mund (I (2 + (3 + x1.toNat)) 0) x2 → Q (some (zi (I (2 + (3 + x1.toNat)) 1))) (c, I, zRg g)) : zcl (d + 4) 128 0 0 [zr 0, zi x1, zi x2] (c, I, zRg g) Q := by
  refine zen rfl rfl (fun B Q1 hQ => g_x11_taken_0 ⟨fun u => hQ _ _ _ (Hb (fun q => by omega)), fun u => ⟨fun u1 => k_isThere mB2 (g_x11_taken_21 (y1 := 2 + (3 + x1.toNat)) ⟨fun u2 => ?_, fun u2 => hQ _ _ _ (Hn (by omega) (mbo_0.mp (Decidable.not_not.mp u2)))⟩), fun u1 => hQ _ _ _ (Hb (fun q => by omega))⟩⟩)
  have u2 := mbo_n0.mp u2
  have h5 : I 2 2 ≤ 5 := hW.2.1.1.2
  obtain ⟨a1, ⟨hk, hk6⟩, -⟩ := hW.at (p := x1.toNat) (by omega)
  have hp : x1.toNat < 5 := by omega
  obtain ⟨m, hs, hm⟩ := k_isUnder hk6 (x := x2)
  refine ⟨by omega, (mP2 hp).1, k_kindOf a1 hk hk6 (g_x11_taken_42 (k1 := m) ⟨hs, hm (fun b hb0 hb1 => ?_)⟩)⟩
  rw [← hk] at hb0 hb1
  exact g_x11_taken_46 ⟨fun v => hQ _ _ _ (Ho (by omega) u2 (hb0 v)), fun v => ⟨a1, hQ _ _ _ (H (by omega) u2 (hb1 v))⟩⟩
theorem x_count {x1 : Int} (Hb : ¬ (0 ≤ x1 ∧ x1 ≤ 5) → Q (some (zi (-2))) (c, I, zRg g)) (H : 0 ≤ x1 → x1 ≤ 5 → Q (some (zi (if x1 = 0 then I 2 2 else if x1 = 1 then I 2 3 else if x1 = 2 then I 2 4 else if x1 = 3 then I 0 7 else if x1 = 4 then I 62 1 else I 2 6))) (c, I, zRg g)) : zcl (d + 1) 123 0 0 [zr 0, zi x1] (c, I, zRg g) Q := by
  refine zen rfl rfl (fun B Q1 hQ => g_x11_count_0 ⟨fun u => ?_, fun u => ⟨fun u1 => ?_, fun u1 => ⟨fun u2 => ?_, fun u2 => ⟨fun u3 => ?_, fun u3 => ⟨fun u4 => ?_, fun u4 => ⟨fun u5 => ?_, fun u5 => hQ _ _ _ (Hb (fun q => by omega))⟩⟩⟩⟩⟩⟩)
  · have H := hQ _ _ _ (H (by omega) (by omega))
    rw [if_pos u] at H
    exact H
  · have H := hQ _ _ _ (H (by omega) (by omega))
    rw [if_neg u, if_pos u1] at H
    exact H
  · have H := hQ _ _ _ (H (by omega) (by omega))
    rw [if_neg u, if_neg u1, if_pos u2] at H
    exact H
  · have H := hQ _ _ _ (H (by omega) (by omega))
    rw [if_neg u, if_neg u1, if_neg u2, if_pos u3] at H
    exact H
  · have H := hQ _ _ _ (H (by omega) (by omega))
    rw [if_neg u, if_neg u1, if_neg u2, if_neg u3, if_pos u4] at H
    exact H
  · have H := hQ _ _ _ (H (by omega) (by omega))
    rw [if_neg u, if_neg u1, if_neg u2, if_neg u3, if_neg u4] at H
    exact H
theorem x_image (h5 : 0 ≤ I 2 2 ∧ I 2 2 ≤ 5) (h8 : 0 ≤ I 2 3 ∧ I 2 3 ≤ 8) (H : ∀ J, (∀ y, y ≠ 0 → ¬ (10 ≤ y ∧ y < 18) → J y = I y) → (∀ j, j ≠ 4 → J 0 j = I 0 j) → J 0 4 = 1 → mlk (mK 2 I) (mK 10 J) → Q (some (zi (I 2 2))) (c, J, zRg g)) : zcl (d + 3) 121 0 0 [zr 0] (c, I, zRg g) Q := by
  refine zen rfl rfl (fun B Q1 hQ => g_x11_image_0 (k_become (a := 10) (b := 2) (Or.inr (Or.inl rfl)) mB2 (by decide) h5 h8 (fun J h1 h2 => g_x11_image_11 (hQ _ _ _ ?_))))
  have e : J 10 2 = I 2 2 := (h2.1 2 (by decide) (by decide)).symm
  rw [e]
  refine H _ (fun y a b => by rw [z2_r a]; exact h1 y (by omega)) (fun j hj => by rw [z2_n (Or.inr hj), h1 0 (by decide)]) z2_s (h2.tr ⟨fun j _ _ => ?_, fun j _ => ?_, fun p _ j _ => ?_⟩)
  · show J 10 j = z2 J 0 4 1 10 j
    rw [z2_n (Or.inl (by decide))]
  · show J 12 j = z2 J 0 4 1 12 j
    rw [z2_n (Or.inl (by decide))]
  · show J (10 + (3 + p)) j = z2 J 0 4 1 (10 + (3 + p)) j
    rw [z2_n (Or.inl (by omega))]
theorem x_back (hi : I 0 4 = 0 ∨ I 0 4 = 1) (h5 : I 0 4 = 1 → 0 ≤ I 10 2 ∧ I 10 2 ≤ 5) (h8 : I 0 4 = 1 → 0 ≤ I 10 3 ∧ I 10 3 ≤ 8) (H0 : I 0 4 = 0 → Q (some (zi (-3))) (c, I, zRg g)) (H : I 0 4 = 1 → ∀ J, (∀ y, ¬ (2 ≤ y ∧ y < 10) → J y = I y) → mlk (mK 10 I) (mK 2 J) → Q (some (zi (I 10 2))) (c, J, zRg g)) : zcl (d + 3) 122 0 0 [zr 0] (c, I, zRg g) Q := by
  refine zen rfl rfl (fun B Q1 hQ => g_x11_back_0 ⟨fun u => ?_, fun u => hQ _ _ _ (H0 (Decidable.not_not.mp u))⟩)
  have h1 : I 0 4 = 1 := by omega
  refine k_become (a := 2) (b := 10) mB2 (Or.inr (Or.inl rfl)) (by decide) (h5 h1) (h8 h1) (fun J a b => g_x11_back_21 (hQ _ _ _ ?_))
  have e : J 2 2 = I 10 2 := (b.1 2 (by decide) (by decide)).symm
  rw [e]
  exact H h1 J a b
end
