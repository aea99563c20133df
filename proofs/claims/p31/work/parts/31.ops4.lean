/-! contracts: fractions, the mean, chance, over, taken, count, image, back -/
def mgc (a b : Int) : Int := ((Nat.gcd a.toNat b.toNat : Nat) : Int)
def mlo (a b p : Int) : Int := if p = 0 then a / mgc a b else b / mgc a b
def msm (K : zI) : Nat → Nat → Int → Int
  | 0, _, s => s
  | n + 1, p, s => msm K n (p + 1) (s + mbc (K (3 + p) 2))
def mund (k x : Int) : Prop := x = k ∨ x = 0 ∨ (k = 3 ∧ x = 1) ∨ (k = 4 ∧ x = 2)
def mNO : Int := -4611686018427387904
theorem mgc_rec {u v : Nat} (hv : 0 < v) : Nat.gcd u v = Nat.gcd v (u % v) := by
  rw [Nat.gcd_comm u v, Nat.gcd_rec v u, Nat.gcd_comm]
section
variable {d : Nat} {c : Nat × Nat × Nat} {I : zI} {g : Nat} {Q : zQ}
theorem mgc_pos {a b : Int} (hb : 0 < b) : 0 < mgc a b := by
  unfold mgc
  have := Nat.gcd_pos_of_pos_right a.toNat (show 0 < b.toNat by omega)
  omega
-- chance
def mch (I : zI) (x1 k : Int) (i : Nat) : Bool := decide (mdrs (mAll I) 1 (zwr (x1 + (i : Int))) 0 ≤ k)
-- taken
theorem x_image (h5 : 0 ≤ I 2 2 ∧ I 2 2 ≤ 5) (h8 : 0 ≤ I 2 3 ∧ I 2 3 ≤ 8) (H : ∀ J, (∀ y, y ≠ 0 → ¬ (10 ≤ y ∧ y < 18) → J y = I y) → (∀ j, j ≠ 4 → J 0 j = I 0 j) → J 0 4 = 1 → mlk (mK 2 I) (mK 10 J) → Q (some (zi (I 2 2))) (c, J, zRg g)) : zcl (d + 3) 121 0 0 [zr 0] (c, I, zRg g) Q := by
  refine zen rfl rfl (fun B Q1 hQ => g_x11_image_0 (k_become (a := 10) (b := 2) (Or.inr (Or.inl rfl)) mB2 (by decide) h5 h8 (fun J h1 h2 => g_x11_image_11 (hQ _ _ _ ?_))))
  have e : J 10 2 = I 2 2 := (h2.1 2 (by decide) (by decide)).symm
  rw [e]
  refine H _ (fun y a b => by rw [z2_r a]; exact h1 y (by omega)) (fun j hj => by rw [z2_n (Or.inr hj), h1 0 (by decide)]) z2_s (h2.tr ⟨fun j _ _ => ?_, fun j _ => ?_, fun p _ j _ => ?_⟩)
  · show J 10 j = z2 J 0 4 1 10 j
    rw [z2_n (Or.inl (by decide))]
  · show J 12 j = z2 J 0 4 1 12 j
    rw [z2_n (Or.inl (by decide))]
  · show J (10 + (3 + p)) j = z2 J 0 4 1 (10 + (3 + p)) j
    rw [z2_n (Or.inl (by omega))]
theorem x_back (hi : I 0 4 = 0 ∨ I 0 4 = 1) (h5 : I 0 4 = 1 → 0 ≤ I 10 2 ∧ I 10 2 ≤ 5) (h8 : I 0 4 = 1 → 0 ≤ I 10 3 ∧ I 10 3 ≤ 8) (H0 : I 0 4 = 0 → Q (some (zi (-3))) (c, I, zRg g)) (H : I 0 4 = 1 → ∀ J, (∀ y, ¬ (2 ≤ y ∧ y < 10) → J y = I y) → mlk (mK 10 I) (mK 2 J) → Q (some (zi (I 10 2))) (c, J, zRg g)) : zcl (d + 3) 122 0 0 [zr 0] (c, I, zRg g) Q := by
  refine zen rfl rfl (fun B Q1 hQ => g_x11_back_0 ⟨fun u => ?_, fun u => hQ _ _ _ (H0 (Decidable.not_not.mp u))⟩)
  have h1 : I 0 4 = 1 := by omega
  refine k_become (a := 2) (b := 10) mB2 (Or.inr (Or.inl rfl)) (by decide) (h5 h1) (h8 h1) (fun J a b => g_x11_back_21 (hQ _ _ _ ?_))
  have e : J 2 2 = I 10 2 := (b.1 2 (by decide) (by decide)).symm
  rw [e]
  exact H h1 J a b
end

