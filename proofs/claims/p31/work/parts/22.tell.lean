/-! contracts: how one is written; what one tells -/
theorem zen {d k : Nat} {As : List zV} {c : Nat × Nat × Nat} {I : zI} {g : Nat} {Q : zQ} {ls : zLv} (hl : zens (zL k) As = ls) (hz : Nat.ble (zcs As) (zL k) = true) (H : ∀ (B : Nat × Nat) (Q1 : zQ), (∀ (v : Option zV) (J : zI) (g1 : Nat), Q v (c, J, zRg g1) → Q1 v (c, J, zRg g1)) → zRn (zcl d) k B Q1 0 ls [] (c, I, zRg g)) : zcl (d + 1) k 0 0 As (c, I, zRg g) Q :=
  zent hl (Nat.le_of_ble_eq_true hz) (H _ _ (fun v J g1 h => ⟨rfl, h⟩))
theorem zQi {Q : zQ} {a b : Int} {h : zH} (e : a = b) (H : Q (some (zi b)) h) : Q (some (zi a)) h := by rw [e]; exact H
theorem zQr {Q : zQ} {a b : Nat} {h : zH} (e : a = b) (H : Q (some (zr b)) h) : Q (some (zr a)) h := by rw [e]; exact H
def mbo (p : Prop) [Decidable p] : Int := if p then 1 else 0
theorem mbo_t {p : Prop} [Decidable p] (h : p) : mbo p = 1 := if_pos h
theorem mbo_f {p : Prop} [Decidable p] (h : ¬ p) : mbo p = 0 := if_neg h
theorem mbo_01 (p : Prop) [Decidable p] : mbo p = 0 ∨ mbo p = 1 := by
  unfold mbo
  split
  · exact Or.inr rfl
  · exact Or.inl rfl
theorem mbo_0 {p : Prop} [Decidable p] : mbo p = 0 ↔ ¬ p := by
  unfold mbo
  split
  · rename_i h; exact ⟨fun q => absurd q (by decide), fun q => absurd h q⟩
  · rename_i h; exact ⟨fun _ => h, fun _ => rfl⟩
theorem mbo_n0 {p : Prop} [Decidable p] : ¬ mbo p = 0 ↔ p := by
  unfold mbo
  split
  · rename_i h; exact ⟨fun _ => h, fun _ => by decide⟩
  · rename_i h; exact ⟨fun q => absurd rfl q, fun q => absurd q h⟩
theorem z2_s {α : Type} {f : Nat → Nat → α} {a j : Nat} {x : α} : z2 f a j x a j = x := if_pos ⟨rfl, rfl⟩
theorem z2_n {α : Type} {f : Nat → Nat → α} {a j b k : Nat} {x : α} (h : b ≠ a ∨ k ≠ j) : z2 f a j x b k = f b k := if_neg (fun q => h.elim (fun e => e q.1) (fun e => e q.2))
theorem z2_r {α : Type} {f : Nat → Nat → α} {a j b : Nat} {x : α} (h : b ≠ a) : z2 f a j x b = f b := by
  funext k
  exact z2_n (Or.inl h)
-- cells
def mB (b : Nat) : Prop := b = 2 ∨ b = 10 ∨ b = 18
theorem mB_0 {b : Nat} (h : mB b) : (zSh b).1 = 0 := by rcases h with rfl | rfl | rfl <;> rfl
theorem mB_1 {b : Nat} (h : mB b) : zSh (b + 1) = (102, 5) := by rcases h with rfl | rfl | rfl <;> rfl
theorem mB_2 {b : Nat} (h : mB b) : zSh (b + 2) = (100, 8) := by rcases h with rfl | rfl | rfl <;> rfl
theorem mB_3 {b p : Nat} (h : mB b) (hp : p < 5) : (zSh (b + (3 + p))).1 = 5 := by
  revert hp; revert p
  rcases h with rfl | rfl | rfl <;> decide
theorem mB_g {b g : Nat} (h : mB b) : zRg g b 0 = some (b + 1) ∧ zRg g b 1 = some (b + 2) := by rcases h with rfl | rfl | rfl <;> exact ⟨rfl, rfl⟩
theorem mB_p {b p g : Nat} (h : mB b) (hp : p < 5) : zRg g (b + 1) p = some (b + (3 + p)) := by
  rcases h with rfl | rfl | rfl
  all_goals
    match p, hp with
    | 0, _ => rfl
    | 1, _ => rfl
    | 2, _ => rfl
    | 3, _ => rfl
    | 4, _ => rfl
    | p + 5, q => exact absurd q (by omega)
theorem mX_k {k g : Nat} (hk : k < 6) : zRg g 1 k = some (30 + k) := by
  match k, hk with
  | 0, _ => rfl
  | 1, _ => rfl
  | 2, _ => rfl
  | 3, _ => rfl
  | 4, _ => rfl
  | 5, _ => rfl
  | p + 6, q => exact absurd q (by omega)
theorem mX_t {t g : Nat} (ht : t < 6) : zRg g 26 t = some (44 + 3 * t) ∧ zRg g (44 + 3 * t) 0 = some (45 + 3 * t) ∧ zRg g (44 + 3 * t) 1 = some (46 + 3 * t) := by
  match t, ht with
  | 0, _ => exact ⟨rfl, rfl, rfl⟩
  | 1, _ => exact ⟨rfl, rfl, rfl⟩
  | 2, _ => exact ⟨rfl, rfl, rfl⟩
  | 3, _ => exact ⟨rfl, rfl, rfl⟩
  | 4, _ => exact ⟨rfl, rfl, rfl⟩
  | 5, _ => exact ⟨rfl, rfl, rfl⟩
  | p + 6, q => exact absurd q (by omega)
theorem mT_0 {t : Nat} (ht : t < 6) : (zSh (44 + 3 * t)).1 = 10 ∧ zSh (45 + 3 * t) = (100, 160) ∧ zSh (46 + 3 * t) = (100, 3) := by
  revert ht; revert t
  decide
theorem mX_s {s g : Nat} (hs : s < 4) : zRg g 28 s = some (36 + 2 * s) ∧ zRg g (36 + 2 * s) 0 = some (37 + 2 * s) := by
  match s, hs with
  | 0, _ => exact ⟨rfl, rfl⟩
  | 1, _ => exact ⟨rfl, rfl⟩
  | 2, _ => exact ⟨rfl, rfl⟩
  | 3, _ => exact ⟨rfl, rfl⟩
  | p + 4, q => exact absurd q (by omega)
theorem mS_0 {s : Nat} (hs : s < 4) : (zSh (36 + 2 * s)).1 = 8 ∧ zSh (37 + 2 * s) = (100, 40) := by
  revert hs; revert s
  decide
section
variable {d : Nat} {c : Nat × Nat × Nat} {I : zI} {g : Nat} {Q : zQ}
theorem m_jbc {x : Int} (hx : mR x) : ((zand (zwr ((zwr ((zand (zwr ((zwr ((zand (zwr (x - (zand (zushr x 1) 1431655765))) 858993459) + (zand (zushr (zwr (x - (zand (zushr x 1) 1431655765))) 2) 858993459))) + (zushr (zwr ((zand (zwr (x - (zand (zushr x 1) 1431655765))) 858993459) + (zand (zushr (zwr (x - (zand (zushr x 1) 1431655765))) 2) 858993459))) 4))) 252645135) + (zushr (zand (zwr ((zwr ((zand (zwr (x - (zand (zushr x 1) 1431655765))) 858993459) + (zand (zushr (zwr (x - (zand (zushr x 1) 1431655765))) 2) 858993459))) + (zushr (zwr ((zand (zwr (x - (zand (zushr x 1) 1431655765))) 858993459) + (zand (zushr (zwr (x - (zand (zushr x 1) 1431655765))) 2) 858993459))) 4))) 252645135) 8))) + (zushr (zwr ((zand (zwr ((zwr ((zand (zwr (x - (zand (zushr x 1) 1431655765))) 858993459) + (zand (zushr (zwr (x - (zand (zushr x 1) 1431655765))) 2) 858993459))) + (zushr (zwr ((zand (zwr (x - (zand (zushr x 1) 1431655765))) 858993459) + (zand (zushr (zwr (x - (zand (zushr x 1) 1431655765))) 2) 858993459))) 4))) 252645135) + (zushr (zand (zwr ((zwr ((zand (zwr (x - (zand (zushr x 1) 1431655765))) 858993459) + (zand (zushr (zwr (x - (zand (zushr x 1) 1431655765))) 2) 858993459))) + (zushr (zwr ((zand (zwr (x - (zand (zushr x 1) 1431655765))) 858993459) + (zand (zushr (zwr (x - (zand (zushr x 1) 1431655765))) 2) 858993459))) 4))) 252645135) 8))) 16))) 63)) = mbc x := m_all (P := fun x => ((zand (zwr ((zwr ((zand (zwr ((zwr ((zand (zwr (x - (zand (zushr x 1) 1431655765))) 858993459) + (zand (zushr (zwr (x - (zand (zushr x 1) 1431655765))) 2) 858993459))) + (zushr (zwr ((zand (zwr (x - (zand (zushr x 1) 1431655765))) 858993459) + (zand (zushr (zwr (x - (zand (zushr x 1) 1431655765))) 2) 858993459))) 4))) 252645135) + (zushr (zand (zwr ((zwr ((zand (zwr (x - (zand (zushr x 1) 1431655765))) 858993459) + (zand (zushr (zwr (x - (zand (zushr x 1) 1431655765))) 2) 858993459))) + (zushr (zwr ((zand (zwr (x - (zand (zushr x 1) 1431655765))) 858993459) + (zand (zushr (zwr (x - (zand (zushr x 1) 1431655765))) 2) 858993459))) 4))) 252645135) 8))) + (zushr (zwr ((zand (zwr ((zwr ((zand (zwr (x - (zand (zushr x 1) 1431655765))) 858993459) + (zand (zushr (zwr (x - (zand (zushr x 1) 1431655765))) 2) 858993459))) + (zushr (zwr ((zand (zwr (x - (zand (zushr x 1) 1431655765))) 858993459) + (zand (zushr (zwr (x - (zand (zushr x 1) 1431655765))) 2) 858993459))) 4))) 252645135) + (zushr (zand (zwr ((zwr ((zand (zwr (x - (zand (zushr x 1) 1431655765))) 858993459) + (zand (zushr (zwr (x - (zand (zushr x 1) 1431655765))) 2) 858993459))) + (zushr (zwr ((zand (zwr (x - (zand (zushr x 1) 1431655765))) 858993459) + (zand (zushr (zwr (x - (zand (zushr x 1) 1431655765))) 2) 858993459))) 4))) 252645135) 8))) 16))) 63)) = mbc x) (by decide +kernel) hx
theorem k_bc {x : Int} (hx : mR x) (H : Q (some (zi (mbc x))) (c, I, zRg g)) : zcl (d + 1) 202 0 0 [zi x] (c, I, zRg g) Q :=
  zen rfl rfl (fun B Q1 hQ => g_j6_bitCount_0f7a4_0 (zQi (m_jbc hx) (hQ _ _ _ H)))
theorem k_off {x y : Int} (hx : mR x) (hy : mR y) (H : Q (some (zi (mbc (zxor x y)))) (c, I, zRg g)) : zcl (d + 2) 101 0 0 [zi x, zi y] (c, I, zRg g) Q :=
  zen rfl rfl (fun B Q1 hQ => g_x11_off_0 (k_bc (m_xorR hx hy) (g_x11_off_6 (hQ _ _ _ H))))
theorem k_low {x : Int} (H : Q (some (zi (mlow x))) (c, I, zRg g)) : zcl (d + 1) 102 0 0 [zi x] (c, I, zRg g) Q :=
  zen rfl rfl (fun B Q1 hQ => g_x11_lowest_0 (hQ _ _ _ H))
theorem k_within {x m : Int} (hm : 0 ≤ m) (H : Q (some (zi (mcl x 0 m))) (c, I, zRg g)) : zcl (d + 1) 103 0 0 [zi x, zi m] (c, I, zRg g) Q :=
  zen rfl rfl (fun B Q1 hQ => g_x11_within_0 (zQi (by unfold zmx zmn mcl; omega) (hQ _ _ _ H)))
theorem k_isThere {b : Nat} (hb : mB b) {x : Int} (H : Q (some (zi (mbo (0 ≤ x ∧ x < I b 2)))) (c, I, zRg g)) : zcl (d + 1) 1 0 0 [zr b, zi x] (c, I, zRg g) Q :=
  zen rfl rfl (fun B Q1 hQ => g_x0_isThere_0 ⟨fun u => zQi (mbo_f (by omega)).symm (hQ _ _ _ H), fun u => ⟨mB_0 hb, fun u1 => zQi (mbo_f (by omega)).symm (hQ _ _ _ H), fun u1 => zQi (mbo_t (by omega)).symm (hQ _ _ _ H)⟩⟩)
theorem k_isSet {x : Int} (H : Q (some (zi (mbo (mR x)))) (c, I, zRg g)) : zcl (d + 1) 83 0 0 [zi x] (c, I, zRg g) Q :=
  zen rfl rfl (fun B Q1 hQ => g_x11_isSet_0 ⟨fun u => zQi (mbo_f (by omega)).symm (hQ _ _ _ H), fun u => ⟨fun u1 => zQi (mbo_f (by omega)).symm (hQ _ _ _ H), fun u1 => zQi (mbo_t (by omega)).symm (hQ _ _ _ H)⟩⟩)
theorem k_isSheet {x : Int} (H : Q (some (zi (mbo (0 ≤ x ∧ x < 4)))) (c, I, zRg g)) : zcl (d + 1) 129 0 0 [zi x] (c, I, zRg g) Q :=
  zen rfl rfl (fun B Q1 hQ => g_x11_isSheet_0 ⟨fun u => zQi (mbo_f (by omega)).symm (hQ _ _ _ H), fun u => ⟨fun u1 => zQi (mbo_f (by omega)).symm (hQ _ _ _ H), fun u1 => zQi (mbo_t (by omega)).symm (hQ _ _ _ H)⟩⟩)
theorem k_kindOf {a k : Nat} (ha : (zSh a).1 = 5) (hk : I a 0 = k) (h6 : k < 6) (H : Q (some (zr (30 + k))) (c, I, zRg g)) : zcl (d + 1) 92 0 0 [zr 0, zr a] (c, I, zRg g) Q :=
  zen rfl rfl (fun B Q1 hQ => g_x11_kindOf_0 (y1 := 30 + k) ⟨ha, fun u => absurd u (by omega), fun u => ⟨ha, fun u1 => absurd u1 (by omega), fun u1 => ⟨ha, by omega, by rw [hk]; exact mX_k h6, hQ _ _ _ H⟩⟩⟩)
theorem k_ruleOf {b t : Nat} (hb : mB b) (ht : I b 6 = t) (h6 : t < 6) (H : Q (some (zr (44 + 3 * t))) (c, I, zRg g)) : zcl (d + 1) 87 0 0 [zr 0, zr b] (c, I, zRg g) Q :=
  zen rfl rfl (fun B Q1 hQ => g_x11_ruleOf_0 (y1 := 44 + 3 * t) ⟨mB_0 hb, fun u => absurd u (by omega), fun u => ⟨mB_0 hb, fun u1 => absurd u1 (by omega), fun u1 => ⟨mB_0 hb, by omega, by rw [ht]; exact (mX_t h6).1, hQ _ _ _ H⟩⟩⟩)
theorem k_ofOne {x a : Int} (H : Q (some (zi (mo1 x a))) (c, I, zRg g)) : zcl (d + 1) 74 0 0 [zi x, zi a] (c, I, zRg g) Q :=
  zen rfl rfl (fun B Q1 hQ => g_x10_ofOne_0 ⟨fun u => zQi (by unfold mo1; rw [if_neg u]) (hQ _ _ _ H), fun u => ⟨fun u1 => zQi (by unfold mo1; rw [if_pos (by omega), if_neg u1]) (hQ _ _ _ H), fun u1 => zQi (by unfold mo1; rw [if_pos (by omega), if_pos (by omega)]) (hQ _ _ _ H)⟩⟩)
theorem k_ofTwo {x a b : Int} (H : Q (some (zi (mo2 x a b))) (c, I, zRg g)) : zcl (d + 1) 75 0 0 [zi x, zi a, zi b] (c, I, zRg g) Q := by
  refine zen rfl rfl (fun B Q1 hQ => g_x10_ofTwo_0 ?_)
  have H := hQ _ _ _ H
  unfold mo2 at H
  refine ⟨fun u => ?_, fun u => ⟨fun u1 => ?_, fun u1 => ⟨fun u2 => ⟨fun v => ?_, fun v => ?_⟩, fun u2 => ⟨fun u3 => ⟨fun v => ?_, fun v => ?_⟩, fun u3 => ⟨fun u4 => ⟨fun v => ?_, fun v => ⟨fun w => ?_, fun w => ?_⟩⟩, fun u4 => ⟨fun u5 => ⟨fun v => ?_, fun v => ⟨fun w => ?_, fun w => ?_⟩⟩, fun u5 => ?_⟩⟩⟩⟩⟩⟩
  all_goals refine zQi ?_ H
  all_goals (subst_vars; simp [*] <;> omega)
theorem k_named {x th dy : Int} {a : Nat} (ha : (zSh a).1 = 5) (ht : mR th) (hw : mR (I a 2)) (H : Q (some (zi (mnm (I a 2) (I a 3) (I a 1) dy th (I a 4) x))) (c, I, zRg g)) : zcl (d + 2) 73 0 0 [zi x, zr a, zi th, zi dy] (c, I, zRg g) Q := by
  refine zen rfl rfl (fun B Q1 hQ => g_x10_named_0 ?_)
  have H := hQ _ _ _ H
  unfold mnm at H
  refine ⟨fun u => k_bc ht (g_x10_named_60 (zQi ?_ H)), fun u => ⟨fun u1 => zQi ?_ H, fun u1 => ⟨fun u2 => ⟨ha, zQi ?_ H⟩, fun u2 => ⟨fun u3 => ⟨ha, zQi ?_ H⟩, fun u3 => ⟨fun u4 => ⟨ha, k_bc hw (g_x10_named_43 (zQi ?_ H))⟩, fun u4 => ⟨ha, zQi ?_ H⟩⟩⟩⟩⟩⟩
  all_goals (subst_vars; simp [*])
end

