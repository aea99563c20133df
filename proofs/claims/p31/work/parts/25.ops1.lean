/-! contracts of the face: people, the jetty, asks, feed, force, days -/
def mfi (x : Int) : Nat := if x = 5 then 0 else x.toNat
def mmo (x : Int) : Int := if x = 0 then 999 else if x = 1 then 9 else if x = 2 then 1023 else 99
section
variable {d : Nat} {c : Nat × Nat × Nat} {I : zI} {g : Nat} {Q : zQ}
theorem k27 {a : Nat} (ha : (zSh a).1 = 5) {x : Int} (hx : 1 ≤ x ∧ x ≤ 5) (H : Q (some (zi (I a (mfi x)))) (c, I, zRg g)) : zcl (d + 1) 27 0 0 [zr a, zi x] (c, I, zRg g) Q := by
  refine zen rfl rfl (fun B Q1 hQ => g_x5_worth_0 ?_)
  have H := hQ _ _ _ H
  refine ⟨fun u => ⟨ha, ?_⟩, fun _ => ⟨fun u => ⟨ha, ?_⟩, fun _ => ⟨fun u => ⟨ha, ?_⟩, fun _ => ⟨fun u => ⟨ha, ?_⟩, fun _ => ⟨ha, ?_⟩⟩⟩⟩⟩
  · subst u; exact H
  · subst u; exact H
  · subst u; exact H
  · subst u; exact H
  · obtain rfl : x = 5 := by omega
    exact H
theorem k28 {a : Nat} (ha : (zSh a).1 = 5) {x v : Int} (hx : 1 ≤ x ∧ x ≤ 5) (H : Q none (c, z2 I a (mfi x) v, zRg g)) : zcl (d + 1) 28 0 0 [zr a, zi x, zi v] (c, I, zRg g) Q := by
  refine zen rfl rfl (fun B Q1 hQ => g_x5_become_0 ?_)
  have H := hQ _ _ _ H
  refine ⟨fun u => ⟨ha, ?_⟩, fun _ => ⟨fun u => ⟨ha, ?_⟩, fun _ => ⟨fun u => ⟨ha, ?_⟩, fun _ => ⟨fun u => ⟨ha, ?_⟩, fun _ => ⟨ha, ?_⟩⟩⟩⟩⟩
  · subst u; exact H
  · subst u; exact H
  · subst u; exact H
  · subst u; exact H
  · obtain rfl : x = 5 := by omega
    exact H
theorem k82 {x : Int} (H : Q (some (zi (mmo x))) (c, I, zRg g)) : zcl (d + 1) 82 0 0 [zi x] (c, I, zRg g) Q := by
  refine zen rfl rfl (fun B Q1 hQ => g_x11_most_0 ?_)
  have H := hQ _ _ _ H
  unfold mmo at H
  refine ⟨fun u => ?_, fun u => ⟨fun u1 => ?_, fun u1 => ⟨fun u2 => ?_, fun u2 => ⟨fun u3 => ?_, fun u3 => ?_⟩⟩⟩⟩
  · rw [if_pos u] at H; exact H
  · rw [if_neg u, if_pos u1] at H; exact H
  · rw [if_neg u, if_neg u1, if_pos u2] at H; exact H
  · rw [if_neg u, if_neg u1, if_neg u2] at H; exact H
  · rw [if_neg u, if_neg u1, if_neg u2] at H; exact H
theorem mB2 : mB 2 := Or.inl rfl
theorem mP2 {p : Nat} (hp : p < 5) : zRg g 3 p = some (2 + (3 + p)) ∧ (zSh (2 + (3 + p))).1 = 5 := ⟨mB_p mB2 hp, mB_3 mB2 hp⟩
theorem x_set {x1 x2 x3 : Int} (h5 : I 2 2 ≤ 5)
    (Hb : ¬ ((0 ≤ x1 ∧ x1 ≤ 4) ∧ (x1 = 0 ∨ (0 ≤ x2 ∧ x2 < I 2 2)) ∧ 0 ≤ x3 ∧ x3 ≤ mmo x1) → Q (some (zi (-2))) (c, I, zRg g))
    (H0 : x1 = 0 → 0 ≤ x3 → x3 ≤ 999 → Q (some (zi (I 2 4))) (c, z2 I 2 4 x3, zRg g))
    (H1 : 1 ≤ x1 → x1 ≤ 4 → 0 ≤ x2 → x2 < I 2 2 → 0 ≤ x3 → x3 ≤ mmo x1 → Q (some (zi (I (2 + (3 + x2.toNat)) (mfi x1)))) (c, z2 I (2 + (3 + x2.toNat)) (mfi x1) x3, zRg g)) : zcl (d + 2) 77 0 0 [zr 0, zi x1, zi x2, zi x3] (c, I, zRg g) Q := by
  refine zen rfl rfl (fun B Q1 hQ => g_x11_set_0 ⟨fun u => hQ _ _ _ (Hb (by omega)), fun u => ⟨fun u1 => ⟨fun u2 => ⟨fun u3 => hQ _ _ _ (Hb (by omega)), fun u3 => k82 (g_x11_set_39 (y1 := 0) ⟨fun u4 => ⟨fun u5 => absurd u2 u5, fun _ => hQ _ _ _ (H0 u2 (by omega) ?_)⟩, fun u4 => hQ _ _ _ (Hb (by omega))⟩)⟩, fun u2 => k_isThere mB2 (g_x11_set_24 ⟨fun u3 => ⟨fun u4 => hQ _ _ _ (Hb (by omega)), fun u4 => k82 (g_x11_set_39 (y1 := 2 + (3 + x2.toNat)) ⟨fun u5 => ⟨fun _ => ?_, fun q => absurd u2 q⟩, fun u5 => hQ _ _ _ (Hb (by omega))⟩)⟩, fun u3 => hQ _ _ _ (Hb ?_)⟩)⟩, fun u1 => hQ _ _ _ (Hb (by omega))⟩⟩)
  · subst u2; exact u4
  · have u3 := mbo_n0.mp u3
    have hp : x2.toNat < 5 := by omega
    refine ⟨by omega, (mP2 hp).1, by rw [(mP2 (g := g) hp).2]; rfl, k27 (mP2 (g := g) hp).2 (by omega) (g_x11_set_86 ⟨by rw [(mP2 (g := g) hp).2]; rfl, k28 (mP2 (g := g) hp).2 (by omega) (g_x11_set_95 (hQ _ _ _ (H1 (by omega) u1 u3.1 u3.2 (by omega) u5)))⟩)⟩
  · have u3 := mbo_0.mp (Decidable.not_not.mp u3)
    omega
theorem x_person {x1 x2 x3 x4 : Int} (h0 : 0 ≤ I 2 2) (h5 : I 2 2 ≤ 5)
    (Hb : ¬ ((0 ≤ x1 ∧ x1 ≤ 5) ∧ (0 ≤ x2 ∧ x2 ≤ 9) ∧ mR x3 ∧ 0 ≤ x4 ∧ x4 ≤ 99) → Q (some (zi (-2))) (c, I, zRg g))
    (Hf : (0 ≤ x1 ∧ x1 ≤ 5) ∧ (0 ≤ x2 ∧ x2 ≤ 9) ∧ mR x3 ∧ 0 ≤ x4 ∧ x4 ≤ 99 → I 2 2 = 5 → Q (some (zi (-4))) (c, I, zRg g))
    (H1 : (0 ≤ x1 ∧ x1 ≤ 5) ∧ (0 ≤ x2 ∧ x2 ≤ 9) ∧ mR x3 ∧ 0 ≤ x4 ∧ x4 ≤ 99 → I 2 2 < 5 → Q (some (zi (I 2 2))) (c, z2 (z2 (z2 (z2 (z2 (z2 I (2 + (3 + (I 2 2).toNat)) 0 x1) (2 + (3 + (I 2 2).toNat)) 1 x2) (2 + (3 + (I 2 2).toNat)) 2 x3) (2 + (3 + (I 2 2).toNat)) 3 x4) (2 + (3 + (I 2 2).toNat)) 4 0) 2 2 (I 2 2 + 1), zRg g)) : zcl (d + 2) 78 0 0 [zr 0, zi x1, zi x2, zi x3, zi x4] (c, I, zRg g) Q := by
  refine zen rfl rfl (fun B Q1 hQ => g_x11_person_0 ⟨fun u => hQ _ _ _ (Hb (by omega)), fun u => ⟨fun u1 => hQ _ _ _ (Hb (by omega)), fun u1 => ⟨fun u2 => hQ _ _ _ (Hb (by omega)), fun u2 => ⟨fun u3 => k_isSet (g_x11_person_27 (y1 := 2 + (3 + (I 2 2).toNat)) ⟨fun u4 => hQ _ _ _ (Hb ?_), fun u4 => ⟨fun u5 => hQ _ _ _ (Hb (by omega)), fun u5 => ⟨fun u6 => ⟨fun u7 => ?_, fun u7 => ?_⟩, fun u6 => hQ _ _ _ (Hb (by omega))⟩⟩⟩), fun u3 => hQ _ _ _ (Hb (by omega))⟩⟩⟩⟩)
  · have u4 := mbo_0.mp u4
    omega
  · have u4 := mbo_n0.mp u4
    have hp : (I 2 2).toNat < 5 := by omega
    have h := (mP2 (g := g) hp).2
    refine ⟨by omega, (mP2 hp).1, h, h, h, h, h, ?_⟩
    have e : z2 (z2 (z2 (z2 (z2 I (2 + (3 + (I 2 2).toNat)) 0 x1) (2 + (3 + (I 2 2).toNat)) 1 x2) (2 + (3 + (I 2 2).toNat)) 2 x3) (2 + (3 + (I 2 2).toNat)) 3 x4) (2 + (3 + (I 2 2).toNat)) 4 0 2 2 = I 2 2 := by
      rw [z2_n (Or.inl (by omega)), z2_n (Or.inl (by omega)), z2_n (Or.inl (by omega)), z2_n (Or.inl (by omega)), z2_n (Or.inl (by omega))]
    rw [e, zwr_eq (show zIn (I 2 2 + 1) by omega), zwr_eq (show zIn (I 2 2 + 1 - 1) by omega), show I 2 2 + 1 - 1 = I 2 2 by omega]
    exact hQ _ _ _ (H1 ⟨by omega, by omega, u4, by omega⟩ u7)
  · have u4 := mbo_n0.mp u4
    exact hQ _ _ _ (Hf ⟨by omega, by omega, u4, by omega⟩ (by omega))
theorem x_told {x1 x2 : Int} (h5 : I 2 2 ≤ 5) (h8 : I 2 3 ≤ 8)
    (Hn : ¬ ((x2 = 0 ∨ x2 = 7 ∨ x2 = 8) ∨ (x2 = 6 ∧ 0 ≤ x1 ∧ x1 < I 2 3) ∨ ((1 ≤ x2 ∧ x2 ≤ 5) ∧ 0 ≤ x1 ∧ x1 < I 2 2)) → Q (some (zi (-1000))) (c, I, zRg g))
    (H0 : x2 = 0 → Q (some (zi (I 2 4))) (c, I, zRg g)) (H7 : x2 = 7 → Q (some (zi (I 2 3))) (c, I, zRg g)) (H8 : x2 = 8 → Q (some (zi (I 2 5))) (c, I, zRg g))
    (H6 : x2 = 6 → 0 ≤ x1 → x1 < I 2 3 → Q (some (zi (I 4 x1.toNat))) (c, I, zRg g))
    (H1 : 1 ≤ x2 → x2 ≤ 5 → 0 ≤ x1 → x1 < I 2 2 → Q (some (zi (I (2 + (3 + x1.toNat)) (mfi x2)))) (c, I, zRg g)) : zcl (d + 2) 79 0 0 [zr 0, zi x1, zi x2] (c, I, zRg g) Q := by
  refine zen rfl rfl (fun B Q1 hQ => ?_)
  have key : 1 ≤ x2 → x2 ≤ 5 → zRn (zcl (d + 1)) 79 B Q1 68 [some (zr 0), some (zi x1), some (zi x2)] [zi (mbo (0 ≤ x1 ∧ x1 < I 2 2))] (c, I, zRg g) := by
    intro h1 h2
    refine g_x11_told_68 (y1 := 2 + (3 + x1.toNat)) ⟨fun u => hQ _ _ _ (Hn ?_), fun u => ?_⟩
    · have u := mbo_0.mp u
      omega
    · have u := mbo_n0.mp u
      have hp : x1.toNat < 5 := by omega
      exact ⟨by omega, (mP2 hp).1, by rw [(mP2 (g := g) hp).2]; rfl, k27 (mP2 (g := g) hp).2 (by omega) (g_x11_told_84 (hQ _ _ _ (H1 h1 h2 u.1 u.2)))⟩
  exact g_x11_told_0 ⟨fun u => hQ _ _ _ (H0 u), fun u => ⟨fun u1 => k_isThere mB2 (key (by omega) (by omega)), fun u1 => ⟨fun u2 => k_isThere mB2 (key (by omega) (by omega)), fun u2 => ⟨fun u3 => k_isThere mB2 (key (by omega) (by omega)), fun u3 => ⟨fun u4 => k_isThere mB2 (key (by omega) (by omega)), fun u4 => ⟨fun u5 => k_isThere mB2 (key (by omega) (by omega)), fun u5 => ⟨fun u6 => ⟨fun v => hQ _ _ _ (Hn (by omega)), fun v => ⟨fun w => hQ _ _ _ (Hn (by omega)), fun w => ⟨by omega, hQ _ _ _ (H6 u6 (by omega) (by omega))⟩⟩⟩, fun u6 => ⟨fun u7 => hQ _ _ _ (H7 u7), fun u7 => ⟨fun u8 => hQ _ _ _ (H8 u8), fun u8 => hQ _ _ _ (Hn (by omega))⟩⟩⟩⟩⟩⟩⟩⟩⟩
theorem x_brings {x1 : Int} (h0 : 0 ≤ I 2 3) (h8 : I 2 3 ≤ 8) (Hb : ¬ (1 ≤ x1 ∧ x1 < 1024) → Q (some (zi (-2))) (c, I, zRg g)) (Hf : 1 ≤ x1 ∧ x1 < 1024 → I 2 3 = 8 → Q (some (zi (-4))) (c, I, zRg g))
    (H1 : 1 ≤ x1 ∧ x1 < 1024 → I 2 3 < 8 → Q (some (zi (I 2 3 + 1))) (c, z2 (z2 I 4 (I 2 3).toNat x1) 2 3 (I 2 3 + 1), zRg g)) : zcl (d + 1) 80 0 0 [zr 0, zi x1] (c, I, zRg g) Q := by
  refine zen rfl rfl (fun B Q1 hQ => g_x11_brings_0 ⟨fun u => hQ _ _ _ (Hb (by omega)), fun u => ⟨fun u1 => ⟨fun u2 => ⟨by omega, ?_⟩, fun u2 => hQ _ _ _ (Hf (by omega) (by omega))⟩, fun u1 => hQ _ _ _ (Hb (by omega))⟩⟩)
  rw [z2_n (Or.inl (by decide)), zwr_eq (show zIn (I 2 3 + 1) by omega)]
  exact hQ _ _ _ (H1 (by omega) u2)
theorem k_put {x1 : Int} (h0 : 0 ≤ I 62 1) (H0 : ¬ I 62 1 < 160 → Q (some (zi 0)) (c, I, zRg g)) (H1 : I 62 1 < 160 → Q (some (zi 1)) (c, z2 (z2 I 63 (I 62 1).toNat x1) 62 1 (I 62 1 + 1), zRg g)) : zcl (d + 1) 37 0 0 [zr 62, zi x1] (c, I, zRg g) Q := by
  refine zen rfl rfl (fun B Q1 hQ => g_x7_put_0 ⟨fun u => ⟨by omega, ?_⟩, fun u => hQ _ _ _ (H0 u)⟩)
  rw [z2_n (Or.inl (by decide)), zwr_eq (show zIn (I 62 1 + 1) by omega)]
  exact hQ _ _ _ (H1 u)
theorem x_asks {x1 x2 x3 : Int} (hW : mW 2 I) (Hb : ¬ ((0 ≤ x1 ∧ x1 < I 2 2) ∧ mR x2 ∧ 0 ≤ x3 ∧ x3 ≤ 3) → Q (some (zi (-2))) (c, I, zRg g))
    (H : (0 ≤ x1 ∧ x1 < I 2 2) ∧ mR x2 ∧ 0 ≤ x3 ∧ x3 ≤ 3 → ∀ J, mA I J → Q (some (zi (if x3 = 0 then mtell (mX I) (mK 2 I) x1.toNat x2 else if x3 = 1 then mkeep (mX I) (mK 2 I) x1.toNat x2 else if x3 = 2 then mtire (mX I) (mK 2 I) x1.toNat x2 else mlearn (mX I) (mK 2 I) x1.toNat x2))) (c, J, zRg g)) : zcl (d + 6) 81 0 0 [zr 0, zi x1, zi x2, zi x3] (c, I, zRg g) Q := by
  have h5 : I 2 2 ≤ 5 := hW.2.1.1.2
  refine zen rfl rfl (fun B Q1 hQ => g_x11_asks_0 (k_isThere mB2 (g_x11_asks_8 ⟨fun u => hQ _ _ _ (Hb ?_), fun u => k_isSet (g_x11_asks_15 (y1 := 2 + (3 + x1.toNat)) ⟨fun v => ?_, fun v => hQ _ _ _ (Hb ?_)⟩)⟩)))
  · have u := mbo_0.mp u
    omega
  · have u := mbo_n0.mp u
    have v := mbo_n0.mp v
    have hp : x1.toNat < 5 := by omega
    have hq : ((x1.toNat : Nat) : Int) < I 2 2 := by omega
    refine ⟨by omega, (mP2 hp).1, fun w => k_telling hW hq v (fun J hJ => g_x11_asks_75 (hQ _ _ _ ?_)), fun w => ⟨fun w1 => k_keeping hW hq v (fun J hJ => g_x11_asks_87 (hQ _ _ _ ?_)), fun w1 => ⟨fun w2 => k_tiring hW hq v (fun J hJ => g_x11_asks_99 (hQ _ _ _ ?_)), fun w2 => ⟨fun w3 => k_learning hW hq v (fun J hJ => ?_), fun w3 => hQ _ _ _ (Hb (by omega))⟩⟩⟩⟩
    · have H := H ⟨u, v, by omega⟩ J hJ
      rw [if_pos w] at H
      exact H
    · have H := H ⟨u, v, by omega⟩ J hJ
      rw [if_neg w, if_pos w1] at H
      exact H
    · have H := H ⟨u, v, by omega⟩ J hJ
      rw [if_neg w, if_neg w1, if_pos w2] at H
      exact H
    · have H := hQ _ _ _ (H ⟨u, v, by omega⟩ J hJ)
      rw [if_neg w, if_neg w1, if_neg w2] at H
      have hl : mlearn (mX I) (mK 2 I) x1.toNat x2 = 0 ∨ mlearn (mX I) (mK 2 I) x1.toNat x2 = 1 := mle_01 _ _ _
      exact g_x11_asks_111 ⟨fun z => zQi z.symm H, fun z => zQi (by omega) H⟩
  · have v := mbo_0.mp (Decidable.not_not.mp v)
    omega
end

