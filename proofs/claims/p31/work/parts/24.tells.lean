/-! contracts: what one keeps, tells, how it tires, whether one learns; told by all -/
section
variable {d : Nat} {c : Nat × Nat × Nat} {I : zI} {g : Nat} {Q : zQ}
def mkq (k v day : Int) : Int := if k = 1 ∨ k = 3 then v + 1 else if k = 2 then 2 * v else if k = 4 then (if day % 4 = 0 then 10 else 2 * v) else if k = 5 then v / 2 else v
theorem mkp_q (k v day : Int) : mkp k v day = mcl (mkq k v day) 0 10 := rfl
theorem ztm {x y : Int} (h0 : 0 ≤ x) (h1 : x < 1000000) (h2 : 0 < y) (h3 : y < 1000000) : zwr (Int.tmod x y) = x % y := by
  rw [Int.tmod_eq_emod_of_nonneg h0, zwr_eq]
  have := Int.emod_nonneg x (show y ≠ 0 by omega)
  have := Int.emod_lt_of_pos x h2
  omega
theorem ztd {x y : Int} (h0 : 0 ≤ x) (h1 : x < 1000000) (h2 : 0 < y) : zwr (Int.tdiv x y) = x / y := by
  rw [Int.tdiv_eq_ediv_of_nonneg h0, zwr_eq]
  have := Int.ediv_nonneg h0 (show 0 ≤ y by omega)
  have := Int.ediv_le_self y h0
  omega
theorem k66 {a : Nat} {v dy : Int} (H : Q (some (zi v)) (c, I, zRg g)) : zcl (d + 1) 66 0 0 [zr a, zi v, zi dy] (c, I, zRg g) Q :=
  zen rfl rfl (fun B Q1 hQ => g_x9_keptOf_0 (hQ _ _ _ H))
theorem k6 {a : Nat} (ha : (zSh a).1 < 13) {v dy : Int} (hv : 0 ≤ v ∧ v ≤ 99) (H : Q (some (zi (2 * v))) (c, I, zRg g)) : zcl (d + 2) 6 0 0 [zr a, zi v, zi dy] (c, I, zRg g) Q :=
  zen rfl rfl (fun B Q1 hQ => g_x1_keptOf_0 ⟨ha, k66 (g_x1_keptOf_6 (zQi (by rw [zwr_eq (by omega), Int.mul_comm]) (hQ _ _ _ H)))⟩)
theorem k12 {a : Nat} (ha : (zSh a).1 < 13) {v dy : Int} (hv : 0 ≤ v ∧ v ≤ 99) (H : Q (some (zi (v + 1))) (c, I, zRg g)) : zcl (d + 2) 12 0 0 [zr a, zi v, zi dy] (c, I, zRg g) Q :=
  zen rfl rfl (fun B Q1 hQ => g_x2_keptOf_0 ⟨ha, k66 (g_x2_keptOf_6 (zQi (zwr_eq (by omega)) (hQ _ _ _ H)))⟩)
theorem k23 {a : Nat} (ha : (zSh a).1 < 13) {v dy : Int} (hv : 0 ≤ v ∧ v ≤ 99) (hd : 0 ≤ dy ∧ dy < 5000) (H : Q (some (zi (if dy % 4 = 0 then 10 else 2 * v))) (c, I, zRg g)) : zcl (d + 3) 23 0 0 [zr a, zi v, zi dy] (c, I, zRg g) Q := by
  refine zen rfl rfl (fun B Q1 hQ => g_x4_keptOf_0 ?_)
  rw [ztm hd.1 (by omega) (by omega) (by omega)]
  exact ⟨fun u => ⟨ha, k6 ha hv (g_x4_keptOf_17 (zQi (if_neg u).symm (hQ _ _ _ H)))⟩, fun u => g_x4_keptOf_17 (zQi (if_pos (by omega)).symm (hQ _ _ _ H))⟩
theorem k32 {a : Nat} (ha : (zSh a).1 < 13) {v dy : Int} (hv : 0 ≤ v ∧ v ≤ 99) (H : Q (some (zi (v / 2))) (c, I, zRg g)) : zcl (d + 2) 32 0 0 [zr a, zi v, zi dy] (c, I, zRg g) Q :=
  zen rfl rfl (fun B Q1 hQ => g_x6_keptOf_0 ⟨ha, k66 (g_x6_keptOf_6 (zQi (ztd hv.1 (by omega) (by omega)) (hQ _ _ _ H)))⟩)
theorem k_kept {k : Nat} (hk : k < 6) {v dy : Int} (hv : 0 ≤ v ∧ v ≤ 99) (hd : 0 ≤ dy ∧ dy < 5000) : ∃ m, zsel ((zSh (30 + k)).1 : Nat) [(9, 66), (1, 6), (2, 12), (3, 12), (4, 23), (6, 32)] = some m ∧ ∀ {d : Nat} {c : Nat × Nat × Nat} {I : zI} {g : Nat} {Q : zQ}, Q (some (zi (mkq k v dy))) (c, I, zRg g) → zcl (d + 3) m 0 0 [zr (30 + k), zi v, zi dy] (c, I, zRg g) Q := by
  match k, hk with
  | 0, _ => exact ⟨66, rfl, fun H => k66 H⟩
  | 1, _ => exact ⟨12, rfl, fun H => k12 (by decide) hv H⟩
  | 2, _ => exact ⟨6, rfl, fun H => k6 (by decide) hv H⟩
  | 3, _ => exact ⟨12, rfl, fun H => k12 (by decide) hv H⟩
  | 4, _ => exact ⟨23, rfl, fun H => k23 (by decide) hv hd H⟩
  | 5, _ => exact ⟨32, rfl, fun H => k32 (by decide) hv H⟩
  | k + 6, q => exact absurd q (by omega)
-- what is told
theorem l_words {B : Nat × Nat} {a a1 : Nat} {th kp : Int} (hk : kp < 1000) : ∀ (n : Nat) (i : Nat) (kn co : Int) (o : Option zV), (i : Int) + n = kp → mR kn → mR co → Q (some (zi (mfst n kn co))) (c, I, zRg g) → zRn (zcl (d + 1)) 67 B Q 14 [some (zr a), some (zr a1), some (zi th), some (zi kp), some (zi kn), some (zi co), some (zi (i : Nat)), o] [] (c, I, zRg g) := by
  intro n
  induction n with
  | zero => exact fun i kn co o hi _ _ H => g_x9_wordsFor_14 ⟨fun _ => H, fun u => absurd (show kp ≤ (i : Int) by omega) u⟩
  | succ n ih =>
    intro i kn co o hi hn hc H
    refine g_x9_wordsFor_14 ⟨fun u => absurd u (by omega), fun _ => ⟨fun u => ?_, fun u => ?_⟩⟩
    · rw [u, mfst_0 _ hc] at H
      exact H
    · have hi2 : (i : Int) < 1000 := by omega
      refine k_low (g_x9_wordsFor_30 ?_)
      have e : zand kn (zxor (mlow kn) (-1)) = zand kn (zwr (kn - 1)) := m_low2 hn
      rw [e, z1p i (by omega)]
      exact ih (i + 1) _ _ _ (by omega) (m_andR hn) (m_orR hc (m_andR hn)) H
theorem k67 {a a1 : Nat} (h1 : (zSh a1).1 = 5) {th kp : Int} (hk : 0 ≤ kp ∧ kp ≤ 10) (ht : mR th) (H : Q (some (zi (mfst kp.toNat (zand th (I a1 2)) 0))) (c, I, zRg g)) : zcl (d + 2) 67 0 0 [zr a, zr a1, zi th, zi kp] (c, I, zRg g) Q :=
  zen rfl rfl (fun B Q1 hQ => g_x9_wordsFor_0 ⟨h1, l_words (kp := kp) (by omega) kp.toNat 0 _ _ _ (by omega) (m_andR ht) mR0 (hQ _ _ _ H)⟩)
theorem k7 {a a1 : Nat} (ha : (zSh a).1 < 13) (h1 : (zSh a1).1 = 5) {th kp : Int} (hk : 0 ≤ kp ∧ kp ≤ 10) (ht : mR th) (H : Q (some (zi (zor (mfst kp.toNat (zand th (I a1 2)) 0) (zand (zshl (mfst kp.toNat (zand th (I a1 2)) 0) 1) th)))) (c, I, zRg g)) : zcl (d + 3) 7 0 0 [zr a, zr a1, zi th, zi kp] (c, I, zRg g) Q :=
  zen rfl rfl (fun B Q1 hQ => g_x1_wordsFor_0 ⟨ha, k67 h1 hk ht (g_x1_wordsFor_7 (hQ _ _ _ H))⟩)
theorem k13 {a a1 : Nat} (ha : (zSh a).1 < 13) (h1 : (zSh a1).1 = 5) {th kp : Int} (hk : 0 ≤ kp ∧ kp ≤ 10) (ht : mR th) (H : Q (some (zi (zor (mfst kp.toNat (zand th (I a1 2)) 0) (zshl 1 (I a1 1))))) (c, I, zRg g)) : zcl (d + 3) 13 0 0 [zr a, zr a1, zi th, zi kp] (c, I, zRg g) Q :=
  zen rfl rfl (fun B Q1 hQ => g_x2_wordsFor_0 ⟨ha, k67 h1 hk ht (g_x2_wordsFor_7 ⟨h1, hQ _ _ _ H⟩)⟩)
theorem k18 {a a1 : Nat} (ha : (zSh a).1 < 13) (h1 : (zSh a1).1 = 5) {th kp : Int} (hk : 0 ≤ kp ∧ kp ≤ 10) (ht : mR th) (H : Q (some (zi (zxor (zor (mfst kp.toNat (zand th (I a1 2)) 0) (zshl 1 (I a1 1))) (zshl 1 (zwr (9 - (I a1 1))))))) (c, I, zRg g)) : zcl (d + 4) 18 0 0 [zr a, zr a1, zi th, zi kp] (c, I, zRg g) Q :=
  zen rfl rfl (fun B Q1 hQ => g_x3_wordsFor_0 ⟨ha, k13 ha h1 hk ht (g_x3_wordsFor_7 ⟨h1, hQ _ _ _ H⟩)⟩)
theorem k33 {a a1 : Nat} (ha : (zSh a).1 < 13) (h1 : (zSh a1).1 = 5) {th kp : Int} (hk : 0 ≤ kp ∧ kp ≤ 10) (ht : mR th) (H : Q (some (zi (zand (mfst kp.toNat (zand th (I a1 2)) 0) 31))) (c, I, zRg g)) : zcl (d + 3) 33 0 0 [zr a, zr a1, zi th, zi kp] (c, I, zRg g) Q :=
  zen rfl rfl (fun B Q1 hQ => g_x6_wordsFor_0 ⟨ha, k67 h1 hk ht (g_x6_wordsFor_7 (hQ _ _ _ H))⟩)
theorem k24 {a a1 : Nat} (ha : (zSh a).1 < 13) (h1 : (zSh a1).1 = 5) {th kp : Int} (hk : 0 ≤ kp ∧ kp ≤ 10) (ht : mR th) (H : Q (some (zi (mlv (I a1 2) (zor (mfst kp.toNat (zand th (I a1 2)) 0) (zand (zshl (mfst kp.toNat (zand th (I a1 2)) 0) 1) th))))) (c, I, zRg g)) : zcl (d + 4) 24 0 0 [zr a, zr a1, zi th, zi kp] (c, I, zRg g) Q := by
  refine zen rfl rfl (fun B Q1 hQ => g_x4_wordsFor_0 ⟨ha, k7 ha h1 hk ht (g_x4_wordsFor_7 ?_)⟩)
  have H := hQ _ _ _ H
  unfold mlv at H
  refine ⟨fun u => ⟨h1, k_low (g_x4_wordsFor_29 ?_)⟩, fun u => ?_⟩
  · rw [if_neg u] at H
    exact H
  · rw [if_pos (Decidable.not_not.mp u)] at H
    exact H
theorem k_wordsFor {k a1 : Nat} (hk6 : k < 6) (h1 : (zSh a1).1 = 5) {th kp : Int} (hk : 0 ≤ kp ∧ kp ≤ 10) (ht : mR th) : ∃ m, zsel ((zSh (30 + k)).1 : Nat) [(9, 67), (1, 7), (2, 13), (3, 18), (4, 24), (6, 33)] = some m ∧ ∀ {d : Nat} {c : Nat × Nat × Nat} {I : zI} {g : Nat} {Q : zQ}, Q (some (zi (mtk k (I a1 1) (I a1 2) th kp))) (c, I, zRg g) → zcl (d + 4) m 0 0 [zr (30 + k), zr a1, zi th, zi kp] (c, I, zRg g) Q := by
  match k, hk6 with
  | 0, _ => exact ⟨67, rfl, fun H => k67 h1 hk ht H⟩
  | 1, _ => exact ⟨13, rfl, fun H => k13 (by decide) h1 hk ht H⟩
  | 2, _ => exact ⟨7, rfl, fun H => k7 (by decide) h1 hk ht H⟩
  | 3, _ => exact ⟨18, rfl, fun H => k18 (by decide) h1 hk ht H⟩
  | 4, _ => exact ⟨24, rfl, fun H => k24 (by decide) h1 hk ht H⟩
  | 5, _ => exact ⟨33, rfl, fun H => k33 (by decide) h1 hk ht H⟩
  | k + 6, q => exact absurd q (by omega)
-- how it tires
theorem k68 {a a2 : Nat} {v : Int} (H : Q (some (zi v)) (c, I, zRg g)) : zcl (d + 1) 68 0 0 [zr a, zi v, zr a2] (c, I, zRg g) Q :=
  zen rfl rfl (fun B Q1 hQ => g_x9_wearies_0 (hQ _ _ _ H))
theorem k8 {a a2 : Nat} (ha : (zSh a).1 < 13) {v : Int} (hv : 0 ≤ v ∧ v ≤ 99) (H : Q (some (zi (v + 1))) (c, I, zRg g)) : zcl (d + 2) 8 0 0 [zr a, zi v, zr a2] (c, I, zRg g) Q :=
  zen rfl rfl (fun B Q1 hQ => g_x1_wearies_0 ⟨ha, k68 (g_x1_wearies_6 (zQi (zwr_eq (by omega)) (hQ _ _ _ H)))⟩)
theorem k14 {a a2 : Nat} {v : Int} (H : Q (some (zi 0)) (c, I, zRg g)) : zcl (d + 1) 14 0 0 [zr a, zi v, zr a2] (c, I, zRg g) Q :=
  zen rfl rfl (fun B Q1 hQ => g_x2_wearies_0 (hQ _ _ _ H))
theorem k19 {a a2 : Nat} (h2 : (zSh a2).1 = 5) {v : Int} (H : Q (some (zi (I a2 1))) (c, I, zRg g)) : zcl (d + 1) 19 0 0 [zr a, zi v, zr a2] (c, I, zRg g) Q :=
  zen rfl rfl (fun B Q1 hQ => g_x3_wearies_0 ⟨h2, hQ _ _ _ H⟩)
theorem k25 {a a2 : Nat} (ha : (zSh a).1 < 13) {v : Int} (hv : 0 ≤ v ∧ v ≤ 99) (H : Q (some (zi ((v + 1) / 2))) (c, I, zRg g)) : zcl (d + 3) 25 0 0 [zr a, zi v, zr a2] (c, I, zRg g) Q :=
  zen rfl rfl (fun B Q1 hQ => g_x4_wearies_0 ⟨ha, k8 ha hv (g_x4_wearies_6 (zQi (ztd (by omega) (by omega) (by omega)) (hQ _ _ _ H)))⟩)
theorem k34 {a a2 : Nat} (ha : (zSh a).1 < 13) (h2 : (zSh a2).1 = 5) {v : Int} (hs : 0 ≤ I a2 4 ∧ I a2 4 ≤ 99) (H : Q (some (zi (if I a2 4 % 2 = 0 then v else 0))) (c, I, zRg g)) : zcl (d + 2) 34 0 0 [zr a, zi v, zr a2] (c, I, zRg g) Q := by
  refine zen rfl rfl (fun B Q1 hQ => g_x6_wearies_0 ⟨h2, ?_⟩)
  rw [ztm hs.1 (by omega) (by omega) (by omega)]
  exact ⟨fun u => zQi (if_neg u).symm (hQ _ _ _ H), fun u => ⟨ha, k68 (g_x6_wearies_15 (zQi (if_pos (by omega)).symm (hQ _ _ _ H)))⟩⟩
theorem k_wearies {k a2 : Nat} (hk : k < 6) (h2 : (zSh a2).1 = 5) {v : Int} (hv : 0 ≤ v ∧ v ≤ 99) : ∃ m, zsel ((zSh (30 + k)).1 : Nat) [(9, 68), (1, 8), (2, 14), (3, 19), (4, 25), (6, 34)] = some m ∧ ∀ {d : Nat} {c : Nat × Nat × Nat} {I : zI} {g : Nat} {Q : zQ}, (0 ≤ I a2 4 ∧ I a2 4 ≤ 99) → Q (some (zi (mti k (I a2 1) (I a2 4) v))) (c, I, zRg g) → zcl (d + 3) m 0 0 [zr (30 + k), zi v, zr a2] (c, I, zRg g) Q := by
  match k, hk with
  | 0, _ => exact ⟨68, rfl, fun _ H => k68 H⟩
  | 1, _ => exact ⟨14, rfl, fun _ H => k14 H⟩
  | 2, _ => exact ⟨8, rfl, fun _ H => k8 (by decide) hv H⟩
  | 3, _ => exact ⟨19, rfl, fun _ H => k19 h2 H⟩
  | 4, _ => exact ⟨25, rfl, fun _ H => k25 (by decide) hv H⟩
  | 5, _ => exact ⟨34, rfl, fun hs H => k34 (by decide) h2 hs H⟩
  | k + 6, q => exact absurd q (by omega)
-- whether one learns
theorem k69 {a : Nat} {y th : Int} (hy : y = 0 ∨ y = 1) (H : Q (some (zi y)) (c, I, zRg g)) : zcl (d + 1) 69 0 0 [zr a, zi y, zi th] (c, I, zRg g) Q :=
  zen rfl rfl (fun B Q1 hQ => g_x9_takesIn_0 ⟨hy, hQ _ _ _ H⟩)
theorem k20 {a : Nat} {y th : Int} (hy : y = 0 ∨ y = 1) (H : Q (some (zi y)) (c, I, zRg g)) : zcl (d + 1) 20 0 0 [zr a, zi y, zi th] (c, I, zRg g) Q :=
  zen rfl rfl (fun B Q1 hQ => g_x3_takesIn_0 ⟨hy, hQ _ _ _ H⟩)
theorem k15 {a : Nat} {y th : Int} (H : Q (some (zi 0)) (c, I, zRg g)) : zcl (d + 1) 15 0 0 [zr a, zi y, zi th] (c, I, zRg g) Q :=
  zen rfl rfl (fun B Q1 hQ => g_x2_takesIn_0 (hQ _ _ _ H))
theorem k35 {a : Nat} {y th : Int} (H : Q (some (zi 0)) (c, I, zRg g)) : zcl (d + 1) 35 0 0 [zr a, zi y, zi th] (c, I, zRg g) Q :=
  zen rfl rfl (fun B Q1 hQ => g_x6_takesIn_0 (hQ _ _ _ H))
theorem k9 {a : Nat} {y th : Int} (ht : mR th) (H : Q (some (zi (mbo (y ≠ 0 ∨ mbc th = 1)))) (c, I, zRg g)) : zcl (d + 2) 9 0 0 [zr a, zi y, zi th] (c, I, zRg g) Q :=
  zen rfl rfl (fun B Q1 hQ => g_x1_takesIn_0 ⟨fun u => zQi (mbo_t (Or.inl u)).symm (hQ _ _ _ H), fun u => k_bc ht (g_x1_takesIn_8 ⟨fun u1 => zQi (mbo_f (fun q => q.elim u u1)).symm (hQ _ _ _ H), fun u1 => zQi (mbo_t (Or.inr (Decidable.not_not.mp u1))).symm (hQ _ _ _ H)⟩)⟩)
theorem k_takesIn {k : Nat} (hk : k < 6) {y th : Int} (hy : y = 0 ∨ y = 1) (ht : mR th) : ∃ m, zsel ((zSh (30 + k)).1 : Nat) [(9, 69), (1, 9), (2, 15), (3, 20), (4, 9), (6, 35)] = some m ∧ ∀ {d : Nat} {c : Nat × Nat × Nat} {I : zI} {g : Nat} {Q : zQ}, Q (some (zi (mle k y th))) (c, I, zRg g) → zcl (d + 2) m 0 0 [zr (30 + k), zi y, zi th] (c, I, zRg g) Q := by
  have e0 : ∀ k : Int, k = 0 ∨ k = 3 → mle k y th = y := by
    intro k h
    unfold mle
    rw [if_neg (by omega)]
    rcases hy with rfl | rfl
    · rw [if_neg (by omega)]
    · rw [if_pos (by omega)]
  have e1 : ∀ k : Int, k = 2 ∨ k = 4 → mle k y th = mbo (y ≠ 0 ∨ mbc th = 1) := by
    intro k h
    unfold mle mbo
    rw [if_neg (by omega)]
    by_cases q : y ≠ 0 ∨ mbc th = 1
    · rw [if_pos q, if_pos (by omega)]
    · rw [if_neg q, if_neg (by omega)]
  match k, hk with
  | 0, _ => exact ⟨69, rfl, fun H => k69 hy (zQi (e0 0 (Or.inl rfl)).symm H)⟩
  | 1, _ => exact ⟨15, rfl, fun H => k15 H⟩
  | 2, _ => exact ⟨9, rfl, fun H => k9 ht (zQi (e1 2 (Or.inl rfl)).symm H)⟩
  | 3, _ => exact ⟨20, rfl, fun H => k20 hy (zQi (e0 3 (Or.inr rfl)).symm H)⟩
  | 4, _ => exact ⟨9, rfl, fun H => k9 ht (zQi (e1 4 (Or.inr rfl)).symm H)⟩
  | 5, _ => exact ⟨35, rfl, fun H => k35 H⟩
  | k + 6, q => exact absurd q (by omega)
end
/-- the world that begins at cell b; that it is as it should be -/
def mK (b : Nat) (I : zI) : zI := fun x j => I (b + x) j
def mW (b : Nat) (I : zI) : Prop := mB b ∧ mok (mK b I) ∧ (0 ≤ I b 4 ∧ I b 4 < 5000) ∧ (0 ≤ I b 6 ∧ I b 6 < 6) ∧ mXo I (I b 6).toNat
theorem mB_27 {b : Nat} (h : mB b) : ∀ x, x < 9 → b + x ≠ 27 := by
  intro x hx
  rcases h with rfl | rfl | rfl <;> omega
theorem mK_A {b : Nat} {I J : zI} (hb : mB b) (h5 : I b 2 ≤ 5) (h : mA I J) : mlk (mK b I) (mK b J) :=
  ⟨fun j _ _ => (congrFun (h _ (mB_27 hb 0 (by omega))) j).symm, fun j _ => (congrFun (h _ (mB_27 hb 2 (by omega))) j).symm, fun p hp j _ => (congrFun (h _ (mB_27 hb (3 + p) (by have hp : (p : Int) < I b 2 := hp; omega))) j).symm⟩
theorem mW.A {b : Nat} {I J : zI} (hW : mW b I) (h : mA I J) : mW b J := by
  obtain ⟨hb, hk, hd, hr, ho⟩ := hW
  have e : J b = I b := h _ (mB_27 hb 0 (by omega))
  refine ⟨hb, hk.lk (mK_A hb hk.1.2 h), by rw [e]; exact hd, by rw [e]; exact hr, by rw [e]; exact mXo_A h ho⟩
section
variable {d : Nat} {c : Nat × Nat × Nat} {I : zI} {g : Nat} {Q : zQ}
theorem mW.at {b p : Nat} (hW : mW b I) (hp : (p : Int) < I b 2) : (zSh (b + (3 + p))).1 = 5 ∧ (I (b + (3 + p)) 0 = (((I (b + (3 + p)) 0).toNat : Nat) : Int) ∧ (I (b + (3 + p)) 0).toNat < 6) ∧ (0 ≤ I (b + (3 + p)) 1 ∧ I (b + (3 + p)) 1 ≤ 9) ∧ mR (I (b + (3 + p)) 2) ∧ (0 ≤ I (b + (3 + p)) 3 ∧ I (b + (3 + p)) 3 ≤ 99) ∧ (0 ≤ I (b + (3 + p)) 4 ∧ I (b + (3 + p)) 4 ≤ 99) ∧ I b 6 = (((I b 6).toNat : Nat) : Int) ∧ (I b 6).toNat < 6 := by
  obtain ⟨hb, hk, hd, hr, ho⟩ := hW
  have h5 : I b 2 ≤ 5 := hk.1.2
  obtain ⟨h0, h1, h2, h3, h4⟩ := hk.2 p hp
  have h0 : 0 ≤ I (b + (3 + p)) 0 ∧ I (b + (3 + p)) 0 ≤ 5 := h0
  exact ⟨mB_3 hb (by omega), by omega, h1, h2, h3, h4, by omega, by omega⟩
theorem k_keeping {b p : Nat} (hW : mW b I) (hp : (p : Int) < I b 2) {th : Int} (ht : mR th) (H : ∀ J, mA I J → Q (some (zi (mkeep (mX I) (mK b I) p th))) (c, J, zRg g)) : zcl (d + 4) 93 0 0 [zr 0, zr b, zr (b + (3 + p)), zi th] (c, I, zRg g) Q := by
  obtain ⟨h5, ⟨hk, hk6⟩, h1, h2, h3, h4, hr, hr6⟩ := hW.at hp
  obtain ⟨hb, -, hd, -, ho⟩ := hW
  have hv := mwo_r (mnk (mK b I) p th) (mX I (I b 6).toNat 0)
  obtain ⟨m, hs, hm⟩ := k_kept hk6 hv hd
  refine zen rfl rfl (fun B Q1 hQ => g_x11_keeping_0 (k_kindOf h5 hk hk6 (g_x11_keeping_5 (k_ruleOf hb hr hr6 (g_x11_keeping_10 ⟨mB_0 hb, by rw [(mT_0 hr6).1]; rfl, k_worth (q := 0) hr6 (by omega) h5 ht h2 ho (fun J hJ => g_x11_keeping_24 (k1 := m) ⟨mB_0 hb, hs, ?_⟩)⟩)))))
  rw [hJ b (mB_27 hb 0 (by omega))]
  refine hm (g_x11_keeping_31 (k_within (by omega) (g_x11_keeping_36 (zQi ?_ (hQ _ _ _ (H J hJ))))))
  show mcl (mkq ((I (b + (3 + p)) 0).toNat : Nat) _ _) 0 10 = mcl (mkq (I (b + (3 + p)) 0) _ _) 0 10
  rw [← hk]
  rfl
theorem k_telling {b p : Nat} (hW : mW b I) (hp : (p : Int) < I b 2) {th : Int} (ht : mR th) (H : ∀ J, mA I J → Q (some (zi (mtell (mX I) (mK b I) p th))) (c, J, zRg g)) : zcl (d + 5) 94 0 0 [zr 0, zr b, zr (b + (3 + p)), zi th] (c, I, zRg g) Q := by
  obtain ⟨h5, ⟨hk, hk6⟩, h1, h2, h3, h4, hr, hr6⟩ := hW.at hp
  have hb := hW.1
  have hv : 0 ≤ mkeep (mX I) (mK b I) p th ∧ mkeep (mX I) (mK b I) p th ≤ 10 := mke_r _ _ (mwo_r _ _).1
  refine zen rfl rfl (fun B Q1 hQ => g_x11_telling_0 (k_kindOf h5 hk hk6 (g_x11_telling_5 (k_keeping hW hp ht (fun J hJ => ?_)))))
  have ea : J (b + (3 + p)) = I (b + (3 + p)) := hJ _ (fun q => by rw [q] at h5; exact absurd h5 (by decide))
  obtain ⟨m, hs, hm⟩ := k_wordsFor hk6 h5 hv ht
  refine g_x11_telling_14 (k1 := m) ⟨hs, hm (g_x11_telling_17 (zQi ?_ (hQ _ _ _ (H J hJ))))⟩
  rw [ea, ← hk]
  rfl
theorem k_tiring {b p : Nat} (hW : mW b I) (hp : (p : Int) < I b 2) {th : Int} (ht : mR th) (H : ∀ J, mA I J → Q (some (zi (mtire (mX I) (mK b I) p th))) (c, J, zRg g)) : zcl (d + 4) 95 0 0 [zr 0, zr b, zr (b + (3 + p)), zi th] (c, I, zRg g) Q := by
  obtain ⟨h5, ⟨hk, hk6⟩, h1, h2, h3, h4, hr, hr6⟩ := hW.at hp
  obtain ⟨hb, -, hd, -, ho⟩ := hW
  have hv := mwo_r (mnk (mK b I) p th) (mX I (I b 6).toNat 1)
  refine zen rfl rfl (fun B Q1 hQ => g_x11_tiring_0 (k_kindOf h5 hk hk6 (g_x11_tiring_5 (k_ruleOf hb hr hr6 (g_x11_tiring_10 ⟨mB_0 hb, by rw [(mT_0 hr6).1]; rfl, k_worth (q := 1) hr6 (by omega) h5 ht h2 ho (fun J hJ => ?_)⟩)))))
  have ea : J (b + (3 + p)) = I (b + (3 + p)) := hJ _ (fun q => by rw [q] at h5; exact absurd h5 (by decide))
  obtain ⟨m, hs, hm⟩ := k_wearies hk6 h5 hv
  refine g_x11_tiring_24 (k1 := m) ⟨hs, hm (by rw [ea]; exact h4) (g_x11_tiring_28 (zQi ?_ (hQ _ _ _ (H J hJ))))⟩
  rw [ea, ← hk]
  rfl
theorem mle_v {k v th : Int} : mle k (mbo (v ≠ 0)) th = mle k v th := by
  unfold mle mbo
  by_cases h : v = 0
  · rw [h]; rfl
  · rw [if_pos h]
    split
    · rfl
    · rw [if_pos (by omega), if_pos (by omega)]
theorem mle_01 (k v th : Int) : mle k v th = 0 ∨ mle k v th = 1 := by
  unfold mle
  split
  · exact Or.inl rfl
  · split
    · exact Or.inr rfl
    · exact Or.inl rfl
theorem k_learning {b p : Nat} (hW : mW b I) (hp : (p : Int) < I b 2) {th : Int} (ht : mR th) (H : ∀ J, mA I J → Q (some (zi (mlearn (mX I) (mK b I) p th))) (c, J, zRg g)) : zcl (d + 4) 96 0 0 [zr 0, zr b, zr (b + (3 + p)), zi th] (c, I, zRg g) Q := by
  obtain ⟨h5, ⟨hk, hk6⟩, h1, h2, h3, h4, hr, hr6⟩ := hW.at hp
  obtain ⟨hb, -, hd, -, ho⟩ := hW
  refine zen rfl rfl (fun B Q1 hQ => g_x11_learning_0 (k_kindOf h5 hk hk6 (g_x11_learning_5 (k_ruleOf hb hr hr6 (g_x11_learning_10 ⟨mB_0 hb, by rw [(mT_0 hr6).1]; rfl, k_worth (q := 2) hr6 (by omega) h5 ht h2 ho (fun J hJ => ?_)⟩)))))
  have H := hQ _ _ _ (H J hJ)
  have e : mlearn (mX I) (mK b I) p th = mle (((I (b + (3 + p)) 0).toNat : Nat) : Int) (mwo (mnm (I (b + (3 + p)) 2) (I (b + (3 + p)) 3) (I (b + (3 + p)) 1) (I b 4) th (I (b + (3 + p)) 4)) (mX I (I b 6).toNat 2)) th := by rw [← hk]; rfl
  rw [e] at H
  generalize mwo (mnm (I (b + (3 + p)) 2) (I (b + (3 + p)) 3) (I (b + (3 + p)) 1) (I b 4) th (I (b + (3 + p)) 4)) (mX I (I b 6).toNat 2) = v at H ⊢
  obtain ⟨m0, hs0, hm0⟩ := k_takesIn hk6 (y := 0) (Or.inl rfl) ht
  obtain ⟨m1, hs1, hm1⟩ := k_takesIn hk6 (y := 1) (Or.inr rfl) ht
  refine g_x11_learning_24 (k1 := m0) (k3 := m1) ⟨fun u => ⟨hs0, hm0 (g_x11_learning_36 ⟨mle_01 _ _ _, ?_⟩)⟩, fun u => ⟨hs1, hm1 (g_x11_learning_36 ⟨mle_01 _ _ _, ?_⟩)⟩⟩
  · rw [u] at H; exact H
  · rw [← mle_v, mbo_t u] at H; exact H
/-- told by all: from number i on -/
theorem l_toldByAll {b : Nat} {B : Nat × Nat} (hW : mW b I) {x2 : Int} : ∀ (n i : Nat) (x : Int) (J : zI), ((i + n : Nat) : Int) = I b 2 → mR x → mA I J → (∀ J1, mA I J1 → Q (some (zi (mall (mX I) (mK b I) n i x))) (c, J1, zRg g)) → zRn (zcl (d + 5)) 97 B Q 5 [some (zr 0), some (zr b), some (zi x2), some (zi x), some (zi (i : Nat))] [] (c, J, zRg g) := by
  have hb := hW.1
  have h5 : I b 2 ≤ 5 := hW.2.1.1.2
  intro n
  induction n with
  | zero =>
    intro i x J hi hx hJ H
    refine g_x11_toldByAll_5 (y1 := 0) (y2 := 0) ⟨mB_0 hb, fun _ => H J hJ, fun u => absurd ?_ u⟩
    rw [hJ b (mB_27 hb 0 (by omega))]
    omega
  | succ n ih =>
    intro i x J hi hx hJ H
    have eb : J b = I b := hJ b (mB_27 hb 0 (by omega))
    have hp : (i : Int) < I b 2 := by omega
    refine g_x11_toldByAll_5 (y1 := b + 1) (y2 := b + (3 + i)) ⟨mB_0 hb, fun u => absurd u (by rw [eb]; omega), fun u => ⟨mB_0 hb, (mB_g hb).1, by rw [mB_1 hb]; exact ⟨by decide, by decide⟩, by rw [mB_1 hb]; simp only; omega, mB_p hb (by omega), ?_⟩⟩
    refine k_telling (hW.A hJ) (by rw [eb]; exact hp) hx (fun J1 hJ1 => g_x11_toldByAll_27 ?_)
    rw [z1p i (by omega), mX_A hJ, ← mtell_lk (mK_A hb h5 hJ) (fun _ => rfl) hp]
    exact ih (i + 1) _ J1 (by omega) (mtell_R hW.2.1 hp hx) (hJ.tr hJ1) H
theorem k_toldByAll {b : Nat} (hW : mW b I) {x : Int} (hx : mR x) (H : ∀ J, mA I J → Q (some (zi (mall (mX I) (mK b I) (I b 2).toNat 0 x))) (c, J, zRg g)) : zcl (d + 6) 97 0 0 [zr 0, zr b, zi x] (c, I, zRg g) Q :=
  zen rfl rfl (fun B Q1 hQ => g_x11_toldByAll_0 (l_toldByAll hW (I b 2).toNat 0 x I (by have : 0 ≤ I b 2 := hW.2.1.1.1; omega) hx (mA.rf I) (fun J hJ => hQ _ _ _ (H J hJ))))
end

