/-! contracts: the first taken, days, in thought -/
theorem mput_z2 {b x j : Nat} {I K : zI} {v : Int} (hx : x < 8) : z2 (mput b I K) (b + x) j v = mput b I (z2 K x j v) := by
  funext y k
  by_cases h : b ≤ y ∧ y < b + 8
  · have e1 : ∀ K : zI, mput b I K y = K (y - b) := fun K => if_pos h
    rw [e1]
    by_cases e : y = b + x ∧ k = j
    · have ey : y - b = x := by omega
      rw [ey, e.1, e.2, z2_s, z2_s]
    · rw [z2_n (by omega), z2_n (by omega), e1]
  · rw [mput_out h, z2_n (by omega), mput_out h]
/-- a world as it may be -/
def mWd (K : zI) : Prop := mWK K ∧ (0 ≤ K 0 3 ∧ K 0 3 ≤ 8) ∧ (∀ j : Nat, (j : Int) < K 0 3 → mR (K 2 j)) ∧ (0 ≤ K 0 5 ∧ K 0 5 ≤ 999)
theorem mWd.E {K K1 : zI} (h : mWd K) (e : mEq K K1) : mWd K1 := by
  obtain ⟨h1, h2, h3, h4⟩ := h
  refine ⟨h1.E e, ?_, ?_, ?_⟩
  · rw [← e 0 (by omega)]; exact h2
  · rw [← e 0 (by omega), ← e 2 (by omega)]; exact h3
  · rw [← e 0 (by omega)]; exact h4
theorem mWd.lk {K K1 : zI} (h : mWd K) (e : mlk K K1) : mWd K1 := by
  obtain ⟨⟨h1, h2, h3⟩, h4, h5, h6⟩ := h
  refine ⟨⟨h1.lk e, ?_, ?_⟩, ?_, fun j hj => ?_, ?_⟩
  · rw [← e.1 4 (by omega) (by omega)]; exact h2
  · rw [← e.1 6 (by omega) (by omega)]; exact h3
  · rw [← e.1 3 (by omega) (by omega)]; exact h4
  · rw [← e.1 3 (by omega) (by omega)] at hj
    rw [← e.2.1 j hj]
    exact h5 j hj
  · rw [← e.1 5 (by omega) (by omega)]; exact h6
theorem mshift_03 {K : zI} : mshift K 0 3 = K 0 3 - 1 := by
  unfold mshift
  rw [if_neg (by omega), if_pos ⟨rfl, rfl⟩]
theorem mshift_2 {K : zI} {j : Nat} (h : (j : Int) + 1 < K 0 3) : mshift K 2 j = K 2 (j + 1) := by
  unfold mshift
  rw [if_pos rfl, if_pos h]
theorem mday_n {K : zI} {x j : Nat} (h : x ≠ 0 ∨ j ≠ 4) : mday K x j = K x j := z2_n h
theorem mcome_n {K : zI} {x j : Nat} (h : x ≠ 0 ∨ j ≠ 5) : mcome K x j = K x j := z2_n h
theorem mday_r {K : zI} {x : Nat} (h : x ≠ 0) : mday K x = K x := z2_r h
theorem mcome_r {K : zI} {x : Nat} (h : x ≠ 0) : mcome K x = K x := z2_r h
theorem mWd_day {K : zI} (h : mWd K) (hd : K 0 4 < 4999) : mWd (mday K) := by
  obtain ⟨⟨h1, h2, h3⟩, h4, h5, h6⟩ := h
  refine ⟨⟨⟨by rw [mday_n (by omega)]; exact h1.1, fun p hp => ?_⟩, ?_, by rw [mday_n (by omega)]; exact h3⟩, by rw [mday_n (by omega)]; exact h4, fun j hj => ?_, by rw [mday_n (by omega)]; exact h6⟩
  · rw [mday_n (by omega)] at hp
    rw [mday_r (by omega)]
    exact h1.2 p hp
  · show 0 ≤ z2 K 0 4 (K 0 4 + 1) 0 4 ∧ z2 K 0 4 (K 0 4 + 1) 0 4 < 5000
    rw [z2_s]
    omega
  · rw [mday_n (by omega)] at hj
    rw [mday_r (by omega)]
    exact h5 j hj
theorem mWd_come {K : zI} (h : mWd K) : mWd (mcome K) := by
  obtain ⟨⟨h1, h2, h3⟩, h4, h5, h6⟩ := h
  refine ⟨⟨⟨by rw [mcome_n (by omega)]; exact h1.1, fun p hp => ?_⟩, by rw [mcome_n (by omega)]; exact h2, by rw [mcome_n (by omega)]; exact h3⟩, by rw [mcome_n (by omega)]; exact h4, fun j hj => ?_, ?_⟩
  · rw [mcome_n (by omega)] at hp
    rw [mcome_r (by omega)]
    exact h1.2 p hp
  · rw [mcome_n (by omega)] at hj
    rw [mcome_r (by omega)]
    exact h5 j hj
  · show 0 ≤ z2 K 0 5 (mcl (K 0 5 + 1) 0 999) 0 5 ∧ z2 K 0 5 (mcl (K 0 5 + 1) 0 999) 0 5 ≤ 999
    rw [z2_s]
    exact mcl_r _ (by omega)
theorem mpass_K {T : Nat → Nat → List Int} {K : zI} (h : mWd K) (hd : K 0 4 < 4999) : mWd (mpass T K).1 ∧ (mpass T K).1 0 4 = K 0 4 + 1 ∧ (mpass T K).1 0 2 = K 0 2 ∧ (mpass T K).1 0 6 = K 0 6 ∧ ((mpass T K).2 = -1 ∨ mR (mpass T K).2) := by
  unfold mpass
  split
  · rename_i h0
    obtain ⟨h1, h4, h5, h6⟩ := id h
    have hx := h5 0 (by omega)
    have hn : ((0 + (K 0 2).toNat : Nat) : Int) ≤ mshift K 0 2 := by rw [mshift_0 (by omega)]; have := h1.1.1; omega
    obtain ⟨a1, a2, a3, a4⟩ := mtts_K (T := T) (K 0 2).toNat 0 (mshift_K h1) hn hx
    have hw : mWd (mtts T (K 0 2).toNat 0 (mshift K) (K 2 0)).1 := by
      refine ⟨a1, ?_, fun j hj => ?_, ?_⟩
      · rw [a3, mshift_03]; omega
      · rw [a3, mshift_03] at hj
        rw [a4, mshift_2 (by omega)]
        exact h5 (j + 1) (by omega)
      · rw [a3, mshift_0 (by omega)]; exact h6
    have e4 : mcome (mtts T (K 0 2).toNat 0 (mshift K) (K 2 0)).1 0 4 = K 0 4 := by rw [mcome_n (by omega), a3, mshift_0 (by omega)]
    refine ⟨mWd_day (mWd_come hw) (by rw [e4]; exact hd), ?_, ?_, ?_, Or.inr a2⟩
    · show z2 (mcome (mtts T (K 0 2).toNat 0 (mshift K) (K 2 0)).1) 0 4 (mcome (mtts T (K 0 2).toNat 0 (mshift K) (K 2 0)).1 0 4 + 1) 0 4 = K 0 4 + 1
      rw [z2_s, e4]
    · show mday (mcome (mtts T (K 0 2).toNat 0 (mshift K) (K 2 0)).1) 0 2 = K 0 2
      rw [mday_n (by omega), mcome_n (by omega), a3, mshift_0 (by omega)]
    · show mday (mcome (mtts T (K 0 2).toNat 0 (mshift K) (K 2 0)).1) 0 6 = K 0 6
      rw [mday_n (by omega), mcome_n (by omega), a3, mshift_0 (by omega)]
  · refine ⟨mWd_day h hd, ?_, ?_, ?_, Or.inl rfl⟩
    · show z2 K 0 4 (K 0 4 + 1) 0 4 = K 0 4 + 1
      exact z2_s
    · show mday K 0 2 = K 0 2
      exact mday_n (by omega)
    · show mday K 0 6 = K 0 6
      exact mday_n (by omega)
theorem mtt_E {T : Nat → Nat → List Int} {K K1 : zI} (h : mEq K K1) (h5 : K 0 2 ≤ 5) {p : Nat} (hp : (p : Int) < K 0 2) {x : Int} : mEq (mtt T K p x) (mtt T K1 p x) := by
  intro y hy
  have l := h.lk h5
  by_cases e : y = 3 + p
  · rw [e, mtt_p, mtt_p, h (3 + p) (by omega), mtire_lk l (fun _ => rfl) hp, mlearn_lk l (fun _ => rfl) hp]
  · rw [mtt_n e, mtt_n e, h y hy]
section
variable {d : Nat} {c : Nat × Nat × Nat} {I : zI} {g : Nat} {Q : zQ}
theorem l_take {b : Nat} {B : Nat × Nat} (hb : mB b) (h3 : 0 < I b 3 ∧ I b 3 ≤ 8) {x : Int} (H : Q (some (zi x)) (c, mput b I (mshift (mK b I)), zRg g)) : ∀ (n i : Nat) (J : zI), ((i + n : Nat) : Int) = I b 3 → 1 ≤ i → (∀ y, y ≠ b + 2 → J y = I y) → (∀ j, J (b + 2) j = if j + 1 < i then I (b + 2) (j + 1) else I (b + 2) j) → zRn (zcl d) 2 B Q 9 [some (zr b), some (zi x), some (zi (i : Nat))] [] (c, J, zRg g) := by
  intro n
  induction n with
  | zero =>
    intro i J hi h1 hJ hj
    have e3 : J b 3 = I b 3 := congrFun (hJ b (by omega)) 3
    refine g_x0_takeFirst_9 (y1 := 0) (y2 := 0) ⟨mB_0 hb, fun _ => ⟨mB_0 hb, mB_0 hb, ?_⟩, fun u => absurd (by rw [e3]; omega) u⟩
    rw [e3, zwr_eq (show zIn (I b 3 - 1) by omega)]
    have e : z2 J b 3 (I b 3 - 1) = mput b I (mshift (mK b I)) := by
      funext y j
      unfold mput
      by_cases h : b ≤ y ∧ y < b + 8
      · rw [if_pos h]
        unfold mshift
        by_cases e2 : y = b + 2
        · subst e2
          rw [z2_n (by omega), hj j, if_pos (show b + 2 - b = 2 by omega)]
          show _ = if (j : Int) + 1 < I b 3 then I (b + 2) (j + 1) else I (b + 2) j
          by_cases q : j + 1 < i
          · rw [if_pos q, if_pos (by omega)]
          · rw [if_neg q, if_neg (by omega)]
        · rw [if_neg (by omega)]
          by_cases e0 : y = b ∧ j = 3
          · rw [if_pos (by omega), e0.1, e0.2, z2_s]
            rfl
          · rw [if_neg (by omega), z2_n (by omega), hJ y e2]
            show I y j = I (b + (y - b)) j
            rw [Nat.add_sub_of_le h.1]
      · rw [if_neg h, z2_n (by omega), hJ y (by omega)]
    rw [e]
    exact H
  | succ n ih =>
    intro i J hi h1 hJ hj
    have e3 : J b 3 = I b 3 := congrFun (hJ b (by omega)) 3
    have hi8 : i < 8 := by omega
    refine g_x0_takeFirst_9 (y1 := b + 2) (y2 := b + 2) ⟨mB_0 hb, fun u => absurd u (by rw [e3]; omega), fun _ => ⟨mB_0 hb, (mB_g hb).2, mB_0 hb, (mB_g hb).2, by rw [mB_2 hb], by rw [mB_2 hb]; simp only; omega, by rw [mB_2 hb], ?_, ?_⟩⟩
    · rw [mB_2 hb, zwr_eq (show zIn ((i : Int) - 1) by omega)]
      simp only
      omega
    · rw [zwr_eq (show zIn ((i : Int) - 1) by omega), z1p i (by omega), show ((i : Int) - 1).toNat = i - 1 by omega, show ((i : Int)).toNat = i from rfl]
      refine ih (i + 1) _ (by omega) (by omega) (fun y hy => by rw [z2_r hy]; exact hJ y hy) (fun j => ?_)
      by_cases q : j = i - 1
      · subst q
        rw [z2_s, hj i, if_neg (by omega), if_pos (by omega), show i - 1 + 1 = i by omega]
      · rw [z2_n (Or.inr q), hj j]
        by_cases q2 : j + 1 < i
        · rw [if_pos q2, if_pos (by omega)]
        · rw [if_neg q2, if_neg (by omega)]
theorem k_takeFirst {b : Nat} (hb : mB b) (h3 : 0 < I b 3 ∧ I b 3 ≤ 8) (H : Q (some (zi (I (b + 2) 0))) (c, mput b I (mshift (mK b I)), zRg g)) : zcl (d + 1) 2 0 0 [zr b] (c, I, zRg g) Q :=
  zen rfl rfl (fun B Q1 hQ => g_x0_takeFirst_0 (y1 := b + 2) ⟨mB_0 hb, (mB_g hb).2, by rw [mB_2 hb], by rw [mB_2 hb]; decide, l_take hb h3 (hQ _ _ _ H) ((I b 3).toNat - 1) 1 I (by omega) (by omega) (fun _ _ => rfl) (fun j => by rw [if_neg (by omega)])⟩)
theorem l_pass {b : Nat} {B : Nat × Nat} (hW : mW b I) (h5 : 0 ≤ I b 5 ∧ I b 5 ≤ 999) : ∀ (n p : Nat) (K : zI) (x : Int) (J : zI), ((p + n : Nat) : Int) = I b 2 → mWK K → K 0 2 = I b 2 → K 0 6 = I b 6 → K 0 5 = I b 5 → mA (mput b I K) J → mR x → (∀ J1, mA (mput b I (mday (mcome (mtts (mX I) n p K x).1))) J1 → Q (some (zi (mtts (mX I) n p K x).2)) (c, J1, zRg g)) → zRn (zcl (d + 6)) 99 B Q 16 [some (zr 0), some (zr b), some (zi x), some (zi (p : Nat))] [] (c, J, zRg g) := by
  have hb := hW.1
  have h2 : I b 2 ≤ 5 := hW.2.1.1.2
  have h27 := mB_27 hb 0 (by omega)
  intro n
  induction n with
  | zero =>
    intro p K x J hp hK k2 k6 k5 hJ hx H
    have eb : J b = K 0 := by rw [hJ b h27]; exact mput_in (x := 0) (by omega)
    have e5 : J b 5 = I b 5 := by rw [eb]; exact k5
    have e4 : J b 4 = K 0 4 := by rw [eb]
    have fin : ∀ v w : Int, v = mcl (K 0 5 + 1) 0 999 → w = K 0 4 + 1 → mA (mput b I (mday (mcome K))) (z2 (z2 J b 5 v) b 4 w) := by
      intro v w hv hw y hy
      by_cases e : y = b
      · subst e
        rw [show mput y I (mday (mcome K)) y = mday (mcome K) 0 from mput_in (x := 0) (by omega)]
        funext j
        unfold mday mcome
        by_cases q4 : j = 4
        · subst q4; rw [z2_s, z2_s, z2_n (by omega)]; exact hw
        · rw [z2_n (Or.inr q4), z2_n (Or.inr q4)]
          by_cases q5 : j = 5
          · subst q5; rw [z2_s, z2_s]; exact hv
          · rw [z2_n (Or.inr q5), z2_n (Or.inr q5), eb]
      · rw [z2_r e, z2_r e, hJ y hy]
        unfold mput
        split
        · rename_i q
          rw [mday_r (by omega), mcome_r (by omega)]
        · rfl
    have k4 := hK.2.1
    refine g_x11_passDay_16 (y1 := 0) (y2 := 0) ⟨mB_0 hb, fun _ => ⟨mB_0 hb, fun u => ⟨mB_0 hb, mB_0 hb, ?_⟩, fun u => ⟨mB_0 hb, mB_0 hb, mB_0 hb, mB_0 hb, ?_⟩⟩, fun u => absurd (by rw [eb, k2]; omega) u⟩
    · rw [e4, zwr_eq (show zIn (K 0 4 + 1) by omega)]
      have hs : J = z2 J b 5 (I b 5) := by
        funext y j
        by_cases q : y = b ∧ j = 5
        · rw [q.1, q.2, z2_s]; exact e5
        · rw [z2_n (by omega)]
      rw [hs]
      refine H _ (fin _ _ ?_ rfl)
      rw [k5]
      unfold mcl
      omega
    · rw [z2_n (Or.inr (by omega)), e4, zwr_eq (show zIn (K 0 4 + 1) by omega), e5, zwr_eq (show zIn (I b 5 + 1) by omega)]
      refine H _ (fin _ _ ?_ rfl)
      rw [k5]
      unfold mcl
      omega
  | succ n ih =>
    intro p K x J hp hK k2 k6 k5 hJ hx H
    have eb : J b = K 0 := by rw [hJ b h27]; exact mput_in (x := 0) (by omega)
    have hWJ : mW b J := (hW.put hK k6).A hJ
    have hX : mX J = mX I := by rw [mX_A hJ, mput_X hb]
    have hE : mEq K (mK b J) := fun y hy => by
      show K y = J (b + y)
      rw [hJ _ (mB_27 hb y (by omega)), mput_in hy]
    have hpl : (p : Int) < K 0 2 := by omega
    refine g_x11_passDay_16 (y1 := b + 1) (y2 := b + (3 + p)) ⟨mB_0 hb, fun u => absurd u (by rw [eb, k2]; omega), fun _ => ⟨mB_0 hb, (mB_g hb).1, by rw [mB_1 hb]; exact ⟨by decide, by decide⟩, by rw [mB_1 hb]; simp only; omega, mB_p hb (by omega), ?_⟩⟩
    refine k_tellTruly hWJ (by rw [eb, k2]; omega) hx (fun J1 hJ1 => g_x11_passDay_36 ?_)
    rw [z1p p (by omega), hX, ← mtell_lk (hE.lk (by omega)) (fun _ => rfl) hpl]
    rw [hX] at hJ1
    refine ih (p + 1) (mtt (mX I) K p x) _ J1 (by omega) (mtt_K hK hx) (by rw [mtt_0]; exact k2) (by rw [mtt_0]; exact k6) (by rw [mtt_0]; exact k5) (fun y hy => ?_) (mtell_R hK.1 hpl hx) H
    rw [hJ1 y hy]
    unfold mput
    split
    · rename_i q
      exact (mtt_E hE (by omega) hpl (y - b) (by omega)).symm
    · rename_i q
      rw [hJ y hy]
      exact mput_out q
theorem k_passDay {b : Nat} (hW : mW b I) (hD : mWd (mK b I)) (H : ∀ J, mA (mput b I (mpass (mX I) (mK b I)).1) J → Q (some (zi (mpass (mX I) (mK b I)).2)) (c, J, zRg g)) : zcl (d + 7) 99 0 0 [zr 0, zr b] (c, I, zRg g) Q := by
  have hb := hW.1
  obtain ⟨h1, h3, h4, h5⟩ := hD
  have h1 := h1
  have h3 : 0 ≤ I b 3 ∧ I b 3 ≤ 8 := h3
  have hd : 0 ≤ I b 4 ∧ I b 4 < 5000 := hW.2.2.1
  have h2 : 0 ≤ I b 2 := hW.2.1.1.1
  refine zen rfl rfl (fun B Q1 hQ => g_x11_passDay_0 ⟨mB_0 hb, fun u => ⟨mB_0 hb, mB_0 hb, ?_⟩, fun u => ⟨by rw [mB_0 hb]; rfl, k_takeFirst hb (by omega) (g_x11_passDay_13 ?_)⟩⟩)
  · rw [zwr_eq (show zIn (I b 4 + 1) by omega)]
    have e : mpass (mX I) (mK b I) = (mday (mK b I), -1) := if_neg (show ¬ 0 < I b 3 by omega)
    rw [e] at H
    have e2 : z2 I b 4 (I b 4 + 1) = mput b I (mday (mK b I)) := by
      have := mput_z2 (b := b) (x := 0) (j := 4) (I := I) (K := mK b I) (v := I b 4 + 1) (by omega)
      rw [mput_self] at this
      exact this
    rw [e2]
    exact hQ _ _ _ (H _ (mA.rf _))
  · have e : mpass (mX I) (mK b I) = (mday (mcome (mtts (mX I) (I b 2).toNat 0 (mshift (mK b I)) (I (b + 2) 0)).1), (mtts (mX I) (I b 2).toNat 0 (mshift (mK b I)) (I (b + 2) 0)).2) := if_pos (show 0 < I b 3 by omega)
    rw [e] at H
    exact l_pass hW h5 (I b 2).toNat 0 (mshift (mK b I)) _ _ (by omega) (mshift_K h1) (mshift_0 (by omega)) (mshift_0 (by omega)) (mshift_0 (by omega)) (mA.rf _) (h4 0 (show ((0 : Nat) : Int) < I b 3 by omega)) (fun J1 hJ1 => hQ _ _ _ (H J1 hJ1))
theorem x_day (hW : mW 2 I) (hD : mWd (mK 2 I)) (H0 : 999 ≤ I 2 4 → Q (some (zi (-3))) (c, I, zRg g)) (H1 : I 2 4 < 999 → ∀ J, mA (mput 2 I (mpass (mX I) (mK 2 I)).1) J → Q (some (zi (mpass (mX I) (mK 2 I)).2)) (c, J, zRg g)) : zcl (d + 8) 89 0 0 [zr 0] (c, I, zRg g) Q :=
  zen rfl rfl (fun B Q1 hQ => g_x11_day_0 ⟨fun u => k_passDay hW hD (fun J hJ => g_x11_day_24 (hQ _ _ _ (H1 u J hJ))), fun u => hQ _ _ _ (H0 (by omega))⟩)
end

