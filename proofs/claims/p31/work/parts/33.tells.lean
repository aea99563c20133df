/-! contracts: over, told back, film -/
def mov (x th what : Int) : Int := if what = 0 then x else if what = 1 then mbc (zxor x th) else if what = 2 then zand th (zxor x (-1)) else zand x (zxor th (-1))
/-- the first that is otherwise -/
def mfo (T : Nat → Nat → List Int) (K : zI) (p : Nat) (cl : Nat → Int) : Nat → Nat → Int
  | 0, _ => -1
  | n + 1, i => if mtell T K p (zshl 1 (i : Int)) = cl i then mfo T K p cl n (i + 1) else (i : Int)
def mvary (K : zI) (one : Nat) (va v : Int) : zI := if va = 9 then z2 K 0 6 v else if va = 10 then K else z2 K (3 + one) (mfi va) v
def mwho (one : Nat) (va : Int) (v : Nat) : Nat := if va = 10 then v else one
/-- whether value v would tell so -/
def mso (T : Nat → Nat → List Int) (K : zI) (cl : Nat → Int) (e one : Nat) (va : Int) (v : Nat) : Bool := decide (mfo T (mvary K one va (v : Int)) (mwho one va v) cl e 0 = -1)
def msb (P : Nat → Bool) : Nat → Int
  | 0 => 0
  | i + 1 => if P i = true ∧ i < 31 then zor (msb P i) (zshl 1 (i : Int)) else msb P i
theorem z2_z2 {α : Type} {f : Nat → Nat → α} {a j : Nat} {x y : α} : z2 (z2 f a j x) a j y = z2 f a j y := by
  funext b k
  by_cases q : b = a ∧ k = j
  · rw [q.1, q.2, z2_s, z2_s]
  · rw [z2_n (by omega), z2_n (by omega), z2_n (by omega)]
theorem z2_own {α : Type} {f : Nat → Nat → α} {a j : Nat} : z2 f a j (f a j) = f := by
  funext b k
  by_cases q : b = a ∧ k = j
  · rw [q.1, q.2, z2_s]
  · rw [z2_n (by omega)]
theorem mvary_vary {K : zI} {one : Nat} {va v w : Int} : mvary (mvary K one va w) one va v = mvary K one va v := by
  unfold mvary
  by_cases h9 : va = 9
  · rw [if_pos h9, if_pos h9, if_pos h9, z2_z2]
  · rw [if_neg h9, if_neg h9, if_neg h9]
    by_cases h10 : va = 10
    · rw [if_pos h10, if_pos h10, if_pos h10]
    · rw [if_neg h10, if_neg h10, if_neg h10, z2_z2]
theorem mvary_own {K : zI} {one : Nat} {va : Int} : ∃ w, mvary K one va w = K := by
  unfold mvary
  by_cases h9 : va = 9
  · exact ⟨K 0 6, by rw [if_pos h9, z2_own]⟩
  · by_cases h10 : va = 10
    · exact ⟨0, by rw [if_neg h9, if_pos h10]⟩
    · exact ⟨K (3 + one) (mfi va), by rw [if_neg h9, if_neg h10, z2_own]⟩
theorem mz2_lkp {K K1 : zI} {p j : Nat} {v : Int} (h : mlk K K1) : mlk (z2 K (3 + p) j v) (z2 K1 (3 + p) j v) := by
  refine ⟨fun k a b => ?_, fun k hk => ?_, fun q hq k hk => ?_⟩
  · rw [z2_n (Or.inl (by omega)), z2_n (Or.inl (by omega))]; exact h.1 k a b
  · rw [z2_n (Or.inl (by omega))] at hk
    rw [z2_n (Or.inl (by omega)), z2_n (Or.inl (by omega))]; exact h.2.1 k hk
  · rw [z2_n (Or.inl (by omega))] at hq
    by_cases e : 3 + q = 3 + p ∧ k = j
    · rw [e.1, e.2, z2_s, z2_s]
    · rw [z2_n (by omega), z2_n (by omega)]; exact h.2.2 q hq k hk
theorem mvary_lk {K K1 : zI} {one : Nat} {va v : Int} (h : mlk K K1) : mlk (mvary K one va v) (mvary K1 one va v) := by
  unfold mvary
  by_cases h9 : va = 9
  · rw [if_pos h9, if_pos h9]; exact mz2_lk h (by decide) (by decide) rfl
  · rw [if_neg h9, if_neg h9]
    by_cases h10 : va = 10
    · rw [if_pos h10, if_pos h10]; exact h
    · rw [if_neg h10, if_neg h10]; exact mz2_lkp h
theorem mvary_02 {K : zI} {one : Nat} {va v : Int} {j : Nat} (hj : j ≠ 6) : mvary K one va v 0 j = K 0 j := by
  unfold mvary
  split
  · exact z2_n (Or.inr hj)
  · split
    · rfl
    · exact z2_n (Or.inl (by omega))
theorem mK_z2 {J : zI} {x j : Nat} {v : Int} : mK 18 (z2 J (18 + x) j v) = z2 (mK 18 J) x j v := by
  funext y k
  show z2 J (18 + x) j v (18 + y) k = _
  by_cases q : y = x ∧ k = j
  · rw [q.1, q.2, z2_s, z2_s]
  · rw [z2_n (by omega), z2_n (by omega)]
    rfl
section
variable {d : Nat} {c : Nat × Nat × Nat} {I : zI} {g : Nat} {Q : zQ}
theorem l_byRow {B : Nat × Nat} (hW : mW 2 I) {s : Nat} (hs : s < 4) {th : Int} {e : Nat} (he : I (36 + 2 * s) 2 = e) (he4 : e ≤ 40) (hc : ∀ i, i < e → 0 ≤ I (37 + 2 * s) i ∧ I (37 + 2 * s) i < I 2 2) : ∀ (n i : Nat) (x : Int) (J : zI) (o : Option zV), i + n = e → mR x → mA I J → (∀ J1, mA I J1 → Q (some (zi (mrt (mOne I) (I (37 + 2 * s)) n i x))) (c, J1, zRg g)) → zRn (zcl (d + 5)) 98 B Q 5 [some (zr 0), some (zr (36 + 2 * s)), some (zi th), some (zi x), some (zi (i : Nat)), o] [] (c, J, zRg g) := by
  have s8 := (mS_0 hs).1
  have h5 : I 2 2 ≤ 5 := hW.2.1.1.2
  intro n
  induction n with
  | zero =>
    intro i x J o hi hx hA H
    exact g_x11_toldByRow_5 (y1 := 0) ⟨s8, fun _ => H J hA, fun u => absurd (by rw [hA _ (by omega), he]; omega) u⟩
  | succ n ih =>
    intro i x J o hi hx hA H
    have hci := hc i (by omega)
    have e2 : J 2 = I 2 := hA 2 (by decide)
    refine g_x11_toldByRow_5 (y1 := 37 + 2 * s) ⟨s8, fun u => absurd u (by rw [hA _ (by omega), he]; omega), fun _ => ⟨s8, (mX_s hs).2, by rw [(mS_0 hs).2], by rw [(mS_0 hs).2]; simp only; omega, ?_⟩⟩
    rw [show ((i : Nat) : Int).toNat = i from rfl, hA (37 + 2 * s) (by omega)]
    refine k_isThere mB2 (g_x11_toldByRow_32 (y1 := 2 + (3 + (I (37 + 2 * s) i).toNat)) ⟨fun u => absurd (by rw [e2]; exact hci) (mbo_0.mp u), fun _ => ⟨by omega, (mP2 (by omega)).1, ?_⟩⟩)
    refine k_one2 hA.F hW (by omega) hx (fun J1 hJ1 => g_x11_toldByRow_54 ?_)
    rw [z1p i (by omega)]
    exact ih (i + 1) _ J1 _ (by omega) (mOne_R hW (by omega) hx) (hA.tr hJ1) H
theorem mrt_R (hW : mW 2 I) {cl : Nat → Int} : ∀ (n i : Nat) (x : Int), (∀ j, j < i + n → 0 ≤ cl j ∧ cl j < I 2 2) → mR x → mR (mrt (mOne I) cl n i x)
  | 0, _, _, _, hx => hx
  | n + 1, i, x, hc, hx => mrt_R hW n (i + 1) _ (fun j hj => hc j (by omega)) (mOne_R hW (by have := hc i (by omega); omega) hx)
theorem l_over {B : Nat × Nat} (hW : mW 2 I) {s : Nat} (hs : s < 4) {x1 th x3 : Int} (ht : mR th) {e : Nat} (he : I (36 + 2 * s) 2 = e) (he4 : e ≤ 40) (Hn : ¬ (∀ i, i < e → 0 ≤ I (37 + 2 * s) i ∧ I (37 + 2 * s) i < I 2 2) → Q (some (zi (-2))) (c, I, zRg g)) (H : (∀ i, i < e → 0 ≤ I (37 + 2 * s) i ∧ I (37 + 2 * s) i < I 2 2) → ∀ J, mA I J → Q (some (zi (mov (mrt (mOne I) (I (37 + 2 * s)) e 0 th) th x3))) (c, J, zRg g)) : ∀ (n i : Nat), i + n = e → (∀ j, j < i → 0 ≤ I (37 + 2 * s) j ∧ I (37 + 2 * s) j < I 2 2) → zRn (zcl (d + 6)) 88 B Q 48 [some (zr 0), some (zi x1), some (zi th), some (zi x3), some (zr (36 + 2 * s)), some (zi (i : Nat))] [] (c, I, zRg g) := by
  have s8 := (mS_0 hs).1
  intro n
  induction n with
  | zero =>
    intro i hi hj
    obtain rfl : i = e := by omega
    refine g_x11_over_48 (y2 := 0) ⟨s8, fun _ => ?_, fun u => absurd (by rw [he]; omega) u⟩
    refine zen rfl rfl (fun B2 Q2 hQ2 => g_x11_toldByRow_0 (l_byRow (i := 0) hW hs he he4 hj i th I none (by omega) ht (mA.rf I) (fun J hJ => hQ2 _ _ _ (g_x11_over_92 ?_))))
    have H := H hj J hJ
    have hr := mrt_R hW (cl := I (37 + 2 * s)) i 0 th (fun j h => hj j (by omega)) ht
    unfold mov at H
    refine ⟨fun v => ?_, fun v => ⟨fun v1 => k_off hr ht (g_x11_over_129 ?_), fun v1 => ⟨fun v2 => ?_, fun v2 => ?_⟩⟩⟩
    · rw [if_pos v] at H
      exact H
    · rw [if_neg v, if_pos v1] at H
      exact H
    · rw [if_neg v, if_neg v1, if_pos v2] at H
      exact H
    · rw [if_neg v, if_neg v1, if_neg v2] at H
      exact H
  | succ n ih =>
    intro i hi hj
    refine g_x11_over_48 (y2 := 37 + 2 * s) ⟨s8, fun u => absurd u (by rw [he]; omega), fun _ => ⟨s8, (mX_s hs).2, by rw [(mS_0 hs).2], by rw [(mS_0 hs).2]; simp only; omega, k_isThere mB2 (g_x11_over_73 ⟨fun u => ?_, fun u => Hn (fun q => mbo_0.mp (Decidable.not_not.mp u) (q i (by omega)))⟩)⟩⟩
    have u := mbo_n0.mp u
    rw [z1p i (by omega)]
    refine ih (i + 1) (by omega) (fun j h => ?_)
    by_cases q : j = i
    · rw [q]; exact u
    · exact hj j (by omega)
theorem x_over {x1 x2 x3 : Int} (hW : mW 2 I) (h40 : ∀ s, s < 4 → 0 ≤ I (36 + 2 * s) 2 ∧ I (36 + 2 * s) 2 ≤ 40) (Hb : ¬ ((0 ≤ x1 ∧ x1 < 4) ∧ mR x2 ∧ 0 ≤ x3 ∧ x3 ≤ 3) → Q (some (zi (-2))) (c, I, zRg g)) (Hm : (0 ≤ x1 ∧ x1 < 4) → mR x2 → 0 ≤ x3 → x3 ≤ 3 → I (36 + 2 * x1.toNat) 1 = -1 → Q (some (zi (-11))) (c, I, zRg g))
    (Hn : (0 ≤ x1 ∧ x1 < 4) → mR x2 → 0 ≤ x3 → x3 ≤ 3 → I (36 + 2 * x1.toNat) 1 ≠ -1 → ¬ (∀ i, i < (I (36 + 2 * x1.toNat) 2).toNat → 0 ≤ I (37 + 2 * x1.toNat) i ∧ I (37 + 2 * x1.toNat) i < I 2 2) → Q (some (zi (-2))) (c, I, zRg g))
    (H : (0 ≤ x1 ∧ x1 < 4) → mR x2 → 0 ≤ x3 → x3 ≤ 3 → I (36 + 2 * x1.toNat) 1 ≠ -1 → (∀ i, i < (I (36 + 2 * x1.toNat) 2).toNat → 0 ≤ I (37 + 2 * x1.toNat) i ∧ I (37 + 2 * x1.toNat) i < I 2 2) → ∀ J, mA I J → Q (some (zi (mov (mrt (mOne I) (I (37 + 2 * x1.toNat)) (I (36 + 2 * x1.toNat) 2).toNat 0 x2) x2 x3))) (c, J, zRg g)) : zcl (d + 7) 88 0 0 [zr 0, zi x1, zi x2, zi x3] (c, I, zRg g) Q := by
  refine zen rfl rfl (fun B Q1 hQ => g_x11_over_0 (k_isSheet (g_x11_over_4 ⟨fun u => hQ _ _ _ (Hb (fun q => mbo_0.mp u q.1)), fun u => k_isSet (g_x11_over_11 (y1 := 36 + 2 * x1.toNat) ⟨fun v => hQ _ _ _ (Hb (fun q => mbo_0.mp v q.2.1)), fun v => ⟨fun w => hQ _ _ _ (Hb (fun q => by omega)), fun w => ⟨fun w1 => ?_, fun w1 => hQ _ _ _ (Hb (fun q => by omega))⟩⟩⟩)⟩)))
  have u := mbo_n0.mp u
  have v := mbo_n0.mp v
  have hs : x1.toNat < 4 := by omega
  have s8 := (mS_0 hs).1
  have h4 := h40 _ hs
  refine ⟨u, (mX_s hs).1, by rw [s8]; rfl, k60 hs (g_x11_over_39 ⟨fun z => ?_, fun z => hQ _ _ _ (Hm u v (by omega) w1 (mbo_n0.mp z))⟩)⟩
  exact l_over (e := (I (36 + 2 * x1.toNat) 2).toNat) (i := 0) hW hs v (by omega) (by omega) (fun q => hQ _ _ _ (Hn u v (by omega) w1 (mbo_0.mp z) q)) (fun q J hJ => hQ _ _ _ (H u v (by omega) w1 (mbo_0.mp z) q J hJ)) (I (36 + 2 * x1.toNat) 2).toNat (by omega) (fun j hj => absurd hj (by omega))
-- told back
theorem k_firstOther {K J : zI} (hF : mFr I J) (hl : mlk K (mK 18 J)) (hK : mok K) (hd : 0 ≤ K 0 4 ∧ K 0 4 < 5000) (hr : 0 ≤ K 0 6 ∧ K 0 6 < 6) (ho : mXo I (K 0 6).toNat) {s : Nat} (hs : s < 4) {e : Nat} (he : I (36 + 2 * s) 2 = e) (he4 : e ≤ 10) {p : Nat} (hp : (p : Int) < K 0 2) (H : ∀ J1, mA J J1 → Q (some (zi (mfo (mX I) K p (I (37 + 2 * s)) e 0))) (c, J1, zRg g)) : zcl (d + 6) 116 0 0 [zr 0, zr (36 + 2 * s), zi (p : Nat)] (c, J, zRg g) Q := by
  have s8 := (mS_0 hs).1
  have hB : mB 18 := Or.inr (Or.inr rfl)
  have h5 : K 0 2 ≤ 5 := hK.1.2
  have e2 : J 18 2 = K 0 2 := (hl.1 2 (by decide) (by decide)).symm
  have e6 : J 18 6 = K 0 6 := (hl.1 6 (by decide) (by decide)).symm
  have hW : mW 18 J := ⟨hB, hK.lk hl, by rw [show J 18 4 = K 0 4 from (hl.1 4 (by decide) (by decide)).symm]; exact hd, by rw [e6]; exact hr, by rw [e6]; exact hF.Xo ho⟩
  have ea : ∀ y, y = 36 + 2 * s ∨ y = 37 + 2 * s → J y = I y := fun y hy => hF.1 y (by omega) (by omega) (by omega) (by omega)
  refine zen rfl rfl (fun B Q1 hQ => g_x11_firstOtherwise_0 (k_isThere hB (g_x11_firstOtherwise_8 ⟨fun _ => ?_, fun u => absurd (show 0 ≤ (p : Int) ∧ (p : Int) < J 18 2 by rw [e2]; omega) (mbo_0.mp (Decidable.not_not.mp u))⟩)))
  have loop : ∀ (n i : Nat) (J1 : zI), i + n = e → mA J J1 → (∀ J2, mA J J2 → Q1 (some (zi (mfo (mX I) K p (I (37 + 2 * s)) n i))) (c, J2, zRg g)) → zRn (zcl (d + 5)) 116 B Q1 15 [some (zr 0), some (zr (36 + 2 * s)), some (zi (p : Nat)), some (zi (i : Nat))] [] (c, J1, zRg g) := by
    intro n
    induction n with
    | zero =>
      intro i J1 hi hA H
      exact g_x11_firstOtherwise_15 (y1 := 0) ⟨s8, fun _ => H J1 hA, fun u => absurd (by rw [hA _ (by omega), ea _ (Or.inl rfl), he]; omega) u⟩
    | succ n ih =>
      intro i J1 hi hA H
      have hsh : mR (zshl 1 (i : Int)) := m_shl (by omega) (by omega)
      refine g_x11_firstOtherwise_15 (y1 := 18 + (3 + p)) ⟨s8, fun u => absurd u (by rw [hA _ (by omega), ea _ (Or.inl rfl), he]; omega), fun _ => ⟨by omega, mB_p hB (by omega), ?_⟩⟩
      have eX : mX J1 = mX I := by rw [mX_A hA, hF.X]
      refine k_telling (hW.A hA) (by rw [hA 18 (by decide), e2]; exact hp) hsh (fun J2 h2 => ?_)
      have hA2 := hA.tr h2
      have et : mtell (mX J1) (mK 18 J1) p (zshl 1 (i : Int)) = mtell (mX I) K p (zshl 1 (i : Int)) := by
        rw [eX]
        exact (mtell_lk (hl.tr (mK_A hB (by rw [e2]; exact h5) hA)) (fun _ => rfl) hp _).symm
      rw [et]
      have em : mfo (mX I) K p (I (37 + 2 * s)) (n + 1) i = if mtell (mX I) K p (zshl 1 (i : Int)) = I (37 + 2 * s) i then mfo (mX I) K p (I (37 + 2 * s)) n (i + 1) else (i : Int) := rfl
      rw [em] at H
      refine g_x11_firstOtherwise_43 (y1 := 37 + 2 * s) ⟨s8, (mX_s hs).2, by rw [(mS_0 hs).2], by rw [(mS_0 hs).2]; simp only; omega, ?_⟩
      rw [show ((i : Nat) : Int).toNat = i from rfl, hA2 (37 + 2 * s) (by omega), ea _ (Or.inr rfl)]
      refine ⟨fun u => ?_, fun u => ?_⟩
      · rw [z1p i (by omega)]
        refine ih (i + 1) J2 (by omega) hA2 (fun J3 h3 => ?_)
        have H := H J3 h3
        rw [if_pos u] at H
        exact H
      · have H := H J2 hA2
        rw [if_neg u] at H
        exact H
  exact loop e 0 J (by omega) (mA.rf J) (fun J1 h1 => hQ _ _ _ (H J1 h1))
theorem k_vary {J : zI} (hF : mFr I J) {p : Nat} {va : Int} {v : Int} (hv : va = 9 ∨ va = 10 ∨ ((1 ≤ va ∧ va ≤ 5) ∧ (p : Int) < J 18 2 ∧ J 18 2 ≤ 5)) (H : ∀ J1, mFr I J1 → mK 18 J1 = mvary (mK 18 J) p va v → Q none (c, J1, zRg g)) : zcl (d + 2) 115 0 0 [zr 0, zi (p : Nat), zi va, zi v] (c, J, zRg g) Q := by
  have hB : mB 18 := Or.inr (Or.inr rfl)
  refine zen rfl rfl (fun B Q1 hQ => g_x11_vary_0 ⟨fun u => ⟨fun u1 => g_x11_vary_48 (hQ _ _ _ (H J hF ?_)), fun u1 => k_isThere hB (g_x11_vary_31 (y1 := 18 + (3 + p)) ⟨fun u2 => ?_, fun u2 => ?_⟩)⟩, fun u => g_x11_vary_48 (hQ _ _ _ (H _ (hF.tr (mFr_th (fun y hy => z2_r (by omega)))) ?_))⟩)
  · unfold mvary
    rw [if_neg u, if_pos u1]
  · have hv : (1 ≤ va ∧ va ≤ 5) ∧ (p : Int) < J 18 2 ∧ J 18 2 ≤ 5 := by omega
    exact absurd (show 0 ≤ (p : Int) ∧ (p : Int) < J 18 2 by omega) (mbo_0.mp u2)
  · have hv : (1 ≤ va ∧ va ≤ 5) ∧ (p : Int) < J 18 2 ∧ J 18 2 ≤ 5 := by omega
    have hp : p < 5 := by omega
    have h3 := mB_3 hB hp
    refine ⟨by omega, mB_p hB hp, by rw [h3]; rfl, k28 h3 hv.1 (g_x11_vary_48 (hQ _ _ _ (H _ (hF.tr (mFr_th (fun y hy => z2_r (by omega)))) ?_)))⟩
    unfold mvary
    rw [if_neg u, if_neg u1, mK_z2]
  · unfold mvary
    rw [if_pos (Decidable.not_not.mp u)]
    exact mK_z2 (x := 0)
theorem msb_r (P : Nat → Bool) : ∀ i, i ≤ 10 → mR (msb P i)
  | 0, _ => mR0
  | i + 1, h => by
    unfold msb
    split
    · exact m_orR (msb_r P i (by omega)) (m_shl (by omega) (by omega))
    · exact msb_r P i (by omega)
theorem l_suit {B : Nat × Nat} {K : zI} (hK : mok K) (hd : 0 ≤ K 0 4 ∧ K 0 4 < 5000) {s : Nat} (hs : s < 4) {e : Nat} (he : I (36 + 2 * s) 2 = e) (he4 : e ≤ 10) {one N : Nat} (hN : N ≤ 1024) {va x5 : Int} (hone : (one : Int) < K 0 2) (hva : va = 9 ∨ va = 10 ∨ (1 ≤ va ∧ va ≤ 5))
    (hOK : ∀ v : Nat, v < N → mok (mvary K one va (v : Int)) ∧ (0 ≤ mvary K one va (v : Int) 0 6 ∧ mvary K one va (v : Int) 0 6 < 6) ∧ mXo I (mvary K one va (v : Int) 0 6).toNat ∧ ((mwho one va v : Nat) : Int) < K 0 2)
    (H : ∀ J, mFr I J → Q (some (zi (if x5 = 0 then msb (mso (mX I) K (I (37 + 2 * s)) e one va) N else if x5 = 1 then mcn (mso (mX I) K (I (37 + 2 * s)) e one va) N else mls (mso (mX I) K (I (37 + 2 * s)) e one va) N))) (c, J, zRg g)) : ∀ (n i : Nat) (J : zI) (w : Int) (o : Option zV), i + n = N → mFr I J → mlk (mvary K one va w) (mK 18 J) → zRn (zcl (d + 6)) 114 B Q 12 [some (zr 0), some (zr (36 + 2 * s)), some (zi (one : Nat)), some (zi va), some (zi (N : Nat)), some (zi x5), some (zi (msb (mso (mX I) K (I (37 + 2 * s)) e one va) i)), some (zi (mcn (mso (mX I) K (I (37 + 2 * s)) e one va) i)), some (zi (mls (mso (mX I) K (I (37 + 2 * s)) e one va) i)), some (zi (i : Nat)), o] [] (c, J, zRg g) := by
  intro n
  induction n with
  | zero =>
    intro i J w o hi hF hl
    obtain rfl : i = N := by omega
    have H := H J hF
    exact g_x11_suiting_12 ⟨fun _ => ⟨fun v => zQi (if_pos v).symm H, fun v => ⟨fun v1 => zQi (by rw [if_neg v, if_pos v1]) H, fun v1 => zQi (by rw [if_neg v, if_neg v1]) H⟩⟩, fun u => absurd (by omega) u⟩
  | succ n ih =>
    intro i J w o hi hF hl
    have hi6 : i < 1000000 := by omega
    have hr := mcn_r (mso (mX I) K (I (37 + 2 * s)) e one va) i
    have e2 : J 18 2 = K 0 2 := by rw [← mvary_02 (K := K) (one := one) (va := va) (v := w) (j := 2) (by decide)]; exact (hl.1 2 (by decide) (by decide)).symm
    have h5 : K 0 2 ≤ 5 := hK.1.2
    obtain ⟨o1, o2, o3, o4⟩ := hOK i (by omega)
    have step : ∀ J1, mFr I J1 → mK 18 J1 = mvary (mK 18 J) one va (i : Int) → zRn (zcl (d + 6)) 114 B Q 42 [some (zr 0), some (zr (36 + 2 * s)), some (zi (one : Nat)), some (zi va), some (zi (N : Nat)), some (zi x5), some (zi (msb (mso (mX I) K (I (37 + 2 * s)) e one va) i)), some (zi (mcn (mso (mX I) K (I (37 + 2 * s)) e one va) i)), some (zi (mls (mso (mX I) K (I (37 + 2 * s)) e one va) i)), some (zi (i : Nat)), some (zi ((mwho one va i : Nat) : Int))] [] (c, J1, zRg g) := by
      intro J1 h1 h2
      have l1 : mlk (mvary K one va (i : Int)) (mK 18 J1) := by
        rw [h2, ← mvary_vary (K := K) (w := w)]
        exact mvary_lk hl
      refine g_x11_suiting_42 (k_firstOther h1 l1 o1 (by rw [mvary_02 (by decide)]; exact hd) o2 o3 hs he he4 (by rw [mvary_02 (by decide)]; exact o4) (fun J2 h2 => ?_))
      have h12 := h1.tr h2.F
      have l2 : mlk (mvary K one va (i : Int)) (mK 18 J2) := l1.tr (mK_A (Or.inr (Or.inr rfl)) (by have := l1.1 2 (by decide) (by decide); rw [mvary_02 (by decide)] at this; show mK 18 J1 0 2 ≤ 5; rw [← this]; exact h5) h2)
      have ihh := fun o => ih (i + 1) J2 (i : Int) o (by omega) h12 l2
      have em1 : mcn (mso (mX I) K (I (37 + 2 * s)) e one va) (i + 1) = if mso (mX I) K (I (37 + 2 * s)) e one va i = true then mcn (mso (mX I) K (I (37 + 2 * s)) e one va) i + 1 else mcn (mso (mX I) K (I (37 + 2 * s)) e one va) i := rfl
      have em2 : mls (mso (mX I) K (I (37 + 2 * s)) e one va) (i + 1) = if mso (mX I) K (I (37 + 2 * s)) e one va i = true ∧ mls (mso (mX I) K (I (37 + 2 * s)) e one va) i = -1 then (i : Int) else mls (mso (mX I) K (I (37 + 2 * s)) e one va) i := rfl
      have em3 : msb (mso (mX I) K (I (37 + 2 * s)) e one va) (i + 1) = if mso (mX I) K (I (37 + 2 * s)) e one va i = true ∧ i < 31 then zor (msb (mso (mX I) K (I (37 + 2 * s)) e one va) i) (zshl 1 (i : Int)) else msb (mso (mX I) K (I (37 + 2 * s)) e one va) i := rfl
      rw [em1, em2, em3] at ihh
      refine g_x11_suiting_49 ⟨fun u => ?_, fun u => ?_⟩
      · have hP : mso (mX I) K (I (37 + 2 * s)) e one va i = true := decide_eq_true u
        rw [if_pos hP] at ihh
        rw [z1p i hi6, zwr_eq (show zIn (mcn (mso (mX I) K (I (37 + 2 * s)) e one va) i + 1) by omega)]
        refine ⟨fun v => ⟨fun x => ?_, fun x => ?_⟩, fun v => ⟨fun x => ?_, fun x => ?_⟩⟩
        · rw [if_neg (fun q => by omega), if_neg (fun q => v (hr.2.2.mpr q.2))] at ihh
          exact ihh _
        · rw [if_pos ⟨hP, by omega⟩, if_neg (fun q => v (hr.2.2.mpr q.2))] at ihh
          exact ihh _
        · rw [if_neg (fun q => by omega), if_pos ⟨hP, hr.2.2.mp (Decidable.not_not.mp v)⟩] at ihh
          exact ihh _
        · rw [if_pos ⟨hP, by omega⟩, if_pos ⟨hP, hr.2.2.mp (Decidable.not_not.mp v)⟩] at ihh
          exact ihh _
      · have hP : ¬ mso (mX I) K (I (37 + 2 * s)) e one va i = true := fun q => u (of_decide_eq_true q)
        rw [if_neg hP, if_neg (fun q => hP q.1), if_neg (fun q => hP q.1)] at ihh
        rw [z1p i hi6]
        exact ihh _
    refine g_x11_suiting_12 ⟨fun u => absurd u (by omega), fun _ => ⟨fun v => ?_, fun v => ?_⟩⟩
    · have ew : mwho one va i = one := if_neg v
      rw [ew] at step
      refine k_vary hF ?_ step
      rcases hva with q | q | q
      · exact Or.inl q
      · exact absurd q v
      · exact Or.inr (Or.inr ⟨q, by omega, by omega⟩)
    · have v := Decidable.not_not.mp v
      have ew : mwho one va i = i := if_pos v
      rw [ew] at step
      refine k_vary hF (Or.inr (Or.inl v)) (fun J1 h1 h2 => step J1 h1 ?_)
      rw [h2]
      unfold mvary
      rw [if_neg (by omega), if_pos v, if_neg (by omega), if_pos v]
end

