section
/-! the law's round: one with memory for fewer; what is told, told back -/
/-- the object, once the first one has memory for few -/
def nG (I : zI) (n : Nat) (w f : Int) : Prop := nB I ∧ mWd (mK 2 I) ∧ I 2 6 = 0 ∧ (I 2 2 = n ∧ 1 ≤ n) ∧ I 5 0 = 0 ∧ (I 5 2 = w ∧ mR w) ∧ (I 5 3 = f ∧ 0 ≤ f ∧ f < 10)
section
variable {I J : zI} {n : Nat} {w f : Int}
theorem nG.W (h : nG I n w f) : mW 2 I := mW_of mB2 h.2.1 (by rw [h.2.2.1]; exact h.1.1)
theorem nG.P (h : nG I n w f) : nP (mK 2 I) 0 := by
  obtain ⟨-, -, -, -, h0, h2, h3⟩ := h
  refine ⟨h0, ?_, ?_⟩
  · show mR (I 5 2)
    rw [h2.1]; exact h2.2
  · show 0 ≤ I 5 3 ∧ I 5 3 ≤ 99
    omega
theorem nG.T (h : nG I n w f) : nTx (mX I) := h.1.2.1
theorem nG.cg (e : ∀ y, (2 ≤ y ∧ y < 10) ∨ (44 ≤ y ∧ y ≤ 46) ∨ y = 2000 → J y = I y) (e7 : J 0 7 = I 0 7) (hs : ∀ s, s < 4 → 0 ≤ J (36 + 2 * s) 2 ∧ J (36 + 2 * s) 2 ≤ 40) (h : nG I n w f) : nG J n w f := by
  obtain ⟨h1, h2, h3, h4, h5, h6, h7⟩ := h
  refine ⟨h1.cg (fun y hy => e y (by omega)) e7 hs, h2.E (fun x hx => (e (2 + x) (by omega)).symm), ?_, ?_, ?_, ?_, ?_⟩
  · rw [e 2 (by omega)]; exact h3
  · rw [e 2 (by omega)]; exact h4
  · rw [e 5 (by omega)]; exact h5
  · rw [e 5 (by omega)]; exact h6
  · rw [e 5 (by omega)]; exact h7
theorem nG.F (hF : mFr I J) (h : nG I n w f) : nG J n w f :=
  h.cg (fun y hy => hF.1 y (by omega) (by omega) (by omega) (by omega)) (hF.2 7 (by omega) (by omega)) (fun s hs => by rw [hF.1 (36 + 2 * s) (by omega) (by omega) (by omega) (by omega)]; exact h.1.2.2.2.1 s hs)
/-- memory for few: of the one that is first -/
theorem nG_of {C a b dy sd : Int} (hO : nO I n C a b dy sd) (hn : 1 ≤ n) (hf : 0 ≤ f ∧ f < 10) : nG (z2 I 5 3 f) n (I 5 2) f ∧ mR (I 5 2) := by
  obtain ⟨hB, hV⟩ := hO
  have hW := hV.W
  obtain ⟨h1, h2, h3, h4, h5, h6, h7, h8⟩ := hV
  obtain ⟨q0, q1, q2, q3, q4, -⟩ := h7 0 (by omega)
  have q0 : I 5 0 = 0 := q0
  have q2 : mR (I 5 2) := q2
  have e : ∀ y j, ¬ (y = 5 ∧ j = 3) → z2 I 5 3 f y j = I y j := fun y j q => z2_n (by omega)
  have ey : ∀ y, y ≠ 5 → z2 I 5 3 f y = I y := fun y q => z2_r q
  have ek : mK 2 (z2 I 5 3 f) = z2 (mK 2 I) (3 + 0) 3 f := by
    funext y j
    show z2 I 5 3 f (2 + y) j = _
    by_cases q : y = 3 ∧ j = 3
    · rw [q.1, q.2, z2_s, z2_s]
    · rw [z2_n (by omega), z2_n (by omega)]
      rfl
  have hk : mok (z2 (mK 2 I) (3 + 0) 3 f) := mok_put hW.1.1 ⟨fun h => absurd h (by omega), fun h => absurd h (by omega), fun h => absurd h (by omega), fun _ => by omega, fun h => absurd h (by omega)⟩
  refine ⟨⟨hB.cg2 (fun y hy => ey y (by omega)) (by rw [ey 0 (by omega)]), ?_, ?_, ?_, ?_, ⟨e 5 2 (by omega), q2⟩, ⟨z2_s, hf⟩⟩, q2⟩
  · rw [ek]
    refine ⟨⟨hk, ?_, ?_⟩, ?_, fun j hj => ?_, ?_⟩
    · rw [z2_r (by omega)]; exact hW.1.2.1
    · rw [z2_r (by omega)]; exact hW.1.2.2
    · rw [z2_r (by omega)]; exact hW.2.1
    · rw [z2_r (by omega)] at hj
      rw [z2_r (by omega)]
      exact hW.2.2.1 j hj
    · rw [z2_r (by omega)]; exact hW.2.2.2
  · rw [e 2 6 (by omega)]; exact h5
  · rw [e 2 2 (by omega)]; exact ⟨h1.1, hn⟩
  · rw [e 5 0 (by omega)]; exact q0
/-- what the sheet tells of the first one -/
def nFl (I : zI) (w f : Int) : Prop := I 36 1 = 1 ∧ I 36 2 = 10 ∧ ∀ i : Nat, i < 10 → I 37 i = if f = 0 then 0 else zand (zshl 1 (i : Int)) w
theorem nFl.F (hF : mFr I J) (h : nFl I w f) : nFl J w f := by
  unfold nFl
  rw [hF.1 36 (by omega) (by omega) (by omega) (by omega), hF.1 37 (by omega) (by omega) (by omega) (by omega)]
  exact h
theorem n_back (h : nG I n w f) (hl : nFl I w f) {K1 : zI} (hr1 : K1 0 6 = 0) (h1 : nP K1 0) (hw : K1 3 2 = w) : mfo (mX I) K1 0 (I 37) 10 0 = -1 ↔ (w = 0 ∨ (K1 3 3 = 0 ↔ f = 0)) := by
  have e2 : mK 2 I 3 2 = w := h.2.2.2.2.2.1.1
  have e3 : mK 2 I 3 3 = f := h.2.2.2.2.2.2.1
  have e6 : mK 2 I 0 6 = 0 := h.2.2.1
  rw [n_film h.T e6 h.P hr1 h1 (by rw [e2]; exact hw) (fun i hi => by rw [n_tellw h.T e6 h.P i hi, e2, e3]; exact hl.2.2 i hi), e2, e3]
theorem n_tv0 (h : nG I n w f) (hl : nFl I w f) : mtv I 0 0 0 = -1 := by
  have e : mtv I 0 0 0 = mfo (mX I) (mK 2 I) 0 (I 37) (I 36 2).toNat 0 := rfl
  rw [e, hl.2.1]
  have e3 : mK 2 I 3 3 = f := h.2.2.2.2.2.2.1
  exact (n_back h hl (K1 := mK 2 I) h.2.2.1 h.P h.2.2.2.2.2.1.1).mpr (Or.inr (by rw [e3]))
theorem n_vary (h : nG I n w f) {j : Nat} {v : Int} (hj : j < 4) (hv : (j = 0 → v = 0) ∧ (j = 3 → 0 ≤ v ∧ v ≤ 99)) (h2 : j ≠ 2) : z2 (mK 2 I) 3 j v 0 6 = 0 ∧ nP (z2 (mK 2 I) 3 j v) 0 ∧ z2 (mK 2 I) 3 j v 3 2 = w ∧ z2 (mK 2 I) 3 j v 3 3 = if j = 3 then v else f := by
  obtain ⟨p0, p2, p3⟩ := h.P
  have e2 : mK 2 I 3 2 = w := h.2.2.2.2.2.1.1
  have e3 : mK 2 I 3 3 = f := h.2.2.2.2.2.2.1
  have e6 : mK 2 I 0 6 = 0 := h.2.2.1
  have r2 : z2 (mK 2 I) 3 j v 3 2 = w := by rw [z2_n (by omega)]; exact e2
  have r3 : z2 (mK 2 I) 3 j v 3 3 = if j = 3 then v else f := by
    by_cases q : j = 3
    · rw [if_pos q, q, z2_s]
    · rw [if_neg q, z2_n (by omega)]; exact e3
  have r0 : z2 (mK 2 I) 3 j v 3 0 = 0 := by
    by_cases q : j = 0
    · rw [q, z2_s]; exact hv.1 q
    · rw [z2_n (by omega)]; exact p0
  refine ⟨by rw [z2_n (by omega)]; exact e6, ⟨r0, ?_, ?_⟩, r2, r3⟩
  · show mR (z2 (mK 2 I) 3 j v 3 2)
    rw [r2]; exact h.2.2.2.2.2.1.2
  · show 0 ≤ z2 (mK 2 I) 3 j v 3 3 ∧ z2 (mK 2 I) 3 j v 3 3 ≤ 99
    rw [r3]
    have := h.2.2.2.2.2.2
    split
    · rename_i q; exact hv.2 q
    · omega
theorem n_tv2 (h : nG I n w f) (hl : nFl I w f) : mtv I 0 0 2 = 1023 := by
  have e : mtv I 0 0 2 = msb (mso (mX I) (mK 2 I) (I 37) (I 36 2).toNat 0 1) 10 := rfl
  rw [e, hl.2.1]
  refine msb_all (fun i hi => decide_eq_true ?_)
  obtain ⟨r1, r2, r3, r4⟩ := n_vary h (j := 1) (v := (i : Int)) (by omega) ⟨fun q => absurd q (by omega), fun q => absurd q (by omega)⟩ (by omega)
  exact (n_back h hl (K1 := z2 (mK 2 I) 3 1 (i : Int)) r1 r2 r3).mpr (Or.inr (by rw [r4]; exact Iff.rfl))
theorem n_tv1 (h : nG I n w f) (hl : nFl I w f) : zand (mtv I 0 0 1) 1 = 1 := by
  have e : mtv I 0 0 1 = msb (mso (mX I) (mK 2 I) (I 37) (I 36 2).toNat 0 5) 6 := rfl
  rw [e, hl.2.1]
  refine msb_0 (decide_eq_true ?_) 5 (by omega)
  obtain ⟨r1, r2, r3, r4⟩ := n_vary h (j := 0) (v := 0) (by omega) ⟨fun _ => rfl, fun q => absurd q (by omega)⟩ (by omega)
  exact (n_back h hl (K1 := z2 (mK 2 I) 3 0 0) r1 r2 r3).mpr (Or.inr (by rw [r4]; exact Iff.rfl))
theorem n_tv3 (h : nG I n w f) (hl : nFl I w f) : mtv I 0 0 3 = if w = 0 then 100 else if f = 0 then 1 else 99 := by
  have e : mtv I 0 0 3 = mcn (mso (mX I) (mK 2 I) (I 37) (I 36 2).toNat 0 3) 100 := rfl
  rw [e, hl.2.1]
  have k : ∀ v : Nat, v < 100 → mso (mX I) (mK 2 I) (I 37) (10 : Int).toNat 0 3 v = decide (w = 0 ∨ ((v : Int) = 0 ↔ f = 0)) := by
    intro v hv
    obtain ⟨r1, r2, r3, r4⟩ := n_vary h (j := 3) (v := (v : Int)) (by omega) ⟨fun q => absurd q (by omega), fun _ => by omega⟩ (by omega)
    have b := n_back h hl (K1 := z2 (mK 2 I) 3 3 (v : Int)) r1 r2 r3
    rw [r4, if_pos rfl] at b
    exact decide_eq_decide.mpr b
  rw [mcn_cg 100 k]
  by_cases q : w = 0
  · rw [if_pos q, mcn_cg (R := fun _ => true) 100 (fun v _ => decide_eq_true (Or.inl q))]
    decide +kernel
  · rw [if_neg q]
    by_cases z : f = 0
    · rw [if_pos z, mcn_cg (R := fun v => decide (v = 0)) 100 (fun v _ => decide_eq_decide.mpr ⟨fun y => by omega, fun y => by omega⟩)]
      decide +kernel
    · rw [if_neg z, mcn_cg (R := fun v => decide (v ≠ 0)) 100 (fun v _ => decide_eq_decide.mpr ⟨fun y => by omega, fun y => by omega⟩)]
      decide +kernel
end
section
variable {c : Nat × Nat × Nat} {I : zI} {g : Nat} {Q : zQ} {n : Nat} {w f : Int}
theorem o_asks (h : nG I n w f) {x : Int} (hx : 0 ≤ x ∧ x ≤ 3) (H : ∀ J, mA I J → Q (some (zi (if x = 0 then mfst f.toNat w 0 else if x = 1 then f else 0))) (c, J, zRg g)) : zcl 100 81 0 0 [zr 0, zi 0, zi 1023, zi x] (c, I, zRg g) Q := by
  obtain ⟨-, -, h6, h4, -, h2, h3⟩ := id h
  refine x_asks (d := 94) h.W (fun q => absurd ⟨by omega, mR1023, hx⟩ q) (fun _ J hJ => zQi ?_ (H J hJ))
  have ef : mcl f 0 10 = f := by
    unfold mcl
    rw [if_neg (by omega), if_neg (by omega)]
  have e2 : mK 2 I (3 + 0) 2 = w := h2.1
  have e3 : mK 2 I (3 + 0) 3 = f := h3.1
  show (if x = 0 then mtell (mX I) (mK 2 I) 0 1023 else if x = 1 then mkeep (mX I) (mK 2 I) 0 1023 else if x = 2 then mtire (mX I) (mK 2 I) 0 1023 else mlearn (mX I) (mK 2 I) 0 1023) = _
  rw [n_tells h.T h6 h.P, n_keep h.T h6 h.P, n_tire h.T h6 h.P, n_learn h.T h6 h.P, e2, e3, ef, n_aL h2.2]
  by_cases q : x = 0
  · rw [if_pos q, if_pos q]
  · rw [if_neg q, if_neg q]
    by_cases q1 : x = 1
    · rw [if_pos q1, if_pos q1]
    · rw [if_neg q1, if_neg q1]
      split <;> rfl
theorem o_tells (h : nG I n w f) (hl : nFl I w f) {x : Int} (hx : 0 ≤ x ∧ x ≤ 8) (H : ∀ J, mFr I J → Q (some (zi (mtv I 0 0 x))) (c, J, zRg g)) : zcl 100 113 0 0 [zr 0, zi 0, zi 0, zi x] (c, I, zRg g) Q := by
  obtain ⟨h1, hW, h6, h4, -⟩ := id h
  have h7 := h1.2.2.1
  refine x_tells (d := 92) h.W hW.2.1 h1.2.2.2.1 (by omega) (fun t ht => ?_) (fun q => absurd ⟨by decide, by omega, hx⟩ q) (fun _ _ _ _ q => absurd q ?_) (fun _ _ _ _ _ q => absurd q ?_) (fun _ _ _ _ _ _ J hJ => H J hJ)
  · obtain rfl : t = 0 := by omega
    exact h1.1
  · show ¬ I 36 1 = -1
    rw [hl.1]; decide
  · show ¬ 10 < I 36 2
    rw [hl.2.1]; decide
theorem o_film (h : nG I n w f) (H : ∀ J, nG J n w f → nFl J w f → ∀ v, Q (some (zi v)) (c, J, zRg g)) : zcl 100 117 0 0 [zr 0, zi 0, zi 0] (c, I, zRg g) Q := by
  obtain ⟨h1, hW, h6, h4, -, h2, h3⟩ := id h
  refine x_film (d := 94) h.W (fun q => absurd ⟨by decide, by omega⟩ q) (fun _ _ J j1 j2 j3 j4 => H J ?_ ⟨j2, j3, fun i hi => ?_⟩ _)
  · have j1 : ∀ y, y ≠ 27 → y ≠ 36 → y ≠ 37 → J y = I y := j1
    refine h.cg (fun y hy => j1 y (by omega) (by omega) (by omega)) (by rw [j1 0 (by omega) (by omega) (by omega)]) (fun s hs => ?_)
    by_cases q : s = 0
    · subst q
      have j3 : J 36 2 = 10 := j3
      show 0 ≤ J 36 2 ∧ J 36 2 ≤ 40
      omega
    · rw [j1 (36 + 2 * s) (by omega) (by omega) (by omega)]
      exact h1.2.2.2.1 s hs
  · have e2 : mK 2 I 3 2 = w := h2.1
    have e3 : mK 2 I 3 3 = f := h3.1
    rw [← e2, ← e3, ← n_tellw h.T h6 h.P i hi]
    exact j4 i hi
end
section
variable {S : zK} {B : Nat × Nat} {Q : zQ} {c : Nat × Nat × Nat} {t n : Nat}
/-- the first of what one has words for -/
theorem w_first {x1 x3 x4 x5 x6 w : Int} {I : zI} {g f : Nat}
    (H : ∀ a : Int, zRw S (zcl 100) 205 B Q 677 [some (zr 2000), some (zi x1), some (zr 0), some (zi x3), some (zi x4), some (zi x5), some (zi x6), some (zi (f : Nat)), some (zi a), some (zi (mfst f w 0)), some (zi (f : Nat))] [] (c, I, zRg g)) :
    ∀ (m i : Nat) (a r : Int), i + m = f → f < 10 → mfst m a r = mfst f w 0 → zRw S (zcl 100) 205 B Q 677 [some (zr 2000), some (zi x1), some (zr 0), some (zi x3), some (zi x4), some (zi x5), some (zi x6), some (zi (f : Nat)), some (zi a), some (zi r), some (zi (i : Nat))] [] (c, I, zRg g) := by
  intro m
  induction m with
  | zero =>
    intro i a r hi hf hr
    obtain rfl : i = f := by omega
    have hr : r = mfst i w 0 := hr
    rw [hr]
    exact H a
  | succ m ih =>
    intro i a r hi hf hr
    refine g_l_law_677 ⟨fun u => absurd u (by omega), fun _ => k130 (d := 99) (g_l_law_691 ?_)⟩
    rw [z1p i (by omega)]
    exact ih (i + 1) _ _ (by omega) hf hr
/-- from all laid back to the end of the round -/
theorem w_few {C x5 : Int} (ht : t < 3) (hn : 1 ≤ n) (hn5 : n ≤ 5) (M : Nat) (hM : M ≤ 8)
    (H : ∀ (I : zI) (g : Nat) (x6 x7 x8 x9 x10 : Int), zRw S (zcl 100) 205 B Q 2 [some (zr 2000), some (zi ((t + 1 : Nat) : Int)), some (zr 0), some (zi (n : Nat)), some (zi C), some (zi x5), some (zi x6), some (zi x7), some (zi x8), some (zi x9), some (zi x10)] [] (c, I, zRg g))
    {I : zI} {g : Nat} (o8 o9 o10 : Option zV) (s0 : Int) (hO : nO I n C (M : Nat) 0 0 0) : zRw S (zcl 100) 205 B Q 618 [some (zr 2000), some (zi (t : Nat)), some (zr 0), some (zi (n : Nat)), some (zi C), some (zi x5), some (zi (M : Nat)), some (zi (n : Nat)), o8, o9, o10] [zi s0] (c, I, zRg g) := by
  have h4 : I 2 4 = 0 := hO.2.2.2.1.1
  refine g_l_law_618 (x_run (d := 92) (by decide) hO.W hO.2.W (by omega) (fun h => absurd ⟨by decide, Or.inr (Or.inl rfl)⟩ h) (fun _ _ J f => ?_))
  have e1 : mrv (mrn (mX I) (20 : Int).toNat (mK 2 I) (-1) 0) 1 = (M : Nat) := by
    have := n_run hO.T 20 (mK 2 I) (-1) 0 _ _ _ _ hO.2 (by omega) (by decide) (by decide) (by decide)
    show (mrn (mX I) 20 (mK 2 I) (-1) 0).2.2 = _
    omega
  rw [e1]
  have hO1 := hO.F f
  have h5 := hO1.n5
  have h3 : J 2 3 = (M : Nat) := hO1.2.2.1.1
  obtain ⟨-, -, q2, -, q4, -, -⟩ := hO1.2.2.2.2.2.2.2.1 0 (by omega)
  have q4 : J 5 4 = 0 := q4
  have q2 : mR (J 5 2) := q2
  refine g_l_law_626 ⟨fun u => absurd rfl u, fun _ => tp (p := 0) (w := 4) (by omega) (by omega) (by decide) (by omega) (g_l_law_637 ⟨fun _ => k132 (d := 98) (by rw [n_w1 (by omega) (by omega)]; omega) (by decide) hO1.1.2.2.2.2 (fun v hv => g_l_law_652 ?_), fun u => absurd q4 u⟩)⟩
  refine x_set (d := 98) (by omega) (fun h => absurd ⟨by decide, Or.inr ⟨by decide, by omega⟩, hv.1, by show v ≤ 99; omega⟩ h) (fun h => absurd h (by decide)) (fun _ _ _ _ _ _ => g_l_law_662 ?_)
  obtain ⟨hG, -⟩ := nG_of (f := v) hO1 hn hv
  show zcl 100 79 0 0 [zr 0, zi 0, zi 2] (c, z2 J 5 3 v, zRg g) _
  generalize z2 J 5 3 v = J1 at hG ⊢
  obtain ⟨v, rfl⟩ : ∃ k : Nat, v = (k : Int) := ⟨v.toNat, by omega⟩
  have hW := hG.2.1
  have k2 : J1 2 2 = n := hG.2.2.2.1.1
  have k3 : 0 ≤ J1 2 3 ∧ J1 2 3 ≤ 8 := hW.2.1
  have kw : J1 5 2 = J 5 2 := hG.2.2.2.2.2.1.1
  refine tp (p := 0) (w := 2) (by omega) k3.2 (by decide) (by omega) (g_l_law_669 ?_)
  show zRw S (zcl 100) 205 B Q 677 [some (zr 2000), some (zi (t : Nat)), some (zr 0), some (zi (n : Nat)), some (zi C), some (zi x5), some (zi (M : Nat)), some (zi (v : Nat)), some (zi (J1 5 2)), some (zi 0), some (zi 0)] [] (c, J1, zRg g)
  rw [kw]
  refine w_first (w := J 5 2) (f := v) (fun a => ?_) v 0 (J 5 2) 0 (by omega) (by omega) rfl
  refine g_l_law_677 ⟨fun _ => o_asks hG (by decide) (fun J2 f2 => g_l_law_718 ⟨fun u => absurd rfl u, fun _ => ?_⟩), fun u => absurd (Int.le_refl _) u⟩
  have hG2 := hG.F f2.F
  refine o_asks hG2 (by decide) (fun J3 f3 => g_l_law_732 ⟨fun u => absurd rfl u, fun _ => ?_⟩)
  have hG3 := hG2.F f3.F
  refine o_asks hG3 (by decide) (fun J4 f4 => g_l_law_746 ⟨fun u => absurd rfl u, fun _ => ?_⟩)
  have hG4 := hG3.F f4.F
  refine o_asks hG4 (by decide) (fun J5 f5 => g_l_law_758 ⟨fun _ => ?_, fun u => absurd rfl u⟩)
  have hG5 := hG4.F f5.F
  refine o_film hG5 (fun J6 hG6 hL6 r => g_l_law_769 (o_tells hG6 hL6 (by decide) (fun J7 f7 => g_l_law_777 ⟨fun u => absurd (n_tv0 hG6 hL6) u, fun _ => ?_⟩)))
  have hG7 := hG6.F f7
  have hL7 := hL6.F f7
  refine o_tells hG7 hL7 (by decide) (fun J8 f8 => g_l_law_788 ⟨fun u => absurd (n_tv2 hG7 hL7) u, fun _ => ?_⟩)
  have hG8 := hG7.F f8
  have hL8 := hL7.F f8
  refine o_tells hG8 hL8 (by decide) (fun J9 f9 => g_l_law_801 ?_)
  have hG9 := hG8.F f9
  have hL9 := hL8.F f9
  have k92 : J9 2 2 = n := hG9.2.2.2.1.1
  have k93 : 0 ≤ J9 2 3 ∧ J9 2 3 ≤ 8 := hG9.2.1.2.1
  have kw9 : J9 5 2 = J 5 2 := hG9.2.2.2.2.2.1.1
  have tv := n_tv3 hG8 hL8
  have A : zcl 100 113 0 0 [zr 0, zi 0, zi 0, zi 1] (c, J9, zRg g) (fun r h1 => zRw S (zcl 100) 205 B Q 836 [some (zr 2000), some (zi (t : Nat)), some (zr 0), some (zi (n : Nat)), some (zi C), some (zi x5), some (zi (M : Nat)), some (zi (v : Nat)), some (zi a), some (zi (mfst v (J 5 2) 0)), some (zi (v : Nat))] (zva r []) h1) := by
    refine o_tells hG9 hL9 (by decide) (fun J10 f10 => g_l_law_836 ⟨fun _ => ?_, fun u => absurd (n_tv1 hG9 hL9) u⟩)
    rw [z1p t (by omega)]
    exact H J10 g _ _ _ _ _
  refine tp (p := 0) (w := 2) (by omega) k93.2 (by decide) (by omega) ?_
  show zRw S (zcl 100) 205 B Q 807 [some (zr 2000), some (zi (t : Nat)), some (zr 0), some (zi (n : Nat)), some (zi C), some (zi x5), some (zi (M : Nat)), some (zi (v : Nat)), some (zi a), some (zi (mfst v (J 5 2) 0)), some (zi (v : Nat))] [zi (J9 5 2), zi (mtv J8 0 0 3)] (c, J9, zRg g)
  rw [kw9, tv]
  refine g_l_law_807 ⟨fun u => ⟨fun u1 => ⟨fun u2 => absurd ?_ u2, fun _ => A⟩, fun u1 => ⟨fun u2 => absurd ?_ u2, fun _ => A⟩⟩, fun u => ⟨fun u2 => absurd ?_ u2, fun _ => A⟩⟩
  · rw [if_neg u, if_neg u1]
  · rw [if_neg u, if_pos (Decidable.not_not.mp u1)]
  · rw [if_pos (Decidable.not_not.mp u)]
end
end
