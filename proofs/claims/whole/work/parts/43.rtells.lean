section
/-! the reference: what one keeps, tells, how it tires, whether one learns; asks; told by all -/
section
variable {c : Nat × Nat × Nat} {I : zI} {g : Nat} {Q : zQ}
theorem mcl_c {x y lo hi : Int} (h : x = y) : mcl x lo hi = mcl y lo hi := by rw [h]
theorem msay_r {T : Nat → Nat → List Int} {K : zI} {q p : Nat} {th : Int} : 0 ≤ msay T K q p th ∧ msay T K q p th ≤ 99 := mwo_r _ _
set_option maxHeartbeats 400000 in
theorem r164 {e : Nat} (he : 50 ≤ e) {p : Nat} (hW : nW I) (hp : (p : Int) < I 67 9) {th : Int} (ht : mR th) (H : ∀ J, nA I J → Q (some (zi (mkeep (nT I) (nK I) p th))) (c, J, zRg g)) : zcl e 164 0 0 [zr 67, zi (p : Nat), zi th] (c, I, zRg g) Q := by
  obtain ⟨d, rfl⟩ : ∃ d, e = d + 1 := ⟨e - 1, by omega⟩
  obtain ⟨h5, a1, a2, a3, a4, a5⟩ := hW.at hp
  have hd := hW.2.1
  have e4 : zwr (zwr (5 * (p : Int)) + 4) = ((5 * p + 4 : Nat) : Int) := nix (k := 4) h5 (by decide)
  refine zen rfl rfl (fun B Q1 hQ => g_x12_keepsOf_0 ?_)
  have H := fun J h => hQ _ _ _ (H J h)
  have hv := msay_r (T := nT I) (K := nK I) (q := 0) (p := p) (th := th)
  have hk : mkeep (nT I) (nK I) p th = mcl (mkq (I 71 (5 * p + 4)) (msay (nT I) (nK I) 0 p th) (I 67 7)) 0 10 := by
    unfold mkeep
    rw [(nK_p I p).1]
    rfl
  rw [hk] at H
  rw [e4, ztm hd.1 (by omega) (by omega) (by omega), Int.toNat_natCast]
  have fin : (I 71 (5 * p + 4) = 4 → ¬ I 67 7 % 4 = 0) → zcl d 163 0 0 [zr 67, zi 0, zi (p : Nat), zi th] (c, I, zRg g) (fun v h1 => zRn (zcl d) 164 B Q1 35 [some (zr 67), some (zi (p : Nat)), some (zi th), some (zi (I 71 (5 * p + 4))), none] (zva v []) h1) := by
    intro n4
    refine r163 (q := 0) (by omega) hW hp (by decide) ht (fun J hJ => g_x12_keepsOf_35 ?_)
    have H := H J hJ
    generalize msay (nT I) (nK I) 0 p th = v at H hv
    generalize I 71 (5 * p + 4) = k at H n4 a1
    generalize I 67 7 = dy at H n4 hd
    have fn : ∀ x : Int, x = mkq k v dy → zcl d 131 0 0 [zi x, zi 0, zi 10] (c, J, zRg g) (fun v0 h1 => zRn (zcl d) 164 B Q1 91 [some (zr 67), some (zi (p : Nat)), some (zi th), some (zi k), some (zi v)] (zva v0 []) h1) := fun x hx => r131 (by omega) (by decide) (g_x12_keepsOf_91 (zQi (mcl_c hx) H))
    have z1 : zwr (v + 1) = v + 1 := zwr_eq (by omega)
    have z2 : zwr (2 * v) = 2 * v := zwr_eq (by omega)
    have z3 : zwr (Int.tdiv v 2) = v / 2 := ztd hv.1 (by omega) (by omega)
    rw [z1, z2, z3]
    clear z1 z2 z3
    refine ⟨fun u => fn _ ?_, fun u => ⟨fun u1 => ⟨fun u2 => fn _ ?_, fun u2 => ⟨fun u3 => ⟨fun u4 => fn _ ?_, fun u4 => fn _ ?_⟩, fun u3 => fn _ ?_⟩⟩, fun u1 => fn _ ?_⟩⟩
    all_goals
      unfold mkq
      (repeat' split) <;> omega
  refine ⟨by omega, fun u => fin (fun q => absurd q u), fun u => ⟨fun u1 => fin (fun _ => u1), fun u1 => ?_⟩⟩
  refine zQi ?_ (H I (nA.rf I))
  unfold mkq
  rw [if_neg (by omega), if_neg (by omega), if_pos (by omega), if_pos (by omega)]
  rfl
set_option maxHeartbeats 400000 in
theorem r165 {e : Nat} (he : 52 ≤ e) {p : Nat} (hW : nW I) (hp : (p : Int) < I 67 9) {th : Int} (ht : mR th) (H : ∀ J, nA I J → Q (some (zi (mtell (nT I) (nK I) p th))) (c, J, zRg g)) : zcl e 165 0 0 [zr 67, zi (p : Nat), zi th] (c, I, zRg g) Q := by
  obtain ⟨d, rfl⟩ : ∃ d, e = d + 1 := ⟨e - 1, by omega⟩
  obtain ⟨h5, a1, a2, a3, a4, a5⟩ := hW.at hp
  have e4 : zwr (zwr (5 * (p : Int)) + 4) = ((5 * p + 4 : Nat) : Int) := nix (k := 4) h5 (by decide)
  have e0 : zwr (5 * (p : Int)) = ((5 * p : Nat) : Int) := nix0 h5
  refine zen rfl rfl (fun B Q1 hQ => g_x12_tellsOf_0 ?_)
  have H := fun J h => hQ _ _ _ (H J h)
  have hv : 0 ≤ mkeep (nT I) (nK I) p th ∧ mkeep (nT I) (nK I) p th ≤ 10 := mke_r _ _ (mwo_r _ _).1
  have hk : mtell (nT I) (nK I) p th = mke (I 71 (5 * p + 4)) (I 71 (5 * p)) (nK I (3 + p) 2) th (mfst (mkeep (nT I) (nK I) p th).toNat (zand th (nK I (3 + p) 2)) 0) := by
    unfold mtell mtk
    rw [(nK_p I p).1, (nK_p I p).2.1]
  rw [hk] at H
  rw [e4, Int.toNat_natCast]
  refine ⟨by omega, r162 (by omega) h5 (g_x12_tellsOf_17 (r164 (by omega) hW hp ht (fun J hJ => g_x12_tellsOf_29 ?_)))⟩
  have H := H J hJ
  have eN : (mkeep (nT I) (nK I) p th) = (((mkeep (nT I) (nK I) p th).toNat : Nat) : Int) := by omega
  rw [eN]
  have hi : (mkeep (nT I) (nK I) p th).toNat ≤ 10 := by omega
  generalize (mkeep (nT I) (nK I) p th).toNat = N at H hi
  have e71 : J 71 = I 71 := hJ.1 71 (by decide)
  have eK : nK J (3 + p) 2 = nK I (3 + p) 2 := by rw [hJ.K]
  have loop : ∀ (a : Nat) (l s : Int) (o : Option zV), a ≤ 10 → Q1 (some (zi (mke (I 71 (5 * p + 4)) (I 71 (5 * p)) (nK I (3 + p) 2) th (mfst a l s)))) (c, J, zRg g) → zRn (zcl d) 165 B Q1 31 [some (zr 67), some (zi (p : Nat)), some (zi th), some (zi (I 71 (5 * p + 4))), some (zi l), some (zi s), some (zi (a : Nat)), o] [] (c, J, zRg g) := by
    intro a
    induction a with
    | zero =>
      intro l s o _ H
      have H : Q1 (some (zi (mke (I 71 (5 * p + 4)) (I 71 (5 * p)) (nK I (3 + p) 2) th s))) (c, J, zRg g) := H
      refine g_x12_tellsOf_31 ⟨fun _ => ?_, fun u => absurd (by omega) u⟩
      rw [e0, Int.toNat_natCast, e71]
      unfold mke at H
      refine ⟨by omega, fun u => ⟨fun q => absurd u q, fun _ => ?_⟩, fun u => ⟨fun u1 => ⟨fun u2 => ⟨fun u3 => ⟨fun u4 => ?_, fun u4 => ?_⟩, fun u3 => ?_⟩, fun u2 => ⟨fun u3 => r162 (by omega) h5 (g_x12_tellsOf_145 ?_), fun u3 => ?_⟩⟩, fun u1 => ⟨fun _ => ?_, fun q => absurd (Decidable.not_not.mp q) u⟩⟩⟩
      · rw [if_pos u] at H; exact H
      · rw [if_neg u, if_neg u1, if_neg u3, if_neg u2, if_neg u4] at H; exact H
      · rw [if_neg u, if_neg u1, if_neg u3, if_neg u2, if_pos (Decidable.not_not.mp u4)] at H; exact H
      · rw [if_neg u, if_neg u1, if_pos (Decidable.not_not.mp u3)] at H; exact H
      · have u2 := Decidable.not_not.mp u2
        rw [if_neg u, if_neg u1, if_neg (by omega), if_pos u2] at H
        unfold mlv at H
        rw [if_neg u3] at H
        rw [eK]
        exact H
      · have u2 := Decidable.not_not.mp u2
        rw [if_neg u, if_neg u1, if_neg (by omega), if_pos u2] at H
        unfold mlv at H
        rw [if_pos (Decidable.not_not.mp u3)] at H
        exact H
      · rw [if_neg u, if_pos (Decidable.not_not.mp u1)] at H; exact H
    | succ a ih =>
      intro l s o ha H
      refine g_x12_tellsOf_31 ⟨fun u => absurd u (by omega), fun _ => ?_⟩
      rw [z1n a (by omega)]
      exact ih _ _ _ (by omega) H
  exact loop N _ 0 _ hi H
set_option maxHeartbeats 400000 in
theorem r166 {e : Nat} (he : 50 ≤ e) {p : Nat} (hW : nW I) (hp : (p : Int) < I 67 9) {th : Int} (ht : mR th) (H : ∀ J, nA I J → Q (some (zi (mtire (nT I) (nK I) p th))) (c, J, zRg g)) : zcl e 166 0 0 [zr 67, zi (p : Nat), zi th] (c, I, zRg g) Q := by
  obtain ⟨d, rfl⟩ : ∃ d, e = d + 1 := ⟨e - 1, by omega⟩
  obtain ⟨h5, a1, a2, a3, a4, a5⟩ := hW.at hp
  have e4 : zwr (zwr (5 * (p : Int)) + 4) = ((5 * p + 4 : Nat) : Int) := nix (k := 4) h5 (by decide)
  have e3 : zwr (zwr (5 * (p : Int)) + 3) = ((5 * p + 3 : Nat) : Int) := nix (k := 3) h5 (by decide)
  have e0 : zwr (5 * (p : Int)) = ((5 * p : Nat) : Int) := nix0 h5
  refine zen rfl rfl (fun B Q1 hQ => g_x12_tiresOf_0 ?_)
  have H := fun J h => hQ _ _ _ (H J h)
  have hv := msay_r (T := nT I) (K := nK I) (q := 1) (p := p) (th := th)
  have hk : mtire (nT I) (nK I) p th = mti (I 71 (5 * p + 4)) (I 71 (5 * p)) (I 71 (5 * p + 3)) (msay (nT I) (nK I) 1 p th) := by
    unfold mtire
    rw [(nK_p I p).1, (nK_p I p).2.1, (nK_p I p).2.2.2.2]
  rw [hk] at H
  rw [e4, e0, Int.toNat_natCast, Int.toNat_natCast]
  refine ⟨by omega, fun u => ⟨fun _ => zQi ?_ (H I (nA.rf I)), fun q => absurd (Decidable.not_not.mp q) (by omega)⟩, fun u => ⟨fun u1 => r163 (q := 1) (by omega) hW hp (by decide) ht (fun J hJ => g_x12_tiresOf_46 ?_), fun u1 => ⟨fun q => absurd q u1, fun _ => ⟨by omega, zQi ?_ (H I (nA.rf I))⟩⟩⟩⟩
  · unfold mti; rw [if_pos u]
  · have H := H J hJ
    have e71 : J 71 = I 71 := hJ.1 71 (by decide)
    rw [e3, Int.toNat_natCast, e71]
    generalize msay (nT I) (nK I) 1 p th = v at H hv
    have zs : zwr (Int.tmod (I 71 (5 * p + 3)) 2) = I 71 (5 * p + 3) % 2 := ztm a5.1 (by omega) (by omega) (by omega)
    have z1 : zwr (v + 1) = v + 1 := zwr_eq (by omega)
    have z3 : zwr (Int.tdiv (v + 1) 2) = (v + 1) / 2 := ztd (by omega) (by omega) (by omega)
    rw [zs, z1, z3]
    clear zs z1 z3
    unfold mti at H
    rw [if_neg u, if_neg u1] at H
    refine ⟨fun w => ⟨fun w1 => ⟨fun w2 => ?_, fun w2 => ⟨by omega, fun w3 => ?_, fun w3 => ?_⟩⟩, fun w1 => ?_⟩, fun w => ?_⟩
    · rw [if_neg w, if_neg w1, if_neg w2] at H; exact H
    · rw [if_neg w, if_neg w1, if_pos (Decidable.not_not.mp w2), if_pos (by omega)] at H; exact H
    · rw [if_neg w, if_neg w1, if_pos (Decidable.not_not.mp w2), if_neg (by omega)] at H; exact H
    · rw [if_neg w, if_pos (Decidable.not_not.mp w1)] at H; exact H
    · rw [if_pos (Decidable.not_not.mp w)] at H; exact H
  · unfold mti; rw [if_neg u, if_pos (Decidable.not_not.mp u1)]
theorem r167 {e : Nat} (he : 50 ≤ e) {p : Nat} (hW : nW I) (hp : (p : Int) < I 67 9) {th : Int} (ht : mR th) (H : ∀ J, nA I J → Q (some (zi (mlearn (nT I) (nK I) p th))) (c, J, zRg g)) : zcl e 167 0 0 [zr 67, zi (p : Nat), zi th] (c, I, zRg g) Q := by
  obtain ⟨d, rfl⟩ : ∃ d, e = d + 1 := ⟨e - 1, by omega⟩
  obtain ⟨h5, a1, a2, a3, a4, a5⟩ := hW.at hp
  have e4 : zwr (zwr (5 * (p : Int)) + 4) = ((5 * p + 4 : Nat) : Int) := nix (k := 4) h5 (by decide)
  refine zen rfl rfl (fun B Q1 hQ => g_x12_learns_0 ?_)
  have H := fun J h => hQ _ _ _ (H J h)
  have hk : mlearn (nT I) (nK I) p th = mle (I 71 (5 * p + 4)) (msay (nT I) (nK I) 2 p th) th := by
    unfold mlearn
    rw [(nK_p I p).1]
  rw [hk] at H
  rw [e4, Int.toNat_natCast]
  refine ⟨by omega, fun u => zQi ?_ (H I (nA.rf I)), fun u => ⟨fun u1 => r163 (q := 2) (by omega) hW hp (by decide) ht (fun J hJ => g_x12_learns_30 ?_), fun u1 => zQi ?_ (H I (nA.rf I))⟩⟩
  · unfold mle; rw [if_pos (Or.inl u)]
  · have H := H J hJ
    generalize msay (nT I) (nK I) 2 p th = v at H
    unfold mle at H
    rw [if_neg (by omega)] at H
    have bit : (I 71 (5 * p + 4) = 2 ∨ I 71 (5 * p + 4) = 4) → v = 0 → zcl d 161 0 0 [zi th] (c, J, zRg g) (fun v0 h1 => zRn (zcl d) 167 B Q1 47 [some (zr 67), some (zi (p : Nat)), some (zi th), some (zi (I 71 (5 * p + 4)))] (zva v0 []) h1) := by
      intro w w0
      refine r161 (by omega) ht (g_x12_learns_47 ⟨fun z => ?_, fun z => ?_⟩)
      · rw [if_neg (fun q => q.elim (fun q => q w0) (fun q => z q.2))] at H; exact H
      · rw [if_pos (Or.inr ⟨w, Decidable.not_not.mp z⟩)] at H; exact H
    refine ⟨fun w => ?_, fun w => ⟨fun w1 => bit (Or.inl w1) (Decidable.not_not.mp w), fun w1 => ⟨fun w2 => ?_, fun w2 => bit (Or.inr (Decidable.not_not.mp w2)) (Decidable.not_not.mp w)⟩⟩⟩
    · rw [if_pos (Or.inl w)] at H; exact H
    · rw [if_neg (fun q => q.elim w (fun q => q.1.elim w1 w2))] at H; exact H
  · unfold mle; rw [if_pos (Or.inr (Decidable.not_not.mp u1))]
theorem r134 {e : Nat} (he : 2 ≤ e) (h9 : 0 ≤ I 67 9 ∧ I 67 9 ≤ 5) {x : Int} (H : Q (some (zi (mbo (0 ≤ x ∧ x < I 67 9)))) (c, I, zRg g)) : zcl e 134 0 0 [zr 67, zi x] (c, I, zRg g) Q := by
  obtain ⟨d, rfl⟩ : ∃ d, e = d + 1 := ⟨e - 1, by omega⟩
  refine zen rfl rfl (fun B Q1 hQ => g_x12_isOne_0 ?_)
  rw [zwr_eq (show zIn (I 67 9 - 1) by omega)]
  refine r130 (by omega) (g_x12_isOne_13 ⟨mbo_01 _, zQi ?_ (hQ _ _ _ H)⟩)
  by_cases h : 0 ≤ x ∧ x < I 67 9
  · rw [mbo_t h, mbo_t (by omega)]
  · rw [mbo_f h, mbo_f (by omega)]
theorem nW.n9 (hW : nW I) : 0 ≤ I 67 9 ∧ I 67 9 ≤ 5 := hW.1.1
theorem y_asks {e : Nat} (he : 60 ≤ e) {x1 x2 x3 : Int} (hW : nW I) (Hb : ¬ ((0 ≤ x1 ∧ x1 < I 67 9) ∧ mR x2 ∧ 0 ≤ x3 ∧ x3 ≤ 3) → Q (some (zi (-2))) (c, I, zRg g))
    (H : (0 ≤ x1 ∧ x1 < I 67 9) ∧ mR x2 ∧ 0 ≤ x3 ∧ x3 ≤ 3 → ∀ J, nA I J → Q (some (zi (if x3 = 0 then mtell (nT I) (nK I) x1.toNat x2 else if x3 = 1 then mkeep (nT I) (nK I) x1.toNat x2 else if x3 = 2 then mtire (nT I) (nK I) x1.toNat x2 else mlearn (nT I) (nK I) x1.toNat x2))) (c, J, zRg g)) : zcl e 168 0 0 [zr 67, zi x1, zi x2, zi x3] (c, I, zRg g) Q := by
  obtain ⟨d, rfl⟩ : ∃ d, e = d + 1 := ⟨e - 1, by omega⟩
  refine zen rfl rfl (fun B Q1 hQ => g_x12_asks_0 (r134 (by omega) hW.n9 (g_x12_asks_5 ⟨fun u => hQ _ _ _ (Hb (fun q => mbo_0.mp u q.1)), fun u => r130 (by omega) (g_x12_asks_17 ⟨fun v => hQ _ _ _ (Hb (fun q => mbo_0.mp v (by omega))), fun v => r130 (by omega) (g_x12_asks_29 ⟨fun w => ?_, fun w => hQ _ _ _ (Hb (fun q => mbo_0.mp (Decidable.not_not.mp w) (by omega)))⟩)⟩)⟩)))
  have u := mbo_n0.mp u
  have v := mbo_n0.mp v
  have w := mbo_n0.mp w
  have hx2 : mR x2 := by omega
  have hp : ((x1.toNat : Nat) : Int) < I 67 9 := by omega
  have H := fun J hJ => hQ _ _ _ (H ⟨u, hx2, w⟩ J hJ)
  have e1 : x1 = ((x1.toNat : Nat) : Int) := by omega
  rw [e1]
  generalize x1.toNat = p at H hp
  refine ⟨fun z => ⟨fun z1 => ⟨fun z2 => r167 (by omega) hW hp hx2 (fun J hJ => ?_), fun z2 => r166 (by omega) hW hp hx2 (fun J hJ => g_x12_asks_73 ?_)⟩, fun z1 => r164 (by omega) hW hp hx2 (fun J hJ => g_x12_asks_59 ?_)⟩, fun z => r165 (by omega) hW hp hx2 (fun J hJ => g_x12_asks_45 ?_)⟩
  · have H := H J hJ
    rw [if_neg z, if_neg z1, if_neg z2] at H
    have hl : mlearn (nT I) (nK I) p x2 = 0 ∨ mlearn (nT I) (nK I) p x2 = 1 := mle_01 _ _ _
    exact g_x12_asks_82 ⟨fun z => zQi z.symm H, fun z => zQi (by omega) H⟩
  · have H := H J hJ
    rw [if_neg z, if_neg z1, if_pos (Decidable.not_not.mp z2)] at H
    exact H
  · have H := H J hJ
    rw [if_neg z, if_pos (Decidable.not_not.mp z1)] at H
    exact H
  · have H := H J hJ
    rw [if_pos (Decidable.not_not.mp z)] at H
    exact H
theorem nmtell_R (hW : nW I) {p : Nat} (hp : (p : Int) < I 67 9) {x : Int} (hx : mR x) : mR (mtell (nT I) (nK I) p x) := mtell_R hW.1 hp hx
theorem r169 {e : Nat} (he : 54 ≤ e) (hW : nW I) {x : Int} (hx : mR x) (H : ∀ J, nA I J → Q (some (zi (mall (nT I) (nK I) (I 67 9).toNat 0 x))) (c, J, zRg g)) : zcl e 169 0 0 [zr 67, zi x] (c, I, zRg g) Q := by
  obtain ⟨d, rfl⟩ : ∃ d, e = d + 1 := ⟨e - 1, by omega⟩
  have h9 := hW.n9
  refine zen rfl rfl (fun B Q1 hQ => g_x12_byAll_0 ?_)
  have H := fun J h => hQ _ _ _ (H J h)
  have loop : ∀ (n p : Nat) (y : Int) (J : zI), ((p + n : Nat) : Int) = I 67 9 → mR y → nA I J → (∀ J, nA I J → Q1 (some (zi (mall (nT I) (nK I) n p y))) (c, J, zRg g)) → zRn (zcl d) 169 B Q1 4 [some (zr 67), some (zi x), some (zi y), some (zi (p : Nat))] [] (c, J, zRg g) := by
    intro n
    induction n with
    | zero =>
      intro p y J hp hy hJ H
      exact g_x12_byAll_4 ⟨fun _ => H J hJ, fun u => absurd (by rw [hJ.2 9 (by decide)]; omega) u⟩
    | succ n ih =>
      intro p y J hp hy hJ H
      have e9 : J 67 9 = I 67 9 := hJ.2 9 (by decide)
      refine g_x12_byAll_4 ⟨fun u => absurd u (by rw [e9]; omega), fun _ => r165 (by omega) (hJ.W hW) (by rw [e9]; omega) hy (fun J1 hJ1 => g_x12_byAll_18 ?_)⟩
      rw [hJ.K, hJ.T, z1p p (by omega)]
      exact ih (p + 1) _ J1 (by omega) (nmtell_R hW (by omega) hy) (hJ.tr hJ1) H
  exact loop (I 67 9).toNat 0 x I (by omega) hx (nA.rf I) H
end
end
