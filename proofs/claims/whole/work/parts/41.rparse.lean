section
/-! the reference reads: a text, part by part -/
def mqk (i : Nat) (r : mP) : Prop := ∀ k cs, r = (true, k, cs) → i ≤ k
def mgk (f : mF) : Prop := ∀ k cs k1 c1, f k cs = (true, k1, c1) → k < k1
theorem mqk_bind {i : Nat} {r : mP} {f : mF} (hf : mgk f) (h : mqk i r) : mqk i (mbind r f) := by
  intro k cs q
  obtain ⟨k0, c0, e0, e1⟩ := mbind_t q
  have h1 := h _ _ e0
  have h2 := hf _ _ _ _ e1
  omega
theorem mqk_av {i : Nat} {r : mP} (h : mqk i r) : mqk (i + 1) (mbind r mav) := by
  intro k cs q
  obtain ⟨k0, c0, e0, e1⟩ := mbind_t q
  have h1 := h _ _ e0
  cases e1
  omega
theorem mqk_ad {i : Nat} {r : mP} {x : Int} (h : mqk i r) : mqk i (mbind r (mad x)) := by
  intro k cs q
  obtain ⟨k0, c0, e0, e1⟩ := mbind_t q
  have h1 := h _ _ e0
  cases e1
  omega
theorem mkd_160 {b : Nat → Int} {n k : Nat} (hn : n ≤ 160) (hk : 160 ≤ k) : mkd b n k = -1 :=
  Decidable.byContradiction (fun h => by have := mhh_k h; omega)
theorem mex_fa {kd : Nat → Int} {r : mP} {x : Int} (h : ∀ k cs, r = (true, k, cs) → kd k ≠ x) : mbind r (mex kd x) = mbind r mfa := by
  obtain ⟨b0, k, cs⟩ := r
  cases b0 with
  | false => rfl
  | true =>
    show mex kd x k cs = (false, k, cs)
    unfold mex
    rw [if_neg (h k cs rfl)]
theorem mnu_b {b : Nat → Int} {i : Nat} : ∀ a, a ≤ 4 → (∀ j, i ≤ j → j < i + a → 48 ≤ b j ∧ b j ≤ 57) → mnu b a i 0 < 100000
  | 0, _, _ => by show (0 : Int) < 100000; omega
  | 1, _, h => by
    have h0 := h i (by omega) (by omega)
    show 10 * 0 + b i - 48 < 100000
    omega
  | 2, _, h => by
    have h0 := h i (by omega) (by omega)
    have h1 := h (i + 1) (by omega) (by omega)
    show 10 * (10 * 0 + b i - 48) + b (i + 1) - 48 < 100000
    omega
  | 3, _, h => by
    have h0 := h i (by omega) (by omega)
    have h1 := h (i + 1) (by omega) (by omega)
    have h2 := h (i + 1 + 1) (by omega) (by omega)
    show 10 * (10 * (10 * 0 + b i - 48) + b (i + 1) - 48) + b (i + 1 + 1) - 48 < 100000
    omega
  | 4, _, h => by
    have h0 := h i (by omega) (by omega)
    have h1 := h (i + 1) (by omega) (by omega)
    have h2 := h (i + 1 + 1) (by omega) (by omega)
    have h3 := h (i + 1 + 1 + 1) (by omega) (by omega)
    show 10 * (10 * (10 * (10 * 0 + b i - 48) + b (i + 1) - 48) + b (i + 1 + 1) - 48) + b (i + 1 + 1 + 1) - 48 < 100000
    omega
  | a + 5, q, _ => absurd q (by omega)
theorem mvl_num {b : Nat → Int} {n k : Nat} (h : mkd b n k = -3) : 0 ≤ mvl b n k ∧ mvl b n k < 100000 := by
  unfold mkd at h
  unfold mvl
  rw [mlx_p.1] at h ⊢
  generalize mpl b n k = i at h ⊢
  by_cases h0 : n ≤ i
  · rw [mto_ge h0] at h
    exact absurd h (show ¬ (-1 : Int) = -3 by decide)
  · unfold mto at h ⊢
    rw [if_neg h0] at h ⊢
    by_cases h1 : mlt (b i) = true
    · rw [if_pos h1] at h
      exact absurd h (mwd_r _).2.1
    · rw [if_neg h1] at h ⊢
      by_cases h2 : mdg (b i) = true
      · rw [if_pos h2] at h ⊢
        have q := msc_le mdg b (n - i) i
        have hd : ∀ j, i ≤ j → j < i + (msc mdg b (n - i) i - i) → 48 ≤ b j ∧ b j ≤ 57 := fun j q1 q2 => mdg_t.mp (msc_in mdg b (n - i) i j q1 (by omega))
        by_cases h4 : msc mdg b (n - i) i - i ≤ 4
        · rw [if_pos h4]
          exact ⟨mnu_0 _ _ _ (by omega) (fun j q1 q2 => (hd j q1 q2).1), mnu_b _ h4 hd⟩
        · rw [if_neg h4] at h
          exact absurd h (show ¬ (-2 : Int) = -3 by decide)
      · rw [if_neg h2] at h
        by_cases h3 : msg (b i) = true
        · rw [if_pos h3] at h
          have h4 : b i = 40 ∨ b i = 41 ∨ b i = 59 ∨ b i = 43 ∨ b i = 45 ∨ b i = 42 ∨ b i = 60 ∨ b i = 61 := of_decide_eq_true h3
          have h : b i = -3 := h
          omega
        · rw [if_neg h3] at h
          exact absurd h (show ¬ (-2 : Int) = -3 by decide)
theorem mite_q {p : Prop} [Decidable p] {a b : Int × Int} (ha : a.1 = -4 → a.2 < 0) (hb : b.1 = -4 → b.2 < 0) : (if p then a else b).1 = -4 → (if p then a else b).2 < 0 := by
  by_cases h : p
  · rw [if_pos h]; exact ha
  · rw [if_neg h]; exact hb
theorem mwd_neg {l : List Int} : (mwd l).1 = -4 → (mwd l).2 < 0 := by
  unfold mwd
  exact mite_q (by decide) (mite_q (by decide) (mite_q (by decide) (mite_q (by decide) (mite_q (by decide) (mite_q (by decide) (mite_q (by decide) (mite_q (by decide) (mite_q (by decide) (mite_q (by decide) (mite_q (by decide) (mite_q (by decide) (by decide))))))))))))
theorem mkd_w4 {b : Nat → Int} {n k : Nat} (h1 : mpl b n k < n) (h2 : mlt (b (mpl b n k)) = true) (h : mkd b n k = -4) : mvl b n k < 0 := by
  have h3 := mis_w h1 h2
  rw [h3.2.1] at h
  rw [h3.2.2.1]
  exact mwd_neg h
section
variable {I : zI} {b : Nat → Int} {n t : Nat} {o : Int} {s : List Int}
theorem rP_ad {J : zI} {r : mP} {v w C : Int} (h : rP I b n o (w :: v :: s) r J) (hC : C < -12) : rP I b n o (mo2 C v w :: s) (mbind r (mad C)) J := by
  obtain ⟨b0, k, cs⟩ := r
  cases b0 with
  | false => exact h
  | true =>
    obtain ⟨hF, h1, h2, h3, h4⟩ := h
    refine ⟨hF, h1, h2, h3, ?_⟩
    rw [mrun_app, h4]
    exact mst_2 hC
theorem rP_ad1 {J : zI} {r : mP} {v C : Int} (h : rP I b n o (v :: s) r J) (hC : C < -6) (h2 : -12 ≤ C) : rP I b n o (mo1 C v :: s) (mbind r (mad C)) J := by
  obtain ⟨b0, k, cs⟩ := r
  cases b0 with
  | false => exact h
  | true =>
    obtain ⟨hF, h1, h2', h3, h4⟩ := h
    refine ⟨hF, h1, h2', h3, ?_⟩
    rw [mrun_app, h4]
    exact mst_1 hC h2
theorem rP_25 {J : zI} {k : Nat} {cs : List Int} (h : rP I b n o s (true, k, cs) J) (h0 : 0 < mkd b n k) : J 67 25 = mkd b n k := by
  rcases tkc h.2.2.2.1 mlx_nx.2 with w | w | w | w | w
  · rw [w.2] at h0; exact absurd h0 (by decide)
  · rw [(mis_w w.2.2.1 w.2.2.2).2.1] at h0
    have := mwd_r (mwl b (mpl b n k) (mhh b n (k + 1)))
    omega
  · rw [w.2.2.1] at h0; exact absurd h0 (by decide)
  · exact w.2.2.1.symm
  · rw [w.2] at h0; exact absurd h0 (by decide)
end
/-- a method that goes on with f: what it answers is the value of it -/
def rCt (I : zI) (b : Nat → Int) (n : Nat) (o : Int) (D X : Nat) (f : mF) : Prop := ∀ (e : Nat) (c : Nat × Nat × Nat) (g : Nat) (J : zI) (r : mP) (s : List Int) (Q : zQ), D ≤ e → rP I b n o s r J → (∀ J1 v, rP I b n o (v :: s) (mbind r f) J1 → Q (some (zi v)) (c, J1, zRg g)) → zcl e X 0 0 [zr 67] (c, J, zRg g) Q
section
variable {I : zI} {b : Nat → Int} {n t : Nat} {o : Int}
theorem r152 (hB : rB I b n t) {D : Nat} (hD : 4 ≤ D) {one : mF} (hg : mgk one) (h1 : rCt I b n o D 151 one) : rCt I b n o (D + 1) 152 (fun k cs => mbind (one k cs) (mloop (mkd b n) (mop1 42 (-27)) one 160)) := by
  intro e c g J r s Q he hP H
  obtain ⟨d, rfl⟩ : ∃ d, e = d + 1 := ⟨e - 1, by omega⟩
  refine zen rfl rfl (fun B Q1 hQ => g_x12_term_0 ?_)
  have H := fun J1 v h1 => hQ _ _ _ (H J1 v h1)
  have loop : ∀ (a i : Nat) (r1 : mP) (J : zI) (v : Int), i + a = 160 → mqk i r1 → rP I b n o (v :: s) r1 J → (∀ J1 w, rP I b n o (w :: s) (mbind r1 (mloop (mkd b n) (mop1 42 (-27)) one a)) J1 → Q1 (some (zi w)) (c, J1, zRg g)) → zRn (zcl d) 152 B Q1 5 [some (zr 67), some (zi v)] [] (c, J, zRg g) := by
    intro a
    induction a with
    | zero =>
      intro i r1 J v hi hq hP H
      refine g_x12_term_5 (r148 (by omega) hP (by decide) (fun _ => g_x12_term_11 ⟨fun _ => H J v ?_, fun w => absurd rfl w⟩) (fun k cs q w => absurd w ?_))
      · rw [show mbind r1 (mloop (mkd b n) (mop1 42 (-27)) one 0) = r1 from mbind_id r1]
        exact hP
      · rw [mkd_160 hB.2.1 (by have := hq k cs q; omega)]
        decide
    | succ a ih =>
      intro i r1 J v hi hq hP H
      refine g_x12_term_5 (r148 (by omega) hP (by decide) (fun h0 => g_x12_term_11 ⟨fun _ => H J v ?_, fun w => absurd rfl w⟩) (fun k cs q w => g_x12_term_11 ⟨fun w => absurd w (by decide), fun _ => ?_⟩))
      · obtain ⟨b0, k, cs⟩ := r1
        cases b0 with
        | false => exact hP
        | true =>
          have e8 : mop1 42 (-27) (mkd b n k) = none := by unfold mop1; rw [if_neg (h0 k cs rfl)]
          have e9 : mbind (true, k, cs) (mloop (mkd b n) (mop1 42 (-27)) one (a + 1)) = (true, k, cs) := by
            show mloop (mkd b n) (mop1 42 (-27)) one (a + 1) k cs = _
            unfold mloop
            rw [e8]
          rw [e9]
          exact hP
      · subst q
        have e8 : mop1 42 (-27) (mkd b n k) = some (-27) := by unfold mop1; rw [if_pos w]
        have e9 : mbind (true, k, cs) (mloop (mkd b n) (mop1 42 (-27)) one (a + 1)) = mbind (mbind (mbind (mbind (true, k, cs) mav) one) (mad (-27))) (mloop (mkd b n) (mop1 42 (-27)) one a) := by
          rw [mbind_as (mbind (mbind (true, k, cs) mav) one)]
          show mloop (mkd b n) (mop1 42 (-27)) one (a + 1) k cs = _
          conv => lhs; unfold mloop
          rw [e8]
          rfl
        rw [e9] at H
        refine r144p hB (by omega) hP (by rw [w]; decide) (by rw [w]; decide) (fun J2 h2 => g_x12_term_18 ?_)
        refine h1 d c g J2 _ _ _ (by omega) h2 (fun J3 x h3 => g_x12_term_23 ?_)
        have h4 := rP_ad (C := -27) h3 (by decide)
        have hq4 := mqk_ad (x := -27) (mqk_bind hg (mqk_av hq))
        have em : mo2 (-27) v x = zwr (v * x) := rfl
        rw [em] at h4
        exact ih (i + 1) _ J3 _ (by omega) hq4 h4 H
  refine h1 d c g J r s _ (by omega) hP (fun J1 v h2 => g_x12_term_4 ?_)
  refine loop 160 0 _ J1 v (by omega) (fun k cs q => Nat.zero_le _) h2 (fun J2 w h3 => H J2 w ?_)
  rw [mbind_as] at h3
  exact h3
theorem r153 (hB : rB I b n t) {D : Nat} (hD : 4 ≤ D) {one : mF} (hg : mgk one) (h1 : rCt I b n o D 152 one) : rCt I b n o (D + 1) 153 (fun k cs => mbind (one k cs) (mloop (mkd b n) mop2 one 160)) := by
  intro e c g J r s Q he hP H
  obtain ⟨d, rfl⟩ : ∃ d, e = d + 1 := ⟨e - 1, by omega⟩
  refine zen rfl rfl (fun B Q1 hQ => g_x12_added_0 ?_)
  have H := fun J1 v h1 => hQ _ _ _ (H J1 v h1)
  have loop : ∀ (a i : Nat) (r1 : mP) (J : zI) (v : Int) (o2 o3 : Option zV), i + a = 160 → mqk i r1 → rP I b n o (v :: s) r1 J → (∀ J1 w, rP I b n o (w :: s) (mbind r1 (mloop (mkd b n) mop2 one a)) J1 → Q1 (some (zi w)) (c, J1, zRg g)) → zRn (zcl d) 153 B Q1 5 [some (zr 67), some (zi v), o2, o3] [] (c, J, zRg g) := by
    intro a
    induction a with
    | zero =>
      intro i r1 J v o2 o3 hi hq hP H
      refine g_x12_added_5 (r148 (by omega) hP (by decide) (fun _ => g_x12_added_11 ⟨fun w => absurd rfl w, fun _ => r148 (by omega) hP (by decide) (fun _ => g_x12_added_20 ⟨fun _ => H J v ?_, fun w => absurd rfl w⟩) (fun k cs q w => absurd w ?_)⟩) (fun k cs q w => absurd w ?_))
      · rw [show mbind r1 (mloop (mkd b n) mop2 one 0) = r1 from mbind_id r1]
        exact hP
      · rw [mkd_160 hB.2.1 (by have := hq k cs q; omega)]
        decide
      · rw [mkd_160 hB.2.1 (by have := hq k cs q; omega)]
        decide
    | succ a ih =>
      intro i r1 J v o2 o3 hi hq hP H
      have go : ∀ (C f : Int), (C = -25 ∧ f = 1 ∨ C = -26 ∧ f = 0) → ∀ k cs, r1 = (true, k, cs) → mop2 (mkd b n k) = some C → mkd b n k ≠ -1 → mkd b n k ≠ -2 → zcl d 144 0 0 [zr 67] (c, J, zRg g) (fun v0 h1 => zRn (zcl d) 153 B Q1 44 [some (zr 67), some (zi v), some (zi f), o3] (zva v0 []) h1) := by
        intro C f hC k cs q e8 n1 n2
        subst q
        have e9 : mbind (true, k, cs) (mloop (mkd b n) mop2 one (a + 1)) = mbind (mbind (mbind (mbind (true, k, cs) mav) one) (mad C)) (mloop (mkd b n) mop2 one a) := by
          rw [mbind_as (mbind (mbind (true, k, cs) mav) one)]
          show mloop (mkd b n) mop2 one (a + 1) k cs = _
          conv => lhs; unfold mloop
          rw [e8]
          rfl
        rw [e9] at H
        refine r144p hB (by omega) hP n1 n2 (fun J2 h2 => g_x12_added_44 ?_)
        refine h1 d c g J2 _ _ _ (by omega) h2 (fun J3 x h3 => g_x12_added_48 ?_)
        have h4 := rP_ad (C := C) h3 (by omega)
        have hq4 := mqk_ad (x := C) (mqk_bind hg (mqk_av hq))
        rcases hC with ⟨rfl, rfl⟩ | ⟨rfl, rfl⟩
        · have em : mo2 (-25) v x = zwr (v + x) := rfl
          rw [em] at h4
          exact ⟨fun z => absurd z (by decide), fun _ => ih (i + 1) _ J3 _ _ _ (by omega) hq4 h4 H⟩
        · have em : mo2 (-26) v x = zwr (v - x) := rfl
          rw [em] at h4
          exact ⟨fun _ => ih (i + 1) _ J3 _ _ _ (by omega) hq4 h4 H, fun z => absurd rfl z⟩
      refine g_x12_added_5 (r148 (by omega) hP (by decide) (fun h0 => g_x12_added_11 ⟨fun w => absurd rfl w, fun _ => r148 (by omega) hP (by decide) (fun h2 => g_x12_added_20 ⟨fun _ => H J v ?_, fun w => absurd rfl w⟩) (fun k cs q w => g_x12_added_20 ⟨fun z => absurd z (by decide), fun _ => ?_⟩)⟩) (fun k cs q w => g_x12_added_11 ⟨fun _ => ?_, fun z => absurd (by decide) z⟩))
      · obtain ⟨b0, k, cs⟩ := r1
        cases b0 with
        | false => exact hP
        | true =>
          have e8 : mop2 (mkd b n k) = none := by unfold mop2; rw [if_neg (h0 k cs rfl), if_neg (h2 k cs rfl)]
          have e9 : mbind (true, k, cs) (mloop (mkd b n) mop2 one (a + 1)) = (true, k, cs) := by
            show mloop (mkd b n) mop2 one (a + 1) k cs = _
            unfold mloop
            rw [e8]
          rw [e9]
          exact hP
      · have e25 : J 67 25 = 45 := by rw [q] at hP; rw [rP_25 hP (by rw [w]; decide), w]
        rw [e25]
        exact ⟨fun _ => go (-26) 0 (Or.inr ⟨rfl, rfl⟩) k cs q (by rw [w]; rfl) (by rw [w]; decide) (by rw [w]; decide), fun z => absurd (by decide) z⟩
      · have e25 : J 67 25 = 43 := by rw [q] at hP; rw [rP_25 hP (by rw [w]; decide), w]
        rw [e25]
        exact ⟨fun z => absurd rfl z, fun _ => go (-25) 1 (Or.inl ⟨rfl, rfl⟩) k cs q (by rw [w]; rfl) (by rw [w]; decide) (by rw [w]; decide)⟩
  refine h1 d c g J r s _ (by omega) hP (fun J1 v h2 => g_x12_added_4 ?_)
  refine loop 160 0 _ J1 v _ _ (by omega) (fun k cs q => Nat.zero_le _) h2 (fun J2 w h3 => H J2 w ?_)
  rw [mbind_as] at h3
  exact h3
theorem r155 (hB : rB I b n t) {D : Nat} (hD : 4 ≤ D) {one : mF} (hg : mgk one) (h1 : rCt I b n o D 154 one) : rCt I b n o (D + 1) 155 (fun k cs => mbind (one k cs) (mloop (mkd b n) (mop1 (-9) (-22)) one 160)) := by
  intro e c g J r s Q he hP H
  obtain ⟨d, rfl⟩ : ∃ d, e = d + 1 := ⟨e - 1, by omega⟩
  refine zen rfl rfl (fun B Q1 hQ => g_x12_both_0 ?_)
  have H := fun J1 v h1 => hQ _ _ _ (H J1 v h1)
  have loop : ∀ (a i : Nat) (r1 : mP) (J : zI) (v : Int) (o2 : Option zV), i + a = 160 → mqk i r1 → rP I b n o (v :: s) r1 J → (∀ J1 w, rP I b n o (w :: s) (mbind r1 (mloop (mkd b n) (mop1 (-9) (-22)) one a)) J1 → Q1 (some (zi w)) (c, J1, zRg g)) → zRn (zcl d) 155 B Q1 5 [some (zr 67), some (zi v), o2] [] (c, J, zRg g) := by
    intro a
    induction a with
    | zero =>
      intro i r1 J v o2 hi hq hP H
      refine g_x12_both_5 (r147k (L := [97, 110, 100]) hB (by omega) hP mwk_and (fun _ => g_x12_both_20 ⟨fun _ => H J v ?_, fun w => absurd rfl w⟩) (fun k cs q w => absurd w ?_))
      · rw [show mbind r1 (mloop (mkd b n) (mop1 (-9) (-22)) one 0) = r1 from mbind_id r1]
        exact hP
      · rw [mkd_160 hB.2.1 (by have := hq k cs q; omega)]
        decide
    | succ a ih =>
      intro i r1 J v o2 hi hq hP H
      refine g_x12_both_5 (r147k (L := [97, 110, 100]) hB (by omega) hP mwk_and (fun h0 => g_x12_both_20 ⟨fun _ => H J v ?_, fun w => absurd rfl w⟩) (fun k cs q w => g_x12_both_20 ⟨fun w => absurd w (by decide), fun _ => ?_⟩))
      · obtain ⟨b0, k, cs⟩ := r1
        cases b0 with
        | false => exact hP
        | true =>
          have e8 : mop1 (-9) (-22) (mkd b n k) = none := by unfold mop1; rw [if_neg (h0 k cs rfl)]
          have e9 : mbind (true, k, cs) (mloop (mkd b n) (mop1 (-9) (-22)) one (a + 1)) = (true, k, cs) := by
            show mloop (mkd b n) (mop1 (-9) (-22)) one (a + 1) k cs = _
            unfold mloop
            rw [e8]
          rw [e9]
          exact hP
      · subst q
        have e8 : mop1 (-9) (-22) (mkd b n k) = some (-22) := by unfold mop1; rw [if_pos w]
        have e9 : mbind (true, k, cs) (mloop (mkd b n) (mop1 (-9) (-22)) one (a + 1)) = mbind (mbind (mbind (mbind (true, k, cs) mav) one) (mad (-22))) (mloop (mkd b n) (mop1 (-9) (-22)) one a) := by
          rw [mbind_as (mbind (mbind (true, k, cs) mav) one)]
          show mloop (mkd b n) (mop1 (-9) (-22)) one (a + 1) k cs = _
          conv => lhs; unfold mloop
          rw [e8]
          rfl
        rw [e9] at H
        refine r144p hB (by omega) hP (by rw [w]; decide) (by rw [w]; decide) (fun J2 h2 => g_x12_both_27 ?_)
        refine h1 d c g J2 _ _ _ (by omega) h2 (fun J3 x h3 => g_x12_both_31 ?_)
        have h4 := rP_ad (C := -22) h3 (by decide)
        have hq4 := mqk_ad (x := -22) (mqk_bind hg (mqk_av hq))
        have em : mo2 (-22) v x = if v ≠ 0 ∧ x ≠ 0 then 1 else 0 := rfl
        rw [em] at h4
        refine ⟨fun z => ?_, fun z => ⟨fun z1 => ?_, fun z1 => ?_⟩⟩
        · rw [if_neg (fun q => q.1 z)] at h4
          exact ih (i + 1) _ J3 _ _ (by omega) hq4 h4 H
        · rw [if_neg (fun q => q.2 z1)] at h4
          exact ih (i + 1) _ J3 _ _ (by omega) hq4 h4 H
        · rw [if_pos ⟨z, z1⟩] at h4
          exact ih (i + 1) _ J3 _ _ (by omega) hq4 h4 H
  refine h1 d c g J r s _ (by omega) hP (fun J1 v h2 => g_x12_both_4 ?_)
  refine loop 160 0 _ J1 v _ (by omega) (fun k cs q => Nat.zero_le _) h2 (fun J2 w h3 => H J2 w ?_)
  rw [mbind_as] at h3
  exact h3
theorem r156 (hB : rB I b n t) {D : Nat} (hD : 4 ≤ D) {one : mF} (hg : mgk one) (h1 : rCt I b n o D 155 one) : rCt I b n o (D + 1) 156 (fun k cs => mbind (one k cs) (mloop (mkd b n) (mop1 (-8) (-21)) one 160)) := by
  intro e c g J r s Q he hP H
  obtain ⟨d, rfl⟩ : ∃ d, e = d + 1 := ⟨e - 1, by omega⟩
  refine zen rfl rfl (fun B Q1 hQ => g_x12_either_0 ?_)
  have H := fun J1 v h1 => hQ _ _ _ (H J1 v h1)
  have loop : ∀ (a i : Nat) (r1 : mP) (J : zI) (v : Int) (o2 : Option zV), i + a = 160 → mqk i r1 → rP I b n o (v :: s) r1 J → (∀ J1 w, rP I b n o (w :: s) (mbind r1 (mloop (mkd b n) (mop1 (-8) (-21)) one a)) J1 → Q1 (some (zi w)) (c, J1, zRg g)) → zRn (zcl d) 156 B Q1 5 [some (zr 67), some (zi v), o2] [] (c, J, zRg g) := by
    intro a
    induction a with
    | zero =>
      intro i r1 J v o2 hi hq hP H
      refine g_x12_either_5 (r147k (L := [111, 114]) hB (by omega) hP mwk_or (fun _ => g_x12_either_19 ⟨fun _ => H J v ?_, fun w => absurd rfl w⟩) (fun k cs q w => absurd w ?_))
      · rw [show mbind r1 (mloop (mkd b n) (mop1 (-8) (-21)) one 0) = r1 from mbind_id r1]
        exact hP
      · rw [mkd_160 hB.2.1 (by have := hq k cs q; omega)]
        decide
    | succ a ih =>
      intro i r1 J v o2 hi hq hP H
      refine g_x12_either_5 (r147k (L := [111, 114]) hB (by omega) hP mwk_or (fun h0 => g_x12_either_19 ⟨fun _ => H J v ?_, fun w => absurd rfl w⟩) (fun k cs q w => g_x12_either_19 ⟨fun w => absurd w (by decide), fun _ => ?_⟩))
      · obtain ⟨b0, k, cs⟩ := r1
        cases b0 with
        | false => exact hP
        | true =>
          have e8 : mop1 (-8) (-21) (mkd b n k) = none := by unfold mop1; rw [if_neg (h0 k cs rfl)]
          have e9 : mbind (true, k, cs) (mloop (mkd b n) (mop1 (-8) (-21)) one (a + 1)) = (true, k, cs) := by
            show mloop (mkd b n) (mop1 (-8) (-21)) one (a + 1) k cs = _
            unfold mloop
            rw [e8]
          rw [e9]
          exact hP
      · subst q
        have e8 : mop1 (-8) (-21) (mkd b n k) = some (-21) := by unfold mop1; rw [if_pos w]
        have e9 : mbind (true, k, cs) (mloop (mkd b n) (mop1 (-8) (-21)) one (a + 1)) = mbind (mbind (mbind (mbind (true, k, cs) mav) one) (mad (-21))) (mloop (mkd b n) (mop1 (-8) (-21)) one a) := by
          rw [mbind_as (mbind (mbind (true, k, cs) mav) one)]
          show mloop (mkd b n) (mop1 (-8) (-21)) one (a + 1) k cs = _
          conv => lhs; unfold mloop
          rw [e8]
          rfl
        rw [e9] at H
        refine r144p hB (by omega) hP (by rw [w]; decide) (by rw [w]; decide) (fun J2 h2 => g_x12_either_26 ?_)
        refine h1 d c g J2 _ _ _ (by omega) h2 (fun J3 x h3 => g_x12_either_30 ?_)
        have h4 := rP_ad (C := -21) h3 (by decide)
        have hq4 := mqk_ad (x := -21) (mqk_bind hg (mqk_av hq))
        have em : mo2 (-21) v x = if v ≠ 0 ∨ x ≠ 0 then 1 else 0 := rfl
        rw [em] at h4
        refine ⟨fun z => ?_, fun z => ⟨fun z1 => ?_, fun z1 => ?_⟩⟩
        · rw [if_pos (Or.inl z)] at h4
          exact ih (i + 1) _ J3 _ _ (by omega) hq4 h4 H
        · rw [if_neg (fun q => q.elim z (fun q => q z1))] at h4
          exact ih (i + 1) _ J3 _ _ (by omega) hq4 h4 H
        · rw [if_pos (Or.inr z1)] at h4
          exact ih (i + 1) _ J3 _ _ (by omega) hq4 h4 H
  refine h1 d c g J r s _ (by omega) hP (fun J1 v h2 => g_x12_either_4 ?_)
  refine loop 160 0 _ J1 v _ (by omega) (fun k cs q => Nat.zero_le _) h2 (fun J2 w h3 => H J2 w ?_)
  rw [mbind_as] at h3
  exact h3
theorem r154 (hB : rB I b n t) (ho : 0 ≤ o ∧ o ≤ 5) {D : Nat} (hD : 4 ≤ D) {one nt : mF} (h1 : rCt I b n o D 153 (msum (mkd b n) one)) (hN : o < 5 → rCt I b n (o + 1) D 154 nt) (hN0 : ¬ o < 5 → ∀ k cs, nt (k + 1) cs = (false, k, cs)) : rCt I b n o (D + 1) 154 (mnot (mkd b n) one nt) := by
  intro e c g J r s Q he hP H
  obtain ⟨d, rfl⟩ : ∃ d, e = d + 1 := ⟨e - 1, by omega⟩
  refine zen rfl rfl (fun B Q1 hQ => g_x12_not_0 ?_)
  have H := fun J1 v h1 => hQ _ _ _ (H J1 v h1)
  have cmp : (∀ J1 v, rP I b n o (v :: s) (mbind (mbind r (msum (mkd b n) one)) (mcm (mkd b n) (msum (mkd b n) one))) J1 → Q1 (some (zi v)) (c, J1, zRg g)) → zcl d 153 0 0 [zr 67] (c, J, zRg g) (fun v h1 => zRn (zcl d) 154 B Q1 56 [some (zr 67), none, none, none] (zva v []) h1) := by
    intro H
    refine h1 d c g J r s _ (by omega) hP (fun J1 v hP1 => g_x12_not_56 ?_)
    generalize mbind r (msum (mkd b n) one) = r1 at H hP1
    have go : ∀ (C f : Int), (C = -23 ∧ f = 1 ∨ C = -24 ∧ f = 0) → ∀ k cs, r1 = (true, k, cs) → (mkd b n k = 60 ∨ mkd b n k = 61) → (if mkd b n k = 60 then (-23 : Int) else -24) = C → zcl d 144 0 0 [zr 67] (c, J1, zRg g) (fun v0 h1 => zRn (zcl d) 154 B Q1 98 [some (zr 67), some (zi v), some (zi f), none] (zva v0 []) h1) := by
      intro C f hC k cs q hk hCk
      subst q
      have e9 : mbind (true, k, cs) (mcm (mkd b n) (msum (mkd b n) one)) = mbind (mbind (mbind (true, k, cs) mav) (msum (mkd b n) one)) (mad C) := by
        show mcm (mkd b n) (msum (mkd b n) one) k cs = _
        unfold mcm
        rw [if_pos hk, hCk]
        rfl
      rw [e9] at H
      refine r144p hB (by omega) hP1 (by omega) (by omega) (fun J2 h2 => g_x12_not_98 ?_)
      refine h1 d c g J2 _ _ _ (by omega) h2 (fun J3 x h3 => g_x12_not_102 ?_)
      have h4 := rP_ad (C := C) h3 (by omega)
      rcases hC with ⟨rfl, rfl⟩ | ⟨rfl, rfl⟩
      · have em : mo2 (-23) v x = if v < x then 1 else 0 := rfl
        rw [em] at h4
        refine ⟨fun z => absurd z (by decide), fun _ => ⟨fun z => H J3 0 ?_, fun z => H J3 1 ?_⟩⟩
        · rw [if_neg (by omega)] at h4; exact h4
        · rw [if_pos (by omega)] at h4; exact h4
      · have em : mo2 (-24) v x = if v = x then 1 else 0 := rfl
        rw [em] at h4
        refine ⟨fun _ => ⟨fun z => H J3 0 ?_, fun z => H J3 1 ?_⟩, fun z => absurd rfl z⟩
        · rw [if_neg z] at h4; exact h4
        · rw [if_pos (Decidable.not_not.mp z)] at h4; exact h4
    refine r148 (by omega) hP1 (by decide) (fun h0 => g_x12_not_63 ⟨fun w => absurd rfl w, fun _ => r148 (by omega) hP1 (by decide) (fun h2 => g_x12_not_72 ⟨fun w => absurd rfl w, fun _ => H J1 v ?_⟩) (fun k cs q w => g_x12_not_72 ⟨fun _ => ?_, fun z => absurd (by decide) z⟩)⟩) (fun k cs q w => g_x12_not_63 ⟨fun _ => ?_, fun z => absurd (by decide) z⟩)
    · obtain ⟨b0, k, cs⟩ := r1
      cases b0 with
      | false => exact hP1
      | true =>
        have e9 : mbind (true, k, cs) (mcm (mkd b n) (msum (mkd b n) one)) = (true, k, cs) := by
          show mcm (mkd b n) (msum (mkd b n) one) k cs = _
          unfold mcm
          rw [if_neg (fun q => q.elim (h0 k cs rfl) (h2 k cs rfl))]
        rw [e9]
        exact hP1
    · have e25 : J1 67 25 = 61 := by rw [q] at hP1; rw [rP_25 hP1 (by rw [w]; decide), w]
      rw [e25]
      exact ⟨fun _ => go (-24) 0 (Or.inr ⟨rfl, rfl⟩) k cs q (Or.inr w) (by rw [w]; rfl), fun z => absurd (by decide) z⟩
    · have e25 : J1 67 25 = 60 := by rw [q] at hP1; rw [rP_25 hP1 (by rw [w]; decide), w]
      rw [e25]
      exact ⟨fun z => absurd rfl z, fun _ => go (-23) 1 (Or.inl ⟨rfl, rfl⟩) k cs q (Or.inl w) (by rw [w]; rfl)⟩
  refine r147k (L := [110, 111, 116]) hB (by omega) hP mwk_not (fun h0 => g_x12_not_15 ⟨fun _ => cmp (fun J1 v h2 => H J1 v ?_), fun w => absurd rfl w⟩) (fun k cs q w => g_x12_not_15 ⟨fun z => absurd z (by decide), fun _ => ?_⟩)
  · obtain ⟨b0, k, cs⟩ := r
    cases b0 with
    | false => exact h2
    | true =>
      have e9 : mbind (true, k, cs) (mnot (mkd b n) one nt) = mbind (mbind (true, k, cs) (msum (mkd b n) one)) (mcm (mkd b n) (msum (mkd b n) one)) := by
        show mnot (mkd b n) one nt k cs = _
        unfold mnot
        rw [if_neg (h0 k cs rfl)]
        rfl
      rw [e9]
      exact h2
  · subst q
    have e9 : mbind (true, k, cs) (mnot (mkd b n) one nt) = mbind (nt (k + 1) cs) (mad (-11)) := by
      show mnot (mkd b n) one nt k cs = _
      unfold mnot
      rw [if_pos w]
      rfl
    rw [e9] at H
    refine r149 hB (by omega) ho hP (by rw [w]; decide) (by rw [w]; decide) (fun ho5 J1 hJ1 => g_x12_not_22 ⟨fun z => absurd rfl z, fun _ => H J1 0 ?_⟩) (fun ho5 J1 hJ1 => g_x12_not_22 ⟨fun _ => ?_, fun z => absurd (by decide) z⟩)
    · rw [hN0 ho5]
      exact hJ1
    · refine hN ho5 d c g J1 _ _ _ (by omega) hJ1 (fun J3 x h3 => g_x12_not_31 ?_)
      have h4 := rP_open (o1 := o) (x := zwr (J3 67 26 - 1)) (rP_ad1 (C := -11) h3 (by decide) (by decide)) (fun q => by rw [q, zwr_eq (show zIn (o + 1 - 1) by omega)]; omega)
      have em : mo1 (-11) x = if x = 0 then 1 else 0 := rfl
      rw [em] at h4
      refine ⟨fun z => H _ 0 ?_, fun z => H _ 1 ?_⟩
      · rw [if_neg z] at h4; exact h4
      · rw [if_pos (Decidable.not_not.mp z)] at h4; exact h4
theorem r151 (hB : rB I b n t) (ho : 0 ≤ o ∧ o ≤ 5) {D : Nat} (hD : 4 ≤ D) {one nt : mF} (h1 : o < 5 → rCt I b n (o + 1) D 151 one ∧ rCt I b n (o + 1) D 156 (mors (mkd b n) nt)) (h0 : ¬ o < 5 → (∀ k cs, one (k + 1) cs = (false, k, cs)) ∧ ∀ k cs, mors (mkd b n) nt (k + 1) cs = (false, k, cs)) : rCt I b n o (D + 1) 151 (mone (mkd b n) (mvl b n) one nt) := by
  intro e c g J r s Q he hP H
  obtain ⟨d, rfl⟩ : ∃ d, e = d + 1 := ⟨e - 1, by omega⟩
  refine zen rfl rfl (fun B Q1 hQ => g_x12_atom_0 ?_)
  have H := fun J1 v h1 => hQ _ _ _ (H J1 v h1)
  refine r148 (by omega) hP (by decide) (fun n45 => g_x12_atom_8 ⟨fun _ => r148 (by omega) hP (by decide) (fun n40 => g_x12_atom_43 ⟨fun _ => ?_, fun z => absurd rfl z⟩) (fun k cs q w => g_x12_atom_43 ⟨fun z => absurd z (by decide), fun _ => ?_⟩), fun z => absurd rfl z⟩) (fun k cs q w => g_x12_atom_8 ⟨fun z => absurd z (by decide), fun _ => ?_⟩)
  · obtain ⟨b0, k, cs⟩ := r
    cases b0 with
    | false => exact ⟨fun u => ⟨fun _ => r145p (by omega) hP (fun J1 h2 => g_x12_atom_161 (H J1 _ h2)), fun z => absurd u z⟩, fun u => absurd (by rw [hP.2.1]; decide) u⟩
    | true =>
      have h27 : J 67 27 = 0 := hP.2.1
      have n45 := n45 k cs rfl
      have n40 := n40 k cs rfl
      have hT := tkc hP.2.2.2.1 mlx_nx.2
      have bad : ¬ (mkd b n k = -3 ∨ mkd b n k = -4) → mbind (true, k, cs) (mone (mkd b n) (mvl b n) one nt) = (false, k, cs) := by
        intro q
        show mone (mkd b n) (mvl b n) one nt k cs = _
        unfold mone
        rw [if_neg q, if_neg n45, if_neg n40]
      have good : (mkd b n k = -3 ∨ mkd b n k = -4) → mbind (true, k, cs) (mone (mkd b n) (mvl b n) one nt) = (true, k + 1, cs ++ [mvl b n k]) := by
        intro q
        show mone (mkd b n) (mvl b n) one nt k cs = _
        unfold mone
        rw [if_pos q]
      have put : ∀ (J1 : zI), (mkd b n k = -3 ∨ mkd b n k = -4) → rP I b n o s (true, k + 1, cs) J1 → rP I b n o ((if 0 ≤ mvl b n k then mvl b n k else rnm I (mvl b n k)) :: s) (true, k + 1, cs ++ [mvl b n k]) J1 := by
        intro J1 q h2
        obtain ⟨hF, a1, a2, a3, a4⟩ := h2
        refine ⟨hF, a1, a2, a3, ?_⟩
        rw [mrun_app, a4]
        exact mst_0 (mvl_6 k q)
      refine ⟨fun u => absurd h27 u, fun u => ⟨fun u2 => ⟨fun z => absurd h27 z, fun _ => ⟨fun u1 => r145p (by omega) hP (fun J1 h2 => g_x12_atom_161 (H J1 _ ?_)), fun u1 => ?_⟩⟩, fun u2 => ?_⟩⟩
      · rw [bad ?_]
        · exact h2
        · intro q
          rcases hT with w | w | w | w | w
          · omega
          · exact u1 w.1
          · exact u2 w.1
          · omega
          · omega
      · have u1 := Decidable.not_not.mp u1
        have hw : mpl b n k < n ∧ mlt (b (mpl b n k)) = true := by
          rcases hT with w | w | w | w | w
          · exact absurd (w.1.symm.trans u1) (by decide)
          · exact ⟨w.2.2.1, w.2.2.2⟩
          · exact absurd (w.1.symm.trans u1) (by decide)
          · exact absurd (w.1.symm.trans u1) (by decide)
          · exact absurd (w.1.symm.trans u1) (by decide)
        refine r150 hB (by omega) hP hw (fun n4 J1 hJ1 => g_x12_atom_142 ⟨fun _ => g_x12_atom_161 (H J1 0 ?_), fun z => absurd (by rw [hJ1.2.1]; decide) z⟩) (fun h4 => g_x12_atom_142 ⟨fun z => absurd h27 z, fun _ => r144p hB (by omega) hP (by rw [h4]; decide) (by rw [h4]; decide) (fun J1 h2 => g_x12_atom_154 (g_x12_atom_161 (H J1 _ ?_)))⟩)
        · rw [bad ?_]
          · exact hJ1
          · intro q
            have := mis_w hw.1 hw.2
            have h3 := mwd_r (mwl b (mpl b n k) (mhh b n (k + 1)))
            rw [← this.2.1] at h3
            omega
        · rw [good (Or.inr h4)]
          have h3 := put J1 (Or.inr h4) h2
          have := mkd_w4 hw.1 hw.2 h4
          rw [if_neg (by omega)] at h3
          exact h3
      · have u2 := Decidable.not_not.mp u2
        have hw : mkd b n k = -3 ∧ J 67 25 = mvl b n k := by
          rcases hT with w | w | w | w | w
          · exact absurd (w.1.symm.trans u2) (by decide)
          · exact absurd (w.1.symm.trans u2) (by decide)
          · exact ⟨w.2.2.1, w.2.2.2⟩
          · exact absurd (w.1.symm.trans u2) (by decide)
          · exact absurd (w.1.symm.trans u2) (by decide)
        have hv := mvl_num hw.1
        rw [hw.2, zwr_eq (show zIn (mvl b n k) by omega)]
        refine r144p hB (by omega) hP (by rw [hw.1]; decide) (by rw [hw.1]; decide) (fun J1 h2 => g_x12_atom_120 (g_x12_atom_161 (H J1 _ ?_)))
        rw [good (Or.inl hw.1)]
        have h3 := put J1 (Or.inl hw.1) h2
        rw [if_pos hv.1] at h3
        exact h3
  · subst q
    have n45 := n45 k cs rfl
    have e9 : mbind (true, k, cs) (mone (mkd b n) (mvl b n) one nt) = mbind (mors (mkd b n) nt (k + 1) cs) (mex (mkd b n) 41) := by
      show mone (mkd b n) (mvl b n) one nt k cs = _
      unfold mone
      rw [if_neg (by omega), if_neg n45, if_pos w]
      rfl
    rw [e9] at H
    refine r149 hB (by omega) ho hP (by rw [w]; decide) (by rw [w]; decide) (fun ho5 J1 hJ1 => g_x12_atom_50 ⟨fun _ => g_x12_atom_161 (H J1 _ ?_), fun z => absurd rfl z⟩) (fun ho5 J1 hJ1 => g_x12_atom_50 ⟨fun z => absurd z (by decide), fun _ => ?_⟩)
    · rw [(h0 ho5).2]
      exact hJ1
    · refine (h1 ho5).2 d c g J1 _ _ _ (by omega) hJ1 (fun J2 v h2 => g_x12_atom_57 ?_)
      have h2 : rP I b n (o + 1) (v :: s) (mors (mkd b n) nt (k + 1) cs) J2 := h2
      generalize mors (mkd b n) nt (k + 1) cs = r2 at h2 H
      refine r148 (by omega) h2 (by decide) (fun nx => g_x12_atom_64 ⟨fun z => absurd rfl z, fun _ => r145p (by omega) h2 (fun J3 h3 => g_x12_atom_71 ?_)⟩) (fun k2 c2 q2 w2 => g_x12_atom_64 ⟨fun _ => g_x12_atom_71 ?_, fun z => absurd (by decide) z⟩)
      · rw [mex_fa nx] at H
        have h27 : J3 67 27 = 1 := by
          obtain ⟨b0, k3, c3⟩ := r2
          cases b0 <;> exact h3.2.1
        exact ⟨fun _ => g_x12_atom_161 (H _ v (rP_open h3 (fun q => by rw [q, zwr_eq (show zIn (o + 1 - 1) by omega)]; omega))), fun z => absurd (by rw [h27]; decide) z⟩
      · subst q2
        have e10 : mbind (true, k2, c2) (mex (mkd b n) 41) = (true, k2 + 1, c2) := by
          show mex (mkd b n) 41 k2 c2 = _
          unfold mex
          rw [if_pos w2]
        rw [e10] at H
        exact ⟨fun z => absurd h2.2.1 z, fun _ => r144p hB (by omega) (rP_open h2 (fun q => by rw [q, zwr_eq (show zIn (o + 1 - 1) by omega)]; omega)) (by rw [w2]; decide) (by rw [w2]; decide) (fun J3 h3 => g_x12_atom_92 (g_x12_atom_161 (H J3 v h3)))⟩
  · subst q
    have e9 : mbind (true, k, cs) (mone (mkd b n) (mvl b n) one nt) = mbind (one (k + 1) cs) (mad (-12)) := by
      show mone (mkd b n) (mvl b n) one nt k cs = _
      unfold mone
      rw [if_neg (by omega), if_pos w]
      rfl
    rw [e9] at H
    refine r149 hB (by omega) ho hP (by rw [w]; decide) (by rw [w]; decide) (fun ho5 J1 hJ1 => g_x12_atom_15 ⟨fun _ => g_x12_atom_161 (H J1 _ ?_), fun z => absurd rfl z⟩) (fun ho5 J1 hJ1 => g_x12_atom_15 ⟨fun z => absurd z (by decide), fun _ => ?_⟩)
    · rw [(h0 ho5).1]
      exact hJ1
    · refine (h1 ho5).1 d c g J1 _ _ _ (by omega) hJ1 (fun J3 x h3 => g_x12_atom_22 (g_x12_atom_161 (H _ _ ?_)))
      exact rP_open (o1 := o) (x := zwr (J3 67 26 - 1)) (rP_ad1 (C := -12) h3 (by decide) (by decide)) (fun q => by rw [q, zwr_eq (show zIn (o + 1 - 1) by omega)]; omega)
theorem r_lev (hB : rB I b n t) : ∀ (r : Nat) (x : Int), r < 6 → x + r = 5 → rCt I b n x (6 * r + 5) 151 (mlev (mkd b n) (mvl b n) (r + 1)).1 ∧ rCt I b n x (6 * r + 8) 154 (mlev (mkd b n) (mvl b n) (r + 1)).2 ∧ rCt I b n x (6 * r + 10) 156 (mors (mkd b n) (mlev (mkd b n) (mvl b n) (r + 1)).2) := by
  have gl : ∀ r, mgk (mlev (mkd b n) (mvl b n) r).1 ∧ mgk (mlev (mkd b n) (mvl b n) r).2 ∧ mgk (mands (mkd b n) (mlev (mkd b n) (mvl b n) r).2) ∧ mgk (mterm (mkd b n) (mlev (mkd b n) (mvl b n) r).1) := by
    intro r
    have h := mgd_lev (kd := mkd b n) (vl := mvl b n) (nm := fun _ => 0) (mvl_6 (b := b) (n := n)) r
    exact ⟨fun k cs k1 c1 q => (h.1 k cs k1 c1 q).2.2.1, fun k cs k1 c1 q => (h.2 k cs k1 c1 q).2.2.1, fun k cs k1 c1 q => (mgd_ands h.2 k cs k1 c1 q).2.2.1, fun k cs k1 c1 q => (mgd_term h.1 k cs k1 c1 q).2.2.1⟩
  have up : ∀ {x : Int} {D D1 X : Nat} {f : mF}, D ≤ D1 → rCt I b n x D X f → rCt I b n x D1 X f := fun h h1 e c g J r s Q he => h1 e c g J r s Q (by omega)
  intro r
  induction r with
  | zero =>
    intro x _ hx
    have o : rCt I b n x 5 151 (mlev (mkd b n) (mvl b n) 1).1 := r151 hB (by omega) (D := 4) (by omega) (fun q => absurd q (by omega)) (fun _ => ⟨fun _ _ => rfl, fun _ _ => rfl⟩)
    have s : rCt I b n x 7 153 (msum (mkd b n) (mlev (mkd b n) (mvl b n) 1).1) := r153 hB (D := 6) (by omega) (gl 1).2.2.2 (r152 hB (D := 5) (by omega) (gl 1).1 o)
    have w : rCt I b n x 8 154 (mlev (mkd b n) (mvl b n) 1).2 := r154 hB (by omega) (D := 7) (by omega) s (fun q => absurd q (by omega)) (fun _ _ _ => rfl)
    exact ⟨o, w, r156 hB (D := 9) (by omega) (gl 1).2.2.1 (r155 hB (D := 8) (by omega) (gl 1).2.1 w)⟩
  | succ r ih =>
    intro x hr hx
    obtain ⟨i1, i2, i3⟩ := ih (x + 1) (by omega) (by omega)
    have o : rCt I b n x (6 * (r + 1) + 5) 151 (mlev (mkd b n) (mvl b n) (r + 2)).1 := r151 hB (by omega) (D := 6 * (r + 1) + 4) (by omega) (fun _ => ⟨up (by omega) i1, up (by omega) i3⟩) (fun q => absurd (by omega) q)
    have s : rCt I b n x (6 * (r + 1) + 7) 153 (msum (mkd b n) (mlev (mkd b n) (mvl b n) (r + 2)).1) := r153 hB (D := 6 * (r + 1) + 6) (by omega) (gl (r + 2)).2.2.2 (r152 hB (D := 6 * (r + 1) + 5) (by omega) (gl (r + 2)).1 o)
    have w : rCt I b n x (6 * (r + 1) + 8) 154 (mlev (mkd b n) (mvl b n) (r + 2)).2 := r154 hB (by omega) (D := 6 * (r + 1) + 7) (by omega) s (fun _ => up (by omega) i2) (fun q => absurd (by omega) q)
    exact ⟨o, w, r156 hB (D := 6 * (r + 1) + 9) (by omega) (gl (r + 2)).2.2.1 (r155 hB (D := 6 * (r + 1) + 8) (by omega) (gl (r + 2)).2.1 w)⟩
theorem r157 (hB : rB I b n t) {e : Nat} (he : 42 ≤ e) {c : Nat × Nat × Nat} {g : Nat} {Q : zQ} {key x : Int} (hk : key ≠ -1 ∧ key ≠ -2) {r : mP} {s : List Int} {J : zI} (h : rP I b n 0 s r J) (hx0 : x = 0 → ∀ k cs, r = (true, k, cs) → mkd b n k ≠ key) (hx1 : x ≠ 0 → ∃ k cs, r = (true, k, cs) ∧ mkd b n k = key) (H : ∀ J1 v, rP I b n 0 (v :: s) (mbind r (mpt b n key)) J1 → Q (some (zi v)) (c, J1, zRg g)) : zcl e 157 0 0 [zr 67, zi x] (c, J, zRg g) Q := by
  obtain ⟨d, rfl⟩ : ∃ d, e = d + 1 := ⟨e - 1, by omega⟩
  refine zen rfl rfl (fun B Q1 hQ => g_x12_part_0 ?_)
  have H := fun J1 v h1 => hQ _ _ _ (H J1 v h1)
  rw [mpt_eq] at H
  -- behind E
  have semi : ∀ (r2 : mP) (v : Int) (J2 : zI) (o2 : Option zV), rP I b n 0 (v :: s) r2 J2 → (∀ J1 v, rP I b n 0 (v :: s) (mbind r2 (mex (mkd b n) 59)) J1 → Q1 (some (zi v)) (c, J1, zRg g)) → zRn (zcl d) 157 B Q1 34 [some (zr 67), some (zi x), o2] [zi v] (c, J2, zRg g) := by
    intro r2 v J2 o2 h2 H
    refine g_x12_part_34 (r148 (by omega) h2 (by decide) (fun nx => g_x12_part_41 ⟨fun z => absurd rfl z, fun _ => r145p (by omega) h2 (fun J3 h3 => g_x12_part_48 ?_)⟩) (fun k2 c2 q2 w2 => g_x12_part_41 ⟨fun _ => g_x12_part_48 ?_, fun z => absurd (by decide) z⟩))
    · rw [mex_fa nx] at H
      have h27 : J3 67 27 = 1 := by
        obtain ⟨b0, k3, c3⟩ := r2
        cases b0 <;> exact h3.2.1
      exact ⟨fun _ => g_x12_part_59 (H _ v h3), fun z => absurd (by rw [h27]; decide) z⟩
    · subst q2
      have e10 : mbind (true, k2, c2) (mex (mkd b n) 59) = (true, k2 + 1, c2) := by
        show mex (mkd b n) 59 k2 c2 = _
        unfold mex
        rw [if_pos w2]
      rw [e10] at H
      exact ⟨fun z => absurd h2.2.1 z, fun _ => r144p hB (by omega) h2 (by rw [w2]; decide) (by rw [w2]; decide) (fun J3 h3 => g_x12_part_59 (H J3 v h3))⟩
  have body : ∀ (r1 : mP) (J1 : zI) (o2 : Option zV), rP I b n 0 s r1 J1 → (∀ J2 v, rP I b n 0 (v :: s) (mbind (mbind r1 (mE (mkd b n) (mvl b n))) (mex (mkd b n) 59)) J2 → Q1 (some (zi v)) (c, J2, zRg g)) → zRn (zcl d) 157 B Q1 19 [some (zr 67), some (zi x), o2] [] (c, J1, zRg g) := by
    intro r1 J1 o2 h1 H
    refine g_x12_part_19 ⟨fun u => (r_lev hB 5 0 (by omega) (by omega)).2.2 d c g J1 r1 s _ (by omega) h1 (fun J2 v h2 => semi _ v J2 _ h2 H), fun u => ?_⟩
    obtain ⟨b0, k, cs⟩ := r1
    cases b0 with
    | false => exact semi (false, k, cs) 0 J1 _ h1 H
    | true => exact absurd h1.2.1 u
  refine ⟨fun u => ?_, fun u => r145p (by omega) h (fun J1 h1 => g_x12_part_8 ?_)⟩
  · obtain ⟨k, cs, q, w⟩ := hx1 u
    subst q
    have e10 : mbind (true, k, cs) (mex (mkd b n) key) = (true, k + 1, cs) := by
      show mex (mkd b n) key k cs = _
      unfold mex
      rw [if_pos w]
    rw [e10] at H
    exact g_x12_part_8 ⟨fun z => absurd h.2.1 z, fun _ => r144p hB (by omega) h (by rw [w]; exact hk.1) (by rw [w]; exact hk.2) (fun J1 h1 => body _ J1 _ h1 H)⟩
  · have u := Decidable.not_not.mp u
    rw [mex_fa (hx0 u)] at H
    have h27 : J1 67 27 = 1 := by
      obtain ⟨b0, k3, c3⟩ := r
      cases b0 <;> exact h1.2.1
    exact ⟨fun _ => body _ J1 _ h1 H, fun z => absurd (by rw [h27]; decide) z⟩
end
end
