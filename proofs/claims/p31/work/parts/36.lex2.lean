section
/-! contracts: one token split off; the whole tape split -/
def mLx (I : zI) (b : Nat → Int) (n m : Nat) : Prop := I 62 5 = ((m + 1 : Nat) : Int) ∧ m ≤ 160 ∧ mkd b n m = -1 ∧ (∀ k, k < m → mkd b n k ≠ -1) ∧ ∀ k, k ≤ m → I 64 k = mkd b n k ∧ (mkd b n k = -3 ∨ mkd b n k = -4 → I 65 k = mvl b n k) ∧ I 66 k = mpl b n k
theorem madd_64 {I : zI} {k j : Nat} {x1 x2 x3 : Int} : madd I k x1 x2 x3 64 j = if j = k then x1 else I 64 j := by
  unfold madd
  rw [z2_n (Or.inl (by decide)), z2_n (Or.inl (by decide)), z2_n (Or.inl (by decide))]
  by_cases q : j = k
  · rw [q, z2_s, if_pos rfl]
  · rw [z2_n (Or.inr q), if_neg q]
theorem madd_65 {I : zI} {k j : Nat} {x1 x2 x3 : Int} : madd I k x1 x2 x3 65 j = if j = k then x2 else I 65 j := by
  unfold madd
  rw [z2_n (Or.inl (by decide)), z2_n (Or.inl (by decide))]
  by_cases q : j = k
  · rw [q, z2_s, if_pos rfl]
  · rw [z2_n (Or.inr q), if_neg q, z2_n (Or.inl (by decide))]
theorem madd_66 {I : zI} {k j : Nat} {x1 x2 x3 : Int} : madd I k x1 x2 x3 66 j = if j = k then x3 else I 66 j := by
  unfold madd
  rw [z2_n (Or.inl (by decide))]
  by_cases q : j = k
  · rw [q, z2_s, if_pos rfl]
  · rw [z2_n (Or.inr q), if_neg q, z2_n (Or.inl (by decide)), z2_n (Or.inl (by decide))]
theorem madd_o {I : zI} {k y : Nat} {x1 x2 x3 : Int} (q1 : y ≠ 62) (q2 : y ≠ 64) (q3 : y ≠ 65) (q4 : y ≠ 66) : madd I k x1 x2 x3 y = I y := by
  unfold madd
  rw [z2_r q1, z2_r q4, z2_r q3, z2_r q2]
theorem madd_62 {I : zI} {k j : Nat} {x1 x2 x3 : Int} (q : j ≠ 5) : madd I k x1 x2 x3 62 j = I 62 j := by
  unfold madd
  rw [z2_n (Or.inr q), z2_n (Or.inl (by decide)), z2_n (Or.inl (by decide)), z2_n (Or.inl (by decide))]
theorem madd_5 {I : zI} {k : Nat} {x1 x2 x3 : Int} : madd I k x1 x2 x3 62 5 = ((k + 1 : Nat) : Int) := z2_s
section
variable {d : Nat} {c : Nat × Nat × Nat} {I : zI} {g : Nat} {Q : zQ}
theorem k52 {k h n : Nat} (hn : I 62 1 = n) (h160 : n ≤ 160) (hk : I 62 5 = k) (h161 : k < 161) (hh : h < n) (H : ∀ v : Int, ((mto (I 63) n h).1 = -3 ∨ (mto (I 63) n h).1 = -4 → v = (mto (I 63) n h).2.1) → Q (some (zi (((mto (I 63) n h).2.2.2 : Nat) : Int))) (c, madd I k (mto (I 63) n h).1 v (h : Nat), zRg g)) : zcl (d + 4) 52 0 0 [zr 62, zi (h : Nat)] (c, I, zRg g) Q := by
  refine zen rfl rfl (fun B Q1 hQ => g_x7_splitOff_0 ⟨by omega, ?_⟩)
  have H := fun v hv => hQ _ _ _ (H v hv)
  have e0 : I 63 ((h : Nat) : Int).toNat = I 63 h := rfl
  rw [e0]
  have hto : mto (I 63) n h = if mlt (I 63 h) = true then ((mwd (mwl (I 63) h (msc mlt (I 63) (n - h) h))).1, (mwd (mwl (I 63) h (msc mlt (I 63) (n - h) h))).2, h, msc mlt (I 63) (n - h) h)
      else if mdg (I 63 h) = true then (if msc mdg (I 63) (n - h) h - h ≤ 4 then (-3, mnu (I 63) (msc mdg (I 63) (n - h) h - h) h 0, h, msc mdg (I 63) (n - h) h) else (-2, 0, h, msc mdg (I 63) (n - h) h))
      else if msg (I 63 h) = true then (I 63 h, 0, h, h + 1) else (-2, 0, h, h + 1) := by unfold mto; rw [if_neg (by omega)]
  have nlt : ¬ (97 ≤ I 63 h ∧ I 63 h ≤ 122) → ¬ mlt (I 63 h) = true := fun q w => q (of_decide_eq_true (p := 97 ≤ I 63 h ∧ I 63 h ≤ 122) w)
  have ndg : ¬ (48 ≤ I 63 h ∧ I 63 h ≤ 57) → ¬ mdg (I 63 h) = true := fun q w => q (of_decide_eq_true (p := 48 ≤ I 63 h ∧ I 63 h ≤ 57) w)
  have sg : ¬ (97 ≤ I 63 h ∧ I 63 h ≤ 122) → ¬ (48 ≤ I 63 h ∧ I 63 h ≤ 57) → zcl (d + 3) 55 0 0 [zi (I 63 h)] (c, I, zRg g) (fun v h1 => zRn (zcl (d + 3)) 52 B Q1 48 [some (zr 62), some (zi (h : Nat)), some (zi (I 63 h))] (zva v [zr 62]) h1) := by
    intro q1 q2
    have e : mto (I 63) n h = if msg (I 63 h) = true then (I 63 h, 0, h, h + 1) else (-2, 0, h, h + 1) := by rw [hto, if_neg (nlt q1), if_neg (ndg q2)]
    rw [e] at H
    refine k55 (fun u => g_x7_splitOff_48 ⟨fun _ => k51 hk h161 (g_x7_splitOff_62 ?_), fun w => absurd rfl w⟩) (fun u => g_x7_splitOff_48 ⟨fun w => absurd w (by decide), fun _ => k51 hk h161 (g_x7_splitOff_62 ?_)⟩)
    · rw [if_neg (by rw [u]; decide)] at H
      rw [z1p h (by omega)]
      exact H 0 (fun _ => rfl)
    · rw [if_pos u] at H
      rw [z1p h (by omega)]
      exact H 0 (fun _ => rfl)
  have nu : ¬ (97 ≤ I 63 h ∧ I 63 h ≤ 122) → 48 ≤ I 63 h ∧ I 63 h ≤ 57 → zcl (d + 3) 54 0 0 [zr 62, zi (h : Nat)] (c, I, zRg g) (fun v h1 => zRn (zcl (d + 3)) 52 B Q1 42 [some (zr 62), some (zi (h : Nat)), some (zi (I 63 h))] (zva v []) h1) := by
    intro q1 q2
    have e : mto (I 63) n h = if msc mdg (I 63) (n - h) h - h ≤ 4 then (-3, mnu (I 63) (msc mdg (I 63) (n - h) h - h) h 0, h, msc mdg (I 63) (n - h) h) else (-2, 0, h, msc mdg (I 63) (n - h) h) := by rw [hto, if_neg (nlt q1), if_pos (show mdg (I 63 h) = true from decide_eq_true q2)]
    rw [e] at H
    refine k54 hn h160 hk h161 hh (fun v hv => g_x7_splitOff_42 ?_)
    have H := H v
    by_cases q : msc mdg (I 63) (n - h) h - h ≤ 4
    · rw [if_pos q] at H ⊢
      exact H (fun _ => hv q)
    · rw [if_neg q] at H ⊢
      exact H (fun w => absurd (show (-2 : Int) = -3 ∨ (-2 : Int) = -4 from w) (by decide))
  have wd : 97 ≤ I 63 h ∧ I 63 h ≤ 122 → zcl (d + 3) 53 0 0 [zr 62, zi (h : Nat)] (c, I, zRg g) (fun v h1 => zRn (zcl (d + 3)) 52 B Q1 24 [some (zr 62), some (zi (h : Nat)), some (zi (I 63 h))] (zva v []) h1) := by
    intro q1
    have e := hto
    rw [if_pos (show mlt (I 63 h) = true from decide_eq_true q1)] at e
    rw [e] at H
    exact k53 hn h160 hk h161 hh (g_x7_splitOff_24 (H _ (fun _ => rfl)))
  refine ⟨fun u => ⟨fun u1 => sg (by omega) (by omega), fun u1 => ⟨fun u2 => sg (by omega) (by omega), fun u2 => nu (by omega) (by omega)⟩⟩, fun u => ⟨fun w => ⟨fun u1 => sg (by omega) (by omega), fun u1 => ⟨fun u2 => sg (by omega) (by omega), fun u2 => nu (by omega) (by omega)⟩⟩, fun w => wd (by omega)⟩⟩
theorem k50 {n : Nat} (hn : I 62 1 = n) (h160 : n ≤ 160) (H : ∀ J m, (∀ y, y ≠ 62 → y ≠ 64 → y ≠ 65 → y ≠ 66 → J y = I y) → (∀ j, j ≠ 5 → J 62 j = I 62 j) → mLx J (I 63) n m → Q none (c, J, zRg g)) : zcl (d + 5) 50 0 0 [zr 62] (c, I, zRg g) Q := by
  refine zen rfl rfl (fun B Q1 hQ => g_x7_split_0 ?_)
  have H := fun J m a b e => hQ _ _ _ (H J m a b e)
  have loop : ∀ (N h k : Nat) (J : zI) (o : Option zV), n ≤ h + N → h ≤ n → k ≤ h → (∀ y, y ≠ 62 → y ≠ 64 → y ≠ 65 → y ≠ 66 → J y = I y) → (∀ j, j ≠ 5 → J 62 j = I 62 j) → J 62 5 = k → mlx (I 63) n h = mlx (I 63) n (mhh (I 63) n k) → (∀ j, j < k → mkd (I 63) n j ≠ -1 ∧ J 64 j = mkd (I 63) n j ∧ (mkd (I 63) n j = -3 ∨ mkd (I 63) n j = -4 → J 65 j = mvl (I 63) n j) ∧ J 66 j = mpl (I 63) n j) → zRn (zcl (d + 4)) 50 B Q1 7 [some (zr 62), some (zi (h : Nat)), o] [] (c, J, zRg g) := by
    intro N
    induction N with
    | zero =>
      intro h k J o hN hh hkh f1 f2 hk hx ht
      obtain rfl : h = n := by omega
      have e1 : J 62 1 = h := by rw [f2 1 (by decide)]; exact hn
      rw [mlx_n (Nat.le_refl _)] at hx
      refine g_x7_split_7 ⟨fun _ => ?_, fun u => absurd (by rw [e1]; exact Int.le_refl _) u⟩
      rw [e1]
      refine k51 hk (by omega) (g_x7_split_78 (H _ k (fun y q1 q2 q3 q4 => by rw [madd_o q1 q2 q3 q4]; exact f1 y q1 q2 q3 q4) (fun j hj => by rw [madd_62 hj]; exact f2 j hj) ⟨madd_5, by omega, ?_, fun j hj => (ht j hj).1, fun j hj => ?_⟩))
      · unfold mkd
        rw [← hx]
      · rw [madd_64, madd_65, madd_66]
        by_cases q : j = k
        · have e3 : mkd (I 63) h k = -1 := by unfold mkd; rw [← hx]
          have e4 : mpl (I 63) h k = h := by unfold mpl; rw [← hx]
          rw [if_pos q, if_pos q, if_pos q, q, e3, e4]
          exact ⟨rfl, fun q => absurd q (by decide), rfl⟩
        · rw [if_neg q, if_neg q, if_neg q]
          exact (ht j (by omega)).2
    | succ N ih =>
      intro h k J o hN hh hkh f1 f2 hk hx ht
      by_cases hlt : h < n
      · have e1 : J 62 1 = n := by rw [f2 1 (by decide)]; exact hn
        have e63 : J 63 = I 63 := f1 63 (by decide) (by decide) (by decide) (by decide)
        have ee : J 63 ((h : Nat) : Int).toNat = I 63 h := by rw [e63]; rfl
        have bl : mbl (I 63 h) = true → ∀ o, zRn (zcl (d + 4)) 50 B Q1 7 [some (zr 62), some (zi (zwr ((h : Int) + 1))), o] [] (c, J, zRg g) := by
          intro q o
          rw [z1p h (by omega)]
          exact ih (h + 1) k J o (by omega) (by omega) (by omega) f1 f2 hk (by rw [← hx]; exact (mlx_bl q hlt).symm) ht
        refine g_x7_split_7 ⟨fun u => absurd u (by rw [e1]; omega), fun _ => ⟨by omega, ?_⟩⟩
        rw [ee]
        refine ⟨fun u => bl (decide_eq_true (Or.inl u)) _, fun u => ⟨by omega, fun w => ?_, fun w => bl (decide_eq_true (Or.inr (Decidable.not_not.mp w))) _⟩⟩
        have hnb : mbl (I 63 h) = false := decide_eq_false (fun q => q.elim u w)
        have em : mlx (I 63) n h = mto (I 63) n h := by unfold mlx; rw [msc_st hnb]
        obtain ⟨t1, t2, t3, t4⟩ := mto_lt (b := I 63) hlt
        refine k52 (I := J) e1 h160 hk (by omega) hlt (fun v hv => ?_)
        rw [e63] at hv ⊢
        refine g_x7_split_61 ?_
        rw [em] at hx
        have ez : zmx (zwr ((h : Int) + 1)) (((mto (I 63) n h).2.2.2 : Nat) : Int) = (((mto (I 63) n h).2.2.2 : Nat) : Int) := by
          rw [z1p h (by omega)]
          generalize (mto (I 63) n h).2.2.2 = E at t2
          clear hx em hv
          unfold zmx
          split <;> omega
        rw [ez]
        have e3 : mkd (I 63) n k = (mto (I 63) n h).1 := by unfold mkd; rw [← hx]
        have e4 : mpl (I 63) n k = h := by unfold mpl; rw [← hx]; exact t4
        have e5 : mvl (I 63) n k = (mto (I 63) n h).2.1 := by unfold mvl; rw [← hx]
        have e6 : mhh (I 63) n (k + 1) = (mto (I 63) n h).2.2.2 := by
          show (mlx (I 63) n (mhh (I 63) n k)).2.2.2 = _
          rw [← hx]
        have hmm : mlx (I 63) n (mto (I 63) n h).2.2.2 = mlx (I 63) n (mhh (I 63) n (k + 1)) := by rw [e6]
        generalize mto (I 63) n h = T at hv t1 t2 t3 e3 e5 hmm ⊢
        clear hx em e6 ez
        refine ih T.2.2.2 (k + 1) _ _ (by omega) t3 (by omega) (fun y q1 q2 q3 q4 => by rw [madd_o q1 q2 q3 q4]; exact f1 y q1 q2 q3 q4) (fun j hj => by rw [madd_62 hj]; exact f2 j hj) madd_5 hmm (fun j hj => ?_)
        rw [madd_64, madd_65, madd_66]
        by_cases q : j = k
        · rw [if_pos q, if_pos q, if_pos q, q, e3, e4, e5]
          exact ⟨t1, rfl, hv, rfl⟩
        · rw [if_neg q, if_neg q, if_neg q]
          exact ht j (by omega)
      · exact ih h k J o (by omega) hh hkh f1 f2 hk hx ht
  exact loop n 0 0 _ none (by omega) (by omega) (by omega) (fun y q1 _ _ _ => z2_r q1) (fun j hj => z2_n (Or.inr hj)) z2_s rfl (fun j hj => absurd hj (by omega))
end
end

