/-! contracts: tells, film -/
def mtv (I : zI) (s one : Nat) (what : Int) : Int :=
  if what = 0 then mfo (mX I) (mK 2 I) one (I (37 + 2 * s)) (I (36 + 2 * s) 2).toNat 0
  else if what = 1 then msb (mso (mX I) (mK 2 I) (I (37 + 2 * s)) (I (36 + 2 * s) 2).toNat one 5) 6
  else if what = 2 then msb (mso (mX I) (mK 2 I) (I (37 + 2 * s)) (I (36 + 2 * s) 2).toNat one 1) 10
  else if what = 3 then mcn (mso (mX I) (mK 2 I) (I (37 + 2 * s)) (I (36 + 2 * s) 2).toNat one 3) 100
  else if what = 4 then mls (mso (mX I) (mK 2 I) (I (37 + 2 * s)) (I (36 + 2 * s) 2).toNat one 3) 100
  else if what = 5 then mcn (mso (mX I) (mK 2 I) (I (37 + 2 * s)) (I (36 + 2 * s) 2).toNat one 2) 1024
  else if what = 6 then mls (mso (mX I) (mK 2 I) (I (37 + 2 * s)) (I (36 + 2 * s) 2).toNat one 2) 1024
  else if what = 7 then msb (mso (mX I) (mK 2 I) (I (37 + 2 * s)) (I (36 + 2 * s) 2).toNat one 9) (I 0 7).toNat
  else msb (mso (mX I) (mK 2 I) (I (37 + 2 * s)) (I (36 + 2 * s) 2).toNat one 10) (I 2 2).toNat
theorem mok_put {K : zI} (h : mok K) {p j : Nat} {v : Int} (hv : (j = 0 → 0 ≤ v ∧ v ≤ 5) ∧ (j = 1 → 0 ≤ v ∧ v ≤ 9) ∧ (j = 2 → mR v) ∧ (j = 3 → 0 ≤ v ∧ v ≤ 99) ∧ (j = 4 → 0 ≤ v ∧ v ≤ 99)) : mok (z2 K (3 + p) j v) := by
  refine ⟨by rw [z2_n (Or.inl (by omega))]; exact h.1, fun q hq => ?_⟩
  rw [z2_n (Or.inl (by omega))] at hq
  obtain ⟨a0, a1, a2, a3, a4⟩ := h.2 q hq
  by_cases e : q = p
  · subst e
    have key : ∀ k, z2 K (3 + q) j v (3 + q) k = if k = j then v else K (3 + q) k := by
      intro k
      by_cases w : k = j
      · rw [w, z2_s, if_pos rfl]
      · rw [z2_n (Or.inr w), if_neg w]
    rw [key, key, key, key, key]
    obtain ⟨v0, v1, v2, v3, v4⟩ := hv
    refine ⟨?_, ?_, ?_, ?_, ?_⟩
    · split
      · rename_i w; exact v0 w.symm
      · exact a0
    · split
      · rename_i w; exact v1 w.symm
      · exact a1
    · split
      · rename_i w; exact v2 w.symm
      · exact a2
    · split
      · rename_i w; exact v3 w.symm
      · exact a3
    · split
      · rename_i w; exact v4 w.symm
      · exact a4
  · have key : ∀ k, z2 K (3 + p) j v (3 + q) k = K (3 + q) k := fun k => z2_n (Or.inl (by omega))
    rw [key, key, key, key, key]
    exact ⟨a0, a1, a2, a3, a4⟩
section
variable {d : Nat} {c : Nat × Nat × Nat} {I : zI} {g : Nat} {Q : zQ}
/-- what may be put is as it should be -/
theorem mvary_ok {K : zI} (hK : mok K) (hr : 0 ≤ K 0 6 ∧ K 0 6 < 6) {one N : Nat} {va : Int} (hone : (one : Int) < K 0 2) (ho : mXo I (K 0 6).toNat) (hT : va = 9 → N ≤ 6 ∧ ∀ t, t < N → mXo I t) (hv : va = 9 ∨ (va = 10 ∧ (N : Int) ≤ K 0 2) ∨ (va = 5 ∧ N ≤ 6) ∨ (va = 1 ∧ N ≤ 10) ∨ (va = 2 ∧ N ≤ 1024) ∨ (va = 3 ∧ N ≤ 100)) (v : Nat) (hN : v < N) :
    mok (mvary K one va (v : Int)) ∧ (0 ≤ mvary K one va (v : Int) 0 6 ∧ mvary K one va (v : Int) 0 6 < 6) ∧ mXo I (mvary K one va (v : Int) 0 6).toNat ∧ ((mwho one va v : Nat) : Int) < K 0 2 := by
  rcases hv with h | h | h | h | h | h
  · obtain ⟨t1, t2⟩ := hT h
    have e : mvary K one va (v : Int) = z2 K 0 6 (v : Int) := if_pos h
    have ew : mwho one va v = one := if_neg (by omega)
    rw [e, ew, z2_s]
    refine ⟨⟨by rw [z2_n (Or.inr (by decide))]; exact hK.1, fun q hq => ?_⟩, by omega, t2 v hN, hone⟩
    rw [z2_n (Or.inr (by decide))] at hq
    rw [z2_r (by omega)]
    exact hK.2 q hq
  · have e : mvary K one va (v : Int) = K := by unfold mvary; rw [if_neg (by omega), if_pos h.1]
    have ew : mwho one va v = v := if_pos h.1
    rw [e, ew]
    exact ⟨hK, hr, ho, by omega⟩
  all_goals
    have ew : mwho one va v = one := if_neg (by omega)
    have e : mvary K one va (v : Int) = z2 K (3 + one) (mfi va) (v : Int) := by unfold mvary; rw [if_neg (by omega), if_neg (by omega)]
    rw [e, ew, z2_n (Or.inl (by omega))]
    refine ⟨mok_put hK ?_, hr, ho, hone⟩
    obtain ⟨h1, h2⟩ := h
    subst h1
  · refine ⟨fun _ => by omega, fun q => absurd q (by decide), fun q => absurd q (by decide), fun q => absurd q (by decide), fun q => absurd q (by decide)⟩
  · refine ⟨fun q => absurd q (by decide), fun _ => by omega, fun q => absurd q (by decide), fun q => absurd q (by decide), fun q => absurd q (by decide)⟩
  · refine ⟨fun q => absurd q (by decide), fun q => absurd q (by decide), fun _ => by omega, fun q => absurd q (by decide), fun q => absurd q (by decide)⟩
  · refine ⟨fun q => absurd q (by decide), fun q => absurd q (by decide), fun q => absurd q (by decide), fun _ => by omega, fun q => absurd q (by decide)⟩
theorem k_suit {J : zI} (hW : mW 2 I) (hF : mFr I J) (hl : mlk (mK 2 I) (mK 18 J)) {s : Nat} (hs : s < 4) {e : Nat} (he : I (36 + 2 * s) 2 = e) (he4 : e ≤ 10) {one N : Nat} {va x5 : Int} (hone : (one : Int) < I 2 2) (hT : va = 9 → N ≤ 6 ∧ ∀ t, t < N → mXo I t) (hv : va = 9 ∨ (va = 10 ∧ (N : Int) ≤ I 2 2) ∨ (va = 5 ∧ N ≤ 6) ∨ (va = 1 ∧ N ≤ 10) ∨ (va = 2 ∧ N ≤ 1024) ∨ (va = 3 ∧ N ≤ 100))
    (H : ∀ J, mFr I J → Q (some (zi (if x5 = 0 then msb (mso (mX I) (mK 2 I) (I (37 + 2 * s)) e one va) N else if x5 = 1 then mcn (mso (mX I) (mK 2 I) (I (37 + 2 * s)) e one va) N else mls (mso (mX I) (mK 2 I) (I (37 + 2 * s)) e one va) N))) (c, J, zRg g)) : zcl (d + 7) 114 0 0 [zr 0, zr (36 + 2 * s), zi (one : Nat), zi va, zi (N : Nat), zi x5] (c, J, zRg g) Q := by
  obtain ⟨w, hw⟩ := mvary_own (K := mK 2 I) (one := one) (va := va)
  have h5 : I 2 2 ≤ 5 := hW.2.1.1.2
  refine zen rfl rfl (fun B Q1 hQ => g_x11_suiting_0 ?_)
  exact l_suit (K := mK 2 I) hW.2.1 hW.2.2.1 hs he he4 (N := N) (by omega) hone (by omega) (fun v hN => mvary_ok hW.2.1 hW.2.2.2.1 hone hW.2.2.2.2 hT hv v hN) (fun J1 h1 => hQ _ _ _ (H J1 h1)) N 0 J w _ (by omega) hF (by rw [hw]; exact hl)
theorem k_suit0 {J : zI} (hW : mW 2 I) (hF : mFr I J) (hl : mlk (mK 2 I) (mK 18 J)) {s : Nat} (hs : s < 4) {e : Nat} (he : I (36 + 2 * s) 2 = e) (he4 : e ≤ 10) {one N : Nat} {va : Int} (hone : (one : Int) < I 2 2) (hT : va = 9 → N ≤ 6 ∧ ∀ t, t < N → mXo I t) (hv : va = 9 ∨ (va = 10 ∧ (N : Int) ≤ I 2 2) ∨ (va = 5 ∧ N ≤ 6) ∨ (va = 1 ∧ N ≤ 10) ∨ (va = 2 ∧ N ≤ 1024) ∨ (va = 3 ∧ N ≤ 100))
    (H : ∀ J, mFr I J → Q (some (zi (msb (mso (mX I) (mK 2 I) (I (37 + 2 * s)) e one va) N))) (c, J, zRg g)) : zcl (d + 7) 114 0 0 [zr 0, zr (36 + 2 * s), zi (one : Nat), zi va, zi (N : Nat), zi 0] (c, J, zRg g) Q :=
  k_suit hW hF hl hs he he4 hone hT hv (fun J h => by rw [if_pos rfl]; exact H J h)
theorem k_suit1 {J : zI} (hW : mW 2 I) (hF : mFr I J) (hl : mlk (mK 2 I) (mK 18 J)) {s : Nat} (hs : s < 4) {e : Nat} (he : I (36 + 2 * s) 2 = e) (he4 : e ≤ 10) {one N : Nat} {va : Int} (hone : (one : Int) < I 2 2) (hT : va = 9 → N ≤ 6 ∧ ∀ t, t < N → mXo I t) (hv : va = 9 ∨ (va = 10 ∧ (N : Int) ≤ I 2 2) ∨ (va = 5 ∧ N ≤ 6) ∨ (va = 1 ∧ N ≤ 10) ∨ (va = 2 ∧ N ≤ 1024) ∨ (va = 3 ∧ N ≤ 100))
    (H : ∀ J, mFr I J → Q (some (zi (mcn (mso (mX I) (mK 2 I) (I (37 + 2 * s)) e one va) N))) (c, J, zRg g)) : zcl (d + 7) 114 0 0 [zr 0, zr (36 + 2 * s), zi (one : Nat), zi va, zi (N : Nat), zi 1] (c, J, zRg g) Q :=
  k_suit hW hF hl hs he he4 hone hT hv (fun J h => by rw [if_neg (by decide), if_pos rfl]; exact H J h)
theorem k_suit2 {J : zI} (hW : mW 2 I) (hF : mFr I J) (hl : mlk (mK 2 I) (mK 18 J)) {s : Nat} (hs : s < 4) {e : Nat} (he : I (36 + 2 * s) 2 = e) (he4 : e ≤ 10) {one N : Nat} {va : Int} (hone : (one : Int) < I 2 2) (hT : va = 9 → N ≤ 6 ∧ ∀ t, t < N → mXo I t) (hv : va = 9 ∨ (va = 10 ∧ (N : Int) ≤ I 2 2) ∨ (va = 5 ∧ N ≤ 6) ∨ (va = 1 ∧ N ≤ 10) ∨ (va = 2 ∧ N ≤ 1024) ∨ (va = 3 ∧ N ≤ 100))
    (H : ∀ J, mFr I J → Q (some (zi (mls (mso (mX I) (mK 2 I) (I (37 + 2 * s)) e one va) N))) (c, J, zRg g)) : zcl (d + 7) 114 0 0 [zr 0, zr (36 + 2 * s), zi (one : Nat), zi va, zi (N : Nat), zi 2] (c, J, zRg g) Q :=
  k_suit hW hF hl hs he he4 hone hT hv (fun J h => by rw [if_neg (by decide), if_neg (by decide)]; exact H J h)
theorem x_tells {x1 x2 x3 : Int} (hW : mW 2 I) (h8 : 0 ≤ I 2 3 ∧ I 2 3 ≤ 8) (h40 : ∀ s, s < 4 → 0 ≤ I (36 + 2 * s) 2 ∧ I (36 + 2 * s) 2 ≤ 40) (h6 : 0 ≤ I 0 7 ∧ I 0 7 ≤ 6) (hT : ∀ t : Nat, (t : Int) < I 0 7 → mXo I t)
    (Hb : ¬ ((0 ≤ x1 ∧ x1 < 4) ∧ (0 ≤ x2 ∧ x2 < I 2 2) ∧ 0 ≤ x3 ∧ x3 ≤ 8) → Q (some (zi (-2))) (c, I, zRg g)) (Hm : (0 ≤ x1 ∧ x1 < 4) → (0 ≤ x2 ∧ x2 < I 2 2) → 0 ≤ x3 → x3 ≤ 8 → I (36 + 2 * x1.toNat) 1 = -1 → Q (some (zi (-11))) (c, I, zRg g)) (Hl : (0 ≤ x1 ∧ x1 < 4) → (0 ≤ x2 ∧ x2 < I 2 2) → 0 ≤ x3 → x3 ≤ 8 → I (36 + 2 * x1.toNat) 1 ≠ -1 → 10 < I (36 + 2 * x1.toNat) 2 → Q (some (zi (-2))) (c, I, zRg g))
    (H : (0 ≤ x1 ∧ x1 < 4) → (0 ≤ x2 ∧ x2 < I 2 2) → 0 ≤ x3 → x3 ≤ 8 → I (36 + 2 * x1.toNat) 1 ≠ -1 → I (36 + 2 * x1.toNat) 2 ≤ 10 → ∀ J, mFr I J → Q (some (zi (mtv I x1.toNat x2.toNat x3))) (c, J, zRg g)) : zcl (d + 8) 113 0 0 [zr 0, zi x1, zi x2, zi x3] (c, I, zRg g) Q := by
  refine zen rfl rfl (fun B Q1 hQ => g_x11_tells_0 (k_isSheet (g_x11_tells_4 ⟨fun u => hQ _ _ _ (Hb (fun q => mbo_0.mp u q.1)), fun u => k_isThere mB2 (g_x11_tells_15 (y1 := 36 + 2 * x1.toNat) ⟨fun v => hQ _ _ _ (Hb (fun q => mbo_0.mp v q.2.1)), fun v => ⟨fun w => hQ _ _ _ (Hb (fun q => by omega)), fun w => ⟨fun w1 => ?_, fun w1 => hQ _ _ _ (Hb (fun q => by omega))⟩⟩⟩)⟩)))
  have u := mbo_n0.mp u
  have v := mbo_n0.mp v
  have hs : x1.toNat < 4 := by omega
  have s8 := (mS_0 hs).1
  have h4 := h40 _ hs
  refine ⟨u, (mX_s hs).1, by rw [s8]; rfl, k60 hs (g_x11_tells_44 ⟨fun z => ⟨s8, fun z1 => ?_, fun z1 => hQ _ _ _ (Hl u v (by omega) w1 (mbo_0.mp z) (by omega))⟩, fun z => hQ _ _ _ (Hm u v (by omega) w1 (mbo_n0.mp z))⟩)⟩
  have H := fun J hJ => hQ _ _ _ (H u v (by omega) w1 (mbo_0.mp z) z1 J hJ)
  refine k_become (a := 18) (b := 2) (Or.inr (Or.inr rfl)) mB2 (by decide) hW.2.1.1 h8 (fun J h1 h2 => ?_)
  have hF : mFr I J := mFr_th h1
  have ex2 : x2 = ((x2.toNat : Nat) : Int) := by omega
  have hone : ((x2.toNat : Nat) : Int) < I 2 2 := by omega
  have he : I (36 + 2 * x1.toNat) 2 = (((I (36 + 2 * x1.toNat) 2).toNat : Nat) : Int) := by omega
  have he4 : (I (36 + 2 * x1.toNat) 2).toNat ≤ 10 := by omega
  have e7 : J 0 7 = (((I 0 7).toNat : Nat) : Int) := by rw [h1 0 (by decide)]; omega
  have e2 : J 18 2 = (((I 2 2).toNat : Nat) : Int) := by rw [show J 18 2 = I 2 2 from (h2.1 2 (by decide) (by decide)).symm]; omega
  have no9 : ∀ va : Int, va ≠ 9 → ∀ N : Nat, va = 9 → N ≤ 6 ∧ ∀ t, t < N → mXo I t := fun va h N q => absurd q h
  unfold mtv at H
  rw [ex2]
  generalize x2.toNat = one at H hone ⊢
  refine g_x11_tells_74 ⟨fun y => k_firstOther hF h2 hW.2.1 hW.2.2.1 hW.2.2.2.1 hW.2.2.2.2 hs he he4 hone (fun J1 h3 => g_x11_tells_127 ?_), fun y => ⟨fun y1 => k_suit0 (N := 6) hW hF h2 hs he he4 hone (no9 _ (by decide) _) (by omega) (fun J1 h3 => g_x11_tells_139 ?_), fun y1 => ⟨fun y2 => k_suit0 (N := 10) hW hF h2 hs he he4 hone (no9 _ (by decide) _) (by omega) (fun J1 h3 => g_x11_tells_151 ?_), fun y2 => ⟨fun y3 => k_suit1 (N := 100) hW hF h2 hs he he4 hone (no9 _ (by decide) _) (by omega) (fun J1 h3 => g_x11_tells_163 ?_), fun y3 => ⟨fun y4 => k_suit2 (N := 100) hW hF h2 hs he he4 hone (no9 _ (by decide) _) (by omega) (fun J1 h3 => g_x11_tells_175 ?_), fun y4 => ⟨fun y5 => k_suit1 (N := 1024) hW hF h2 hs he he4 hone (no9 _ (by decide) _) (by omega) (fun J1 h3 => g_x11_tells_188 ?_), fun y5 => ⟨fun y6 => k_suit2 (N := 1024) hW hF h2 hs he he4 hone (no9 _ (by decide) _) (by omega) (fun J1 h3 => g_x11_tells_201 ?_), fun y6 => ⟨fun y7 => ?_, fun y7 => ?_⟩⟩⟩⟩⟩⟩⟩⟩
  · have H := H J1 (hF.tr h3.F)
    rw [if_pos y] at H
    exact H
  · have H := H J1 h3
    rw [if_neg y, if_pos y1] at H
    exact H
  · have H := H J1 h3
    rw [if_neg y, if_neg y1, if_pos y2] at H
    exact H
  · have H := H J1 h3
    rw [if_neg y, if_neg y1, if_neg y2, if_pos y3] at H
    exact H
  · have H := H J1 h3
    rw [if_neg y, if_neg y1, if_neg y2, if_neg y3, if_pos y4] at H
    exact H
  · have H := H J1 h3
    rw [if_neg y, if_neg y1, if_neg y2, if_neg y3, if_neg y4, if_pos y5] at H
    exact H
  · have H := H J1 h3
    rw [if_neg y, if_neg y1, if_neg y2, if_neg y3, if_neg y4, if_neg y5, if_pos y6] at H
    exact H
  · rw [e7]
    refine k_suit0 (N := (I 0 7).toNat) hW hF h2 hs he he4 hone (fun _ => ⟨by omega, fun t ht => hT t (by omega)⟩) (Or.inl rfl) (fun J1 h3 => g_x11_tells_216 ?_)
    have H := H J1 h3
    rw [if_neg y, if_neg y1, if_neg y2, if_neg y3, if_neg y4, if_neg y5, if_neg y6, if_pos y7] at H
    exact H
  · rw [e2]
    refine k_suit0 (N := (I 2 2).toNat) hW hF h2 hs he he4 hone (no9 _ (by decide) _) (by omega) (fun J1 h3 => g_x11_tells_234 ?_)
    have H := H J1 h3
    rw [if_neg y, if_neg y1, if_neg y2, if_neg y3, if_neg y4, if_neg y5, if_neg y6, if_neg y7] at H
    exact H
-- film
theorem m_i2s {x : Int} (hx : mR x) : zi2s x = x := m_all (P := fun x => zi2s x = x) (by decide +kernel) hx
def mfl (I : zI) (p : Nat) (i : Nat) : Bool := decide (mOne I p (zshl 1 (i : Int)) = zshl 1 (i : Int))
theorem x_film {x1 x2 : Int} (hW : mW 2 I) (Hb : ¬ ((0 ≤ x1 ∧ x1 < 4) ∧ (0 ≤ x2 ∧ x2 < I 2 2)) → Q (some (zi (-2))) (c, I, zRg g))
    (H : (0 ≤ x1 ∧ x1 < 4) → (0 ≤ x2 ∧ x2 < I 2 2) → ∀ J, (∀ y, y ≠ 27 → y ≠ 36 + 2 * x1.toNat → y ≠ 37 + 2 * x1.toNat → J y = I y) → J (36 + 2 * x1.toNat) 1 = 1 → J (36 + 2 * x1.toNat) 2 = 10 → (∀ i : Nat, i < 10 → J (37 + 2 * x1.toNat) i = mOne I x2.toNat (zshl 1 (i : Int))) → Q (some (zi (mcn (mfl I x2.toNat) 10))) (c, J, zRg g)) : zcl (d + 6) 117 0 0 [zr 0, zi x1, zi x2] (c, I, zRg g) Q := by
  refine zen rfl rfl (fun B Q1 hQ => g_x11_film_0 (k_isSheet (g_x11_film_4 ⟨fun u => hQ _ _ _ (Hb (fun q => mbo_0.mp u q.1)), fun u => k_isThere mB2 (g_x11_film_15 (y1 := 36 + 2 * x1.toNat) ⟨fun v => ?_, fun v => hQ _ _ _ (Hb (fun q => mbo_0.mp (Decidable.not_not.mp v) q.2))⟩)⟩)))
  have u := mbo_n0.mp u
  have v := mbo_n0.mp v
  have hs : x1.toNat < 4 := by omega
  have s8 := (mS_0 hs).1
  have H := fun J a b e f => hQ _ _ _ (H u v J a b e f)
  have h5 : I 2 2 ≤ 5 := hW.2.1.1.2
  have hp : x2.toNat < 5 := by omega
  have hp2 : ((x2.toNat : Nat) : Int) < I 2 2 := by omega
  refine ⟨u, (mX_s hs).1, by rw [s8]; rfl, k62 hs (by omega) (fun J1 f1 f2 f3 f4 => g_x11_film_38 ?_)⟩
  have loop : ∀ (n i : Nat) (J : zI) (o : Option zV), i + n = 10 → (∀ y, y ≠ 27 → y ≠ 36 + 2 * x1.toNat → y ≠ 37 + 2 * x1.toNat → J y = I y) → J (36 + 2 * x1.toNat) 1 = 1 → J (36 + 2 * x1.toNat) 2 = 10 → (∀ j, j < i → J (37 + 2 * x1.toNat) j = mOne I x2.toNat (zshl 1 (j : Int))) → zRn (zcl (d + 5)) 117 B Q1 41 [some (zr 0), some (zi x1), some (zi x2), some (zr (36 + 2 * x1.toNat)), some (zi (mcn (mfl I x2.toNat) i)), some (zi (i : Nat)), o] [] (c, J, zRg g) := by
    intro n
    induction n with
    | zero =>
      intro i J o hi a1 a2 a3 a4
      obtain rfl : i = 10 := by omega
      exact g_x11_film_41 (y1 := 0) ⟨fun _ => H J a1 a2 a3 a4, fun w => absurd (by omega) w⟩
    | succ n ih =>
      intro i J o hi a1 a2 a3 a4
      have hsh : mR (zshl 1 (i : Int)) := m_shl (by omega) (by omega)
      have hK2 : ∀ y, y < 8 → J (2 + y) = I (2 + y) := fun y hy => a1 _ (by omega) (by omega) (by omega)
      have hE : mEq (mK 2 I) (mK 2 J) := fun y hy => (hK2 y hy).symm
      have hX : mX J = mX I := by
        funext t q
        unfold mX mX0
        rw [a1 (46 + 3 * t) (by omega) (by omega) (by omega), a1 (45 + 3 * t) (by omega) (by omega) (by omega)]
      have hXo : ∀ t, mXo I t → mXo J t := by
        intro t o
        unfold mXo
        rw [a1 (46 + 3 * t) (by omega) (by omega) (by omega)]
        exact o
      have eJ2 : J 2 = I 2 := hK2 0 (by omega)
      have hWJ : mW 2 J := by
        obtain ⟨b1, b2, b3⟩ := hW.K.E hE
        exact ⟨mB2, b1, b2, b3, by rw [eJ2]; exact hXo _ hW.2.2.2.2⟩
      have hr := mcn_r (mfl I x2.toNat) i
      have hi6 : i < 1000000 := by omega
      refine g_x11_film_41 (y1 := 2 + (3 + x2.toNat)) ⟨fun w => absurd w (by omega), fun _ => ⟨by omega, (mP2 hp).1, k_telling hWJ (by rw [eJ2]; exact hp2) hsh (fun J2 h2 => ?_)⟩⟩
      have et : mtell (mX J) (mK 2 J) x2.toNat (zshl 1 (i : Int)) = mOne I x2.toNat (zshl 1 (i : Int)) := by
        rw [hX]
        exact (mtell_lk (hE.lk h5) (fun _ => rfl) hp2 _).symm
      rw [et]
      have hR := mOne_R hW hp2 hsh
      refine g_x11_film_69 ⟨by rw [s8]; rfl, k63 hs (by omega) (g_x11_film_79 ?_)⟩
      have e36 : J2 (36 + 2 * x1.toNat) = J (36 + 2 * x1.toNat) := h2 _ (by omega)
      have em : mcv (J2 (36 + 2 * x1.toNat) 1) (mOne I x2.toNat (zshl 1 (i : Int))) = mOne I x2.toNat (zshl 1 (i : Int)) := by
        rw [e36, a2]
        unfold mcv
        rw [if_neg (by decide), if_pos rfl]
        exact m_i2s hR
      rw [em, show ((i : Nat) : Int).toNat = i from rfl, z1p i hi6]
      have ihh := fun o => ih (i + 1) (z2 J2 (37 + 2 * x1.toNat) i (mOne I x2.toNat (zshl 1 (i : Int)))) o (by omega) (fun y q1 q2 q3 => by rw [z2_r q3, h2 y q1]; exact a1 y q1 q2 q3) (by rw [z2_n (Or.inl (by omega)), e36]; exact a2) (by rw [z2_n (Or.inl (by omega)), e36]; exact a3) (fun j hj => by
        by_cases q : j = i
        · rw [q, z2_s]
        · rw [z2_n (Or.inr q), h2 _ (by omega)]; exact a4 j (by omega))
      have em1 : mcn (mfl I x2.toNat) (i + 1) = if mfl I x2.toNat i = true then mcn (mfl I x2.toNat) i + 1 else mcn (mfl I x2.toNat) i := rfl
      rw [em1] at ihh
      refine ⟨fun w => ?_, fun w => ?_⟩
      · rw [if_neg (show ¬ mfl I x2.toNat i = true from fun q => w (of_decide_eq_true q))] at ihh
        exact ihh _
      · rw [if_pos (show mfl I x2.toNat i = true from decide_eq_true (Decidable.not_not.mp w))] at ihh
        rw [zwr_eq (show zIn (mcn (mfl I x2.toNat) i + 1) by omega)]
        exact ihh _
  exact loop 10 0 J1 _ (by omega) (fun y _ q2 q3 => f1 y q2 q3) f2 f3 (fun j hj => absurd hj (by omega))
end

