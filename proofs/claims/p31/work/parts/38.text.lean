section
/-! contracts: a text is read -/
theorem mcs_mco {f : Nat → Int} : ∀ (B A C : List Int), mco f (A ++ (B ++ C)) → mcs f B.length A.length = B
  | [], _, _, _ => rfl
  | x :: B, A, C, h => by
    have h1 := h A.length (by rw [List.length_append, List.length_append, List.length_cons]; omega)
    rw [List.cons_append, zgt_app] at h1
    have h2 := mcs_mco B (A ++ [x]) C (by rw [List.append_assoc]; exact h)
    rw [List.length_append] at h2
    show f A.length :: mcs f B.length (A.length + 1) = x :: B
    rw [h1]
    exact congrArg (x :: ·) h2
def mnx (L : List Int) (r : mP) : List Int := match r with
  | (true, _, cs) => L ++ cs
  | (false, _, _) => L
def mr0 (r : mP) : mP := (r.1, r.2.1, [])
def mpS (b : Nat → Int) (n m t : Nat) (L : List Int) (r : mP) (J : zI) : Prop := mLx J b n m ∧ mpP J b n m t L r J ∧ mqs L 0 r
theorem mLx_of {I J : zI} {b : Nat → Int} {n m : Nat} (h : mLx I b n m) (e5 : J 62 5 = I 62 5) (e64 : J 64 = I 64) (e65 : J 65 = I 65) (e66 : J 66 = I 66) : mLx J b n m := by
  obtain ⟨h1, h2, h3, h4, h5⟩ := h
  refine ⟨e5.trans h1, h2, h3, h4, fun k hk => ?_⟩
  rw [e64, e65, e66]
  exact h5 k hk
theorem mgl_pt {b : Nat → Int} {n : Nat} {key : Int} (h : key ≠ -1) : mgl (mpt b n key) := fun k cs k1 c1 q => (mgd_part (nm := fun _ => 0) (mvl_6 (b := b) (n := n)) h k cs k1 c1 q).2.1
section
variable {c : Nat × Nat × Nat} {Q : zQ} {b : Nat → Int} {n m t : Nat} {L : List Int}
theorem p39s (ht : t < 6) {key : Int} (h1 : key ≠ -1) (h2 : key ≠ -2) {q : Nat} (hq : q < 3) {e : Nat} (he : 40 ≤ e) {r : mP} {J : zI} (hS : mpS b n m t L r J) (H : ∀ J1, (∀ y, y ≠ 62 → y ≠ 44 + 3 * t → y ≠ 45 + 3 * t → y ≠ 46 + 3 * t → J1 y = J y) → (∀ j, j ≠ 6 → j ≠ 7 → j ≠ 8 → J1 62 j = J 62 j) → (∀ j, j ≠ q → J1 (46 + 3 * t) j = J (46 + 3 * t) j) → J1 (46 + 3 * t) q = J1 (44 + 3 * t) 2 → mpS b n m t (mnx L (mbind r (mpt b n key))) (mr0 (mbind r (mpt b n key))) J1 → Q none (c, J1, zRg (44 + 3 * t))) : zcl e 39 0 0 [zr 62, zi key, zi (q : Nat)] (c, J, zRg (44 + 3 * t)) Q := by
  obtain ⟨hL, hP, hs⟩ := hS
  refine p39 hL ht h1 h2 hq he hP hs (fun J0 h0 => H _ (fun y q1 q2 q3 q4 => ?_) (fun j q1 q2 q3 => ?_) (fun j q1 => ?_) ?_ ?_)
  · rw [z2_r q4]; exact h0.1.1 y q1 q2 q3
  · rw [z2_n (Or.inl (by omega))]; exact h0.1.2.1 j q1 q2 q3
  · rw [z2_n (Or.inr q1), h0.1.1 _ (by omega) (by omega) (by omega)]
  · rw [z2_s, z2_n (Or.inl (by omega))]
  · have hs1 := mqs_bind (mgl_pt (b := b) (n := n) h1) hs
    generalize mbind r (mpt b n key) = r1 at h0 hs1 ⊢
    have hF := h0.1
    refine ⟨mLx_of hL ?_ ?_ ?_ ?_, ⟨⟨fun _ _ _ _ => rfl, fun _ _ _ _ => rfl, ?_⟩, ?_⟩, ?_⟩
    · rw [z2_n (Or.inl (by omega))]; exact hF.2.1 5 (by decide) (by decide) (by decide)
    · rw [z2_r (by omega)]; exact hF.1 64 (by decide) (by omega) (by omega)
    · rw [z2_r (by omega)]; exact hF.1 65 (by decide) (by omega) (by omega)
    · rw [z2_r (by omega)]; exact hF.1 66 (by decide) (by omega) (by omega)
    · rw [z2_n (Or.inl (by omega))]; exact hF.2.2
    · obtain ⟨b0, k, cs⟩ := r1
      cases b0 with
      | false =>
        show z2 J0 (46 + 3 * t) q (J0 (44 + 3 * t) 2) 62 7 = -2 ∧ z2 J0 (46 + 3 * t) q (J0 (44 + 3 * t) 2) 62 8 = (mpl b n k : Nat)
        rw [z2_n (Or.inl (by omega)), z2_n (Or.inl (by omega))]
        exact h0.2
      | true =>
        obtain ⟨-, a1, a2, a3, a4, a5, a6⟩ := h0
        show z2 J0 (46 + 3 * t) q (J0 (44 + 3 * t) 2) 62 6 = (k : Int) ∧ z2 J0 (46 + 3 * t) q (J0 (44 + 3 * t) 2) 62 7 = mkd b n k ∧ z2 J0 (46 + 3 * t) q (J0 (44 + 3 * t) 2) 62 8 = -1 ∧ z2 J0 (46 + 3 * t) q (J0 (44 + 3 * t) 2) (44 + 3 * t) 2 = (((L ++ cs) ++ []).length : Nat) ∧ mco (z2 J0 (46 + 3 * t) q (J0 (44 + 3 * t) 2) (45 + 3 * t)) ((L ++ cs) ++ []) ∧ k ≤ m
        rw [z2_n (Or.inl (by omega)), z2_n (Or.inl (by omega)), z2_n (Or.inl (by omega)), z2_n (Or.inl (by omega)), z2_r (by omega), List.append_nil]
        exact ⟨a1, a2, a3, a4, a5, a6⟩
    · intro k cs q1
      obtain ⟨b0, k0, c0⟩ := r1
      cases b0 with
      | false => cases q1
      | true =>
        cases q1
        have := hs1 k0 c0 rfl
        show (L ++ c0).length + ([] : List Int).length + 0 ≤ k0
        rw [List.length_append]
        simp only [List.length_nil]
        omega
end
section
variable {d : Nat} {c : Nat × Nat × Nat} {I : zI} {g : Nat} {Q : zQ}
set_option maxHeartbeats 400000 in
theorem k38 {t n : Nat} (ht : t < 6) (hn : I 62 1 = n) (h160 : n ≤ 160)
    (H1 : ∀ J k c0 c1 c2, (∀ y, y ≠ 62 → y ≠ 64 → y ≠ 65 → y ≠ 66 → y ≠ 44 + 3 * t → y ≠ 45 + 3 * t → y ≠ 46 + 3 * t → J y = I y) → J 62 1 = 0 → mtext (mkd (I 63) n) (mvl (I 63) n) = (true, k, c0, c1, c2) → mXo J t → mX J t 0 = c0 → mX J t 1 = c1 → mX J t 2 = c2 → Q (some (zi (-1))) (c, J, zRg (44 + 3 * t)))
    (H0 : ∀ J k, (∀ y, y ≠ 62 → y ≠ 64 → y ≠ 65 → y ≠ 66 → y ≠ 44 + 3 * t → y ≠ 45 + 3 * t → y ≠ 46 + 3 * t → J y = I y) → J 62 1 = 0 → mtext (mkd (I 63) n) (mvl (I 63) n) = (false, k, [], [], []) → Q (some (zi ((mpl (I 63) n k : Nat) : Int))) (c, J, zRg (44 + 3 * t))) : zcl (d + 42) 38 0 0 [zr 62, zr (44 + 3 * t)] (c, I, zRg g) Q := by
  refine zen rfl rfl (fun B Q1 hQ => g_x7_readInto_0 (g_x7_readInto_5 ⟨(mT_0 ht).1, ?_⟩))
  have H1 := fun J k c0 c1 c2 a1 a2 a3 a4 a5 a6 a7 => hQ _ _ _ (H1 J k c0 c1 c2 a1 a2 a3 a4 a5 a6 a7)
  have H0 := fun J k a1 a2 a3 => hQ _ _ _ (H0 J k a1 a2 a3)
  refine k50 (n := n) (by rw [z2_n (Or.inl (by omega))]; exact hn) h160 (fun J m f1 f2 hL => g_x7_readInto_17 ?_)
  rw [z2_r (show 63 ≠ 44 + 3 * t by omega)] at hL
  generalize hb : I 63 = b at hL H1 H0
  have g1 : ∀ y, y ≠ 62 → y ≠ 64 → y ≠ 65 → y ≠ 66 → y ≠ 44 + 3 * t → J y = I y := fun y q1 q2 q3 q4 q5 => by rw [f1 y q1 q2 q3 q4, z2_r q5]
  have e44 : J (44 + 3 * t) 2 = 0 := by rw [f1 _ (by omega) (by omega) (by omega) (by omega), z2_s]
  have e64 : J 64 0 = mkd b n 0 := (hL.2.2.2.2 0 (Nat.zero_le _)).1
  have hS0 : mpS b n m t [] (true, 0, []) (z2 (z2 (z2 J 62 8 (-1)) 62 6 0) 62 7 (J 64 0)) := by
    refine ⟨mLx_of hL ?_ ?_ ?_ ?_, ⟨⟨fun _ _ _ _ => rfl, fun _ _ _ _ => rfl, ?_⟩, ?_, ?_, ?_, ?_, ?_, Nat.zero_le _⟩, fun k cs q => by cases q; exact Nat.le_refl _⟩
    · rw [z2_n (Or.inr (by decide)), z2_n (Or.inr (by decide)), z2_n (Or.inr (by decide))]
    · rw [z2_r (by decide), z2_r (by decide), z2_r (by decide)]
    · rw [z2_r (by decide), z2_r (by decide), z2_r (by decide)]
    · rw [z2_r (by decide), z2_r (by decide), z2_r (by decide)]
    · rw [z2_n (Or.inl (by omega)), z2_n (Or.inl (by omega)), z2_n (Or.inl (by omega)), e44]; omega
    · rw [z2_n (Or.inr (by decide)), z2_s]; rfl
    · rw [z2_s]; exact e64
    · rw [z2_n (Or.inr (by decide)), z2_n (Or.inr (by decide)), z2_s]
    · rw [z2_n (Or.inl (by omega)), z2_n (Or.inl (by omega)), z2_n (Or.inl (by omega)), e44]; rfl
    · exact fun i hi => absurd hi (Nat.not_lt_zero _)
  have g2 : ∀ y, y ≠ 62 → y ≠ 64 → y ≠ 65 → y ≠ 66 → y ≠ 44 + 3 * t → z2 (z2 (z2 J 62 8 (-1)) 62 6 0) 62 7 (J 64 0) y = I y := fun y q1 q2 q3 q4 q5 => by rw [z2_r q1, z2_r q1, z2_r q1]; exact g1 y q1 q2 q3 q4 q5
  generalize z2 (z2 (z2 J 62 8 (-1)) 62 6 0) 62 7 (J 64 0) = J0 at hS0 g2
  clear hL e64 e44 g1 f1 f2
  refine p39s (q := 0) ht (by decide) (by decide) (by omega) (by omega) hS0 (fun J1 a1 a2 a3 a4 hS1 => g_x7_readInto_44 ?_)
  refine p39s (q := 1) ht (by decide) (by decide) (by omega) (by omega) hS1 (fun J2 b1 b2 b3 b4 hS2 => g_x7_readInto_51 ?_)
  refine p39s (q := 2) ht (by decide) (by decide) (by omega) (by omega) hS2 (fun J3 d1 d2 d3 d4 hS3 => g_x7_readInto_58 ?_)
  refine p47e hS3.1 ht (by omega) hS3.2.1 (fun J4 h4 => g_x7_readInto_63 ?_)
  have fr : ∀ y, y ≠ 62 → y ≠ 64 → y ≠ 65 → y ≠ 66 → y ≠ 44 + 3 * t → y ≠ 45 + 3 * t → y ≠ 46 + 3 * t → z2 J4 62 1 0 y = I y := by
    intro y q1 q2 q3 q4 q5 q6 q7
    rw [z2_r q1, h4.1.1 y q1 q5 q6, d1 y q1 q5 q6 q7, b1 y q1 q5 q6 q7, a1 y q1 q5 q6 q7]
    exact g2 y q1 q2 q3 q4 q5
  have H0 := fun k (e : mtext (mkd b n) (mvl b n) = (false, k, [], [], [])) => H0 (z2 J4 62 1 0) k fr z2_s e
  have H1 := fun k c0 c1 c2 (e : mtext (mkd b n) (mvl b n) = (true, k, c0, c1, c2)) => H1 (z2 J4 62 1 0) k c0 c1 c2 fr z2_s e
  have c1e : mbind (true, 0, []) (mpt b n (-5)) = mpart (mkd b n) (mvl b n) (-5) 0 [] := rfl
  rw [c1e] at hS1 hS2 hS3 h4
  unfold mtext at H0 H1
  generalize mpart (mkd b n) (mvl b n) (-5) 0 [] = r1 at hS1 hS2 hS3 h4 H0 H1
  obtain ⟨v1, k1, c0⟩ := r1
  cases v1 with
  | false =>
    have e8 : J4 62 8 = (mpl b n k1 : Nat) := h4.2.2
    rw [e8]
    exact H0 k1 rfl
  | true =>
    have c2e : mbind (mr0 (true, k1, c0)) (mpt b n (-6)) = mpart (mkd b n) (mvl b n) (-6) k1 [] := rfl
    rw [c2e] at hS2 hS3 h4
    simp only at H0 H1
    generalize mpart (mkd b n) (mvl b n) (-6) k1 [] = r2 at hS2 hS3 h4 H0 H1
    obtain ⟨v2, k2, c1⟩ := r2
    cases v2 with
    | false =>
      have e8 : J4 62 8 = (mpl b n k2 : Nat) := h4.2.2
      rw [e8]
      exact H0 k2 rfl
    | true =>
      have c3e : mbind (mr0 (true, k2, c1)) (mpt b n (-7)) = mpart (mkd b n) (mvl b n) (-7) k2 [] := rfl
      rw [c3e] at hS3 h4
      simp only at H0 H1
      generalize mpart (mkd b n) (mvl b n) (-7) k2 [] = r3 at hS3 h4 H0 H1
      obtain ⟨v3, k3, c2⟩ := r3
      cases v3 with
      | false =>
        have e8 : J4 62 8 = (mpl b n k3 : Nat) := h4.2.2
        rw [e8]
        exact H0 k3 rfl
      | true =>
        simp only at H0 H1
        have c4e : mbind (mr0 (true, k3, c2)) (fun k cs => if mkd b n k = -1 then (true, k, cs) else (false, k, cs)) = if mkd b n k3 = -1 then (true, k3, []) else (false, k3, []) := rfl
        rw [c4e] at h4
        by_cases hk : mkd b n k3 = -1
        · rw [if_pos hk] at h4 H1
          have e8 : J4 62 8 = -1 := h4.2.2.2.1
          have z1 : J1 (44 + 3 * t) 2 = ((([] ++ c0) ++ []).length : Nat) := hS1.2.1.2.2.2.2.1
          have z2' : J2 (44 + 3 * t) 2 = (((([] ++ c0) ++ c1) ++ []).length : Nat) := hS2.2.1.2.2.2.2.1
          have z3 : J3 (44 + 3 * t) 2 = ((((([] ++ c0) ++ c1) ++ c2) ++ []).length : Nat) := hS3.2.1.2.2.2.2.1
          have z4 := hS3.2.1.1.2.2
          have zc : mco (J4 (45 + 3 * t)) (((([] ++ c0) ++ c1) ++ c2) ++ []) := h4.2.2.2.2.2.1
          rw [List.append_nil, List.nil_append] at z1 z2' z3 zc
          have t46 : J4 (46 + 3 * t) = J3 (46 + 3 * t) := h4.1.1 _ (by omega) (by omega) (by omega)
          have t0 : J4 (46 + 3 * t) 0 = (c0.length : Nat) := by rw [t46, d3 0 (by decide), b3 0 (by decide), a4, z1]
          have t1 : J4 (46 + 3 * t) 1 = (c0.length + c1.length : Nat) := by rw [t46, d3 1 (by decide), b4, z2', List.length_append]
          have t2 : J4 (46 + 3 * t) 2 = (c0.length + c1.length + c2.length : Nat) := by rw [t46, d4, z3, List.length_append, List.length_append]
          rw [z3, List.length_append, List.length_append] at z4
          have x0 : mcs (J4 (45 + 3 * t)) c0.length 0 = c0 := mcs_mco c0 [] (c1 ++ c2) (by rw [List.nil_append, ← List.append_assoc]; exact zc)
          have x1 : mcs (J4 (45 + 3 * t)) c1.length c0.length = c1 := mcs_mco c1 c0 c2 (by rw [← List.append_assoc]; exact zc)
          have x2 : mcs (J4 (45 + 3 * t)) c2.length (c0 ++ c1).length = c2 := mcs_mco c2 (c0 ++ c1) [] (by rw [List.append_nil]; exact zc)
          rw [List.length_append] at x2
          have u45 : z2 J4 62 1 0 (45 + 3 * t) = J4 (45 + 3 * t) := z2_r (by omega)
          have u46 : z2 J4 62 1 0 (46 + 3 * t) = J4 (46 + 3 * t) := z2_r (by omega)
          rw [e8]
          refine H1 k3 c0 c1 c2 rfl ?_ ?_ ?_ ?_
          · unfold mXo
            rw [u46, t0, t1, t2]
            omega
          · show mcs (z2 J4 62 1 0 (45 + 3 * t)) ((z2 J4 62 1 0 (46 + 3 * t) 0).toNat - 0) 0 = c0
            rw [u45, u46, t0]
            exact x0
          · show mcs (z2 J4 62 1 0 (45 + 3 * t)) ((z2 J4 62 1 0 (46 + 3 * t) 1).toNat - (z2 J4 62 1 0 (46 + 3 * t) 0).toNat) (z2 J4 62 1 0 (46 + 3 * t) 0).toNat = c1
            rw [u45, u46, t0, t1, Int.toNat_natCast, Int.toNat_natCast, Nat.add_sub_cancel_left]
            exact x1
          · show mcs (z2 J4 62 1 0 (45 + 3 * t)) ((z2 J4 62 1 0 (46 + 3 * t) 2).toNat - (z2 J4 62 1 0 (46 + 3 * t) 1).toNat) (z2 J4 62 1 0 (46 + 3 * t) 1).toNat = c2
            rw [u45, u46, t1, t2, Int.toNat_natCast, Int.toNat_natCast, Nat.add_sub_cancel_left]
            exact x2
        · rw [if_neg hk] at h4 H0
          have e8 : J4 62 8 = (mpl b n k3 : Nat) := h4.2.2
          rw [e8]
          exact H0 k3 rfl
end
end

