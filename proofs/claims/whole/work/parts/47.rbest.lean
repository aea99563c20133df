section
/-! the reference: to and fro, from, learn, the mean -/
/-- what stays where the reference only asks its people -/
def nG (I J : zI) : Prop := (∀ y, y ≠ 67 → y ≠ 74 → J y = I y) ∧ ∀ j, j ≠ 31 → j ≠ 32 → j ≠ 33 → (j < 14 ∨ 28 < j) → J 67 j = I 67 j
theorem nG.rf (I : zI) : nG I I := ⟨fun _ _ _ => rfl, fun _ _ _ _ _ => rfl⟩
theorem nG.tr {I J K : zI} (h : nG I J) (h1 : nG J K) : nG I K := ⟨fun y a b => (h1.1 y a b).trans (h.1 y a b), fun j a b d e => (h1.2 j a b d e).trans (h.2 j a b d e)⟩
theorem nA.G {I J : zI} (h : nA I J) : nG I J := ⟨fun y a _ => h.1 y a, fun j _ _ _ q => h.2 j q⟩
theorem nG.F {I J : zI} (h : nG I J) : nF I J := ⟨fun y a _ _ _ b => h.1 y a b, h.2, fun j _ => by rw [h.1 71 (by decide) (by decide)], fun j _ => by rw [h.1 72 (by decide) (by decide)]⟩
theorem nG.K {I J : zI} (h : nG I J) : nK J = nK I := by
  funext x j
  unfold nK
  rw [h.2 9 (by decide) (by decide) (by decide) (by decide), h.2 11 (by decide) (by decide) (by decide) (by decide), h.2 7 (by decide) (by decide) (by decide) (by decide), h.2 12 (by decide) (by decide) (by decide) (by decide), h.2 4 (by decide) (by decide) (by decide) (by decide), h.2 13 (by decide) (by decide) (by decide) (by decide), h.1 72 (by decide) (by decide), h.1 71 (by decide) (by decide)]
theorem nG.T {I J : zI} (h : nG I J) : nT J = nT I := h.F.T
theorem nG.W {I J : zI} (h : nG I J) (hW : nW I) : nW J := by
  obtain ⟨h1, h2, h3, h4⟩ := hW
  refine ⟨by rw [h.K]; exact h1, by rw [h.2 7 (by decide) (by decide) (by decide) (by decide)]; exact h2, by rw [h.2 4 (by decide) (by decide) (by decide) (by decide)]; exact h3, ?_⟩
  rw [h.2 4 (by decide) (by decide) (by decide) (by decide)]
  exact h.F.Xo h4
def nAll (I : zI) (x : Int) : Int := mall (nT I) (nK I) (I 67 9).toNat 0 x
def nOne (I : zI) (p : Nat) (x : Int) : Int := mtell (nT I) (nK I) p x
theorem nAll_G {I J : zI} (h : nG I J) : nAll J = nAll I := by
  funext x
  unfold nAll
  rw [h.K, h.T, h.2 9 (by decide) (by decide) (by decide) (by decide)]
theorem nOne_G {I J : zI} (h : nG I J) : nOne J = nOne I := by
  funext p x
  unfold nOne
  rw [h.K, h.T]
theorem nAll_R {I : zI} (hW : nW I) {x : Int} (hx : mR x) : mR (nAll I x) := by
  have h9 := hW.n9
  exact mall_R hW.1 _ 0 (by show ((0 + (I 67 9).toNat : Nat) : Int) ≤ I 67 9; omega) hx
theorem nOne_R {I : zI} (hW : nW I) {p : Nat} (hp : (p : Int) < I 67 9) {x : Int} (hx : mR x) : mR (nOne I p x) := mtell_R hW.1 hp hx
theorem nit_R {I : zI} (hW : nW I) {x : Int} (hx : mR x) : ∀ n, mR (mit (nAll I) x n)
  | 0 => hx
  | n + 1 => nAll_R hW (nit_R hW hx n)
section
variable {c : Nat × Nat × Nat} {I : zI} {g : Nat} {Q : zQ}
theorem r_all {e : Nat} (he : 54 ≤ e) (hW : nW I) {J : zI} (hG : nG I J) {x : Int} (hx : mR x) (H : ∀ J1, nG I J1 → J1 74 = J 74 → J1 67 31 = J 67 31 → J1 67 32 = J 67 32 → J1 67 33 = J 67 33 → Q (some (zi (nAll I x))) (c, J1, zRg g)) : zcl e 169 0 0 [zr 67, zi x] (c, J, zRg g) Q :=
  r169 he (hG.W hW) hx (fun J1 h1 => zQi (congrFun (nAll_G hG) x) (H J1 (hG.tr h1.G) (h1.1 74 (by decide)) (h1.2 31 (by decide)) (h1.2 32 (by decide)) (h1.2 33 (by decide))))
theorem r_one {e : Nat} (he : 52 ≤ e) (hW : nW I) {J : zI} (hG : nG I J) {p : Nat} (hp : (p : Int) < I 67 9) {x : Int} (hx : mR x) (H : ∀ J1, nG I J1 → J1 74 = J 74 → J1 67 31 = J 67 31 → J1 67 32 = J 67 32 → J1 67 33 = J 67 33 → Q (some (zi (nOne I p x))) (c, J1, zRg g)) : zcl e 165 0 0 [zr 67, zi (p : Nat), zi x] (c, J, zRg g) Q :=
  r165 he (hG.W hW) (by rw [hG.2 9 (by decide) (by decide) (by decide) (by decide)]; exact hp) hx (fun J1 h1 => zQi (congrFun (congrFun (nOne_G hG) p) x) (H J1 (hG.tr h1.G) (h1.1 74 (by decide)) (h1.2 31 (by decide)) (h1.2 32 (by decide)) (h1.2 33 (by decide))))
theorem y_fro {e : Nat} (he : 58 ≤ e) {x1 x2 : Int} (hW : nW I) (Hb : ¬ (mR x1 ∧ 0 ≤ x2 ∧ x2 ≤ 1) → Q (some (zi (-2))) (c, I, zRg g)) (H : mR x1 → 0 ≤ x2 → x2 ≤ 1 → ∀ J, nG I J → Q (some (zi (mfs (mit (nAll I) x1) x2 60 1))) (c, J, zRg g)) : zcl e 178 0 0 [zr 67, zi x1, zi x2] (c, I, zRg g) Q := by
  obtain ⟨d, rfl⟩ : ∃ d, e = d + 1 := ⟨e - 1, by omega⟩
  refine zen rfl rfl (fun B Q1 hQ => g_x12_fro_0 (r130 (by omega) (g_x12_fro_9 ⟨fun u => hQ _ _ _ (Hb (fun q => mbo_0.mp u (by omega))), fun u => r130 (by omega) (g_x12_fro_19 ⟨fun v => ?_, fun v => hQ _ _ _ (Hb (fun q => mbo_0.mp (Decidable.not_not.mp v) (by omega)))⟩)⟩)))
  have u := mbo_n0.mp u
  have v := mbo_n0.mp v
  have hx : mR x1 := by omega
  have H := fun J h => hQ _ _ _ (H hx v.1 v.2 J h)
  have loop : ∀ (m n : Nat) (J : zI) (o4 : Option zV), n + m = 61 → 1 ≤ n → nG I J → (∀ k, k < n → J 74 k = mit (nAll I) x1 k) → (∀ J1, nG I J1 → Q1 (some (zi (mfs (mit (nAll I) x1) x2 m n))) (c, J1, zRg g)) → zRn (zcl d) 178 B Q1 34 [some (zr 67), some (zi x1), some (zi x2), some (zi (n : Nat)), o4] [] (c, J, zRg g) := by
    intro m
    induction m with
    | zero => exact fun n J o4 hn h1 hF ht H => g_x12_fro_34 ⟨fun _ => H J hF, fun u => absurd (by omega) u⟩
    | succ m ih =>
      intro n J o4 hn h1 hF ht H
      have hn6 : n < 1000000 := by omega
      have e0 : zwr ((n : Int) - 1) = ((n - 1 : Nat) : Int) := by rw [zwr_eq (show zIn ((n : Int) - 1) by omega)]; omega
      refine g_x12_fro_34 ⟨fun u => absurd u (by omega), fun _ => ?_⟩
      rw [e0, Int.toNat_natCast, ht (n - 1) (by omega)]
      refine ⟨by omega, r_all (by omega) hW hF (nit_R hW hx _) (fun J1 hJ1 h74 _ _ _ => g_x12_fro_57 ⟨by omega, ?_⟩)⟩
      have e2 : nAll I (mit (nAll I) x1 (n - 1)) = mit (nAll I) x1 n := by
        conv => rhs; rw [show n = n - 1 + 1 by omega]
        rfl
      rw [e2, Int.toNat_natCast]
      have hF1 : nG I (z2 J1 74 n (mit (nAll I) x1 n)) := hJ1.tr ⟨fun y a b => z2_r b, fun j _ _ _ _ => z2_n (Or.inl (by decide))⟩
      have ht1 : ∀ k, k < n + 1 → z2 J1 74 n (mit (nAll I) x1 n) 74 k = mit (nAll I) x1 k := by
        intro k hk
        by_cases q : k = n
        · rw [q, z2_s]
        · rw [z2_n (Or.inr q), h74]
          exact ht k (by omega)
      have inner : ∀ (a k : Nat), k + a = n → (∀ j, j < k → mit (nAll I) x1 j ≠ mit (nAll I) x1 n) → zRn (zcl d) 178 B Q1 61 [some (zr 67), some (zi x1), some (zi x2), some (zi (n : Nat)), some (zi (k : Nat))] [] (c, z2 J1 74 n (mit (nAll I) x1 n), zRg g) := by
        intro a
        induction a with
        | zero =>
          intro k hk hj
          refine g_x12_fro_61 ⟨fun _ => ?_, fun u => absurd (by omega) u⟩
          rw [z1p n hn6]
          refine ih (n + 1) _ _ (by omega) (by omega) hF1 ht1 (fun J2 h2 => ?_)
          have H := H J2 h2
          unfold mfs at H
          rw [if_neg] at H
          · exact H
          · intro q
            obtain ⟨j, q1, q2⟩ := List.any_eq_true.mp q
            exact hj j (by have := List.mem_range.mp q1; omega) (of_decide_eq_true q2)
        | succ a ih2 =>
          intro k hk hj
          refine g_x12_fro_61 ⟨fun u => absurd u (by omega), fun _ => ⟨by omega, by omega, ?_⟩⟩
          rw [Int.toNat_natCast, Int.toNat_natCast, ht1 k (by omega), ht1 n (by omega)]
          refine ⟨fun u => ?_, fun u => ?_⟩
          · rw [z1p k (by omega)]
            refine ih2 (k + 1) (by omega) (fun j hj2 => ?_)
            by_cases q : j = k
            · rw [q]; exact u
            · exact hj j (by omega)
          · have H := H _ hF1
            unfold mfs at H
            rw [if_pos (List.any_eq_true.mpr ⟨k, List.mem_range.mpr (by omega), decide_eq_true (Decidable.not_not.mp u)⟩)] at H
            refine ⟨fun v => ⟨by omega, ?_⟩, fun v => ?_⟩
            · rw [if_neg v] at H
              exact H
            · rw [if_pos (Decidable.not_not.mp v)] at H
              exact H
      exact inner n 0 (by omega) (fun j hj => absurd hj (by omega))
  refine loop 60 1 _ _ (by omega) (by omega) ⟨fun y _ b => z2_r b, fun j _ _ _ _ => z2_n (Or.inl (by decide))⟩ (fun k hk => ?_) H
  obtain rfl : k = 0 := by omega
  exact z2_s
theorem mcn_le (P : Nat → Bool) : ∀ a i, mcn P i ≤ mcn P (i + a)
  | 0, i => Int.le_refl _
  | a + 1, i => by
    have h1 := mcn_le P a i
    have e : mcn P (i + (a + 1)) = if P (i + a) = true then mcn P (i + a) + 1 else mcn P (i + a) := rfl
    rw [e]
    split <;> omega
theorem y_from {e : Nat} (he : 58 ≤ e) {x1 x2 : Int} (hW : nW I) (Hb : ¬ (mR x1 ∧ 0 ≤ x2 ∧ x2 ≤ 1) → Q (some (zi (-2))) (c, I, zRg g)) (H : mR x1 → 0 ≤ x2 → x2 ≤ 1 → ∀ J, nG I J → Q (some (zi (if x2 = 0 then mcn (fun o => decide (nAll I (o : Int) = x1)) 1024 else mls (fun o => decide (nAll I (o : Int) = x1)) 1024))) (c, J, zRg g)) : zcl e 182 0 0 [zr 67, zi x1, zi x2] (c, I, zRg g) Q := by
  obtain ⟨d, rfl⟩ : ∃ d, e = d + 1 := ⟨e - 1, by omega⟩
  refine zen rfl rfl (fun B Q1 hQ => g_x12_from_0 (r130 (by omega) (g_x12_from_9 ⟨fun u => hQ _ _ _ (Hb (fun q => mbo_0.mp u (by omega))), fun u => r130 (by omega) (g_x12_from_19 ⟨fun v => ?_, fun v => hQ _ _ _ (Hb (fun q => mbo_0.mp (Decidable.not_not.mp v) (by omega)))⟩)⟩)))
  have u := mbo_n0.mp u
  have v := mbo_n0.mp v
  have hx : mR x1 := by omega
  have H := fun J h => hQ _ _ _ (H hx v.1 v.2 J h)
  generalize hP : (fun o : Nat => decide (nAll I (o : Int) = x1)) = P at H
  have hP1 : ∀ i : Nat, P i = decide (nAll I (i : Int) = x1) := fun i => by rw [← hP]
  have fin : ∀ (J : zI) (n l : Int), nG I J → n = mcn P 1024 → l = mls P 1024 → zRn (zcl d) 182 B Q1 35 [some (zr 67), some (zi x1), some (zi x2), some (zi n), some (zi l), some (zi (-1))] [] (c, J, zRg g) := by
    intro J n l hG hn hl
    have H := H J hG
    refine g_x12_from_35 ⟨fun _ => ⟨fun w => ?_, fun w => ?_⟩, fun w => absurd (by decide) w⟩
    · rw [if_neg w] at H; rw [hl]; exact H
    · rw [if_pos (Decidable.not_not.mp w)] at H; rw [hn]; exact H
  have loop : ∀ (i : Nat) (J : zI) (n l : Int), i < 1024 → nG I J → 0 ≤ n → n + mcn P (i + 1) = mcn P 1024 → (mls P (i + 1) ≠ -1 → mls P 1024 = mls P (i + 1)) → (mls P (i + 1) = -1 → mls P 1024 = l) → zRn (zcl d) 182 B Q1 35 [some (zr 67), some (zi x1), some (zi x2), some (zi n), some (zi l), some (zi (i : Nat))] [] (c, J, zRg g) := by
    intro i
    induction i with
    | zero =>
      intro J n l hi hG h0 hn hl1 hl2
      have hb := mcn_r P 1024
      refine g_x12_from_35 ⟨fun w => absurd w (by omega), fun _ => r_all (by omega) hW hG (by omega) (fun J1 h1 _ _ _ _ => g_x12_from_46 ?_)⟩
      have hm : mcn P (0 + 1) = if P 0 = true then 0 + 1 else 0 := rfl
      have hl : mls P (0 + 1) = if P 0 = true ∧ (-1 : Int) = -1 then ((0 : Nat) : Int) else -1 := rfl
      have hz : zwr (((0 : Nat) : Int) + -1) = -1 := rfl
      rw [hz]
      refine ⟨fun w => fin J1 n l h1 ?_ ?_, fun w => fin J1 _ _ h1 ?_ ?_⟩
      · have hp : ¬ P 0 = true := fun q => w (of_decide_eq_true ((hP1 0).symm.trans q))
        rw [hm, if_neg hp] at hn; omega
      · have hp : ¬ P 0 = true := fun q => w (of_decide_eq_true ((hP1 0).symm.trans q))
        rw [hl, if_neg (fun q => hp q.1)] at hl2; exact (hl2 rfl).symm
      · have hp : P 0 = true := (hP1 0).trans (decide_eq_true (Decidable.not_not.mp w))
        rw [hm, if_pos hp] at hn
        rw [zwr_eq (show zIn (n + 1) by omega)]; omega
      · have hp : P 0 = true := (hP1 0).trans (decide_eq_true (Decidable.not_not.mp w))
        rw [hl, if_pos ⟨hp, rfl⟩] at hl1; exact (hl1 (by decide)).symm
    | succ i ih =>
      intro J n l hi hG h0 hn hl1 hl2
      have hb := mcn_r P 1024
      have hb2 := mcn_r P (i + 1)
      refine g_x12_from_35 ⟨fun w => absurd w (by omega), fun _ => r_all (by omega) hW hG (by omega) (fun J1 h1 _ _ _ _ => g_x12_from_46 ?_)⟩
      have hm : mcn P (i + 1 + 1) = if P (i + 1) = true then mcn P (i + 1) + 1 else mcn P (i + 1) := rfl
      have hl : mls P (i + 1 + 1) = if P (i + 1) = true ∧ mls P (i + 1) = -1 then ((i + 1 : Nat) : Int) else mls P (i + 1) := rfl
      rw [z1n i (by omega)]
      refine ⟨fun w => ih J1 n l (by omega) h1 h0 ?_ ?_ ?_, fun w => ih J1 _ _ (by omega) h1 ?_ ?_ ?_ ?_⟩
      · have hp : ¬ P (i + 1) = true := fun q => w (of_decide_eq_true ((hP1 (i + 1)).symm.trans q))
        rw [hm, if_neg hp] at hn; exact hn
      · have hp : ¬ P (i + 1) = true := fun q => w (of_decide_eq_true ((hP1 (i + 1)).symm.trans q))
        rw [hl, if_neg (fun q => hp q.1)] at hl1; exact hl1
      · have hp : ¬ P (i + 1) = true := fun q => w (of_decide_eq_true ((hP1 (i + 1)).symm.trans q))
        rw [hl, if_neg (fun q => hp q.1)] at hl2; exact hl2
      · rw [zwr_eq (show zIn (n + 1) by omega)]; omega
      · have hp : P (i + 1) = true := (hP1 (i + 1)).trans (decide_eq_true (Decidable.not_not.mp w))
        rw [hm, if_pos hp] at hn
        rw [zwr_eq (show zIn (n + 1) by omega)]; omega
      · have hp : P (i + 1) = true := (hP1 (i + 1)).trans (decide_eq_true (Decidable.not_not.mp w))
        intro q
        rw [hl, if_neg (fun z => q z.2)] at hl1
        exact hl1 q
      · have hp : P (i + 1) = true := (hP1 (i + 1)).trans (decide_eq_true (Decidable.not_not.mp w))
        intro q
        rw [hl, if_pos ⟨hp, q⟩] at hl1
        exact hl1 (by omega)
  exact loop 1023 I 0 (-1) (by omega) (nG.rf I) (by omega) (by rw [Int.zero_add]) (fun _ => rfl) (fun q => q)
/-- the best of the sets below i, and its size -/
def nlb (L : Int → Int → Int) (th : Int) : Nat → Int × Int
  | 0 => (-1, 11)
  | i + 1 => if mbc (i : Int) < (nlb L th i).2 ∧ L (i : Int) th = th then ((i : Int), mbc (i : Int)) else nlb L th i
theorem nlb_r (L : Int → Int → Int) (th : Int) : ∀ i, i ≤ 1024 → ((nlb L th i).1 = -1 ∧ (nlb L th i).2 = 11) ∨ (mR (nlb L th i).1 ∧ (nlb L th i).2 = mbc (nlb L th i).1)
  | 0, _ => Or.inl ⟨rfl, rfl⟩
  | i + 1, h => by
    unfold nlb
    split
    · exact Or.inr ⟨by simp only; omega, rfl⟩
    · exact nlb_r L th i (by omega)
theorem mlb_n (I : zI) (th : Int) : ∀ i, mlb I th i = nlb (mLn I) th i
  | 0 => rfl
  | i + 1 => by
    unfold mlb nlb
    rw [mlb_n I th i]
def nLn (T : Nat → Nat → List Int) (K : zI) (s x : Int) : Int := mall T (mmore K s) (K 0 2).toNat 0 x
theorem y_learn {e : Nat} (he : 58 ≤ e) {x1 x2 : Int} {K : zI} {T : Nat → Nat → List Int} (hK : mWd K) (hE : nE K I) (h13 : I 67 13 = 0) (hX : nXo I (I 67 4).toNat) (hT : ∀ q, T (K 0 6).toNat q = nT I (K 0 6).toNat q) (Hb : ¬ (mR x1 ∧ 0 ≤ x2 ∧ x2 ≤ 1) → Q (some (zi (-2))) (c, I, zRg g)) (H : mR x1 → 0 ≤ x2 → x2 ≤ 1 → ∀ J, nF I J → Q (some (zi (if (nlb (nLn T K) x1 1024).1 = -1 then -1 else if x2 = 0 then (nlb (nLn T K) x1 1024).1 else (nlb (nLn T K) x1 1024).2))) (c, J, zRg g)) : zcl e 181 0 0 [zr 67, zi x1, zi x2] (c, I, zRg g) Q := by
  obtain ⟨d, rfl⟩ : ∃ d, e = d + 1 := ⟨e - 1, by omega⟩
  have h5 := hK.1.1.1
  have h8 := hK.2.1
  have hr6 := hK.1.2.2
  refine zen rfl rfl (fun B Q1 hQ => g_x12_learn_0 (r130 (by omega) (g_x12_learn_9 ⟨fun u => hQ _ _ _ (Hb (fun q => mbo_0.mp u (by omega))), fun u => r130 (by omega) (g_x12_learn_19 ⟨fun v => ?_, fun v => hQ _ _ _ (Hb (fun q => mbo_0.mp (Decidable.not_not.mp v) (by omega)))⟩)⟩)))
  have u := mbo_n0.mp u
  have v := mbo_n0.mp v
  have hx : mR x1 := by omega
  have H := fun J h => hQ _ _ _ (H hx v.1 v.2 J h)
  -- told with more words
  have more : ∀ (s : Nat) (J : zI) (x3 : Int), s < 1024 → (∀ y, y ≠ 67 → J y = I y) → (∀ j, j ≠ 13 → (j < 14 ∨ 28 < j) → J 67 j = I 67 j) → (∀ J1, (∀ y, y ≠ 67 → J1 y = I y) → (∀ j, j ≠ 13 → (j < 14 ∨ 28 < j) → J1 67 j = I 67 j) → zRn (zcl d) 181 B Q1 66 [some (zr 67), some (zi x1), some (zi x2), some (zi x3), some (zi (s : Nat))] [zi (nLn T K (s : Int) x1)] (c, J1, zRg g)) → zcl d 169 0 0 [zr 67, zi x1] (c, z2 J 67 13 (s : Nat), zRg g) (fun v h1 => zRn (zcl d) 181 B Q1 66 [some (zr 67), some (zi x1), some (zi x2), some (zi x3), some (zi (s : Nat))] (zva v []) h1) := by
    intro s J x3 hs f1 f2 H
    have g1 : ∀ y, y ≠ 67 → z2 J 67 13 (s : Nat) y = I y := fun y q => by rw [z2_r q]; exact f1 y q
    have g2 : ∀ j, j ≠ 13 → (j < 14 ∨ 28 < j) → z2 J 67 13 (s : Nat) 67 j = I 67 j := fun j q1 q2 => by rw [z2_n (Or.inr q1)]; exact f2 j q1 q2
    have g3 : z2 J 67 13 (s : Nat) 67 13 = (s : Int) := z2_s
    generalize z2 J 67 13 (s : Nat) = L at g1 g2 g3 ⊢
    have hl : mlk (mmore K (s : Int)) (nK L) := by
      have hl0 := hE.lk h13
      refine ⟨fun j a b => ?_, fun j hj => ?_, fun p hp j hj => ?_⟩
      · have e1 : mmore K (s : Int) 0 j = K 0 j := if_neg (fun q => absurd q.1 (by decide))
        rw [e1, hl0.1 j a b]
        unfold nK
        rw [g2 9 (by decide) (by decide), g2 11 (by decide) (by decide), g2 7 (by decide) (by decide), g2 12 (by decide) (by decide), g2 4 (by decide) (by decide)]
        rfl
      · have e1 : mmore K (s : Int) 0 3 = K 0 3 := if_neg (fun q => absurd q.1 (by decide))
        have e2 : mmore K (s : Int) 2 j = K 2 j := if_neg (fun q => absurd q.1 (by decide))
        rw [e1] at hj
        rw [e2, hl0.2.1 j hj]
        show I 72 j = L 72 j
        rw [g1 72 (by decide)]
      · have e1 : mmore K (s : Int) 0 2 = K 0 2 := if_neg (fun q => absurd q.1 (by decide))
        rw [e1] at hp
        have e3 : nK L (3 + p) 2 = zor (I 71 (5 * p + 1)) (s : Int) := by rw [(nK_p L p).2.2.1, g1 71 (by decide), g3]
        obtain ⟨a0, a1, ⟨a2, -⟩, a3, a4⟩ := hE.2.2 p hp
        have hj : j = 2 ∨ j ≠ 2 := by omega
        rcases hj with rfl | hj2
        · have e2 : mmore K (s : Int) (3 + p) 2 = zor (K (3 + p) 2) (s : Int) := if_pos ⟨by omega, rfl⟩
          rw [e2, e3, a2]
        · have e2 : mmore K (s : Int) (3 + p) j = K (3 + p) j := if_neg (fun q => hj2 q.2)
          rw [e2]
          have : j = 0 ∨ j = 1 ∨ j = 3 ∨ j = 4 := by omega
          rcases this with rfl | rfl | rfl | rfl
          · rw [(nK_p L p).1, g1 71 (by decide)]; exact a0
          · rw [(nK_p L p).2.1, g1 71 (by decide)]; exact a1
          · rw [(nK_p L p).2.2.2.1, g1 71 (by decide)]; exact a3
          · rw [(nK_p L p).2.2.2.2, g1 71 (by decide)]; exact a4
    have hsR : mR (s : Int) := by omega
    have hok := mmore_ok hsR hK.1.1
    have eR : nR L = nR I := by
      funext t
      unfold nR nb
      rw [g1 68 (by decide), g1 69 (by decide)]
    have eT : ∀ t q, t < 6 → nT L t q = nT I t q := by
      intro t q ht
      unfold nT
      rw [eR, if_pos ht, if_pos ht]
      have ex : mX L t q = mX I t q := by
        unfold mX mX0
        rw [g1 (46 + 3 * t) (by omega), g1 (45 + 3 * t) (by omega)]
      rw [ex]
    have e9 : L 67 9 = K 0 2 := by rw [g2 9 (by decide) (by decide)]; exact hE.1.1.symm
    have e7 : L 67 7 = K 0 4 := by rw [g2 7 (by decide) (by decide)]; exact hE.1.2.2.1.symm
    have e4 : L 67 4 = K 0 6 := by rw [g2 4 (by decide) (by decide)]; exact hE.1.2.2.2.2.symm
    have hW : nW L := by
      refine ⟨hok.lk hl, by rw [e7]; exact hK.1.2.1, by rw [e4]; exact hr6, ?_⟩
      rw [g2 4 (by decide) (by decide)]
      unfold nXo nb at hX ⊢
      rw [eR, g1 68 (by decide), g1 69 (by decide)]
      exact hX
    refine r169 (by omega) hW hx (fun J1 h1 => ?_)
    have hm : mall (nT L) (nK L) (L 67 9).toNat 0 x1 = nLn T K (s : Int) x1 := by
      unfold nLn
      rw [e9]
      have e06 : mmore K (s : Int) 0 6 = K 0 6 := if_neg (fun q => absurd q.1 (by decide))
      have e02 : mmore K (s : Int) 0 2 = K 0 2 := if_neg (fun q => absurd q.1 (by decide))
      refine (mall_lk hl (fun q => ?_) _ 0 x1 ?_).symm
      · rw [e06, hT q, eT _ _ (by omega)]
      · rw [e02]; show ((0 + (K 0 2).toNat : Nat) : Int) ≤ K 0 2; omega
    rw [hm]
    exact H J1 (fun y q => by rw [h1.1 y q]; exact g1 y q) (fun j q1 q2 => by rw [h1.2 j q2]; exact g2 j q1 q2)
  have loop : ∀ (n i : Nat) (J : zI), i + n = 1024 → (∀ y, y ≠ 67 → J y = I y) → (∀ j, j ≠ 13 → (j < 14 ∨ 28 < j) → J 67 j = I 67 j) → zRn (zcl d) 181 B Q1 30 [some (zr 67), some (zi x1), some (zi x2), some (zi (nlb (nLn T K) x1 i).1), some (zi (i : Nat))] [] (c, J, zRg g) := by
    intro n
    induction n with
    | zero =>
      intro i J hi f1 f2
      obtain rfl : i = 1024 := by omega
      have hr := nlb_r (nLn T K) x1 1024 (Nat.le_refl _)
      have hG : nF I (z2 J 67 13 0) := ⟨fun y q _ _ _ _ => by rw [z2_r q]; exact f1 y q, fun j _ _ _ q => by
          by_cases w : j = 13
          · rw [w, z2_s]; exact h13.symm
          · rw [z2_n (Or.inr w)]; exact f2 j w q, fun j _ => by rw [z2_n (Or.inl (by decide)), f1 71 (by decide)], fun j _ => by rw [z2_n (Or.inl (by decide)), f1 72 (by decide)]⟩
      have H := H _ hG
      generalize nlb (nLn T K) x1 1024 = w at H hr ⊢
      refine g_x12_learn_30 ⟨fun _ => ⟨fun q => g_x12_learn_105 ?_, fun q => ⟨fun q1 => ?_, fun q1 => g_x12_learn_105 ?_⟩⟩, fun q => absurd (by omega) q⟩
      · by_cases w1 : w.1 = -1
        · rw [if_pos w1] at H; rw [w1]; exact H
        · rw [if_neg w1, if_pos q] at H; exact H
      · rcases hr with ⟨w1, -⟩ | ⟨w1, w2⟩
        · exact absurd w1 q1
        · refine r161 (by omega) w1 (g_x12_learn_105 ?_)
          rw [if_neg q1, if_neg q, w2] at H
          exact H
      · have q1 := Decidable.not_not.mp q1
        rw [if_pos q1] at H; rw [q1]; exact H
    | succ n ih =>
      intro i J hi f1 f2
      have hr := nlb_r (nLn T K) x1 i (by omega)
      have em : nlb (nLn T K) x1 (i + 1) = if mbc (i : Int) < (nlb (nLn T K) x1 i).2 ∧ nLn T K (i : Int) x1 = x1 then ((i : Int), mbc (i : Int)) else nlb (nLn T K) x1 i := rfl
      have hb := mbc_r (i : Int)
      have try1 : ∀ (J : zI), (∀ y, y ≠ 67 → J y = I y) → (∀ j, j ≠ 13 → (j < 14 ∨ 28 < j) → J 67 j = I 67 j) → mbc (i : Int) < (nlb (nLn T K) x1 i).2 → zcl d 169 0 0 [zr 67, zi x1] (c, z2 J 67 13 (i : Nat), zRg g) (fun v h1 => zRn (zcl d) 181 B Q1 66 [some (zr 67), some (zi x1), some (zi x2), some (zi (nlb (nLn T K) x1 i).1), some (zi (i : Nat))] (zva v []) h1) := by
        intro J f1 f2 hlt
        refine more i J _ (by omega) f1 f2 (fun J1 a1 a2 => g_x12_learn_66 ?_)
        have ih := ih (i + 1) J1 (by omega) a1 a2
        rw [em] at ih
        rw [z1p i (by omega)]
        refine ⟨fun q => ?_, fun q => ?_⟩
        · rw [if_neg (fun z => q z.2)] at ih; exact ih
        · rw [if_pos ⟨hlt, Decidable.not_not.mp q⟩] at ih; exact ih
      refine g_x12_learn_30 ⟨fun q => absurd q (by omega), fun _ => ⟨fun q => try1 J f1 f2 ?_, fun q => r161 (by omega) (by omega) (g_x12_learn_48 ?_)⟩⟩
      · rcases hr with ⟨-, w2⟩ | ⟨w1, -⟩
        · omega
        · omega
      · rcases hr with ⟨w1, -⟩ | ⟨w1, w2⟩
        · exact absurd w1 q
        · refine r161 (by omega) w1 (g_x12_learn_52 ⟨fun q1 => ?_, fun q1 => try1 J f1 f2 (by omega)⟩)
          have ih := ih (i + 1) J (by omega) f1 f2
          rw [em, if_neg (fun z => by omega)] at ih
          rw [z1p i (by omega)]
          exact ih
  exact loop 1024 0 I (by omega) (fun _ _ => rfl) (fun _ _ _ => rfl)
theorem r183 {e : Nat} (he : 1 ≤ e) {a b p : Int} (ha : 0 ≤ a ∧ a ≤ 1000) (hb : 0 < b ∧ b ≤ 50) (H : Q (some (zl (mlo a b p))) (c, I, zRg g)) : zcl e 183 0 0 [zl a, zl b, zi p] (c, I, zRg g) Q := by
  obtain ⟨d, rfl⟩ : ∃ d, e = d + 1 := ⟨e - 1, by omega⟩
  refine zen rfl rfl (fun B Q1 hQ => g_x12_lowest_0 ?_)
  have H := hQ _ _ _ H
  have hg := mgc_pos (a := a) hb.1
  have zl' : ∀ x : Int, 0 ≤ x → x < 1000000000 → zwl x = x := fun x q1 q2 => by unfold zwl; omega
  have loop : ∀ (n u v : Nat) (o1 o2 : Option zV), v < n → u < 100000 → v < 100000 → ((Nat.gcd u v : Nat) : Int) = mgc a b → zRn (zcl d) 183 B Q1 6 [some (zl a), none, some (zl b), none, some (zi p), some (zl (u : Nat)), none, some (zl (v : Nat)), none, o1, o2] [] (c, I, zRg g) := by
    intro n
    induction n with
    | zero => exact fun u v o1 o2 hv _ _ _ => absurd hv (by omega)
    | succ n ih =>
      intro u v o1 o2 hv hu hv5 hgc
      refine g_x12_lowest_6 ⟨fun w => ?_, fun w => ?_⟩
      · have hv0 : v = 0 := by
          by_cases q : v = 0
          · exact q
          · exact absurd w (zcmp_ne.mpr (by omega))
        rw [hv0, Nat.gcd_zero_right] at hgc
        rw [hgc]
        unfold mlo at H
        have d1 : ∀ x : Int, 0 ≤ x → x ≤ 1000 → zwl (Int.tdiv x (mgc a b)) = x / mgc a b := fun x q1 q2 => by
          rw [Int.tdiv_eq_ediv_of_nonneg q1]
          have r1 := Int.ediv_nonneg q1 (show 0 ≤ mgc a b by omega)
          have r2 := Int.ediv_le_self (mgc a b) q1
          exact zl' _ r1 (by omega)
        refine ⟨fun q => ⟨by omega, ?_⟩, fun q => ⟨by omega, ?_⟩⟩
        · rw [if_neg q] at H; rw [d1 b (by omega) (by omega)]; exact H
        · rw [if_pos (Decidable.not_not.mp q)] at H; rw [d1 a (by omega) (by omega)]; exact H
      · have hv0 : 0 < v := by
          rcases Nat.eq_zero_or_pos v with q | q
          · exact absurd (by rw [q]; rfl) w
          · exact q
        have hm : u % v < v := Nat.mod_lt _ hv0
        have et : zwl (Int.tmod (u : Int) (v : Int)) = ((u % v : Nat) : Int) := by
          rw [Int.tmod_eq_emod_of_nonneg (by omega)]
          have : (u : Int) % (v : Int) = ((u % v : Nat) : Int) := rfl
          rw [this]
          exact zl' _ (by omega) (by omega)
        rw [et]
        rw [mgc_rec hv0] at hgc
        exact ⟨by omega, ih v (u % v) _ _ (by omega) (by omega) (by omega) hgc⟩
  have := loop (b.toNat + 1) a.toNat b.toNat none none (by omega) (by omega) (by omega) rfl
  rw [show ((a.toNat : Nat) : Int) = a by omega, show ((b.toNat : Nat) : Int) = b by omega] at this
  exact this
theorem y_mean {e : Nat} (he : 3 ≤ e) {x1 : Int} {K : zI} (hK : mWd K) (hE : nE K I) (Hb : ¬ ((0 ≤ x1 ∧ x1 ≤ 1) ∧ 0 < K 0 2) → Q (some (zl mNO)) (c, I, zRg g)) (H : 0 ≤ x1 → x1 ≤ 1 → 0 < K 0 2 → Q (some (zl (mlo (msm K (K 0 2).toNat 0 0) (K 0 2) x1))) (c, I, zRg g)) : zcl e 184 0 0 [zr 67, zi x1] (c, I, zRg g) Q := by
  obtain ⟨d, rfl⟩ : ∃ d, e = d + 1 := ⟨e - 1, by omega⟩
  have h5 := hK.1.1.1
  have e9 : I 67 9 = K 0 2 := hE.1.1.symm
  refine zen rfl rfl (fun B Q1 hQ => g_x12_mean_0 (r130 (by omega) (g_x12_mean_7 ⟨fun u => hQ _ _ _ (Hb (fun q => mbo_0.mp u q.1)), fun u => ⟨fun w => ?_, fun w => hQ _ _ _ (Hb (fun q => by omega))⟩⟩)))
  have u := mbo_n0.mp u
  have h0 : 0 < K 0 2 := by omega
  have H := hQ _ _ _ (H u.1 u.2 h0)
  have loop : ∀ (n p : Nat) (s : Int), ((p + n : Nat) : Int) = K 0 2 → 0 ≤ s → s ≤ 10 * p → Q1 (some (zl (mlo (msm K n p s) (K 0 2) x1))) (c, I, zRg g) → zRn (zcl d) 184 B Q1 25 [some (zr 67), some (zi x1), some (zi s), some (zi (p : Nat))] [] (c, I, zRg g) := by
    intro n
    induction n with
    | zero =>
      intro p s hp hs0 hs1 H
      refine g_x12_mean_25 ⟨fun _ => ?_, fun w => absurd (by rw [e9]; omega) w⟩
      rw [e9]
      exact r183 (by omega) (by omega) (by omega) (g_x12_mean_66 H)
    | succ n ih =>
      intro p s hp hs0 hs1 H
      have hp5 : p < 5 := by omega
      have e1 : zwr (zwr (5 * (p : Int)) + 1) = ((5 * p + 1 : Nat) : Int) := nix (k := 1) hp5 (by decide)
      obtain ⟨-, -, ⟨a2, ar⟩, -, -⟩ := hE.2.2 p (by omega)
      have hb := mbc_r (I 71 (5 * p + 1))
      refine g_x12_mean_25 ⟨fun w => absurd w (by rw [e9]; omega), fun _ => ?_⟩
      rw [e1, Int.toNat_natCast]
      refine ⟨by omega, r161 (by omega) ar (g_x12_mean_47 ?_)⟩
      rw [z1p p (by omega), zwr_eq (show zIn (s + mbc (I 71 (5 * p + 1))) by omega)]
      have em : msm K (n + 1) p s = msm K n (p + 1) (s + mbc (K (3 + p) 2)) := rfl
      rw [em, a2] at H
      exact ih (p + 1) _ (by omega) (by omega) (by omega) H
  exact loop (K 0 2).toNat 0 0 (by omega) (by omega) (by omega) H
end
end
