section
/-! the reference reads: bytes, tokens -/
theorem zcmp_lt {x y : Int} : zcmp x y < 0 ↔ x < y := by
  unfold zcmp
  split
  · rename_i h; exact ⟨fun _ => h, fun _ => by decide⟩
  · split
    · rename_i h1 h2; exact ⟨fun q => absurd q (by decide), fun q => absurd q h1⟩
    · rename_i h1 h2; exact ⟨fun q => absurd q (by decide), fun q => absurd q h1⟩
theorem zcmp_gt {x y : Int} : 0 < zcmp x y ↔ y < x := by
  unfold zcmp
  split
  · rename_i h; exact ⟨fun q => absurd q (by decide), fun q => by omega⟩
  · split
    · rename_i h1 h2; exact ⟨fun q => absurd q (by decide), fun q => by omega⟩
    · rename_i h1 h2; exact ⟨fun _ => by omega, fun _ => by decide⟩
theorem zcmp_ne {x y : Int} : zcmp x y ≠ 0 ↔ x ≠ y := by
  unfold zcmp
  split
  · rename_i h; exact ⟨fun _ => by omega, fun _ => by decide⟩
  · split
    · rename_i h1 h2; exact ⟨fun q => absurd rfl q, fun q => absurd h2 q⟩
    · rename_i h1 h2; exact ⟨fun _ => h2, fun _ => by decide⟩
/-- text t of the reference is the n bytes b -/
def rB (I : zI) (b : Nat → Int) (n t : Nat) : Prop := t < 6 ∧ n ≤ 160 ∧ I 67 20 = 160 * (t : Int) ∧ I 67 21 = (n : Int) ∧ (∀ i, i < n → I 68 (160 * t + i) = b i) ∧ ∀ i, i < n → 0 ≤ b i ∧ b i ≤ 255
/-- what reading changes -/
def mrF (I J : zI) : Prop := (∀ y, y ≠ 67 → J y = I y) ∧ ∀ j, (j < 22 ∨ 28 < j) → J 67 j = I 67 j
theorem mrF.rf (I : zI) : mrF I I := ⟨fun _ _ => rfl, fun _ _ => rfl⟩
theorem mrF.tr {I J K : zI} (h : mrF I J) (h1 : mrF J K) : mrF I K := ⟨fun y q => (h1.1 y q).trans (h.1 y q), fun j q => (h1.2 j q).trans (h.2 j q)⟩
theorem mrF.put {I J : zI} (h : mrF I J) {j : Nat} {x : Int} (h1 : 22 ≤ j) (h2 : j ≤ 28) : mrF I (z2 J 67 j x) := ⟨fun y q => by rw [z2_r q]; exact h.1 y q, fun k q => by rw [z2_n (Or.inr (by omega))]; exact h.2 k q⟩
theorem rB.F {I J : zI} {b : Nat → Int} {n t : Nat} (h : rB I b n t) (hF : mrF I J) : rB J b n t := by
  obtain ⟨h1, h2, h3, h4, h5, h6⟩ := h
  exact ⟨h1, h2, by rw [hF.2 20 (by omega)]; exact h3, by rw [hF.2 21 (by omega)]; exact h4, by rw [hF.1 68 (by decide)]; exact h5, h6⟩
/-- the token at p, as the reference has it -/
def mtkn (b : Nat → Int) (n p : Nat) (J : zI) : Prop := J 67 24 = (p : Int) ∧
  (n ≤ p → J 67 23 = 0) ∧ (p < n → mlt (b p) = true → J 67 23 = 1 ∧ J 67 22 = (msc mlt b (n - p) p : Nat)) ∧
  (p < n → mlt (b p) = false → mdg (b p) = true → msc mdg b (n - p) p - p ≤ 4 → J 67 23 = 2 ∧ J 67 25 = mnu b (msc mdg b (n - p) p - p) p 0 ∧ J 67 22 = (msc mdg b (n - p) p : Nat)) ∧
  (p < n → mlt (b p) = false → mdg (b p) = true → ¬ msc mdg b (n - p) p - p ≤ 4 → J 67 23 = 4) ∧
  (p < n → mlt (b p) = false → mdg (b p) = false → msg (b p) = true → J 67 23 = 3 ∧ J 67 25 = b p ∧ J 67 22 = ((p + 1 : Nat) : Int)) ∧
  (p < n → mlt (b p) = false → mdg (b p) = false → msg (b p) = false → J 67 23 = 4)
theorem mlt_t {x : Int} : mlt x = true ↔ 97 ≤ x ∧ x ≤ 122 := ⟨fun h => of_decide_eq_true h, fun h => decide_eq_true h⟩
theorem mlt_f {x : Int} : mlt x = false ↔ ¬ (97 ≤ x ∧ x ≤ 122) := ⟨fun h => of_decide_eq_false h, fun h => decide_eq_false h⟩
theorem mdg_t {x : Int} : mdg x = true ↔ 48 ≤ x ∧ x ≤ 57 := ⟨fun h => of_decide_eq_true h, fun h => decide_eq_true h⟩
theorem mdg_f {x : Int} : mdg x = false ↔ ¬ (48 ≤ x ∧ x ≤ 57) := ⟨fun h => of_decide_eq_false h, fun h => decide_eq_false h⟩
section
variable {c : Nat × Nat × Nat} {I : zI} {g : Nat} {Q : zQ} {b : Nat → Int} {n t : Nat}
theorem r130 {e : Nat} (he : 1 ≤ e) {x y z : Int} (H : Q (some (zi (mbo (y ≤ x ∧ x ≤ z)))) (c, I, zRg g)) : zcl e 130 0 0 [zl x, zl y, zl z] (c, I, zRg g) Q := by
  obtain ⟨d, rfl⟩ : ∃ d, e = d + 1 := ⟨e - 1, by omega⟩
  exact zen rfl rfl (fun B Q1 hQ => g_x12_in_0 ⟨fun u => zQi (mbo_f (by have := zcmp_lt.mp u; omega)).symm (hQ _ _ _ H), fun u => ⟨fun v => zQi (mbo_f (by have := zcmp_gt.mp v; omega)).symm (hQ _ _ _ H), fun v => zQi (mbo_t (by have h1 : ¬ x < y := fun q => u (zcmp_lt.mpr q); have h2 : ¬ z < x := fun q => v (zcmp_gt.mpr q); omega)).symm (hQ _ _ _ H)⟩⟩)
theorem r143 (hB : rB I b n t) {e : Nat} (he : 1 ≤ e) {i : Nat} (hi : i < 1000) (H : Q (some (zi (if i < n then b i else -1))) (c, I, zRg g)) : zcl e 143 0 0 [zr 67, zi (i : Nat)] (c, I, zRg g) Q := by
  obtain ⟨d, rfl⟩ : ∃ d, e = d + 1 := ⟨e - 1, by omega⟩
  obtain ⟨h1, h2, h3, h4, h5, h6⟩ := hB
  refine zen rfl rfl (fun B Q1 hQ => g_x12_byteAt_0 ⟨fun u => zQi (if_neg (by omega)).symm (hQ _ _ _ H), fun u => ?_⟩)
  have hin : i < n := by omega
  have e1 : zwr (I 67 20 + (i : Int)) = ((160 * t + i : Nat) : Int) := by rw [h3, zwr_eq (show zIn (160 * (t : Int) + (i : Int)) by omega)]; omega
  rw [e1]
  refine ⟨by omega, ?_⟩
  rw [Int.toNat_natCast, h5 i hin]
  exact zQi (if_pos hin).symm (hQ _ _ _ H)
set_option maxHeartbeats 1000000 in
theorem r144 (hB : rB I b n t) {e : Nat} (he : 3 ≤ e) {J : zI} (hF : mrF I J) {h : Nat} (hh : J 67 22 = (h : Int)) (hn : h ≤ n) (H : ∀ J1, mrF I J1 → J1 67 26 = J 67 26 → J1 67 27 = J 67 27 → J1 67 28 = J 67 28 → mtkn b n (msc mbl b (n - h) h) J1 → Q none (c, J1, zRg g)) : zcl e 144 0 0 [zr 67] (c, J, zRg g) Q := by
  obtain ⟨d, rfl⟩ : ∃ d, e = d + 1 := ⟨e - 1, by omega⟩
  have h160 := hB.2.1
  have hby := hB.2.2.2.2.2
  refine zen rfl rfl (fun B Q1 hQ => ?_)
  have H := fun J1 a1 a2 a3 a4 a5 => hQ _ _ _ (H J1 a1 a2 a3 a4 a5)
  -- a word
  have word : ∀ (p : Nat) (J0 : zI) (x1 : Int) (o : Option zV), msc mbl b (n - h) h = p → p < n → mlt (b p) = true → mrF I J0 → J0 67 26 = J 67 26 → J0 67 27 = J 67 27 → J0 67 28 = J 67 28 → J0 67 24 = (p : Int) → J0 67 23 = 1 → ∀ (a k : Nat) (J1 : zI), k + a = n → p ≤ k → mrF I J1 → (∀ j, j ≠ 22 → J1 67 j = J0 67 j) → J1 67 22 = (k : Int) → msc mlt b (n - p) p = msc mlt b (n - k) k → zRn (zcl d) 144 B Q1 100 [some (zr 67), some (zi x1), o] [] (c, J1, zRg g) := by
    intro p J0 x1 o hp hpn hl f1 f2 f3 f4 f5 f6 a
    induction a with
    | zero =>
      intro k J1 hk hpk g1 g2 g3 g4
      refine g_x12_next_100 ?_
      rw [g3]
      refine r143 (hB.F g1) (by omega) (by omega) (g_x12_next_108 ?_)
      rw [if_neg (by omega)]
      refine r130 (by omega) (g_x12_next_118 ⟨fun _ => H J1 g1 (by rw [g2 26 (by decide), f2]) (by rw [g2 27 (by decide), f3]) (by rw [g2 28 (by decide), f4]) ?_, fun w => absurd (mbo_f (by omega)) w⟩)
      have ek : msc mlt b (n - p) p = k := by rw [g4, show n - k = 0 by omega]; rfl
      rw [hp]
      refine ⟨by rw [g2 24 (by decide)]; exact f5, fun q => absurd q (by omega), fun _ _ => ⟨by rw [g2 23 (by decide)]; exact f6, by rw [g3, ek]⟩, fun _ q => absurd (hl.symm.trans q) (by decide), fun _ q => absurd (hl.symm.trans q) (by decide), fun _ q => absurd (hl.symm.trans q) (by decide), fun _ q => absurd (hl.symm.trans q) (by decide)⟩
    | succ a ih =>
      intro k J1 hk hpk g1 g2 g3 g4
      refine g_x12_next_100 ?_
      rw [g3]
      refine r143 (hB.F g1) (by omega) (by omega) (g_x12_next_108 ?_)
      rw [if_pos (by omega)]
      refine r130 (by omega) (g_x12_next_118 ⟨fun w => H J1 g1 (by rw [g2 26 (by decide), f2]) (by rw [g2 27 (by decide), f3]) (by rw [g2 28 (by decide), f4]) ?_, fun w => ?_⟩)
      · have ek : msc mlt b (n - p) p = k := by rw [g4]; exact msc_st (mlt_f.mpr (mbo_0.mp w))
        rw [hp]
        refine ⟨by rw [g2 24 (by decide)]; exact f5, fun q => absurd q (by omega), fun _ _ => ⟨by rw [g2 23 (by decide)]; exact f6, by rw [g3, ek]⟩, fun _ q => absurd (hl.symm.trans q) (by decide), fun _ q => absurd (hl.symm.trans q) (by decide), fun _ q => absurd (hl.symm.trans q) (by decide), fun _ q => absurd (hl.symm.trans q) (by decide)⟩
      · rw [g3, z1p k (by omega)]
        exact ih (k + 1) _ (by omega) (by omega) (g1.put (by decide) (by decide)) (fun j hj => by rw [z2_n (Or.inr hj)]; exact g2 j hj) z2_s (by rw [g4]; exact msc_un (mlt_t.mpr (mbo_n0.mp w)) (by omega))
  -- a number
  have numb : ∀ (p : Nat) (J0 : zI) (x1 : Int), msc mbl b (n - h) h = p → p < n → mlt (b p) = false → mdg (b p) = true → mrF I J0 → J0 67 26 = J 67 26 → J0 67 27 = J 67 27 → J0 67 28 = J 67 28 → J0 67 24 = (p : Int) → ∀ (a k : Nat) (J1 : zI), k + a = n → p ≤ k → mrF I J1 → (∀ j, j ≠ 22 → j ≠ 25 → j ≠ 23 → J1 67 j = J0 67 j) → J1 67 22 = (k : Int) → msc mdg b (n - p) p = msc mdg b (n - k) k → (k - p ≤ 4 → J1 67 25 = mnu b (k - p) p 0) → (0 ≤ J1 67 25 ∧ J1 67 25 < 100000) → (k - p ≤ 3 → J1 67 25 < 10000) → (k - p ≤ 2 → J1 67 25 < 1000) → (k - p ≤ 1 → J1 67 25 < 100) → (k - p ≤ 0 → J1 67 25 < 10) → zRn (zcl d) 144 B Q1 160 [some (zr 67), some (zi x1), some (zi ((k - p : Nat) : Int))] [] (c, J1, zRg g) := by
    intro p J0 x1 hp hpn hl hd f1 f2 f3 f4 f5 a
    have fin : ∀ (k : Nat) (J1 : zI), p ≤ k → k ≤ n → mrF I J1 → (∀ j, j ≠ 22 → j ≠ 25 → j ≠ 23 → J1 67 j = J0 67 j) → J1 67 22 = (k : Int) → msc mdg b (n - p) p = k → (k - p ≤ 4 → J1 67 25 = mnu b (k - p) p 0) → (((k - p : Nat) : Int) ≤ 4 → Q1 none (c, z2 J1 67 23 2, zRg g)) ∧ (¬ ((k - p : Nat) : Int) ≤ 4 → Q1 none (c, z2 J1 67 23 4, zRg g)) := by
      intro k J1 hpk hkn g1 g2 g3 ek g5
      refine ⟨fun w => H _ (g1.put (by decide) (by decide)) ?_ ?_ ?_ ?_, fun w => H _ (g1.put (by decide) (by decide)) ?_ ?_ ?_ ?_⟩
      · rw [z2_n (Or.inr (by decide)), g2 26 (by decide) (by decide) (by decide), f2]
      · rw [z2_n (Or.inr (by decide)), g2 27 (by decide) (by decide) (by decide), f3]
      · rw [z2_n (Or.inr (by decide)), g2 28 (by decide) (by decide) (by decide), f4]
      · rw [hp]
        unfold mtkn
        rw [ek]
        refine ⟨by rw [z2_n (Or.inr (by decide)), g2 24 (by decide) (by decide) (by decide)]; exact f5, fun q => absurd q (by omega), fun _ q => absurd (q.symm.trans hl) (by decide), fun _ _ _ _ => ⟨z2_s, by rw [z2_n (Or.inr (by decide))]; exact g5 (by omega), by rw [z2_n (Or.inr (by decide))]; exact g3⟩, fun _ _ _ q => absurd (by omega) q, fun _ _ q => absurd (hd.symm.trans q) (by decide), fun _ _ q => absurd (hd.symm.trans q) (by decide)⟩
      · rw [z2_n (Or.inr (by decide)), g2 26 (by decide) (by decide) (by decide), f2]
      · rw [z2_n (Or.inr (by decide)), g2 27 (by decide) (by decide) (by decide), f3]
      · rw [z2_n (Or.inr (by decide)), g2 28 (by decide) (by decide) (by decide), f4]
      · rw [hp]
        unfold mtkn
        rw [ek]
        refine ⟨by rw [z2_n (Or.inr (by decide)), g2 24 (by decide) (by decide) (by decide)]; exact f5, fun q => absurd q (by omega), fun _ q => absurd (q.symm.trans hl) (by decide), fun _ _ _ q => absurd q (by omega), fun _ _ _ _ => z2_s, fun _ _ q => absurd (hd.symm.trans q) (by decide), fun _ _ q => absurd (hd.symm.trans q) (by decide)⟩
    induction a with
    | zero =>
      intro k J1 hk hpk g1 g2 g3 g4 g5 _ _ _ _ _
      refine g_x12_next_160 ?_
      rw [g3]
      refine r143 (hB.F g1) (by omega) (by omega) (g_x12_next_168 ?_)
      rw [if_neg (by omega)]
      refine r130 (by omega) (g_x12_next_178 ⟨fun _ => fin k J1 hpk (by omega) g1 g2 g3 (by rw [g4, show n - k = 0 by omega]; rfl) g5, fun w => absurd (mbo_f (by omega)) w⟩)
    | succ a ih =>
      intro k J1 hk hpk g1 g2 g3 g4 g5 v5 v4 v3 v2 v1
      have ec : zwr (((k - p : Nat) : Int) + 1) = ((k + 1 - p : Nat) : Int) := by rw [z1p (k - p) (by omega)]; omega
      refine g_x12_next_160 ?_
      rw [g3]
      refine r143 (hB.F g1) (by omega) (by omega) (g_x12_next_168 ?_)
      rw [if_pos (by omega)]
      refine r130 (by omega) (g_x12_next_178 ⟨fun w => fin k J1 hpk (by omega) g1 g2 g3 (by rw [g4]; exact msc_st (mdg_f.mpr (mbo_0.mp w))) g5, fun w => ⟨fun w4 => ?_, fun w4 => ?_⟩⟩)
      · have w := mbo_n0.mp w
        rw [g3, z1p k (by omega), ec]
        refine ih (k + 1) _ (by omega) (by omega) ((g1.put (by decide) (by decide)).put (by decide) (by decide)) (fun j q1 q2 q3 => by rw [z2_n (Or.inr q1), z2_n (Or.inr q2)]; exact g2 j q1 q2 q3) z2_s (by rw [g4]; exact msc_un (mdg_t.mpr w) (by omega)) (fun q => absurd q (by omega)) ?_ (fun q => absurd q (by omega)) (fun q => absurd q (by omega)) (fun q => absurd q (by omega)) (fun q => absurd q (by omega))
        rw [z2_n (Or.inr (by decide)), z2_s]
        exact v5
      · have w := mbo_n0.mp w
        rw [g3]
        refine r143 (hB.F g1) (by omega) (by omega) (g_x12_next_203 ?_)
        rw [if_pos (show k < n by omega), g3, z1p k (by omega), ec]
        have hk4 : k - p ≤ 3 := by omega
        have hv := g5 (by omega)
        have v4 := v4 hk4
        have ev : zwl (zwl (zwl (10 * J1 67 25) + b k) - 48) = 10 * J1 67 25 + b k - 48 := by
          have : ∀ x : Int, 0 ≤ x → x < 1000000000 → zwl x = x := fun x q1 q2 => by unfold zwl; omega
          rw [this (10 * J1 67 25) (by omega) (by omega), this (10 * J1 67 25 + b k) (by omega) (by omega), this (10 * J1 67 25 + b k - 48) (by omega) (by omega)]
        rw [ev]
        have hnu : 10 * J1 67 25 + b k - 48 = mnu b (k + 1 - p) p 0 := by
          rw [show k + 1 - p = (k - p) + 1 by omega, mnu_app, ← hv, show p + (k - p) = k by omega]
        have hi : ∀ z : Int, z = 10 * J1 67 25 + b k - 48 → zRn (zcl d) 144 B Q1 160 [some (zr 67), some (zi x1), some (zi ((k + 1 - p : Nat) : Int))] [] (c, z2 (z2 J1 67 25 z) 67 22 ((k + 1 : Nat) : Int), zRg g) := by
          intro z hz
          clear ev ec
          refine ih (k + 1) _ (by omega) (by omega) ((g1.put (by decide) (by decide)).put (by decide) (by decide)) (fun j q1 q2 q3 => by rw [z2_n (Or.inr q1), z2_n (Or.inr q2)]; exact g2 j q1 q2 q3) z2_s (by rw [g4]; exact msc_un (mdg_t.mpr w) (by omega)) (fun _ => ?_) ?_ (fun q => ?_) (fun q => ?_) (fun q => ?_) (fun q => absurd q (by omega))
          · rw [z2_n (Or.inr (by decide)), z2_s, hz]; exact hnu
          · rw [z2_n (Or.inr (by decide)), z2_s]; omega
          · have := v3 (by omega); rw [z2_n (Or.inr (by decide)), z2_s]; omega
          · have := v2 (by omega); rw [z2_n (Or.inr (by decide)), z2_s]; omega
          · have := v1 (by omega); rw [z2_n (Or.inr (by decide)), z2_s]; omega
        exact hi _ rfl
  -- blanks, and what stands behind them
  have tok : ∀ (p : Nat) (J1 : zI) (o1 o2 : Option zV), p ≤ n → msc mbl b (n - h) h = p → mrF I J1 → (∀ j, j ≠ 22 → j ≠ 24 → J1 67 j = J 67 j) → J1 67 22 = (p : Int) → J1 67 24 = (p : Int) → zRn (zcl d) 144 B Q1 55 [some (zr 67), o1, o2] [zi (if p < n then b p else -1)] (c, J1, zRg g) := by
    intro p J1 o1 o2 hpn hp g1 g2 g3 g4
    by_cases hlt : p < n
    · rw [if_pos hlt]
      have hbp := hby p hlt
      refine g_x12_next_55 ⟨fun _ => r130 (by omega) (g_x12_next_92 ⟨fun w => ?_, fun w => ?_⟩), fun w => absurd hbp.1 w⟩
      · have hl := mlt_f.mpr (mbo_0.mp w)
        refine r130 (by omega) (g_x12_next_145 ⟨fun w1 => ?_, fun w1 => ?_⟩)
        · have hd := mdg_f.mpr (mbo_0.mp w1)
          rw [z2_n (Or.inr (show 22 ≠ 23 by decide)), g3, z1p p (by omega)]
          have sg : msg (b p) = true → Q1 none (c, z2 (z2 (z2 (z2 J1 67 23 4) 67 23 3) 67 25 (b p)) 67 22 ((p + 1 : Nat) : Int), zRg g) := by
            intro hs
            refine H _ ((((g1.put (by decide) (by decide)).put (by decide) (by decide)).put (by decide) (by decide)).put (by decide) (by decide)) ?_ ?_ ?_ ?_
            · rw [z2_n (Or.inr (by decide)), z2_n (Or.inr (by decide)), z2_n (Or.inr (by decide)), z2_n (Or.inr (by decide))]; exact g2 26 (by decide) (by decide)
            · rw [z2_n (Or.inr (by decide)), z2_n (Or.inr (by decide)), z2_n (Or.inr (by decide)), z2_n (Or.inr (by decide))]; exact g2 27 (by decide) (by decide)
            · rw [z2_n (Or.inr (by decide)), z2_n (Or.inr (by decide)), z2_n (Or.inr (by decide)), z2_n (Or.inr (by decide))]; exact g2 28 (by decide) (by decide)
            · rw [hp]
              refine ⟨by rw [z2_n (Or.inr (by decide)), z2_n (Or.inr (by decide)), z2_n (Or.inr (by decide)), z2_n (Or.inr (by decide))]; exact g4, fun q => absurd q (by omega), fun _ q => absurd (q.symm.trans hl) (by decide), fun _ _ q => absurd (q.symm.trans hd) (by decide), fun _ _ q => absurd (q.symm.trans hd) (by decide), fun _ _ _ _ => ⟨by rw [z2_n (Or.inr (by decide)), z2_n (Or.inr (by decide)), z2_s], by rw [z2_n (Or.inr (by decide)), z2_s], z2_s⟩, fun _ _ _ q => absurd (hs.symm.trans q) (by decide)⟩
          have ms : (b p = 40 ∨ b p = 41 ∨ b p = 59 ∨ b p = 43 ∨ b p = 45 ∨ b p = 42 ∨ b p = 60 ∨ b p = 61) → msg (b p) = true := fun q => decide_eq_true q
          refine ⟨fun u => sg (ms (by omega)), fun u1 => ⟨fun u => sg (ms (by omega)), fun u2 => ⟨fun u => sg (ms (by omega)), fun u3 => ⟨fun u => sg (ms (by omega)), fun u4 => ⟨fun u => sg (ms (by omega)), fun u5 => ⟨fun u => sg (ms (by omega)), fun u6 => ⟨fun u => sg (ms (by omega)), fun u7 => ⟨fun u8 => ?_, fun u => sg (ms (by omega))⟩⟩⟩⟩⟩⟩⟩⟩
          have hs : msg (b p) = false := decide_eq_false (by omega)
          refine H _ (g1.put (by decide) (by decide)) ?_ ?_ ?_ ?_
          · rw [z2_n (Or.inr (by decide))]; exact g2 26 (by decide) (by decide)
          · rw [z2_n (Or.inr (by decide))]; exact g2 27 (by decide) (by decide)
          · rw [z2_n (Or.inr (by decide))]; exact g2 28 (by decide) (by decide)
          · rw [hp]
            exact ⟨by rw [z2_n (Or.inr (by decide))]; exact g4, fun q => absurd q (by omega), fun _ q => absurd (q.symm.trans hl) (by decide), fun _ _ q => absurd (q.symm.trans hd) (by decide), fun _ _ q => absurd (q.symm.trans hd) (by decide), fun _ _ _ q => absurd (q.symm.trans hs) (by decide), fun _ _ _ _ => z2_s⟩
        · have hd := mdg_t.mpr (mbo_n0.mp w1)
          have key := numb p (z2 (z2 J1 67 23 4) 67 23 2) (b p) hp hlt hl hd ((g1.put (by decide) (by decide)).put (by decide) (by decide)) (by rw [z2_n (Or.inr (by decide)), z2_n (Or.inr (by decide))]; exact g2 26 (by decide) (by decide)) (by rw [z2_n (Or.inr (by decide)), z2_n (Or.inr (by decide))]; exact g2 27 (by decide) (by decide)) (by rw [z2_n (Or.inr (by decide)), z2_n (Or.inr (by decide))]; exact g2 28 (by decide) (by decide)) (by rw [z2_n (Or.inr (by decide)), z2_n (Or.inr (by decide))]; exact g4) (n - p) p (z2 (z2 (z2 J1 67 23 4) 67 23 2) 67 25 0) (by omega) (Nat.le_refl _) (((g1.put (by decide) (by decide)).put (by decide) (by decide)).put (by decide) (by decide)) (fun j q1 q2 q3 => z2_n (Or.inr q2)) (by rw [z2_n (Or.inr (by decide)), z2_n (Or.inr (by decide)), z2_n (Or.inr (by decide))]; exact g3) rfl (fun _ => by rw [z2_s, Nat.sub_self]; rfl) (by rw [z2_s]; omega) (fun _ => by rw [z2_s]; omega) (fun _ => by rw [z2_s]; omega) (fun _ => by rw [z2_s]; omega) (fun _ => by rw [z2_s]; omega)
          rw [Nat.sub_self] at key
          exact key
      · have hl := mlt_t.mpr (mbo_n0.mp w)
        exact word p (z2 (z2 J1 67 23 4) 67 23 1) (b p) o2 hp hlt hl ((g1.put (by decide) (by decide)).put (by decide) (by decide)) (by rw [z2_n (Or.inr (by decide)), z2_n (Or.inr (by decide))]; exact g2 26 (by decide) (by decide)) (by rw [z2_n (Or.inr (by decide)), z2_n (Or.inr (by decide))]; exact g2 27 (by decide) (by decide)) (by rw [z2_n (Or.inr (by decide)), z2_n (Or.inr (by decide))]; exact g2 28 (by decide) (by decide)) (by rw [z2_n (Or.inr (by decide)), z2_n (Or.inr (by decide))]; exact g4) z2_s (n - p) p _ (by omega) (Nat.le_refl _) ((g1.put (by decide) (by decide)).put (by decide) (by decide)) (fun _ _ => rfl) (by rw [z2_n (Or.inr (by decide)), z2_n (Or.inr (by decide))]; exact g3) rfl
    · rw [if_neg hlt]
      obtain rfl : p = n := by omega
      refine g_x12_next_55 ⟨fun w => absurd w (by decide), fun _ => H _ (((g1.put (by decide) (by decide)).put (by decide) (by decide)).put (by decide) (by decide)) ?_ ?_ ?_ ?_⟩
      · rw [z2_n (Or.inr (by decide)), z2_n (Or.inr (by decide)), z2_n (Or.inr (by decide))]; exact g2 26 (by decide) (by decide)
      · rw [z2_n (Or.inr (by decide)), z2_n (Or.inr (by decide)), z2_n (Or.inr (by decide))]; exact g2 27 (by decide) (by decide)
      · rw [z2_n (Or.inr (by decide)), z2_n (Or.inr (by decide)), z2_n (Or.inr (by decide))]; exact g2 28 (by decide) (by decide)
      · rw [hp]
        have e21 : J1 67 21 = (p : Int) := (hB.F g1).2.2.2.1
        refine ⟨by rw [z2_s]; exact e21, fun _ => by rw [z2_n (Or.inr (by decide)), z2_s], fun q => absurd q (by omega), fun q => absurd q (by omega), fun q => absurd q (by omega), fun q => absurd q (by omega), fun q => absurd q (by omega)⟩
  have loop : ∀ (a k : Nat) (J1 : zI) (o1 o2 : Option zV), k + a = n → mrF I J1 → (∀ j, j ≠ 22 → J1 67 j = J 67 j) → J1 67 22 = (k : Int) → msc mbl b (n - h) h = msc mbl b (n - k) k → zRn (zcl d) 144 B Q1 0 [some (zr 67), o1, o2] [] (c, J1, zRg g) := by
    intro a
    induction a with
    | zero =>
      intro k J1 o1 o2 hk g1 g2 g3 g4
      obtain rfl : k = n := by omega
      have ek : msc mbl b (k - h) h = k := by rw [g4, Nat.sub_self]; rfl
      refine g_x12_next_0 ?_
      rw [g3]
      refine r143 (hB.F g1) (by omega) (by omega) (g_x12_next_8 ⟨fun w => absurd w (by rw [if_neg (by omega)]; decide), fun _ => ?_⟩)
      rw [g3]
      refine r143 (hB.F g1) (by omega) (by omega) (g_x12_next_21 ⟨fun _ => ?_, fun w => absurd (by rw [if_neg (by omega)]; decide) w⟩)
      rw [g3]
      exact r143 (hB.F (g1.put (by decide) (by decide))) (by omega) (by omega) (tok k _ o1 o2 (Nat.le_refl _) ek (g1.put (by decide) (by decide)) (fun j q1 q2 => by rw [z2_n (Or.inr q2)]; exact g2 j q1) (by rw [z2_n (Or.inr (by decide))]; exact g3) z2_s)
    | succ a ih =>
      intro k J1 o1 o2 hk g1 g2 g3 g4
      have nx : mbl (b k) = true → zRn (zcl d) 144 B Q1 0 [some (zr 67), o1, o2] [] (c, z2 J1 67 22 (zwr (J1 67 22 + 1)), zRg g) := by
        intro hb
        rw [g3, z1p k (by omega)]
        exact ih (k + 1) _ o1 o2 (by omega) (g1.put (by decide) (by decide)) (fun j q => by rw [z2_n (Or.inr q)]; exact g2 j q) z2_s (by rw [g4]; exact msc_un hb (by omega))
      refine g_x12_next_0 ?_
      rw [g3]
      refine r143 (hB.F g1) (by omega) (by omega) (g_x12_next_8 ?_)
      rw [if_pos (show k < n by omega)]
      refine ⟨fun w => nx (decide_eq_true (Or.inl w)), fun w => ?_⟩
      rw [g3]
      refine r143 (hB.F g1) (by omega) (by omega) (g_x12_next_21 ?_)
      rw [if_pos (show k < n by omega)]
      refine ⟨fun w1 => ?_, fun w1 => nx (decide_eq_true (Or.inr (Decidable.not_not.mp w1)))⟩
      have hnb : mbl (b k) = false := decide_eq_false (fun q => q.elim w w1)
      have ek : msc mbl b (n - h) h = k := by rw [g4]; exact msc_st hnb
      rw [g3]
      exact r143 (hB.F (g1.put (by decide) (by decide))) (by omega) (by omega) (tok k _ o1 o2 (by omega) ek (g1.put (by decide) (by decide)) (fun j q1 q2 => by rw [z2_n (Or.inr q2)]; exact g2 j q1) (by rw [z2_n (Or.inr (by decide))]; exact g3) z2_s)
  exact loop (n - h) h J none none (by omega) hF (fun _ _ => rfl) hh rfl
end
end
