section
/-! the reference: told back, value by value -/
section
variable {c : Nat × Nat × Nat} {I : zI} {g : Nat} {Q : zQ} {K : zI} {T : Nat → Nat → List Int}
set_option maxHeartbeats 1000000 in
theorem l_scan {d : Nat} (he : 59 ≤ d) {B : Nat × Nat} {x3 st va : Int} {one N s n : Nat} {cl : Nat → Int} (hK : mWd K) (hE : nE K I) (h13 : I 67 13 = 0) (h6 : 0 ≤ I 67 3 ∧ I 67 3 ≤ 6) (hK6 : K 0 6 < I 67 3) (hXm : ∀ t : Nat, (t : Int) < I 67 3 → mXo I t) (hXn : ∀ t : Nat, (t : Int) < I 67 3 → nXo I t) (hT : ∀ t : Nat, (t : Int) < I 67 3 → ∀ q, T t q = nT I t q)
    (hs : s < 4) (hn : I 79 s = n) (h10 : n ≤ 10) (hcl : ∀ i, i < n → I 80 (40 * s + i) = cl i) (hone : (one : Int) < K 0 2)
    (hst : (st = 6 ∧ va = 9) ∨ (st = va ∧ (va = 1 ∨ va = 2 ∨ va = 3 ∨ va = 5))) (hv : (va = 9 ∧ (N : Int) ≤ I 67 3) ∨ (va = 5 ∧ N ≤ 6) ∨ (va = 1 ∧ N ≤ 10) ∨ (va = 2 ∧ N ≤ 1024) ∨ (va = 3 ∧ N ≤ 100)) {o x6 : Int} (ho9 : va = 9 → o = I 67 4) (ho1 : va ≠ 9 → o = I 71 (5 * one + nix5 (mfi va)))
    (hx3 : N ≤ 10 ∨ x3 = 3 ∨ x3 = 4 ∨ x3 = 5 ∨ x3 = 6)
    (H : ∀ J, nF I J → Q (some (zi (if x3 = 3 ∨ x3 = 5 then mcn (mso T K cl n one va) N else if x3 = 4 ∨ x3 = 6 then mls (mso T K cl n one va) N else msb (mso T K cl n one va) N))) (c, J, zRg g)) :
    zRn (zcl d) 187 B Q 215 [some (zr 67), some (zi (s : Nat)), some (zi (one : Nat)), some (zi x3), some (zi st), some (zi o), some (zi x6), some (zi 0), some (zi 0), some (zi (-1)), some (zi ((N : Int) - 1))] [] (c, I, zRg g) := by
  have h5 := hK.1.1.1
  have h8 := hK.2.1
  have hr6 := hK.1.2.2
  have ho5 : one < 5 := by omega
  have hN : N ≤ 1024 := by omega
  generalize hP : mso T K cl n one va = P at H
  have hva10 : va ≠ 10 := by omega
  have hP1 : ∀ v : Nat, P v = decide (mfo T (mvary K one va (v : Int)) one cl n 0 = -1) := fun v => by
    rw [← hP]
    unfold mso mwho
    rw [if_neg hva10]
  have hOK : ∀ v : Nat, v < N → mWd (mvary K one va (v : Int)) ∧ 0 ≤ mvary K one va (v : Int) 0 6 ∧ mvary K one va (v : Int) 0 6 < I 67 3 := by
    intro v hvN
    have hh := mvary_ok (I := I) (K := K) (one := one) (N := N) (va := va) hK.1.1 hr6 hone (hXm _ (by omega)) (fun q => ⟨by omega, fun t ht => hXm t (by omega)⟩) (by omega) v hvN
    refine ⟨mWd_vary hK hh.1 hh.2.1, hh.2.1.1, ?_⟩
    unfold mvary
    by_cases q : va = 9
    · rw [if_pos q, z2_s]; omega
    · rw [if_neg q, if_neg hva10, z2_n (Or.inl (by omega))]; exact hK6
  have loop : ∀ (m : Nat) (J : zI) (w x7 x8 x9 : Int), m ≤ N → nSt I J one va → nE (mvary K one va w) J → mR x7 → 0 ≤ x8 → x8 + mcn P m = mcn P N → (mls P m ≠ -1 → mls P N = mls P m) → (mls P m = -1 → mls P N = x9) → (N ≤ 10 → zor (msb P m) x7 = msb P N) → zRn (zcl d) 187 B Q 215 [some (zr 67), some (zi (s : Nat)), some (zi (one : Nat)), some (zi x3), some (zi st), some (zi o), some (zi x6), some (zi x7), some (zi x8), some (zi x9), some (zi ((m : Int) - 1))] [] (c, J, zRg g) := by
    intro m
    induction m with
    | zero =>
      intro J w x7 x8 x9 hm hS hE7 h7 h80 hn8 hl1 hl2 hb
      have fin : ∀ J1, nF I J1 → zRn (zcl d) 187 B Q 281 [some (zr 67), some (zi (s : Nat)), some (zi (one : Nat)), some (zi x3), some (zi st), some (zi o), some (zi x6), some (zi x7), some (zi x8), some (zi x9), some (zi (((0 : Nat) : Int) - 1))] [] (c, J1, zRg g) := by
        intro J1 h1
        have H := H J1 h1
        have q8 : x8 = mcn P N := by rw [← hn8]; show x8 = x8 + 0; omega
        have q9 : x9 = mls P N := (hl2 rfl).symm
        refine g_x12_tells_281 ⟨fun a => ?_, fun a => ⟨fun b => ⟨fun f => ?_, fun f => ⟨fun h => ?_, fun h => ?_⟩⟩, fun b => ?_⟩⟩
        · rw [if_pos (Or.inl a)] at H; rw [q8]; exact H
        · rw [if_neg (by omega), if_pos (Or.inl f)] at H; rw [q9]; exact H
        · rw [if_neg (by omega), if_neg (by omega)] at H
          have hb := hb (by omega)
          have q7 : x7 = msb P N := by
            rw [← hb]
            show x7 = zor 0 x7
            rw [zor_cm mR0 h7, m_or0 h7]
          rw [q7]; exact H
        · rw [if_neg (by omega), if_pos (Or.inr (Decidable.not_not.mp h))] at H; rw [q9]; exact H
        · rw [if_pos (Or.inr (Decidable.not_not.mp b))] at H; rw [q8]; exact H
      obtain ⟨f1, f2, f3⟩ := hS
      refine g_x12_tells_215 ⟨fun _ => r138v (by omega) ho5 hst (fun q => fin _ ?_) (fun q => fin _ ?_), fun u => absurd (by omega) u⟩
      · refine ⟨fun y a b _ _ _ => by rw [z2_r a]; exact f1 y a b, fun j _ _ _ b => ?_, fun j _ => by rw [z2_n (Or.inl (by decide))]; exact f3 j (Or.inl q), fun j _ => by rw [z2_n (Or.inl (by decide)), f1 72 (by decide) (by decide)]⟩
        by_cases h : j = 4
        · rw [h, z2_s]; exact ho9 q
        · rw [z2_n (Or.inr h)]; exact f2 j (fun _ => h) b
      · refine ⟨fun y a b _ _ _ => by rw [z2_r b]; exact f1 y a b, fun j _ _ _ b => by rw [z2_n (Or.inl (by decide))]; exact f2 j (fun z => absurd z q) b, fun j _ => ?_, fun j _ => by rw [z2_n (Or.inl (by decide)), f1 72 (by decide) (by decide)]⟩
        by_cases h : j = 5 * one + nix5 (mfi va)
        · rw [h, z2_s]; exact ho1 q
        · rw [z2_n (Or.inr h)]; exact f3 j (Or.inr h)
    | succ m ih =>
      intro J w x7 x8 x9 hm hS hE7 h7 h80 hn8 hl1 hl2 hb
      have ex : ((m + 1 : Nat) : Int) - 1 = (m : Int) := by omega
      rw [ex]
      obtain ⟨hW1, h06, h36⟩ := hOK m (by omega)
      have step : ∀ J1, nSt I J1 one va → nE (mvary K one va (m : Int)) J1 → zRn (zcl d) 187 B Q 229 [some (zr 67), some (zi (s : Nat)), some (zi (one : Nat)), some (zi x3), some (zi st), some (zi o), some (zi x6), some (zi x7), some (zi x8), some (zi x9), some (zi (m : Nat))] [] (c, J1, zRg g) := by
        intro J1 hS1 hE1
        have h131 : J1 67 13 = 0 := by rw [hS1.2.1 13 (fun _ => by decide) (by decide)]; exact h13
        have e4 : J1 67 4 = mvary K one va (m : Int) 0 6 := hE1.1.2.2.2.2.symm
        have tt : ((mvary K one va (m : Int) 0 6).toNat : Int) < I 67 3 := by omega
        have hXJ : nXo J1 (J1 67 4).toNat := by rw [e4]; exact hS1.Xo (hXn _ tt)
        refine g_x12_tells_229 (r185 (K := mvary K one va (m : Int)) (T := T) (n := n) (cl := cl) (by omega) (nW_of hW1 hE1 h131 hXJ) (hE1.lk h131) (fun q => by rw [hS1.T]; exact hT _ tt q) hs (by rw [hS1.1 79 (by decide) (by decide)]; exact hn) h10 (by rw [mvary_02 (by decide)]; exact hone) (by rw [hS1.1 80 (by decide) (by decide)]; exact hcl) (fun J2 h2 => g_x12_tells_235 ?_))
        have hp := hP1 m
        have hr := mcn_r P N
        have hr2 := mcn_r P m
        have e1 : mcn P (m + 1) = if P m = true then mcn P m + 1 else mcn P m := rfl
        have e2 : mls P (m + 1) = if P m = true ∧ mls P m = -1 then (m : Int) else mls P m := rfl
        have e3 : msb P (m + 1) = if P m = true ∧ m < 31 then zor (msb P m) (zshl 1 (m : Int)) else msb P m := rfl
        rw [e1] at hn8
        rw [e2] at hl1 hl2
        rw [e3] at hb
        have ez : zwr ((m : Int) + -1) = (m : Int) - 1 := by rw [zwr_eq (show zIn ((m : Int) + -1) by omega)]; omega
        rw [ez]
        clear ez
        have nx := fun x7 x8 x9 a b c d e f => ih J2 (m : Int) x7 x8 x9 (by omega) (hS1.A h2) (nE_A h2 hE1) a b c d e f
        have yes : P m = true → ∀ x7', mR x7' → (N ≤ 10 → x7' = zor x7 (zshl 1 (m : Int))) → zRn (zcl d) 187 B Q 215 [some (zr 67), some (zi (s : Nat)), some (zi (one : Nat)), some (zi x3), some (zi st), some (zi o), some (zi x6), some (zi x7'), some (zi (zwr (x8 + 1))), some (zi (m : Nat)), some (zi ((m : Int) - 1))] [] (c, J2, zRg g) := by
          intro q x7' h7' hx7'
          rw [if_pos q] at hn8
          have ez8 : zwr (x8 + 1) = x8 + 1 := zwr_eq (show zIn (x8 + 1) by omega)
          rw [ez8]
          clear ez8
          refine nx x7' (x8 + 1) (m : Int) h7' (by omega) (by omega) (fun z => ?_) (fun z => ?_) (fun z => ?_)
          · rw [if_neg (fun y => z y.2)] at hl1
            exact hl1 z
          · rw [if_pos ⟨q, z⟩] at hl1
            exact hl1 (by omega)
          · have hb := hb z
            rw [if_pos ⟨q, by omega⟩] at hb
            rw [← hb, hx7' z]
            exact (zor_as (msb_r P m (by omega)) (m_shl (by omega) (by omega)) h7).symm
        refine ⟨fun u => ?_, fun u => ⟨fun v => ?_, fun v => ?_⟩⟩
        · have q : ¬ P m = true := fun z => u (of_decide_eq_true (hp.symm.trans z))
          rw [if_neg q] at hn8
          rw [if_neg (fun z => q z.1)] at hl1 hl2 hb
          exact nx x7 x8 x9 h7 h80 hn8 hl1 hl2 hb
        · have q : P m = true := hp.trans (decide_eq_true (Decidable.not_not.mp u))
          refine yes q _ (by rw [m_or0 h7]; exact h7) (fun z => absurd v (by omega))
        · have q : P m = true := hp.trans (decide_eq_true (Decidable.not_not.mp u))
          refine yes q _ (m_orR h7 (m_shl (by omega) (by omega))) (fun _ => rfl)
      refine g_x12_tells_215 ⟨fun u => absurd u (by omega), fun _ => r138v (by omega) ho5 hst (fun q => step _ (hS.rul q) ?_) (fun q => step _ (hS.put q) ?_)⟩
      · have hh := nE_rul (v := (m : Int)) hE7
        have ee : z2 (mvary K one va w) 0 6 (m : Int) = mvary K one va (m : Int) := by
          unfold mvary
          rw [if_pos q, if_pos q, z2_z2]
        rw [ee] at hh
        exact hh
      · have ee : z2 (mvary K one va w) (3 + one) (mfi va) (m : Int) = mvary K one va (m : Int) := by
          unfold mvary
          rw [if_neg q, if_neg hva10, if_neg q, if_neg hva10, z2_z2]
        have hh := nE_put (one := one) (j := mfi va) (v := (m : Int)) hE7 (by rcases hst with ⟨-, h⟩ | ⟨-, h | h | h | h⟩ <;> subst h <;> first | (exact absurd rfl q) | decide) (fun z => by
          have : va = 2 := by rcases hst with ⟨-, h⟩ | ⟨-, h | h | h | h⟩ <;> subst h <;> first | rfl | (exact absurd z (by decide))
          omega)
        rw [ee] at hh
        exact hh
  obtain ⟨w, hw⟩ := mvary_own (K := K) (one := one) (va := va)
  have hb := mcn_r P N
  exact loop N I w 0 0 (-1) (Nat.le_refl _) (nSt.rf I one va) (by rw [hw]; exact hE) mR0 (by decide) (by omega) (fun _ => rfl) (fun q => q) (fun z => m_or0 (msb_r P N z))
set_option maxHeartbeats 1000000 in
theorem y_tells {e : Nat} (he : 60 ≤ e) {x1 x2 x3 : Int} {cl : Nat → Int} (hK : mWd K) (hE : nE K I) (h13 : I 67 13 = 0) (h6 : 0 ≤ I 67 3 ∧ I 67 3 ≤ 6) (hK6 : K 0 6 < I 67 3) (hXm : ∀ t : Nat, (t : Int) < I 67 3 → mXo I t) (hXn : ∀ t : Nat, (t : Int) < I 67 3 → nXo I t) (hT : ∀ t : Nat, (t : Int) < I 67 3 → ∀ q, T t q = nT I t q) (h40 : ∀ s, s < 4 → I 77 s ≠ 0 → 0 ≤ I 79 s)
    (hcl : 0 ≤ x1 → x1 < 4 → I 77 x1.toNat ≠ 0 → ∀ j : Nat, (j : Int) < I 79 x1.toNat → I 80 (40 * x1.toNat + j) = cl j)
    (Hb : ¬ ((0 ≤ x1 ∧ x1 < 4) ∧ (0 ≤ x2 ∧ x2 < K 0 2) ∧ 0 ≤ x3 ∧ x3 ≤ 8) → Q (some (zi (-2))) (c, I, zRg g))
    (Hm : (0 ≤ x1 ∧ x1 < 4) → (0 ≤ x2 ∧ x2 < K 0 2) → 0 ≤ x3 → x3 ≤ 8 → I 77 x1.toNat = 0 → Q (some (zi (-11))) (c, I, zRg g))
    (Hl : (0 ≤ x1 ∧ x1 < 4) → (0 ≤ x2 ∧ x2 < K 0 2) → 0 ≤ x3 → x3 ≤ 8 → I 77 x1.toNat ≠ 0 → 10 < I 79 x1.toNat → Q (some (zi (-2))) (c, I, zRg g))
    (H : (0 ≤ x1 ∧ x1 < 4) → (0 ≤ x2 ∧ x2 < K 0 2) → 0 ≤ x3 → x3 ≤ 8 → I 77 x1.toNat ≠ 0 → I 79 x1.toNat ≤ 10 → ∀ J, nF I J → Q (some (zi (ntv T K cl (I 79 x1.toNat).toNat (I 67 3) x2.toNat x3))) (c, J, zRg g)) :
    zcl e 187 0 0 [zr 67, zi x1, zi x2, zi x3] (c, I, zRg g) Q := by
  obtain ⟨d, rfl⟩ : ∃ d, e = d + 1 := ⟨e - 1, by omega⟩
  have h5 := hK.1.1.1
  have h8 := hK.2.1
  have hr6 := hK.1.2.2
  have e9 : K 0 2 = I 67 9 := hE.1.1
  have e11 : K 0 3 = I 67 11 := hE.1.2.1
  have e4 : K 0 6 = I 67 4 := hE.1.2.2.2.2
  refine zen rfl rfl (fun B Q1 hQ => g_x12_tells_0 (r195 (by omega) (g_x12_tells_4 ⟨fun u => hQ _ _ _ (Hb (fun q => mbo_0.mp u q.1)), fun u => r134 (by omega) (by omega) (g_x12_tells_12 ⟨fun v => hQ _ _ _ (Hb (fun q => mbo_0.mp v (by omega))), fun v => r130 (by omega) (g_x12_tells_24 ⟨fun w => ?_, fun w => hQ _ _ _ (Hb (fun q => mbo_0.mp (Decidable.not_not.mp w) (by omega)))⟩)⟩)⟩)))
  have u := mbo_n0.mp u
  have v := mbo_n0.mp v
  rw [← e9] at v
  have w := mbo_n0.mp w
  have hs : x1.toNat < 4 := by omega
  have ex1 : x1 = ((x1.toNat : Nat) : Int) := by omega
  have ex2 : x2 = ((x2.toNat : Nat) : Int) := by omega
  refine ⟨u, fun z => ⟨u, fun z1 => ?_, fun z1 => hQ _ _ _ (Hl u v w.1 (by omega) z (by omega))⟩, fun z => hQ _ _ _ (Hm u v w.1 (by omega) (Decidable.not_not.mp z))⟩
  have H2 := fun J h => hQ _ _ _ (H u v w.1 (by omega) z z1 J h)
  clear H Hb Hm Hl
  have hs0 := h40 _ hs z
  have hcl := hcl u.1 u.2 z
  have hn : I 79 x1.toNat = (((I 79 x1.toNat).toNat : Nat) : Int) := by omega
  have h10 : (I 79 x1.toNat).toNat ≤ 10 := by omega
  have hcl1 : ∀ i, i < (I 79 x1.toNat).toNat → I 80 (40 * x1.toNat + i) = cl i := fun i hi => hcl i (by omega)
  have hone : ((x2.toNat : Nat) : Int) < K 0 2 := by omega
  have hXI : nXo I (I 67 4).toNat := hXn _ (by omega)
  have hW := nW_of hK hE h13 hXI
  have hTK : ∀ q, T (K 0 6).toNat q = nT I (K 0 6).toNat q := fun q => hT _ (by omega) q
  have h72 : ∀ y : Int, (1 ≤ y ∧ y ≤ 5) → ∀ {d1 : Nat} {Q2 : zQ}, 4 ≤ d1 → Q2 (some (zi (I 71 (5 * x2.toNat + (y.toNat - 1))))) (c, I, zRg g) → zcl d1 140 0 0 [zr 67, zi x2, zi y] (c, I, zRg g) Q2 := by
    intro y hy d1 Q2 hd1 HH
    refine y_told hd1 (by omega) (by omega) (fun q => absurd ?_ q) (fun q => absurd q (by omega)) (fun q => absurd q (by omega)) (fun q => absurd q (by omega)) (fun q => absurd q (by omega)) (fun _ _ _ _ => HH)
    omega
  generalize hs1 : x1.toNat = s at *
  generalize x2.toNat = one at *
  generalize (I 79 s).toNat = n at *
  subst ex1 ex2
  unfold ntv at H2
  have scan := fun (N : Nat) (x6 o : Int) (st va : Int) a1 a2 a3 a4 a5 a6 => l_scan (d := d) (by omega) (B := B) (Q := Q1) (x3 := x3) (st := st) (va := va) (one := one) (N := N) (s := s) (n := n) (cl := cl) (o := o) (x6 := x6) (T := T) (g := g) (c := c) hK hE h13 h6 hK6 hXm hXn hT hs hn h10 hcl1 hone a1 a2 a3 a4 a5 a6
  have like : x3 = 8 → zcl d 186 0 0 [zr 67, zi ((s : Nat) : Int)] (c, I, zRg g) (fun v h1 => zRn (zcl d) 187 B Q1 84 [some (zr 67), some (zi ((s : Nat) : Int)), some (zi ((one : Nat) : Int)), some (zi x3), none, none, none, none, none, none, none] (zva v []) h1) := fun y => r186 (T := T) (K := K) (one := one) (by omega) hW (hE.lk h13) hTK hs hn h10 hcl1 (fun J h => g_x12_tells_84 (by
    have H := H2 J h.F
    rw [if_neg (by omega), if_neg (by omega), if_neg (by omega), if_neg (by omega), if_neg (by omega), if_neg (by omega), if_neg (by omega), if_neg (by omega)] at H
    exact H))
  refine ⟨fun y => ⟨fun y1 => absurd y y1, fun _ => r185 (T := T) (K := K) (by omega) hW (hE.lk h13) hTK hs hn h10 hone hcl1 (fun J h => g_x12_tells_76 (g_x12_tells_84 (by
    have H := H2 J h.F
    rw [if_pos y] at H
    exact H)))⟩, fun y => ⟨fun y8 => ⟨fun y1 => ⟨fun y2 => ⟨fun y5 => ⟨fun y7 => ?_, fun y7 => ?_⟩, fun y5 => ?_⟩, fun y2 => ?_⟩, fun y1 => ?_⟩, fun y8 => ⟨fun _ => like (Decidable.not_not.mp y8), fun y1 => absurd y y1⟩⟩⟩
  · refine g_x12_tells_147 ⟨fun q => absurd rfl q, fun _ => ?_⟩
    rw [zwr_eq (show zIn (I 67 3 - 1) by omega)]
    have e3 : I 67 3 = (((I 67 3).toNat : Nat) : Int) := by omega
    have hh := scan (I 67 3).toNat (I 67 3 - 1) (I 67 4) 6 9 (Or.inl ⟨rfl, rfl⟩) (Or.inl ⟨rfl, by omega⟩) (fun _ => rfl) (fun q => absurd rfl q) (Or.inl (by omega)) (fun J h => by
      have H := H2 J h
      rw [if_neg (by omega), if_neg (by omega), if_neg (by omega), if_neg (by omega), if_neg (by omega), if_neg (by omega), if_neg (by omega), if_pos (by omega)] at H
      rw [if_neg (by omega), if_neg (by omega)]
      exact H)
    rw [← e3] at hh
    exact hh
  · refine h72 2 (by omega) (by omega) (g_x12_tells_147 ⟨fun _ => ⟨fun _ => ⟨fun _ => ⟨fun _ => ?_, fun q => absurd (by decide) q⟩, fun q => absurd (by decide) q⟩, fun q => absurd (by decide) q⟩, fun q => absurd (by decide) q⟩)
    exact scan 1024 1023 _ 2 2 (Or.inr ⟨rfl, by omega⟩) (by omega) (fun q => absurd q (by decide)) (fun _ => rfl) (by omega) (fun J h => by
      have H := H2 J h
      rw [if_neg (by omega), if_neg (by omega), if_neg (by omega), if_neg (by omega), if_neg (by omega)] at H
      by_cases q : x3 = 5
      · rw [if_pos q] at H; rw [if_pos (Or.inr q)]; exact H
      · rw [if_neg q, if_pos (by omega)] at H; rw [if_neg (by omega), if_pos (by omega)]; exact H)
  · refine h72 3 (by omega) (by omega) (g_x12_tells_147 ⟨fun _ => ⟨fun _ => ⟨fun _ => ⟨fun q => absurd rfl q, fun _ => ?_⟩, fun q => absurd (by decide) q⟩, fun q => absurd (by decide) q⟩, fun q => absurd (by decide) q⟩)
    exact scan 100 99 _ 3 3 (Or.inr ⟨rfl, by omega⟩) (by omega) (fun q => absurd q (by decide)) (fun _ => rfl) (by omega) (fun J h => by
      have H := H2 J h
      rw [if_neg (by omega), if_neg (by omega), if_neg (by omega)] at H
      by_cases q : x3 = 3
      · rw [if_pos q] at H; rw [if_pos (Or.inl q)]; exact H
      · rw [if_neg q, if_pos (by omega)] at H; rw [if_neg (by omega), if_pos (by omega)]; exact H)
  · have y2 := Decidable.not_not.mp y2
    refine h72 1 (by omega) (by omega) (g_x12_tells_147 ⟨fun _ => ⟨fun _ => ⟨fun q => absurd rfl q, fun _ => ?_⟩, fun q => absurd (by decide) q⟩, fun q => absurd (by decide) q⟩)
    exact scan 10 9 _ 1 1 (Or.inr ⟨rfl, by omega⟩) (by omega) (fun q => absurd q (by decide)) (fun _ => rfl) (by omega) (fun J h => by
      have H := H2 J h
      rw [if_neg (by omega), if_neg (by omega), if_pos y2] at H
      rw [if_neg (by omega), if_neg (by omega)]
      exact H)
  · have y1 := Decidable.not_not.mp y1
    refine h72 5 (by omega) (by omega) (g_x12_tells_147 ⟨fun _ => ⟨fun q => absurd rfl q, fun _ => ?_⟩, fun q => absurd (by decide) q⟩)
    exact scan 6 5 _ 5 5 (Or.inr ⟨rfl, by omega⟩) (by omega) (fun q => absurd q (by decide)) (fun _ => rfl) (by omega) (fun J h => by
      have H := H2 J h
      rw [if_neg (by omega), if_pos y1] at H
      rw [if_neg (by omega), if_neg (by omega)]
      exact H)
end
end
