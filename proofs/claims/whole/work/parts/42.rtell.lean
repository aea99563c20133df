section
/-! the reference: its world, its texts; what one keeps, tells, how it tires, whether one learns; told by all -/
/-- the reference's world, as the class's is written -/
def nK (I : zI) : zI := fun x j =>
  if x = 0 then (if j = 2 then I 67 9 else if j = 3 then I 67 11 else if j = 4 then I 67 7 else if j = 5 then I 67 12 else if j = 6 then I 67 4 else 0)
  else if x = 2 then I 72 j
  else if x < 3 then 0
  else (if j = 0 then I 71 (5 * (x - 3) + 4) else if j = 1 then I 71 (5 * (x - 3)) else if j = 2 then zor (I 71 (5 * (x - 3) + 1)) (I 67 13) else if j = 3 then I 71 (5 * (x - 3) + 2) else if j = 4 then I 71 (5 * (x - 3) + 3) else 0)
def nb (I : zI) (t : Nat) : Nat → Int := fun i => I 68 (160 * t + i)
def nR (I : zI) (t : Nat) : Bool × Nat × List Int × List Int × List Int := mtext (mkd (nb I t) (I 69 t).toNat) (mvl (nb I t) (I 69 t).toNat)
def mtq (r : Bool × Nat × List Int × List Int × List Int) (q : Nat) : List Int := if q = 0 then r.2.2.1 else if q = 1 then r.2.2.2.1 else r.2.2.2.2
def nT (I : zI) (t q : Nat) : List Int := if q < 3 then mtq (nR I t) q else if t < 6 then mX I t q else []
/-- text t stands as one that has been read -/
def nXo (I : zI) (t : Nat) : Prop := (nR I t).1 = true ∧ (0 ≤ I 69 t ∧ I 69 t ≤ 160) ∧ ∀ i : Nat, (i : Int) < I 69 t → 0 ≤ nb I t i ∧ nb I t i ≤ 255
def nW (I : zI) : Prop := mok (nK I) ∧ (0 ≤ I 67 7 ∧ I 67 7 < 5000) ∧ (0 ≤ I 67 4 ∧ I 67 4 < 6) ∧ nXo I (I 67 4).toNat
/-- what a telling changes -/
def nA (I J : zI) : Prop := (∀ y, y ≠ 67 → J y = I y) ∧ ∀ j, (j < 14 ∨ 28 < j) → J 67 j = I 67 j
theorem nA.rf (I : zI) : nA I I := ⟨fun _ _ => rfl, fun _ _ => rfl⟩
theorem nA.tr {I J K : zI} (h : nA I J) (h1 : nA J K) : nA I K := ⟨fun y q => (h1.1 y q).trans (h.1 y q), fun j q => (h1.2 j q).trans (h.2 j q)⟩
theorem nA.put {I J : zI} (h : nA I J) {j : Nat} {x : Int} (h1 : 14 ≤ j) (h2 : j ≤ 28) : nA I (z2 J 67 j x) := ⟨fun y q => by rw [z2_r q]; exact h.1 y q, fun k q => by rw [z2_n (Or.inr (by omega))]; exact h.2 k q⟩
theorem nA.K {I J : zI} (h : nA I J) : nK J = nK I := by
  funext x j
  unfold nK
  rw [h.2 9 (by decide), h.2 11 (by decide), h.2 7 (by decide), h.2 12 (by decide), h.2 4 (by decide), h.2 13 (by decide), h.1 72 (by decide), h.1 71 (by decide)]
theorem nA.R {I J : zI} (h : nA I J) : nR J = nR I := by
  funext t
  unfold nR nb
  rw [h.1 68 (by decide), h.1 69 (by decide)]
theorem nA.T {I J : zI} (h : nA I J) : nT J = nT I := by
  have e : ∀ t q, t < 6 → mX J t q = mX I t q := by
    intro t q ht
    unfold mX mX0
    rw [h.1 (46 + 3 * t) (by omega), h.1 (45 + 3 * t) (by omega)]
  funext t q
  unfold nT
  rw [h.R]
  by_cases ht : t < 6
  · rw [if_pos ht, if_pos ht, e t q ht]
  · rw [if_neg ht, if_neg ht]
theorem nA.Xo {I J : zI} (h : nA I J) {t : Nat} (o : nXo I t) : nXo J t := by
  unfold nXo nb at o ⊢
  rw [h.R, h.1 68 (by decide), h.1 69 (by decide)]
  exact o
theorem nA.W {I J : zI} (h : nA I J) (hW : nW I) : nW J := by
  obtain ⟨h1, h2, h3, h4⟩ := hW
  exact ⟨by rw [h.K]; exact h1, by rw [h.2 7 (by decide)]; exact h2, by rw [h.2 4 (by decide)]; exact h3, by rw [h.2 4 (by decide)]; exact h.Xo h4⟩
theorem nK_p (I : zI) (p : Nat) : nK I (3 + p) 0 = I 71 (5 * p + 4) ∧ nK I (3 + p) 1 = I 71 (5 * p) ∧ nK I (3 + p) 2 = zor (I 71 (5 * p + 1)) (I 67 13) ∧ nK I (3 + p) 3 = I 71 (5 * p + 2) ∧ nK I (3 + p) 4 = I 71 (5 * p + 3) := by
  have h0 : ¬ (3 + p = 0) := by omega
  have h2 : ¬ (3 + p = 2) := by omega
  have h3 : ¬ (3 + p < 3) := by omega
  have e : 3 + p - 3 = p := by omega
  unfold nK
  rw [if_neg h0, if_neg h2, if_neg h3, if_neg h0, if_neg h2, if_neg h3, if_neg h0, if_neg h2, if_neg h3, if_neg h0, if_neg h2, if_neg h3, if_neg h0, if_neg h2, if_neg h3, e]
  exact ⟨rfl, rfl, rfl, rfl, rfl⟩
theorem nix {p k : Nat} (hp : p < 5) (hk : k < 5) : zwr (zwr (5 * (p : Int)) + (k : Int)) = ((5 * p + k : Nat) : Int) := by
  rw [zwr_eq (show zIn (5 * (p : Int)) by omega), zwr_eq (show zIn (5 * (p : Int) + (k : Int)) by omega)]
  omega
theorem nix0 {p : Nat} (hp : p < 5) : zwr (5 * (p : Int)) = ((5 * p : Nat) : Int) := by
  rw [zwr_eq (show zIn (5 * (p : Int)) by omega)]
  omega
section
variable {c : Nat × Nat × Nat} {I : zI} {g : Nat} {Q : zQ}
set_option maxHeartbeats 1000000 in
theorem r158 {e : Nat} (he : 46 ≤ e) {t q n : Nat} (ht : t < 6) (hq : q < 3) (hn : I 69 t = (n : Int)) (h160 : n ≤ 160) (hby : ∀ i, i < n → 0 ≤ nb I t i ∧ nb I t i ≤ 255)
    (H : ∀ J x, nA I J → (∀ k c0 c1 c2, mtext (mkd (nb I t) n) (mvl (nb I t) n) = (true, k, c0, c1, c2) → J 67 27 = 0 ∧ mrun (rnm I) (mtq (true, k, c0, c1, c2) q) = some [x]) → (∀ k c0 c1 c2, mtext (mkd (nb I t) n) (mvl (nb I t) n) = (false, k, c0, c1, c2) → J 67 27 = 1 ∧ J 67 28 = (mpl (nb I t) n k : Nat)) → Q (some (zi x)) (c, J, zRg g)) : zcl e 158 0 0 [zr 67, zi (t : Nat), zi (q : Nat)] (c, I, zRg g) Q := by
  obtain ⟨d, rfl⟩ : ∃ d, e = d + 1 := ⟨e - 1, by omega⟩
  refine zen rfl rfl (fun B Q1 hQ => g_x12_read_0 ⟨by omega, ?_⟩)
  have H := fun J x a1 a2 a3 => hQ _ _ _ (H J x a1 a2 a3)
  rw [z2_n (Or.inl (show 69 ≠ 67 by decide)), Int.toNat_natCast, hn, zwr_eq (show zIn (160 * (t : Int)) by omega)]
  have hnA : nA I (z2 (z2 (z2 (z2 (z2 I 67 20 (160 * (t : Int))) 67 21 (n : Int)) 67 22 0) 67 26 0) 67 27 0) := (((((nA.rf I).put (by decide) (by decide)).put (by decide) (by decide)).put (by decide) (by decide)).put (by decide) (by decide)).put (by decide) (by decide)
  have hnm : rnm (z2 (z2 (z2 (z2 (z2 I 67 20 (160 * (t : Int))) 67 21 (n : Int)) 67 22 0) 67 26 0) 67 27 0) = rnm I := by
    have r : ∀ j, j < 20 → z2 (z2 (z2 (z2 (z2 I 67 20 (160 * (t : Int))) 67 21 (n : Int)) 67 22 0) 67 26 0) 67 27 0 67 j = I 67 j := fun j hj => by
      rw [z2_n (Or.inr (by omega)), z2_n (Or.inr (by omega)), z2_n (Or.inr (by omega)), z2_n (Or.inr (by omega)), z2_n (Or.inr (by omega))]
    funext x
    unfold rnm
    rw [r 14 (by decide), r 15 (by decide), r 16 (by decide), r 17 (by decide), r 18 (by decide), r 19 (by decide)]
  have hB : rB (z2 (z2 (z2 (z2 (z2 I 67 20 (160 * (t : Int))) 67 21 (n : Int)) 67 22 0) 67 26 0) 67 27 0) (nb I t) n t := by
    refine ⟨ht, h160, ?_, ?_, fun i hi => ?_, hby⟩
    · rw [z2_n (Or.inr (by decide)), z2_n (Or.inr (by decide)), z2_n (Or.inr (by decide)), z2_n (Or.inr (by decide)), z2_s]
    · rw [z2_n (Or.inr (by decide)), z2_n (Or.inr (by decide)), z2_n (Or.inr (by decide)), z2_s]
    · rw [hnA.1 68 (by decide)]; rfl
  have k22 : z2 (z2 (z2 (z2 (z2 I 67 20 (160 * (t : Int))) 67 21 (n : Int)) 67 22 0) 67 26 0) 67 27 0 67 22 = ((0 : Nat) : Int) := by rw [z2_n (Or.inr (by decide)), z2_n (Or.inr (by decide)), z2_s]; rfl
  have k26 : z2 (z2 (z2 (z2 (z2 I 67 20 (160 * (t : Int))) 67 21 (n : Int)) 67 22 0) 67 26 0) 67 27 0 67 26 = 0 := by rw [z2_n (Or.inr (by decide)), z2_s]
  have k27 : z2 (z2 (z2 (z2 (z2 I 67 20 (160 * (t : Int))) 67 21 (n : Int)) 67 22 0) 67 26 0) 67 27 0 67 27 = 0 := z2_s
  generalize z2 (z2 (z2 (z2 (z2 I 67 20 (160 * (t : Int))) 67 21 (n : Int)) 67 22 0) 67 26 0) 67 27 0 = K at hnA hnm hB k22 k26 k27 ⊢
  rw [← hnm] at H
  generalize nb I t = b at H hB
  have H := fun J x (a : mrF K J) => H J x (hnA.tr ⟨a.1, fun j hj => a.2 j (by omega)⟩)
  clear hnA hnm hby
  have which : ∀ (J : zI) (v : Nat → Int), Q1 (some (zi (v q))) (c, J, zRg g) → zRn (zcl d) 158 B Q1 147 [some (zr 67), some (zi (t : Nat)), some (zi (q : Nat)), some (zi (v 0)), some (zi (v 1)), some (zi (v 2))] [] (c, J, zRg g) := by
    intro J v h
    refine g_x12_read_147 ⟨fun u => ⟨fun u1 => ?_, fun u1 => ?_⟩, fun u => ?_⟩
    · rw [show q = 2 by omega] at h; exact h
    · rw [show q = 1 by omega] at h; exact h
    · rw [show q = 0 by omega] at h; exact h
  have w3 : ∀ (J : zI) (x y z : Int), (∀ v : Nat → Int, v 0 = x → v 1 = y → v 2 = z → Q1 (some (zi (v q))) (c, J, zRg g)) → zRn (zcl d) 158 B Q1 147 [some (zr 67), some (zi (t : Nat)), some (zi (q : Nat)), some (zi x), some (zi y), some (zi z)] [] (c, J, zRg g) := fun J x y z h => which J (fun i => if i = 0 then x else if i = 1 then y else z) (h (fun i => if i = 0 then x else if i = 1 then y else z) rfl rfl rfl)
  have bad : ∀ (J : zI) (k : Nat) (cs : List Int) (s : List Int) (x y z : Int) (o : Option zV), rP K b n 0 s (false, k, cs) J → mtext (mkd b n) (mvl b n) = (false, k, [], [], []) → zRn (zcl d) 158 B Q1 127 [some (zr 67), some (zi (t : Nat)), some (zi (q : Nat)), some (zi x), some (zi y), o] [zi z] (c, J, zRg g) := by
    intro J k cs s x y z o hP ht
    refine g_x12_read_127 ⟨fun _ => w3 J x y z (fun v _ _ _ => H J _ hP.1 (fun k0 c0 c1 c2 e => ?_) (fun k0 c0 c1 c2 e => ?_)), fun u => absurd (by rw [hP.2.1]; decide) u⟩
    · rw [ht] at e; cases e
    · rw [ht] at e
      cases e
      exact ⟨hP.2.1, hP.2.2⟩
  refine r144 hB (by omega) (mrF.rf K) k22 (Nat.zero_le _) (fun J a1 a2 a3 a4 a5 => g_x12_read_38 ?_)
  have hP : rP K b n 0 [] (true, 0, []) J := by
    refine ⟨a1, by rw [a3]; exact k27, by rw [a2]; exact k26, ?_, rfl⟩
    rw [(mlx_p (b := b) (n := n) (k := 0)).2]
    exact a5
  clear a1 a2 a3 a4 a5
  -- behind the first part
  have P59 : ∀ J1 v, rP K b n 0 [v] (mbind (true, 0, []) (mpt b n (-5))) J1 → zRn (zcl d) 158 B Q1 59 [some (zr 67), some (zi (t : Nat)), some (zi (q : Nat)), none, none, none] [zi v] (c, J1, zRg g) := by
    intro J1 v1 hP1
    have e1 : mbind (true, 0, []) (mpt b n (-5)) = mpart (mkd b n) (mvl b n) (-5) 0 [] := rfl
    rw [e1] at hP1
    have hm : mtext (mkd b n) (mvl b n) = match mpart (mkd b n) (mvl b n) (-5) 0 [] with
      | (false, k, _) => (false, k, [], [], [])
      | (true, k, c0) => match mpart (mkd b n) (mvl b n) (-6) k [] with
        | (false, k, _) => (false, k, [], [], [])
        | (true, k, c1) => match mpart (mkd b n) (mvl b n) (-7) k [] with
          | (false, k, _) => (false, k, [], [], [])
          | (true, k, c2) => if mkd b n k = -1 then (true, k, c0, c1, c2) else (false, k, [], [], []) := rfl
    generalize mpart (mkd b n) (mvl b n) (-5) 0 [] = r1 at hP1 hm
    obtain ⟨b1, k1, c0⟩ := r1
    cases b1 with
    | false => exact g_x12_read_59 ⟨fun u => absurd (by rw [hP1.2.1] at u; exact u) (by decide), fun u => g_x12_read_92 ⟨fun w => absurd w u, fun _ => bad J1 k1 c0 _ _ _ _ _ hP1 hm⟩⟩
    | true =>
      simp only at hm
      have hP1' : rP K b n 0 [] (true, k1, []) J1 := ⟨hP1.1, hP1.2.1, hP1.2.2.1, hP1.2.2.2.1, rfl⟩
      have m0 : mrun (rnm K) c0 = some [v1] := hP1.2.2.2.2
      have P92 : ∀ J2 v2, rP K b n 0 [v2] (mbind (true, k1, []) (mpt b n (-6))) J2 → zRn (zcl d) 158 B Q1 92 [some (zr 67), some (zi (t : Nat)), some (zi (q : Nat)), some (zi v1), none, none] [zi v2] (c, J2, zRg g) := by
        intro J2 v2 hP2
        have e2 : mbind (true, k1, []) (mpt b n (-6)) = mpart (mkd b n) (mvl b n) (-6) k1 [] := rfl
        rw [e2] at hP2
        generalize mpart (mkd b n) (mvl b n) (-6) k1 [] = r2 at hP2 hm
        obtain ⟨b2, k2, c1⟩ := r2
        cases b2 with
        | false => exact g_x12_read_92 ⟨fun u => absurd (by rw [hP2.2.1] at u; exact u) (by decide), fun u => bad J2 k2 c1 _ _ _ _ _ hP2 hm⟩
        | true =>
          simp only at hm
          have hP2' : rP K b n 0 [] (true, k2, []) J2 := ⟨hP2.1, hP2.2.1, hP2.2.2.1, hP2.2.2.2.1, rfl⟩
          have m1 : mrun (rnm K) c1 = some [v2] := hP2.2.2.2.2
          have P127 : ∀ J3 v3, rP K b n 0 [v3] (mbind (true, k2, []) (mpt b n (-7))) J3 → zRn (zcl d) 158 B Q1 127 [some (zr 67), some (zi (t : Nat)), some (zi (q : Nat)), some (zi v1), some (zi v2), none] [zi v3] (c, J3, zRg g) := by
            intro J3 v3 hP3
            have e3 : mbind (true, k2, []) (mpt b n (-7)) = mpart (mkd b n) (mvl b n) (-7) k2 [] := rfl
            rw [e3] at hP3
            generalize mpart (mkd b n) (mvl b n) (-7) k2 [] = r3 at hP3 hm
            obtain ⟨b3, k3, c2⟩ := r3
            cases b3 with
            | false => exact bad J3 k3 c2 _ _ _ _ _ hP3 hm
            | true =>
              simp only at hm
              have m2 : mrun (rnm K) c2 = some [v3] := hP3.2.2.2.2
              have hT := tkc hP3.2.2.2.1 mlx_nx.2
              by_cases hk : mkd b n k3 = -1
              · rw [if_pos hk] at hm
                have h23 : J3 67 23 = 0 := by
                  rcases hT with w | w | w | w | w
                  · exact w.1
                  · have h3 := mwd_r (mwl b (mpl b n k3) (mhh b n (k3 + 1)))
                    rw [← (mis_w w.2.2.1 w.2.2.2).2.1] at h3
                    exact absurd hk h3.1
                  · exact absurd (w.2.2.1.symm.trans hk) (by decide)
                  · omega
                  · exact absurd (w.2.symm.trans hk) (by decide)
                refine g_x12_read_127 ⟨fun u => absurd hP3.2.1 u, fun _ => ⟨fun _ => w3 J3 v1 v2 v3 (fun v x1 x2 x3 => H J3 _ hP3.1 (fun k0 d0 d1 d2 e => ?_) (fun k0 d0 d1 d2 e => ?_)), fun u => absurd h23 u⟩⟩
                · rw [hm] at e
                  cases e
                  refine ⟨hP3.2.1, ?_⟩
                  unfold mtq
                  simp only
                  split
                  · rename_i q0; rw [q0, x1]; exact m0
                  · split
                    · rename_i q1; rw [q1, x2]; exact m1
                    · rw [show q = 2 by omega, x3]; exact m2
                · rw [hm] at e; cases e
              · rw [if_neg hk] at hm
                have h23 : J3 67 23 ≠ 0 := by
                  intro u
                  rcases hT with w | w | w | w | w
                  · exact hk w.2
                  · exact absurd (w.1.symm.trans u) (by decide)
                  · exact absurd (w.1.symm.trans u) (by decide)
                  · exact absurd (w.1.symm.trans u) (by decide)
                  · exact absurd (w.1.symm.trans u) (by decide)
                refine g_x12_read_127 ⟨fun u => absurd hP3.2.1 u, fun _ => ⟨fun u => absurd u h23, fun _ => r145p (by omega) hP3 (fun J4 h4 => w3 J4 v1 v2 v3 (fun v _ _ _ => H J4 _ h4.1 (fun k0 d0 d1 d2 e => ?_) (fun k0 d0 d1 d2 e => ?_)))⟩⟩
                · rw [hm] at e; cases e
                · rw [hm] at e
                  cases e
                  exact ⟨h4.2.1, h4.2.2⟩
          refine g_x12_read_92 ⟨fun _ => ?_, fun u => absurd hP2.2.1 u⟩
          exact r147k (L := [108, 101, 97, 114, 110, 115]) hB (by omega) hP2' mwk_learns (fun h0 => g_x12_read_124 (r157 hB (by omega) ⟨by decide, by decide⟩ hP2' (fun _ => h0) (fun z => absurd rfl z) (fun J3 v h3 => P127 J3 v h3))) (fun k cs q w => g_x12_read_124 (r157 hB (by omega) ⟨by decide, by decide⟩ hP2' (fun z => absurd z (by decide)) (fun _ => ⟨k, cs, q, w⟩) (fun J3 v h3 => P127 J3 v h3)))
      refine g_x12_read_59 ⟨fun _ => ?_, fun u => absurd hP1.2.1 u⟩
      exact r147k (L := [116, 105, 114, 101, 115]) hB (by omega) hP1' mwk_tires (fun h0 => g_x12_read_89 (r157 hB (by omega) ⟨by decide, by decide⟩ hP1' (fun _ => h0) (fun z => absurd rfl z) (fun J3 v h3 => P92 J3 v h3))) (fun k cs q w => g_x12_read_89 (r157 hB (by omega) ⟨by decide, by decide⟩ hP1' (fun z => absurd z (by decide)) (fun _ => ⟨k, cs, q, w⟩) (fun J3 v h3 => P92 J3 v h3)))
  exact r147k (L := [107, 101, 101, 112, 115]) hB (by omega) hP mwk_keeps (fun h0 => g_x12_read_56 (r157 hB (by omega) ⟨by decide, by decide⟩ hP (fun _ => h0) (fun z => absurd rfl z) (fun J3 v h3 => P59 J3 v h3))) (fun k cs q w => g_x12_read_56 (r157 hB (by omega) ⟨by decide, by decide⟩ hP (fun z => absurd z (by decide)) (fun _ => ⟨k, cs, q, w⟩) (fun J3 v h3 => P59 J3 v h3)))
theorem r131 {e : Nat} (he : 1 ≤ e) {x lo hi : Int} (hl : lo ≤ hi) (H : Q (some (zi (mcl x lo hi))) (c, I, zRg g)) : zcl e 131 0 0 [zi x, zi lo, zi hi] (c, I, zRg g) Q := by
  obtain ⟨d, rfl⟩ : ∃ d, e = d + 1 := ⟨e - 1, by omega⟩
  refine zen rfl rfl (fun B Q1 hQ => g_x12_within_0 ?_)
  have H := hQ _ _ _ H
  unfold mcl at H
  refine ⟨fun u => ⟨fun v => ?_, fun v => ?_⟩, fun u => ?_⟩
  · rw [if_neg (by omega), if_neg (by omega)] at H; exact H
  · rw [if_neg (by omega), if_pos (by omega)] at H; exact H
  · rw [if_pos (by omega)] at H; exact H
theorem r161 {e : Nat} (he : 1 ≤ e) {x : Int} (hx : mR x) (H : Q (some (zi (mbc x))) (c, I, zRg g)) : zcl e 161 0 0 [zi x] (c, I, zRg g) Q := by
  obtain ⟨d, rfl⟩ : ∃ d, e = d + 1 := ⟨e - 1, by omega⟩
  refine zen rfl rfl (fun B Q1 hQ => g_x12_bitsOf_0 ?_)
  have loop : ∀ (a : Nat) (y z : Int), mR y → y.toNat < a → z + mbc y = mbc x → 0 ≤ z → zRn (zcl d) 161 B Q1 4 [some (zi x), some (zi z), some (zi y)] [] (c, I, zRg g) := by
    intro a
    induction a with
    | zero => intro y z _ h; exact absurd h (Nat.not_lt_zero _)
    | succ a ih =>
      intro y z hy hya hz h0
      have hb := mbc_r x
      have hb2 := mbc_r y
      refine g_x12_bitsOf_4 ⟨fun u => zQi ?_ (hQ _ _ _ H), fun u => ?_⟩
      · rw [u, mbc_0] at hz; omega
      · rcases m_low hy with q | q
        · exact absurd q u
        · rw [zwr_eq (show zIn (z + 1) by omega)]
          have hr := m_andR (y := zwr (y - 1)) hy
          generalize zand y (zwr (y - 1)) = w at q hr ⊢
          exact ih w (z + 1) hr (by omega) (by omega) (by omega)
  exact loop (x.toNat + 1) x 0 hx (by omega) (by omega) (by omega)
theorem r170 {e : Nat} (he : 2 ≤ e) {x y : Int} (hx : mR x) (hy : mR y) (H : Q (some (zi (mbc (zxor x y)))) (c, I, zRg g)) : zcl e 170 0 0 [zi x, zi y] (c, I, zRg g) Q := by
  obtain ⟨d, rfl⟩ : ∃ d, e = d + 1 := ⟨e - 1, by omega⟩
  exact zen rfl rfl (fun B Q1 hQ => g_x12_off_0 (r161 (by omega) (m_xorR hx hy) (g_x12_off_6 (hQ _ _ _ H))))
theorem r162 {e : Nat} (he : 1 ≤ e) {p : Nat} (hp : p < 5) (H : Q (some (zi (nK I (3 + p) 2))) (c, I, zRg g)) : zcl e 162 0 0 [zr 67, zi (p : Nat)] (c, I, zRg g) Q := by
  obtain ⟨d, rfl⟩ : ∃ d, e = d + 1 := ⟨e - 1, by omega⟩
  refine zen rfl rfl (fun B Q1 hQ => g_x12_wordsOf_0 ?_)
  have e1 : zwr (zwr (5 * (p : Int)) + 1) = ((5 * p + 1 : Nat) : Int) := nix (k := 1) hp (by decide)
  have H := hQ _ _ _ H
  rw [(nK_p I p).2.2.1] at H
  rw [e1]
  exact ⟨by omega, H⟩
theorem nW.at {p : Nat} (hW : nW I) (hp : (p : Int) < I 67 9) : p < 5 ∧ (0 ≤ I 71 (5 * p + 4) ∧ I 71 (5 * p + 4) ≤ 5) ∧ (0 ≤ I 71 (5 * p) ∧ I 71 (5 * p) ≤ 9) ∧ mR (nK I (3 + p) 2) ∧ (0 ≤ I 71 (5 * p + 2) ∧ I 71 (5 * p + 2) ≤ 99) ∧ (0 ≤ I 71 (5 * p + 3) ∧ I 71 (5 * p + 3) ≤ 99) := by
  obtain ⟨⟨h1, h2⟩, -⟩ := hW
  have e0 : nK I 0 2 = I 67 9 := rfl
  rw [e0] at h1 h2
  obtain ⟨a1, a2, a3, a4, a5⟩ := h2 p hp
  rw [(nK_p I p).1] at a1
  rw [(nK_p I p).2.1] at a2
  rw [(nK_p I p).2.2.2.1] at a4
  rw [(nK_p I p).2.2.2.2] at a5
  exact ⟨by omega, a1, a2, a3, a4, a5⟩
theorem nX_t {t : Nat} (h : nXo I t) : ∃ k c0 c1 c2, mtext (mkd (nb I t) (I 69 t).toNat) (mvl (nb I t) (I 69 t).toNat) = (true, k, c0, c1, c2) ∧ ∀ q, q < 3 → nT I t q = mtq (true, k, c0, c1, c2) q := by
  obtain ⟨h1, -⟩ := h
  unfold nT
  unfold nR at h1 ⊢
  generalize mtext (mkd (nb I t) (I 69 t).toNat) (mvl (nb I t) (I 69 t).toNat) = r at h1
  obtain ⟨b0, k, c0, c1, c2⟩ := r
  cases b0 with
  | false => cases h1
  | true => exact ⟨k, c0, c1, c2, rfl, fun q hq => if_pos hq⟩
set_option maxHeartbeats 600000 in
theorem r163 {e : Nat} (he : 48 ≤ e) {p q : Nat} (hW : nW I) (hp : (p : Int) < I 67 9) (hq : q < 3) {th : Int} (ht : mR th) (H : ∀ J, nA I J → Q (some (zi (msay (nT I) (nK I) q p th))) (c, J, zRg g)) : zcl e 163 0 0 [zr 67, zi (q : Nat), zi (p : Nat), zi th] (c, I, zRg g) Q := by
  obtain ⟨d, rfl⟩ : ∃ d, e = d + 1 := ⟨e - 1, by omega⟩
  obtain ⟨h5, a1, a2, a3, a4, a5⟩ := hW.at hp
  obtain ⟨-, -, hr, hX⟩ := hW
  have e0 : zwr (5 * (p : Int)) = ((5 * p : Nat) : Int) := nix0 h5
  have e2 : zwr (zwr (5 * (p : Int)) + 2) = ((5 * p + 2 : Nat) : Int) := nix (k := 2) h5 (by decide)
  have e3 : zwr (zwr (5 * (p : Int)) + 3) = ((5 * p + 3 : Nat) : Int) := nix (k := 3) h5 (by decide)
  refine zen rfl rfl (fun B Q1 hQ => g_x12_says_0 (r162 (by omega) h5 (g_x12_says_6 (r161 (by omega) a3 (g_x12_says_9 ?_)))))
  have H := fun J h => hQ _ _ _ (H J h)
  rw [e2, e0]
  refine ⟨by omega, by omega, r161 (by omega) ht (g_x12_says_51 ?_)⟩
  rw [e3]
  refine ⟨by omega, ?_⟩
  rw [Int.toNat_natCast, Int.toNat_natCast, Int.toNat_natCast]
  have f1 : z2 I 67 14 (mbc (nK I (3 + p) 2)) 71 (5 * p + 2) = I 71 (5 * p + 2) := z2_n (Or.inl (by decide))
  rw [f1]
  have f2 : z2 (z2 I 67 14 (mbc (nK I (3 + p) 2))) 67 15 (I 71 (5 * p + 2)) 71 (5 * p) = I 71 (5 * p) := by rw [z2_n (Or.inl (by decide)), z2_n (Or.inl (by decide))]
  rw [f2]
  have f3 : z2 (z2 (z2 (z2 (z2 I 67 14 (mbc (nK I (3 + p) 2))) 67 15 (I 71 (5 * p + 2))) 67 16 (I 71 (5 * p))) 67 17 (I 67 7)) 67 18 (mbc th) 71 (5 * p + 3) = I 71 (5 * p + 3) := by rw [z2_n (Or.inl (by decide)), z2_n (Or.inl (by decide)), z2_n (Or.inl (by decide)), z2_n (Or.inl (by decide)), z2_n (Or.inl (by decide))]
  rw [f3]
  have f4 : z2 (z2 (z2 (z2 I 67 14 (mbc (nK I (3 + p) 2))) 67 15 (I 71 (5 * p + 2))) 67 16 (I 71 (5 * p))) 67 17 (I 67 7) 67 4 = I 67 4 := by rw [z2_n (Or.inr (by decide)), z2_n (Or.inr (by decide)), z2_n (Or.inr (by decide)), z2_n (Or.inr (by decide))]
  rw [f4]
  have hnA : nA I (z2 (z2 (z2 (z2 (z2 (z2 I 67 14 (mbc (nK I (3 + p) 2))) 67 15 (I 71 (5 * p + 2))) 67 16 (I 71 (5 * p))) 67 17 (I 67 7)) 67 18 (mbc th)) 67 19 (I 71 (5 * p + 3))) := ((((((nA.rf I).put (by decide) (by decide)).put (by decide) (by decide)).put (by decide) (by decide)).put (by decide) (by decide)).put (by decide) (by decide)).put (by decide) (by decide)
  have hnm : rnm (z2 (z2 (z2 (z2 (z2 (z2 I 67 14 (mbc (nK I (3 + p) 2))) 67 15 (I 71 (5 * p + 2))) 67 16 (I 71 (5 * p))) 67 17 (I 67 7)) 67 18 (mbc th)) 67 19 (I 71 (5 * p + 3))) = mnk (nK I) p th := by
    funext x
    unfold rnm mnk mnm
    rw [(nK_p I p).2.1, (nK_p I p).2.2.2.1, (nK_p I p).2.2.2.2, show nK I 0 4 = I 67 7 from rfl]
    rw [z2_n (Or.inr (show 14 ≠ 19 by decide)), z2_n (Or.inr (show 14 ≠ 18 by decide)), z2_n (Or.inr (show 14 ≠ 17 by decide)), z2_n (Or.inr (show 14 ≠ 16 by decide)), z2_n (Or.inr (show 14 ≠ 15 by decide)), z2_s]
    rw [z2_n (Or.inr (show 15 ≠ 19 by decide)), z2_n (Or.inr (show 15 ≠ 18 by decide)), z2_n (Or.inr (show 15 ≠ 17 by decide)), z2_n (Or.inr (show 15 ≠ 16 by decide)), z2_s]
    rw [z2_n (Or.inr (show 16 ≠ 19 by decide)), z2_n (Or.inr (show 16 ≠ 18 by decide)), z2_n (Or.inr (show 16 ≠ 17 by decide)), z2_s]
    rw [z2_n (Or.inr (show 17 ≠ 19 by decide)), z2_n (Or.inr (show 17 ≠ 18 by decide)), z2_s]
    rw [z2_n (Or.inr (show 18 ≠ 19 by decide)), z2_s, z2_s]
  generalize z2 (z2 (z2 (z2 (z2 (z2 I 67 14 (mbc (nK I (3 + p) 2))) 67 15 (I 71 (5 * p + 2))) 67 16 (I 71 (5 * p))) 67 17 (I 67 7)) 67 18 (mbc th)) 67 19 (I 71 (5 * p + 3)) = K at hnA hnm ⊢
  obtain ⟨k, c0, c1, c2, hx1, hx2⟩ := nX_t hX
  obtain ⟨-, hz, hby⟩ := hX
  have eb : nb K (I 67 4).toNat = nb I (I 67 4).toNat := by
    unfold nb
    rw [hnA.1 68 (by decide)]
  have e69 : K 69 (I 67 4).toNat = (((I 69 (I 67 4).toNat).toNat : Nat) : Int) := by rw [hnA.1 69 (by decide)]; omega
  have er : I 67 4 = (((I 67 4).toNat : Nat) : Int) := by omega
  rw [er]
  refine r158 (by omega) (by omega) hq e69 (by omega) (by rw [eb]; exact fun i hi => hby i (by omega)) (fun J x hJ t1 t2 => g_x12_says_77 (r131 (by omega) (by decide) (g_x12_says_83 (zQi ?_ (H J (hnA.tr hJ))))))
  rw [eb] at t1
  have t1 := (t1 k c0 c1 c2 hx1).2
  rw [hnm] at t1
  show mcl x 0 99 = mwo (mnk (nK I) p th) (nT I (I 67 4).toNat q)
  rw [hx2 q hq]
  unfold mwo
  rw [t1]
end
end
