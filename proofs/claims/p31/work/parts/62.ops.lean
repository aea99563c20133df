section
/-! the law's own methods; the object as the law has it, and its answers -/
section
variable {d : Nat} {c : Nat × Nat × Nat} {I : zI} {g : Nat} {Q : zQ}
theorem k131 {x : Int} (hx : 0 ≤ x ∧ x < 10000) (hs : ∀ j, zIn (I 2000 j)) (H : ∀ v, zIn v → Q (some (zi v)) (c, I, zRg g)) : zcl (d + 1) 131 0 0 [zr 2000, zi x] (c, I, zRg g) Q :=
  zen rfl rfl (fun B Q1 hQ => g_l_cell_0 ⟨fun _ => hQ _ _ _ (H _ (zwr_in _)), fun u => ⟨⟨hx.1, Int.not_le.mp u⟩, hQ _ _ _ (H _ (hs _))⟩⟩)
theorem n_ush (z : Int) : 0 ≤ zushr z 3 ∧ zushr z 3 < 536870912 := by
  have h : ((Int32.ofInt z).toUInt32 >>> ((Int32.ofInt 3).toUInt32 &&& Int32.toUInt32 31)).toInt32.toBitVec.toNat = (Int32.ofInt z).toBitVec.toNat / 2 ^ 3 := pk_ushr (Int32.ofInt z) (Int32.ofInt 3) 3 (by decide)
  have h2 : (Int32.ofInt z).toBitVec.toNat < 2 ^ 32 := (Int32.ofInt z).toBitVec.isLt
  have e : zushr z 3 = (((Int32.ofInt z).toUInt32 >>> ((Int32.ofInt 3).toUInt32 &&& Int32.toUInt32 31)).toInt32.toBitVec).toInt := rfl
  rw [e, m_ti _ (by rw [h]; omega), h]
  omega
theorem k132 {x n : Int} (hx : 0 ≤ x ∧ x < 10000) (hn : 0 < n ∧ n ≤ 1024) (hs : ∀ j, zIn (I 2000 j)) (H : ∀ v, 0 ≤ v ∧ v < n → Q (some (zi v)) (c, I, zRg g)) : zcl (d + 2) 132 0 0 [zr 2000, zi x, zi n] (c, I, zRg g) Q := by
  refine zen rfl rfl (fun B Q1 hQ => g_l_some_0 (k131 hx hs (fun v hv => g_l_some_5 ⟨by omega, hQ _ _ _ (H _ ?_)⟩)))
  have h := n_ush v
  rw [Int.tmod_eq_emod_of_nonneg h.1]
  generalize zushr v 3 = z at h ⊢
  have h1 : 0 ≤ z % n := Int.emod_nonneg _ (by omega)
  have h2 : z % n < n := Int.emod_lt_of_pos _ hn.1
  rw [zwr_eq (show zIn (z % n) by omega)]
  exact ⟨h1, h2⟩
theorem k130 {x : Int} (H : Q (some (zi (mlow x))) (c, I, zRg g)) : zcl (d + 1) 130 0 0 [zi x] (c, I, zRg g) Q :=
  zen rfl rfl (fun B Q1 hQ => g_j6_lowestOneBit_0f7a4_0 (hQ _ _ _ H))
end
theorem n_w1 {a b : Int} (ha : 0 ≤ a ∧ a ≤ 1000) (hb : 0 ≤ b ∧ b ≤ 1000) : zwr (a + b) = a + b := zwr_eq (by omega)
theorem n_w2 {a b c : Int} (ha : 0 ≤ a ∧ a ≤ 1000) (hb : 0 ≤ b ∧ b ≤ 1000) (hc : 0 ≤ c ∧ c ≤ 1000) : zwr (zwr (a + b) + c) = a + b + c := by
  rw [n_w1 ha hb]
  exact zwr_eq (by omega)
/-- the object's text, sheets, the script -/
def nB (I : zI) : Prop := mXo I 0 ∧ nTx (mX I) ∧ I 0 7 = 1 ∧ (∀ s, s < 4 → 0 ≤ I (36 + 2 * s) 2 ∧ I (36 + 2 * s) 2 ≤ 40) ∧ (∀ j, zIn (I 2000 j))
def nO (I : zI) (n : Nat) (C a b dy sd : Int) : Prop := nB I ∧ nV (mK 2 I) n C a b dy sd
theorem mX_0 {I J : zI} (h : ∀ y, 44 ≤ y ∧ y ≤ 46 → J y = I y) (q : Nat) : mX J 0 q = mX I 0 q := by
  unfold mX mX0
  rw [h (46 + 3 * 0) (by omega), h (45 + 3 * 0) (by omega)]
theorem nB.cg {I J : zI} (h : ∀ y, (44 ≤ y ∧ y ≤ 46) ∨ y = 2000 → J y = I y) (h7 : J 0 7 = I 0 7) (hs : ∀ s, s < 4 → 0 ≤ J (36 + 2 * s) 2 ∧ J (36 + 2 * s) 2 ≤ 40) (hB : nB I) : nB J := by
  obtain ⟨b1, b2, b3, -, b5⟩ := hB
  have e : ∀ q, mX J 0 q = mX I 0 q := mX_0 (fun y hy => h y (Or.inl hy))
  refine ⟨?_, ⟨by rw [e]; exact b2.1, by rw [e]; exact b2.2.1, by rw [e]; exact b2.2.2⟩, h7.trans b3, hs, fun j => by rw [h 2000 (Or.inr rfl)]; exact b5 j⟩
  unfold mXo at b1 ⊢
  rw [h (46 + 3 * 0) (by omega)]
  exact b1
theorem nB.cg2 {I J : zI} (h : ∀ y, (36 ≤ y ∧ y ≤ 46) ∨ y = 2000 → J y = I y) (h7 : J 0 7 = I 0 7) (hB : nB I) : nB J :=
  hB.cg (fun y hy => h y (by omega)) h7 (fun s hs => by rw [h (36 + 2 * s) (by omega)]; exact hB.2.2.2.1 s hs)
section
variable {I J : zI} {n : Nat} {C a b dy sd : Int}
theorem nO.W (h : nO I n C a b dy sd) : mW 2 I := by
  have e : I 2 6 = 0 := h.2.2.2.2.2.1
  exact mW_of mB2 h.2.W (by rw [e]; exact h.1.1)
theorem nO.F (hF : mFr I J) (h : nO I n C a b dy sd) : nO J n C a b dy sd :=
  ⟨h.1.cg2 (fun y hy => hF.1 y (by omega) (by omega) (by omega) (by omega)) (hF.2 7 (by omega) (by omega)), h.2.lk (hF.E.lk (by have := h.2.1; omega))⟩
theorem nO.n5 (h : nO I n C a b dy sd) : I 2 2 = n ∧ n ≤ 5 := h.2.1
theorem nO.T (h : nO I n C a b dy sd) : nTx (mX I) := h.1.2.1
theorem nO.r (h : nO I n C a b dy sd) : mK 2 I 0 6 = 0 := h.2.2.2.2.2.1
theorem nO.all (h : nO I n C a b dy sd) {x : Int} (hx : mR x) : mAll I x = zand x C := by
  unfold mAll
  have e : (I 2 2).toNat = n := by have := h.n5; omega
  rw [e, n_all h.T h.r n 0 x (fun q _ q2 => h.2.P (by omega)) hx, h.2.2.2.2.2.2.2.2]
theorem nO.one (h : nO I n C a b dy sd) {p : Nat} (hp : p < n) (x : Int) : mOne I p x = zand x (mK 2 I (3 + p) 2) := by
  obtain ⟨h1, h2⟩ := h.2.P hp
  exact n_tell h.T h.r h1 h2 x
theorem nO.more (h : nO I n C a b dy sd) {x s : Int} (hx : mR x) (hs : mR s) : mLn I s x = zand x (zor C s) := by
  unfold mLn
  have e : (I 2 2).toNat = n := by have := h.n5; omega
  rw [e, n_more h.T h.r (fun p hp => h.2.P hp) hx hs, h.2.2.2.2.2.2.2.2]
end
section
variable {c : Nat × Nat × Nat} {I : zI} {g : Nat} {Q : zQ} {n : Nat} {C a b dy sd : Int}
theorem o_fro {x w : Int} (hO : nO I n C a b dy sd) (hx : mR x) (hw : 0 ≤ w ∧ w ≤ 1) (H : ∀ J, mFr I J → Q (some (zi (if zand x C = x then (if w = 0 then 1 else x) else (if w = 0 then 2 else zand x C)))) (c, J, zRg g)) : zcl 100 104 0 0 [zr 0, zi x, zi w] (c, I, zRg g) Q :=
  x_fro (d := 93) hO.W (fun h => absurd ⟨hx, hw⟩ h) (fun _ _ _ J hJ => zQi (n_fro hx hO.2.R (fun y hy => hO.all hy)) (H J hJ))
theorem o_fro0 {x : Int} (hO : nO I n C a b dy sd) (hx : mR x) (H : ∀ J, mFr I J → Q (some (zi (if zand x C = x then 1 else 2))) (c, J, zRg g)) : zcl 100 104 0 0 [zr 0, zi x, zi 0] (c, I, zRg g) Q :=
  o_fro hO hx (by decide) (fun J hJ => zQi (by rw [if_pos rfl, if_pos rfl]) (H J hJ))
theorem o_fro1 {x : Int} (hO : nO I n C a b dy sd) (hx : mR x) (H : ∀ J, mFr I J → Q (some (zi (zand x C))) (c, J, zRg g)) : zcl 100 104 0 0 [zr 0, zi x, zi 1] (c, I, zRg g) Q :=
  o_fro hO hx (by decide) (fun J hJ => zQi (by
    rw [if_neg (show ¬ (1 : Int) = 0 by decide), if_neg (show ¬ (1 : Int) = 0 by decide)]
    by_cases q : zand x C = x
    · rw [if_pos q]; exact q.symm
    · rw [if_neg q]) (H J hJ))
theorem o_learn {x w : Int} (hO : nO I n C a b dy sd) (hx : mR x) (hw : 0 ≤ w ∧ w ≤ 1) (H : ∀ J, mFr I J → Q (some (zi (if w = 0 then nD x C else mbc (nD x C)))) (c, J, zRg g)) : zcl 100 107 0 0 [zr 0, zi x, zi w] (c, I, zRg g) Q := by
  have h8 : 0 ≤ I 2 3 ∧ I 2 3 ≤ 8 := hO.2.W.2.1
  refine x_learn (d := 92) hO.W h8 (fun h => absurd ⟨hx, hw⟩ h) (fun _ _ _ J hJ => zQi ?_ (H J hJ))
  have hD := nD_R C hx
  have e : mlb I x 1024 = (nD x C, mbc (nD x C)) := by rw [n_mlb hx (fun s hs => hO.more hx hs) 1024 (Nat.le_refl _), if_neg (by omega)]
  rw [e]
  show (if nD x C = -1 then -1 else if w = 0 then nD x C else mbc (nD x C)) = _
  rw [if_neg (by omega)]
theorem o_from {x w : Int} (hO : nO I n C a b dy sd) (hx : mR x) (hw : 0 ≤ w ∧ w ≤ 1) (H : ∀ J, mFr I J → Q (some (zi (if w = 0 then mcn (fun o => decide (zand (o : Int) C = x)) 1024 else mls (fun o => decide (zand (o : Int) C = x)) 1024))) (c, J, zRg g)) : zcl 100 109 0 0 [zr 0, zi x, zi w] (c, I, zRg g) Q := by
  refine x_from (d := 93) hO.W (fun h => absurd ⟨hx, hw⟩ h) (fun _ _ _ J hJ => zQi ?_ (H J hJ))
  have e : ∀ o : Nat, o < 1024 → decide (mAll I (o : Int) = x) = decide (zand (o : Int) C = x) := fun o ho => by rw [hO.all (show mR ((o : Nat) : Int) by omega)]
  have e2 : ∀ k, k ≤ 1024 → mls (fun o => decide (mAll I (o : Int) = x)) k = mls (fun o => decide (zand (o : Int) C = x)) k := by
    intro k
    induction k with
    | zero => intro _; rfl
    | succ k ih =>
      intro hk
      unfold mls
      rw [ih (by omega), e k (by omega)]
  rw [mcn_cg 1024 e, e2 1024 (Nat.le_refl _)]
theorem o_from0 {x : Int} (hO : nO I n C a b dy sd) (hx : mR x) (q : zand x C = x) (H : ∀ J, mFr I J → Q (some (zi (zshl 1 (zwr (10 - mbc C))))) (c, J, zRg g)) : zcl 100 109 0 0 [zr 0, zi x, zi 0] (c, I, zRg g) Q :=
  o_from hO hx (by decide) (fun J hJ => zQi (by rw [if_pos rfl]; exact n_from hO.2.R hx q) (H J hJ))
theorem o_from1 {x : Int} (hO : nO I n C a b dy sd) (hx : mR x) (q : zand x C = x) (H : ∀ J, mFr I J → Q (some (zi x)) (c, J, zRg g)) : zcl 100 109 0 0 [zr 0, zi x, zi 1] (c, I, zRg g) Q :=
  o_from hO hx (by decide) (fun J hJ => zQi (by rw [if_neg (by decide)]; exact n_least hO.2.R hx q) (H J hJ))
theorem o_fromN {x w : Int} (hO : nO I n C a b dy sd) (hx : mR x) (hw : 0 ≤ w ∧ w ≤ 1) (q : zand x C ≠ x) (H : ∀ J, mFr I J → Q (some (zi (if w = 0 then 0 else -1))) (c, J, zRg g)) : zcl 100 109 0 0 [zr 0, zi x, zi w] (c, I, zRg g) Q :=
  o_from hO hx hw (fun J hJ => zQi (by rw [(n_none hO.2.R q).1, (n_none hO.2.R q).2]) (H J hJ))
/-- the sheet that tells the row from the last to the first -/
def nSh (I : zI) (n : Nat) : Prop := I 36 1 = 0 ∧ I 36 2 = n ∧ ∀ i, i < n → I 37 i = ((n - 1 - i : Nat) : Int)
theorem nSh.F {J : zI} (hF : mFr I J) (h : nSh I n) : nSh J n := by
  unfold nSh
  rw [hF.1 36 (by omega) (by omega) (by omega) (by omega), hF.1 37 (by omega) (by omega) (by omega) (by omega)]
  exact h
theorem o_over {x w : Int} (hO : nO I n C a b dy sd) (hS : nSh I n) (hx : mR x) (hw : 0 ≤ w ∧ w ≤ 3) (H : ∀ J, mFr I J → Q (some (zi (if w = 0 then zand x C else if w = 1 then mbc (nD x (zand x C)) else if w = 2 then nD x (zand x C) else 0))) (c, J, zRg g)) : zcl 100 88 0 0 [zr 0, zi 0, zi x, zi w] (c, I, zRg g) Q := by
  obtain ⟨s1, s2, s3⟩ := hS
  have h5 := hO.n5
  refine x_over (d := 93) hO.W hO.1.2.2.2.1 (fun h => absurd ⟨by decide, hx, hw⟩ h) (fun _ _ _ _ h => absurd h (by rw [show I (36 + 2 * (0 : Int).toNat) 1 = 0 from s1]; decide)) (fun _ _ _ _ _ h => absurd (fun i hi => ?_) h) (fun _ _ _ _ _ _ J hJ => zQi ?_ (H J hJ.F))
  · have hi : i < n := by
      have e : (I (36 + 2 * (0 : Int).toNat) 2).toNat = n := by show (I 36 2).toNat = n; rw [s2]; rfl
      omega
    show 0 ≤ I 37 i ∧ I 37 i < I 2 2
    rw [s3 i hi, h5.1]
    omega
  · show mov (mrt (mOne I) (I 37) (I 36 2).toNat 0 x) x w = _
    rw [s2, show ((n : Nat) : Int).toNat = n from rfl, n_mrt (K := mK 2 I) (fun p hp y _ => hO.one hp y) s3 n 0 x (by omega) hx, hO.2.2.2.2.2.2.2.2]
    unfold mov
    rw [(n_xor hx).1, (n_xor hx).2]
    rfl
theorem o_sheet {x3 : Int} (hO : nO I n C a b dy sd) (h3 : 0 ≤ x3 ∧ x3 ≤ 40) (H : ∀ J, (∀ y, y ≠ 36 → y ≠ 37 → J y = I y) → J 36 1 = 0 → J 36 2 = x3 → nO J n C a b dy sd → Q (some (zi 1)) (c, J, zRg g)) : zcl 100 124 0 0 [zr 0, zi 0, zi 0, zi x3] (c, I, zRg g) Q := by
  refine x_sheet (d := 97) (fun h => absurd ⟨by decide, by decide, fun _ => h3.2⟩ h) (fun _ _ h => absurd h (by omega)) (fun _ m hm J h1 h2 h4 _ => ?_)
  have em : m = x3 := by omega
  have h1 : ∀ y, y ≠ 36 → y ≠ 37 → J y = I y := h1
  have h4 : J 36 2 = m := h4
  refine H J h1 h2 (by rw [h4, em]) ⟨hO.1.cg (fun y hy => h1 y (by omega) (by omega)) (by rw [h1 0 (by omega) (by omega)]) (fun s hs => ?_), hO.2.lk (mEq.lk (fun x hx => (h1 (2 + x) (by omega) (by omega)).symm) (by have := hO.n5; show I 2 2 ≤ 5; omega))⟩
  by_cases q : s = 0
  · subst q
    show 0 ≤ J 36 2 ∧ J 36 2 ≤ 40
    omega
  · rw [h1 (36 + 2 * s) (by omega) (by omega)]
    exact hO.1.2.2.2.1 s hs
theorem o_cell {i v : Nat} (hO : nO I n C a b dy sd) (s1 : I 36 1 = 0) (hi : (i : Int) < I 36 2) (hv : v < 100) (H : nO (z2 I 37 i (v : Int)) n C a b dy sd → Q (some (zi 1)) (c, z2 I 37 i (v : Int), zRg g)) : zcl 100 125 0 0 [zr 0, zi 0, zi (i : Nat), zi (v : Nat)] (c, I, zRg g) Q := by
  have ev : mcv 0 (v : Int) = v := m_fin (P := fun v => mcv 0 v = v) 100 (by decide +kernel) (x := (v : Int)) (by omega) (by omega)
  refine x_cell (d := 98) hO.1.2.2.2.1 (fun h => absurd (by decide) h) (fun _ h => absurd h (by rw [show I (36 + 2 * (0 : Int).toNat) 1 = 0 from s1]; decide)) (fun _ _ h => absurd ⟨by omega, hi⟩ h) (fun _ _ _ => ?_)
  show Q (some (zi 1)) (c, z2 I 37 i (mcv (I 36 1) (v : Int)), zRg g)
  rw [s1, ev]
  have h1 : ∀ y, y ≠ 37 → z2 I 37 i (v : Int) y = I y := fun y hy => z2_r hy
  exact H ⟨hO.1.cg (fun y hy => h1 y (by omega)) (by rw [h1 0 (by omega)]) (fun s hs => by rw [h1 (36 + 2 * s) (by omega)]; exact hO.1.2.2.2.1 s hs), hO.2.lk (mEq.lk (fun x hx => (h1 (2 + x) (by omega)).symm) (by have := hO.n5; show I 2 2 ≤ 5; omega))⟩
end
end
