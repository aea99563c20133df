section
/-! the reference: told back -/
theorem zor_cm {x y : Int} (hx : mR x) (hy : mR y) : zor x y = zor y x := by
  rw [m_or hx hy, m_or hy hx, Nat.or_comm]
theorem zor_as {x y z : Int} (hx : mR x) (hy : mR y) (hz : mR z) : zor (zor x y) z = zor x (zor z y) := by
  rw [m_or (m_orR hx hy) hz, m_or hx hy, Int.toNat_natCast, m_or hx (m_orR hz hy), m_or hz hy, Int.toNat_natCast, Nat.or_assoc, Nat.or_comm y.toNat z.toNat]
def nix5 (j : Nat) : Nat := if j = 0 then 4 else j - 1
theorem nE_row {K J : zI} {one j p k : Nat} {v : Int} (hj : j < 5) (hk : k < 5) (h : K (3 + p) k = J 71 (5 * p + nix5 k)) : z2 K (3 + one) j v (3 + p) k = z2 J 71 (5 * one + nix5 j) v 71 (5 * p + nix5 k) := by
  by_cases q : p = one ∧ k = j
  · rw [q.1, q.2, z2_s, z2_s]
  · have hi : 5 * p + nix5 k ≠ 5 * one + nix5 j := by
      unfold nix5
      (repeat' split) <;> omega
    rw [z2_n (by omega), z2_n (Or.inr hi)]
    exact h
theorem nE_put {K J : zI} {one j : Nat} {v : Int} (h : nE K J) (hj : j < 5) (hv : j = 2 → mR v) : nE (z2 K (3 + one) j v) (z2 J 71 (5 * one + nix5 j) v) := by
  obtain ⟨⟨a1, a2, a3, a4, a5⟩, b, e⟩ := h
  have z0 : ∀ k, z2 K (3 + one) j v 0 k = K 0 k := fun k => z2_n (Or.inl (by omega))
  have z6 : ∀ k, z2 J 71 (5 * one + nix5 j) v 67 k = J 67 k := fun k => z2_n (Or.inl (by decide))
  have z7 : ∀ k, z2 J 71 (5 * one + nix5 j) v 72 k = J 72 k := fun k => z2_n (Or.inl (by decide))
  refine ⟨⟨by rw [z0, z6]; exact a1, by rw [z0, z6]; exact a2, by rw [z0, z6]; exact a3, by rw [z0, z6]; exact a4, by rw [z0, z6]; exact a5⟩, fun k hk => ?_, fun p hp => ?_⟩
  · rw [z0] at hk
    rw [z7, z2_n (Or.inl (by omega))]
    exact b k hk
  · rw [z0] at hp
    obtain ⟨e0, e1, ⟨e2, er⟩, e3, e4⟩ := e p hp
    refine ⟨nE_row (k := 0) hj (by decide) e0, nE_row (k := 1) hj (by decide) e1, ⟨nE_row (k := 2) hj (by decide) e2, ?_⟩, nE_row (k := 3) hj (by decide) e3, nE_row (k := 4) hj (by decide) e4⟩
    by_cases q : 5 * p + 1 = 5 * one + nix5 j
    · rw [q, z2_s]
      refine hv ?_
      unfold nix5 at q
      split at q <;> omega
    · rw [z2_n (Or.inr q)]
      exact er
theorem nE_rul {K J : zI} {v : Int} (h : nE K J) : nE (z2 K 0 6 v) (z2 J 67 4 v) := by
  obtain ⟨⟨a1, a2, a3, a4, a5⟩, b, e⟩ := h
  have z0 : ∀ k, k ≠ 6 → z2 K 0 6 v 0 k = K 0 k := fun k q => z2_n (Or.inr q)
  have z6 : ∀ k, k ≠ 4 → z2 J 67 4 v 67 k = J 67 k := fun k q => z2_n (Or.inr q)
  refine ⟨⟨by rw [z0 2 (by decide), z6 9 (by decide)]; exact a1, by rw [z0 3 (by decide), z6 11 (by decide)]; exact a2, by rw [z0 4 (by decide), z6 7 (by decide)]; exact a3, by rw [z0 5 (by decide), z6 12 (by decide)]; exact a4, by rw [z2_s, z2_s]⟩, fun k hk => ?_, fun p hp => ?_⟩
  · rw [z0 3 (by decide)] at hk
    rw [z2_r (show 2 ≠ 0 by decide), z2_r (show 72 ≠ 67 by decide)]
    exact b k hk
  · rw [z0 2 (by decide)] at hp
    rw [z2_r (show 3 + p ≠ 0 by omega), z2_r (show 71 ≠ 67 by decide)]
    exact e p hp
theorem nE_A {K I J : zI} (h : nA I J) (hE : nE K I) : nE K J := by
  unfold nE at hE ⊢
  rw [h.2 9 (by decide), h.2 11 (by decide), h.2 7 (by decide), h.2 12 (by decide), h.2 4 (by decide), h.1 72 (by decide), h.1 71 (by decide)]
  exact hE
theorem mvary_2 {K : zI} {one : Nat} {va v : Int} : mvary K one va v 2 = K 2 := by
  unfold mvary
  split
  · exact z2_r (by decide)
  · split
    · rfl
    · exact z2_r (by omega)
theorem mWd_vary {K : zI} {one : Nat} {va v : Int} (hK : mWd K) (h : mok (mvary K one va v)) (h6 : 0 ≤ mvary K one va v 0 6 ∧ mvary K one va v 0 6 < 6) : mWd (mvary K one va v) := by
  obtain ⟨⟨-, k4, -⟩, k3, kj, k5⟩ := hK
  refine ⟨⟨h, by rw [mvary_02 (by decide)]; exact k4, h6⟩, by rw [mvary_02 (by decide)]; exact k3, fun j hj => ?_, by rw [mvary_02 (by decide)]; exact k5⟩
  rw [mvary_02 (by decide)] at hj
  rw [mvary_2]
  exact kj j hj
/-- what stays where the reference tries values -/
def nSt (I J : zI) (one : Nat) (va : Int) : Prop := (∀ y, y ≠ 67 → y ≠ 71 → J y = I y) ∧ (∀ j, (va = 9 → j ≠ 4) → (j < 14 ∨ 28 < j) → J 67 j = I 67 j) ∧ ∀ j, (va = 9 ∨ j ≠ 5 * one + nix5 (mfi va)) → J 71 j = I 71 j
theorem nSt.rf (I : zI) (one : Nat) (va : Int) : nSt I I one va := ⟨fun _ _ _ => rfl, fun _ _ _ => rfl, fun _ _ => rfl⟩
theorem nSt.A {I J J1 : zI} {one : Nat} {va : Int} (h : nSt I J one va) (h1 : nA J J1) : nSt I J1 one va := ⟨fun y a b => (h1.1 y a).trans (h.1 y a b), fun j a b => (h1.2 j b).trans (h.2.1 j a b), fun j a => by rw [h1.1 71 (by decide)]; exact h.2.2 j a⟩
theorem nSt.R {I J : zI} {one : Nat} {va : Int} (h : nSt I J one va) : nR J = nR I := by
  funext t
  unfold nR nb
  rw [h.1 68 (by decide) (by decide), h.1 69 (by decide) (by decide)]
theorem nSt.T {I J : zI} {one : Nat} {va : Int} (h : nSt I J one va) : nT J = nT I := by
  have e : ∀ t q, t < 6 → mX J t q = mX I t q := by
    intro t q ht
    unfold mX mX0
    rw [h.1 (46 + 3 * t) (by omega) (by omega), h.1 (45 + 3 * t) (by omega) (by omega)]
  funext t q
  unfold nT
  rw [h.R]
  by_cases ht : t < 6
  · rw [if_pos ht, if_pos ht, e t q ht]
  · rw [if_neg ht, if_neg ht]
theorem nSt.Xo {I J : zI} {one : Nat} {va : Int} (h : nSt I J one va) {t : Nat} (o : nXo I t) : nXo J t := by
  unfold nXo nb at o ⊢
  rw [h.R, h.1 68 (by decide) (by decide), h.1 69 (by decide) (by decide)]
  exact o
theorem nSt.put {I J : zI} {one : Nat} {va v : Int} (h : nSt I J one va) (hv : va ≠ 9) : nSt I (z2 J 71 (5 * one + nix5 (mfi va)) v) one va := ⟨fun y a b => by rw [z2_r b]; exact h.1 y a b, fun j a b => by rw [z2_n (Or.inl (by decide))]; exact h.2.1 j a b, fun j a => by rw [z2_n (Or.inr (a.resolve_left hv))]; exact h.2.2 j a⟩
theorem nSt.rul {I J : zI} {one : Nat} {va v : Int} (h : nSt I J one va) (hv : va = 9) : nSt I (z2 J 67 4 v) one va := ⟨fun y a b => by rw [z2_r a]; exact h.1 y a b, fun j a b => by rw [z2_n (Or.inr (a hv))]; exact h.2.1 j a b, fun j a => by rw [z2_n (Or.inl (by decide))]; exact h.2.2 j a⟩
def ntv (T : Nat → Nat → List Int) (K : zI) (cl : Nat → Int) (e : Nat) (N7 : Int) (one : Nat) (what : Int) : Int :=
  if what = 0 then mfo T K one cl e 0
  else if what = 1 then msb (mso T K cl e one 5) 6
  else if what = 2 then msb (mso T K cl e one 1) 10
  else if what = 3 then mcn (mso T K cl e one 3) 100
  else if what = 4 then mls (mso T K cl e one 3) 100
  else if what = 5 then mcn (mso T K cl e one 2) 1024
  else if what = 6 then mls (mso T K cl e one 2) 1024
  else if what = 7 then msb (mso T K cl e one 9) N7.toNat
  else msb (mso T K cl e one 10) (K 0 2).toNat
theorem mtv_n {I : zI} {s one : Nat} {what : Int} : mtv I s one what = ntv (mX I) (mK 2 I) (I (37 + 2 * s)) (I (36 + 2 * s) 2).toNat (I 0 7) one what := rfl
section
variable {c : Nat × Nat × Nat} {I : zI} {g : Nat} {Q : zQ} {K : zI} {T : Nat → Nat → List Int}
theorem r195 {e : Nat} (he : 2 ≤ e) {x : Int} (H : Q (some (zi (mbo (0 ≤ x ∧ x < 4)))) (c, I, zRg g)) : zcl e 195 0 0 [zi x] (c, I, zRg g) Q := by
  obtain ⟨d, rfl⟩ : ∃ d, e = d + 1 := ⟨e - 1, by omega⟩
  refine zen rfl rfl (fun B Q1 hQ => g_x12_isSheet_0 (r130 (by omega) (g_x12_isSheet_9 ⟨mbo_01 _, zQi ?_ (hQ _ _ _ H)⟩)))
  by_cases h : 0 ≤ x ∧ x < 4
  · rw [mbo_t h, mbo_t (by omega)]
  · rw [mbo_f h, mbo_f (by omega)]
theorem r138v {e : Nat} (he : 1 ≤ e) {st va : Int} {one : Nat} (ho : one < 5) (hs : (st = 6 ∧ va = 9) ∨ (st = va ∧ (va = 1 ∨ va = 2 ∨ va = 3 ∨ va = 5))) {J : zI} {v : Int} (H9 : va = 9 → Q none (c, z2 J 67 4 v, zRg g)) (H1 : va ≠ 9 → Q none (c, z2 J 71 (5 * one + nix5 (mfi va)) v, zRg g)) : zcl e 138 0 0 [zr 67, zi st, zi (one : Nat), zi v] (c, J, zRg g) Q := by
  refine r138 he (fun _ _ => by omega) (fun q => absurd q (by omega)) (fun q => H9 (by omega)) (fun q1 q2 => ?_) (by omega)
  have : 5 * ((one : Nat) : Int).toNat + (st.toNat - 1) = 5 * one + nix5 (mfi va) := by
    rcases hs with ⟨h, -⟩ | ⟨h, h1 | h1 | h1 | h1⟩
    · omega
    all_goals
      subst h
      subst h1
      rfl
  rw [this]
  exact H1 (by omega)
theorem r185 {e : Nat} (he : 54 ≤ e) (hW : nW I) (hl : mlk K (nK I)) (hT : ∀ q, T (K 0 6).toNat q = nT I (K 0 6).toNat q) {s : Nat} (hs : s < 4) {n : Nat} (hn : I 79 s = n) (h10 : n ≤ 10) {p : Nat} (hp : (p : Int) < K 0 2) {cl : Nat → Int} (hcl : ∀ i, i < n → I 80 (40 * s + i) = cl i) (H : ∀ J, nA I J → Q (some (zi (mfo T K p cl n 0))) (c, J, zRg g)) : zcl e 185 0 0 [zr 67, zi (s : Nat), zi (p : Nat)] (c, I, zRg g) Q := by
  obtain ⟨d, rfl⟩ : ∃ d, e = d + 1 := ⟨e - 1, by omega⟩
  have e9 : K 0 2 = I 67 9 := hl.1 2 (by decide) (by decide)
  refine zen rfl rfl (fun B Q1 hQ => g_x12_firstOther_0 ?_)
  have loop : ∀ (a i : Nat) (J : zI), i + a = n → nA I J → (∀ J1, nA I J1 → Q1 (some (zi (mfo T K p cl a i))) (c, J1, zRg g)) → zRn (zcl d) 185 B Q1 2 [some (zr 67), some (zi (s : Nat)), some (zi (p : Nat)), some (zi (i : Nat))] [] (c, J, zRg g) := by
    intro a
    induction a with
    | zero =>
      intro i J hi hJ H
      exact g_x12_firstOther_2 ⟨by omega, fun _ => H J hJ, fun u => absurd (by rw [hJ.1 79 (by decide), Int.toNat_natCast, hn]; omega) u⟩
    | succ a ih =>
      intro i J hi hJ H
      have hsh : mR (zshl 1 (i : Int)) := m_shl (by omega) (by omega)
      refine g_x12_firstOther_2 ⟨by omega, fun u => absurd u (by rw [hJ.1 79 (by decide), Int.toNat_natCast, hn]; omega), fun _ => r165 (by omega) (hJ.W hW) (by rw [hJ.2 9 (by decide), ← e9]; exact hp) hsh (fun J1 h1 => ?_)⟩
      rw [hJ.K, hJ.T, ← mtell_lk hl hT hp]
      have h1 := hJ.tr h1
      have ix : zwr (zwr (40 * ((s : Nat) : Int)) + (i : Int)) = ((40 * s + i : Nat) : Int) := by
        rw [zwr_eq (show zIn (40 * ((s : Nat) : Int)) by omega), zwr_eq (show zIn (40 * ((s : Nat) : Int) + (i : Int)) by omega)]
        omega
      refine g_x12_firstOther_20 ?_
      rw [ix]
      clear ix
      rw [Int.toNat_natCast, h1.1 80 (by decide), hcl i (by omega), z1p i (by omega)]
      have em : mfo T K p cl (a + 1) i = if mtell T K p (zshl 1 (i : Int)) = cl i then mfo T K p cl a (i + 1) else (i : Int) := rfl
      rw [em] at H
      refine ⟨by omega, fun u => ih (i + 1) J1 (by omega) h1 (fun J2 h2 => ?_), fun u => ?_⟩
      · have H := H J2 h2
        rw [if_pos u] at H
        exact H
      · have H := H J1 h1
        rw [if_neg u] at H
        exact H
  exact loop n 0 I (by omega) (nA.rf I) (fun J h => hQ _ _ _ (H J h))
theorem r186 {e : Nat} (he : 55 ≤ e) (hW : nW I) (hl : mlk K (nK I)) (hT : ∀ q, T (K 0 6).toNat q = nT I (K 0 6).toNat q) {s : Nat} (hs : s < 4) {n : Nat} (hn : I 79 s = n) (h10 : n ≤ 10) {one : Nat} {cl : Nat → Int} (hcl : ∀ i, i < n → I 80 (40 * s + i) = cl i) (H : ∀ J, nA I J → Q (some (zi (msb (mso T K cl n one 10) (K 0 2).toNat))) (c, J, zRg g)) : zcl e 186 0 0 [zr 67, zi (s : Nat)] (c, I, zRg g) Q := by
  obtain ⟨d, rfl⟩ : ∃ d, e = d + 1 := ⟨e - 1, by omega⟩
  have e9 : K 0 2 = I 67 9 := hl.1 2 (by decide) (by decide)
  have h9 := hW.n9
  refine zen rfl rfl (fun B Q1 hQ => g_x12_likeSet_0 ?_)
  have H := fun J h => hQ _ _ _ (H J h)
  have hP : ∀ p : Nat, mso T K cl n one 10 p = decide (mfo T K p cl n 0 = -1) := fun p => rfl
  have loop : ∀ (a p : Nat) (J : zI), ((p + a : Nat) : Int) = I 67 9 → nA I J → zRn (zcl d) 186 B Q1 4 [some (zr 67), some (zi (s : Nat)), some (zi (msb (mso T K cl n one 10) p)), some (zi (p : Nat))] [] (c, J, zRg g) := by
    intro a
    induction a with
    | zero =>
      intro p J hp hJ
      have : (K 0 2).toNat = p := by omega
      rw [this] at H
      exact g_x12_likeSet_4 ⟨fun _ => H J hJ, fun u => absurd (by rw [hJ.2 9 (by decide)]; omega) u⟩
    | succ a ih =>
      intro p J hp hJ
      have e9J : J 67 9 = I 67 9 := hJ.2 9 (by decide)
      refine g_x12_likeSet_4 ⟨fun u => absurd u (by rw [e9J]; omega), fun _ => r185 (K := K) (T := T) (n := n) (cl := cl) (by omega) (hJ.W hW) (by rw [hJ.K]; exact hl) (by rw [hJ.T]; exact hT) hs (by rw [hJ.1 79 (by decide)]; exact hn) h10 (by omega) (by rw [hJ.1 80 (by decide)]; exact hcl) (fun J1 h1 => g_x12_likeSet_19 ?_)⟩
      have h1 := hJ.tr h1
      have ih := ih (p + 1) J1 (by omega) h1
      have em : msb (mso T K cl n one 10) (p + 1) = if mso T K cl n one 10 p = true ∧ p < 31 then zor (msb (mso T K cl n one 10) p) (zshl 1 (p : Int)) else msb (mso T K cl n one 10) p := rfl
      rw [em] at ih
      have hr := msb_r (mso T K cl n one 10) p (by omega)
      have hz : zshl 0 (p : Int) = 0 := by
        have : p = 0 ∨ p = 1 ∨ p = 2 ∨ p = 3 ∨ p = 4 := by omega
        rcases this with rfl | rfl | rfl | rfl | rfl <;> decide
      rw [z1p p (by omega)]
      refine ⟨fun u => ?_, fun u => ?_⟩
      · rw [if_neg (fun q => u (of_decide_eq_true q.1))] at ih
        rw [hz, m_or0 hr]
        exact ih
      · rw [if_pos ⟨decide_eq_true (Decidable.not_not.mp u), by omega⟩] at ih
        exact ih
  exact loop (I 67 9).toNat 0 I (by omega) (nA.rf I)
end
end
