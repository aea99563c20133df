/-! contracts: a world becomes as another, days in thought, to and fro, from, the mean -/
theorem mtt_lk {T T1 : Nat → Nat → List Int} {K K1 : zI} (h : mlk K K1) (hT : ∀ q, T (K 0 6).toNat q = T1 (K 0 6).toNat q) {p : Nat} (hp : (p : Int) < K 0 2) {x : Int} : mlk (mtt T K p x) (mtt T1 K1 p x) := by
  refine ⟨fun j h1 h2 => ?_, fun j hj => ?_, fun q hq j hj => ?_⟩
  · rw [mtt_0, mtt_0]; exact h.1 j h1 h2
  · rw [mtt_0] at hj
    rw [mtt_2, mtt_2]; exact h.2.1 j hj
  · rw [mtt_0] at hq
    by_cases e : q = p
    · subst e
      rw [mtt_p, mtt_p, mtire_lk h hT hp, mlearn_lk h hT hp, h.2.2 q hp 2 (by omega), h.2.2 q hp 3 (by omega), h.2.2 q hp 4 (by omega)]
      unfold mtr
      split
      · rfl
      · split
        · rfl
        · split
          · rfl
          · exact h.2.2 q hp j hj
    · rw [mtt_n (by omega), mtt_n (by omega)]
      exact h.2.2 q hq j hj
theorem mtts_lk {T T1 : Nat → Nat → List Int} : ∀ (n p : Nat) {K K1 : zI} {x : Int}, mlk K K1 → (∀ q, T (K 0 6).toNat q = T1 (K 0 6).toNat q) → ((p + n : Nat) : Int) ≤ K 0 2 → mlk (mtts T n p K x).1 (mtts T1 n p K1 x).1 ∧ (mtts T n p K x).2 = (mtts T1 n p K1 x).2
  | 0, _, _, _, _, h, _, _ => ⟨h, rfl⟩
  | n + 1, p, K, K1, x, h, hT, hp => by
    have := mtts_lk (T := T) (T1 := T1) n (p + 1) (x := mtell T K p x) (mtt_lk h hT (p := p) (x := x) (by omega)) (by rw [mtt_0]; exact hT) (by rw [mtt_0]; omega)
    show mlk (mtts T n (p + 1) (mtt T K p x) (mtell T K p x)).1 (mtts T1 n (p + 1) (mtt T1 K1 p x) (mtell T1 K1 p x)).1 ∧ (mtts T n (p + 1) (mtt T K p x) (mtell T K p x)).2 = (mtts T1 n (p + 1) (mtt T1 K1 p x) (mtell T1 K1 p x)).2
    rw [← mtell_lk h hT (p := p) (by omega)]
    exact this
theorem mshift_lk {K K1 : zI} (h : mlk K K1) : mlk (mshift K) (mshift K1) := by
  refine ⟨fun j h1 h2 => ?_, fun j hj => ?_, fun q hq j hj => ?_⟩
  · by_cases e : j = 3
    · rw [e, mshift_03, mshift_03, h.1 3 (by omega) (by omega)]
    · rw [mshift_0 e, mshift_0 e]; exact h.1 j h1 h2
  · rw [mshift_03] at hj
    rw [mshift_2 (by omega), mshift_2 (by rw [← h.1 3 (by omega) (by omega)]; omega)]
    exact h.2.1 (j + 1) (by omega)
  · rw [mshift_0 (by omega)] at hq
    rw [mshift_p, mshift_p]
    exact h.2.2 q hq j hj
theorem mz2_lk {K K1 : zI} {j : Nat} {v w : Int} (h : mlk K K1) (h3 : j ≠ 3) (h2 : j ≠ 2) (e : v = w) : mlk (z2 K 0 j v) (z2 K1 0 j w) := by
  refine ⟨fun k q1 q2 => ?_, fun k hk => ?_, fun p hp k hk => ?_⟩
  · by_cases q : k = j
    · rw [q, z2_s, z2_s, e]
    · rw [z2_n (Or.inr q), z2_n (Or.inr q)]; exact h.1 k q1 q2
  · rw [z2_n (Or.inr (fun q => h3 q.symm))] at hk
    rw [z2_r (by omega), z2_r (by omega)]; exact h.2.1 k hk
  · rw [z2_n (Or.inr (fun q => h2 q.symm))] at hp
    rw [z2_r (by omega), z2_r (by omega)]; exact h.2.2 p hp k hk
theorem mday_lk {K K1 : zI} (h : mlk K K1) : mlk (mday K) (mday K1) := mz2_lk h (by omega) (by omega) (by rw [h.1 4 (by omega) (by omega)])
theorem mcome_lk {K K1 : zI} (h : mlk K K1) : mlk (mcome K) (mcome K1) := mz2_lk h (by omega) (by omega) (by rw [h.1 5 (by omega) (by omega)])
theorem mpass_lk {T T1 : Nat → Nat → List Int} {K K1 : zI} (h : mlk K K1) (hT : ∀ q, T (K 0 6).toNat q = T1 (K 0 6).toNat q) (h0 : 0 ≤ K 0 2) : mlk (mpass T K).1 (mpass T1 K1).1 ∧ (mpass T K).2 = (mpass T1 K1).2 := by
  have e3 := h.1 3 (by omega) (by omega)
  by_cases q : 0 < K 0 3
  · have a1 : mpass T K = (mday (mcome (mtts T (K 0 2).toNat 0 (mshift K) (K 2 0)).1), (mtts T (K 0 2).toNat 0 (mshift K) (K 2 0)).2) := if_pos q
    have a2 : mpass T1 K1 = (mday (mcome (mtts T1 (K1 0 2).toNat 0 (mshift K1) (K1 2 0)).1), (mtts T1 (K1 0 2).toNat 0 (mshift K1) (K1 2 0)).2) := if_pos (by omega)
    rw [a1, a2, ← h.1 2 (by omega) (by omega), ← h.2.1 0 q]
    have := mtts_lk (T := T) (T1 := T1) (K 0 2).toNat 0 (x := K 2 0) (mshift_lk h) (by rw [mshift_0 (by omega)]; exact hT) (by rw [mshift_0 (by omega)]; omega)
    exact ⟨mday_lk (mcome_lk this.1), this.2⟩
  · have a1 : mpass T K = (mday K, -1) := if_neg q
    have a2 : mpass T1 K1 = (mday K1, -1) := if_neg (by omega)
    rw [a1, a2]
    exact ⟨mday_lk h, rfl⟩
def mrn (T : Nat → Nat → List Int) : Nat → zI → Int → Int → zI × Int × Int
  | 0, K, l, m => (K, l, m)
  | n + 1, K, l, m => if (mpass T K).2 = -1 then mrn T n (mpass T K).1 l m else mrn T n (mpass T K).1 (mpass T K).2 (m + 1)
def mrv (r : zI × Int × Int) (what : Int) : Int := if what = 0 then r.2.1 else if what = 1 then r.2.2 else if what < 20 then r.1 (3 + (what - 10).toNat) 2 else r.1 (3 + (what - 20).toNat) 3
/-- what stays where something is tried -/
def mFr (I J : zI) : Prop := (∀ y, y ≠ 27 → y ≠ 29 → ¬ (18 ≤ y ∧ y < 26) → y ≠ 0 → J y = I y) ∧ ∀ j, j ≠ 11 → j ≠ 12 → J 0 j = I 0 j
theorem mFr.rf (I : zI) : mFr I I := ⟨fun _ _ _ _ _ => rfl, fun _ _ _ => rfl⟩
theorem mFr.tr {I J L : zI} (h : mFr I J) (h1 : mFr J L) : mFr I L := ⟨fun y a b e f => (h1.1 y a b e f).trans (h.1 y a b e f), fun j a b => (h1.2 j a b).trans (h.2 j a b)⟩
theorem mA.F {I J : zI} (h : mA I J) : mFr I J := ⟨fun y a _ _ _ => h y a, fun j _ _ => congrFun (h 0 (by omega)) j⟩
theorem mFr_th {I J : zI} (h : ∀ y, ¬ (18 ≤ y ∧ y < 18 + 8) → J y = I y) : mFr I J := ⟨fun y _ _ q _ => h y (by omega), fun j _ _ => congrFun (h 0 (by omega)) j⟩
theorem mFr_put {I K : zI} : mFr I (mput 18 I K) := mFr_th (fun y h => mput_out h)
theorem mFr.X {I J : zI} (h : mFr I J) : mX J = mX I := by
  funext t q
  unfold mX mX0
  rw [h.1 (46 + 3 * t) (by omega) (by omega) (by omega) (by omega), h.1 (45 + 3 * t) (by omega) (by omega) (by omega) (by omega)]
theorem mFr.Xo {I J : zI} (h : mFr I J) {t : Nat} (o : mXo I t) : mXo J t := by
  unfold mXo
  rw [h.1 (46 + 3 * t) (by omega) (by omega) (by omega) (by omega)]
  exact o
section
variable {d : Nat} {c : Nat × Nat × Nat} {I : zI} {g : Nat} {Q : zQ}
theorem k29 {a b : Nat} (ha : (zSh a).1 = 5) (hb : (zSh b).1 = 5) (hab : b ≠ a) (H : ∀ J, (∀ y, y ≠ a → J y = I y) → (∀ j, j < 5 → J a j = I b j) → Q none (c, J, zRg g)) : zcl (d + 1) 29 0 0 [zr a, zr b] (c, I, zRg g) Q := by
  refine zen rfl rfl (fun B Q1 hQ => g_x5_become__0 ⟨hb, ha, hb, ha, hb, ha, hb, ha, hb, ha, hQ _ _ _ (H _ (fun y hy => ?_) (fun j hj => ?_))⟩)
  · rw [z2_r hy, z2_r hy, z2_r hy, z2_r hy, z2_r hy]
  · match j, hj with
    | 0, _ => simp [z2, hab]
    | 1, _ => simp [z2, hab]
    | 2, _ => simp [z2, hab]
    | 3, _ => simp [z2, hab]
    | 4, _ => simp [z2, hab]
    | j + 5, q => exact absurd q (by omega)
theorem mB_ne {a b x y : Nat} (ha : mB a) (hb : mB b) (hab : a ≠ b) (hx : x < 8) (hy : y < 8) : b + y ≠ a + x := by
  rcases ha with rfl | rfl | rfl <;> rcases hb with rfl | rfl | rfl <;> omega
theorem mB_no {a b y : Nat} (ha : mB a) (hb : mB b) (hab : a ≠ b) (hy : y < 8) : ¬ (a ≤ b + y ∧ b + y < a + 8) := by
  rcases ha with rfl | rfl | rfl <;> rcases hb with rfl | rfl | rfl <;> omega
theorem l_bec2 {a b : Nat} {B : Nat × Nat} (ha : mB a) (hb : mB b) (hab : a ≠ b) (h5 : I b 2 ≤ 5) (h8 : I b 3 ≤ 8) (H : ∀ J, (∀ y, ¬ (a ≤ y ∧ y < a + 8) → J y = I y) → mlk (mK b I) (mK a J) → Q none (c, J, zRg g)) : ∀ (n i : Nat) (J : zI), ((i + n : Nat) : Int) = I b 3 → (∀ y, ¬ (a ≤ y ∧ y < a + 8) → J y = I y) → (∀ j, 2 ≤ j → j ≤ 6 → J a j = I b j) → (∀ p : Nat, (p : Int) < I b 2 → ∀ j, j < 5 → J (a + (3 + p)) j = I (b + (3 + p)) j) → (∀ j, j < i → J (a + 2) j = I (b + 2) j) → zRn (zcl (d + 1)) 3 B Q 73 [some (zr a), some (zr b), some (zi (i : Nat))] [] (c, J, zRg g) := by
  intro n
  induction n with
  | zero =>
    intro i J hi hJ hF hP hj
    refine g_x0_become_73 (y1 := 0) (y2 := 0) ⟨mB_0 ha, fun _ => H J hJ ⟨fun j h1 h2 => (hF j h1 h2).symm, fun j h => (hj j ?_).symm, fun p hp j hj => (hP p hp j hj).symm⟩, fun u => absurd (by rw [hF 3 (by omega) (by omega)]; omega) u⟩
    have h : (j : Int) < I b 3 := h
    omega
  | succ n ih =>
    intro i J hi hJ hF hP hj
    refine g_x0_become_73 (y1 := a + 2) (y2 := b + 2) ⟨mB_0 ha, fun u => absurd u (by rw [hF 3 (by omega) (by omega)]; omega), fun _ => ⟨mB_0 ha, (mB_g ha).2, mB_0 hb, (mB_g hb).2, by rw [mB_2 hb], by rw [mB_2 hb]; simp only; omega, by rw [mB_2 ha], by rw [mB_2 ha]; simp only; omega, ?_⟩⟩
    rw [z1p i (by omega), show ((i : Int)).toNat = i from rfl, hJ _ (mB_no ha hb hab (by omega))]
    refine ih (i + 1) _ (by omega) (fun y hy => ?_) (fun j h1 h2 => ?_) (fun p hp j hj => ?_) (fun j hj2 => ?_)
    · rw [z2_r (by omega)]; exact hJ y hy
    · rw [z2_r (by omega)]; exact hF j h1 h2
    · rw [z2_r (by omega)]; exact hP p hp j hj
    · by_cases q : j = i
      · rw [q, z2_s]
      · rw [z2_n (Or.inr q)]; exact hj j (by omega)
theorem l_bec1 {a b : Nat} {B : Nat × Nat} (ha : mB a) (hb : mB b) (hab : a ≠ b) (h5 : I b 2 ≤ 5) (h8 : 0 ≤ I b 3 ∧ I b 3 ≤ 8) (H : ∀ J, (∀ y, ¬ (a ≤ y ∧ y < a + 8) → J y = I y) → mlk (mK b I) (mK a J) → Q none (c, J, zRg g)) : ∀ (n i : Nat) (J : zI), ((i + n : Nat) : Int) = I b 2 → (∀ y, ¬ (a ≤ y ∧ y < a + 8) → J y = I y) → (∀ j, 2 ≤ j → j ≤ 6 → J a j = I b j) → (∀ p, p < i → ∀ j, j < 5 → J (a + (3 + p)) j = I (b + (3 + p)) j) → zRn (zcl (d + 1)) 3 B Q 42 [some (zr a), some (zr b), some (zi (i : Nat))] [] (c, J, zRg g) := by
  intro n
  induction n with
  | zero =>
    intro i J hi hJ hF hP
    exact g_x0_become_42 (y1 := 0) (y2 := 0) (y3 := 0) (y4 := 0) ⟨mB_0 ha, fun _ => l_bec2 (i := 0) ha hb hab h5 h8.2 H (I b 3).toNat J (by omega) hJ hF (fun p hp => hP p (by omega)) (fun j hj => absurd hj (by omega)), fun u => absurd (by rw [hF 2 (by omega) (by omega)]; omega) u⟩
  | succ n ih =>
    intro i J hi hJ hF hP
    refine g_x0_become_42 (y1 := a + 1) (y2 := a + (3 + i)) (y3 := b + 1) (y4 := b + (3 + i)) ⟨mB_0 ha, fun u => absurd u (by rw [hF 2 (by omega) (by omega)]; omega), fun _ => ⟨mB_0 ha, (mB_g ha).1, by rw [mB_1 ha]; exact ⟨by decide, by decide⟩, by rw [mB_1 ha]; simp only; omega, mB_p ha (by omega), mB_0 hb, (mB_g hb).1, by rw [mB_1 hb]; exact ⟨by decide, by decide⟩, by rw [mB_1 hb]; simp only; omega, mB_p hb (by omega), by rw [mB_3 ha (by omega)]; rfl, ?_⟩⟩
    refine k29 (mB_3 ha (by omega)) (mB_3 hb (by omega)) (mB_ne ha hb hab (by omega) (by omega)) (fun J1 h1 h2 => g_x0_become_65 ?_)
    rw [z1p i (by omega)]
    refine ih (i + 1) J1 (by omega) (fun y hy => ?_) (fun j q1 q2 => ?_) (fun p hp j hj => ?_)
    · rw [h1 y (by omega)]; exact hJ y hy
    · rw [h1 a (by omega)]; exact hF j q1 q2
    · by_cases q : p = i
      · rw [q, h2 j hj, hJ _ (mB_no ha hb hab (by omega))]
      · rw [h1 _ (by omega)]; exact hP p (by omega) j hj
theorem k_become {a b : Nat} (ha : mB a) (hb : mB b) (hab : a ≠ b) (h5 : 0 ≤ I b 2 ∧ I b 2 ≤ 5) (h8 : 0 ≤ I b 3 ∧ I b 3 ≤ 8) (H : ∀ J, (∀ y, ¬ (a ≤ y ∧ y < a + 8) → J y = I y) → mlk (mK b I) (mK a J) → Q none (c, J, zRg g)) : zcl (d + 2) 3 0 0 [zr a, zr b] (c, I, zRg g) Q := by
  have hba : ¬ b = a := fun q => hab q.symm
  refine zen rfl rfl (fun B Q1 hQ => g_x0_become_0 ⟨mB_0 hb, mB_0 ha, mB_0 hb, mB_0 ha, mB_0 hb, mB_0 ha, mB_0 hb, mB_0 ha, mB_0 hb, mB_0 ha, l_bec1 (i := 0) ha hb hab h5.2 h8 (fun J h1 h2 => hQ _ _ _ (H J h1 h2)) (I b 2).toNat _ (by omega) (fun y hy => ?_) (fun j h1 h2 => ?_) (fun p hp => absurd hp (by omega))⟩)
  · have hy : y ≠ a := by omega
    rw [z2_r hy, z2_r hy, z2_r hy, z2_r hy, z2_r hy]
  · have : j = 2 ∨ j = 3 ∨ j = 4 ∨ j = 5 ∨ j = 6 := by omega
    rcases this with rfl | rfl | rfl | rfl | rfl <;> simp [z2, hba]
end

