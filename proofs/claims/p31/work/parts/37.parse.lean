section
/-! contracts: the tokens are read as a text -/
def mco (f : Nat → Int) (l : List Int) : Prop := ∀ i, i < l.length → f i = zgt 0 l i
def mpF (I J : zI) (t : Nat) : Prop := (∀ y, y ≠ 62 → y ≠ 44 + 3 * t → y ≠ 45 + 3 * t → J y = I y) ∧ (∀ j, j ≠ 6 → j ≠ 7 → j ≠ 8 → J 62 j = I 62 j) ∧ (0 ≤ J (44 + 3 * t) 2 ∧ J (44 + 3 * t) 2 ≤ 160)
/-- where the reading stands: at token k, codes L and cs written; or behind a fault at token k -/
def mpP (I : zI) (b : Nat → Int) (n m t : Nat) (L : List Int) (r : mP) (J : zI) : Prop := mpF I J t ∧ match r with
  | (true, k, cs) => J 62 6 = (k : Int) ∧ J 62 7 = mkd b n k ∧ J 62 8 = -1 ∧ J (44 + 3 * t) 2 = ((L ++ cs).length : Nat) ∧ mco (J (45 + 3 * t)) (L ++ cs) ∧ k ≤ m
  | (false, k, _) => J 62 7 = -2 ∧ J 62 8 = (mpl b n k : Nat)
def mqs (L : List Int) (e : Nat) (r : mP) : Prop := ∀ k cs, r = (true, k, cs) → L.length + cs.length + e ≤ k
def mgl (f : mF) : Prop := ∀ k cs k1 c1, f k cs = (true, k1, c1) → c1.length + k ≤ cs.length + k1
theorem mqs_bind {L : List Int} {e : Nat} {r : mP} {f : mF} (hf : mgl f) (h : mqs L e r) : mqs L e (mbind r f) := by
  intro k cs q
  obtain ⟨k0, c0, e0, e1⟩ := mbind_t q
  have h1 := h _ _ e0
  have h2 := hf _ _ _ _ e1
  omega
theorem mbind_as (r : mP) (f h : mF) : mbind (mbind r f) h = mbind r (fun k cs => mbind (f k cs) h) := by
  rcases r with ⟨b, k, cs⟩
  cases b <;> rfl
theorem mbind_id (r : mP) : mbind r (fun k cs => (true, k, cs)) = r := by
  rcases r with ⟨b, k, cs⟩
  cases b <;> rfl
def mav : mF := fun k cs => (true, k + 1, cs)
def mad (x : Int) : mF := fun k cs => (true, k, cs ++ [x])
def mfa : mF := fun k cs => (false, k, cs)
def mex (kd : Nat → Int) (x : Int) : mF := fun k cs => if kd k = x then (true, k + 1, cs) else (false, k, cs)
theorem mqs_av {L : List Int} {e : Nat} {r : mP} (h : mqs L e r) : mqs L (e + 1) (mbind r mav) := by
  intro k cs q
  obtain ⟨k0, c0, e0, e1⟩ := mbind_t q
  have h1 := h _ _ e0
  cases e1
  omega
theorem mqs_ad {L : List Int} {e : Nat} {r : mP} {x : Int} (h : mqs L (e + 1) r) : mqs L e (mbind r (mad x)) := by
  intro k cs q
  obtain ⟨k0, c0, e0, e1⟩ := mbind_t q
  have h1 := h _ _ e0
  cases e1
  rw [List.length_append]
  simp only [List.length_cons, List.length_nil]
  omega
theorem mqs_dn {L : List Int} {e : Nat} {r : mP} (h : mqs L (e + 1) r) : mqs L e r := fun k cs q => by have := h k cs q; omega
theorem mgl_ex {kd : Nat → Int} {x : Int} : mgl (mex kd x) := by
  intro k cs k1 c1 q
  unfold mex at q
  split at q
  · cases q; omega
  · cases q
theorem mite_6 {p : Prop} [Decidable p] {a b : Int × Int} (ha : -6 ≤ a.2) (hb : -6 ≤ b.2) : -6 ≤ (if p then a else b).2 := by
  by_cases h : p
  · rw [if_pos h]; exact ha
  · rw [if_neg h]; exact hb
theorem mwd_6 (l : List Int) : -6 ≤ (mwd l).2 :=
  mite_6 (by decide) (mite_6 (by decide) (mite_6 (by decide) (mite_6 (by decide) (mite_6 (by decide) (mite_6 (by decide) (mite_6 (by decide) (mite_6 (by decide) (mite_6 (by decide) (mite_6 (by decide) (mite_6 (by decide) (mite_6 (by decide) (by decide))))))))))))
theorem mnu_0 {b : Nat → Int} : ∀ (a i : Nat) (v : Int), 0 ≤ v → (∀ j, i ≤ j → j < i + a → 48 ≤ b j) → 0 ≤ mnu b a i v
  | 0, _, _, h, _ => h
  | a + 1, i, v, h, hb => mnu_0 a (i + 1) _ (by have := hb i (Nat.le_refl _) (by omega); omega) (fun j h1 h2 => hb j (by omega) (by omega))
theorem mto_6 {b : Nat → Int} {n i : Nat} (h : (mto b n i).1 = -3 ∨ (mto b n i).1 = -4) : -6 ≤ (mto b n i).2.1 := by
  by_cases h0 : n ≤ i
  · rw [mto_ge h0]; exact (by decide : (-6 : Int) ≤ 0)
  · unfold mto
    rw [if_neg h0]
    by_cases h1 : mlt (b i) = true
    · rw [if_pos h1]; exact mwd_6 _
    · rw [if_neg h1]
      by_cases h2 : mdg (b i) = true
      · rw [if_pos h2]
        have q := msc_le mdg b (n - i) i
        have h3 : 0 ≤ mnu b (msc mdg b (n - i) i - i) i 0 := mnu_0 _ _ _ (by omega) (fun j q1 q2 => (of_decide_eq_true (p := 48 ≤ b j ∧ b j ≤ 57) (msc_in mdg b (n - i) i j q1 (by omega))).1)
        by_cases h4 : msc mdg b (n - i) i - i ≤ 4
        · rw [if_pos h4]; simp only; omega
        · rw [if_neg h4]; simp only; omega
      · rw [if_neg h2]
        by_cases h3 : msg (b i) = true
        · rw [if_pos h3]; simp only; omega
        · rw [if_neg h3]; simp only; omega
theorem mvl_6 {b : Nat → Int} {n : Nat} (k : Nat) (h : mkd b n k = -3 ∨ mkd b n k = -4) : -6 ≤ mvl b n k := mto_6 h
theorem zgt_app {α : Type} {d x : α} : ∀ (A C : List α), zgt d (A ++ x :: C) A.length = x
  | [], _ => rfl
  | _ :: A, C => zgt_app A C
theorem zgt_al {α : Type} {d : α} : ∀ (A C : List α) (i : Nat), i < A.length → zgt d (A ++ C) i = zgt d A i
  | [], _, i, h => absurd h (Nat.not_lt_zero _)
  | _ :: _, _, 0, _ => rfl
  | _ :: A, C, i + 1, h => zgt_al A C i (Nat.lt_of_succ_lt_succ h)
section
variable {c : Nat × Nat × Nat} {I : zI} {Q : zQ} {b : Nat → Int} {n m t : Nat} {L : List Int}
theorem p49 (hL : mLx I b n m) (ht : t < 6) {e : Nat} (he : 1 ≤ e) {r : mP} {J : zI} {g : Nat} (h : mpP I b n m t L r J) (hk : ∀ k cs, r = (true, k, cs) → mkd b n k ≠ -1) (H : ∀ J1, mpP I b n m t L (mbind r mav) J1 → Q none (c, J1, zRg g)) : zcl e 49 0 0 [zr 62] (c, J, zRg g) Q := by
  obtain ⟨d, rfl⟩ : ∃ d, e = d + 1 := ⟨e - 1, by omega⟩
  refine zen rfl rfl (fun B Q1 hQ => g_x7_advance_0 ?_)
  have H := fun J1 h1 => hQ _ _ _ (H J1 h1)
  obtain ⟨b0, k, cs⟩ := r
  obtain ⟨hF, h⟩ := h
  cases b0 with
  | false =>
    obtain ⟨h1, h2⟩ := h
    exact ⟨fun _ => H J ⟨hF, h1, h2⟩, fun u => absurd (by rw [h2]; omega) u⟩
  | true =>
    obtain ⟨h1, h2, h3, h4, h5, h6⟩ := h
    have hk := hk k cs rfl
    have hlt : k < m := by
      rcases Nat.lt_or_ge k m with q | q
      · exact q
      · exact absurd (by rw [show k = m by omega]; exact hL.2.2.1) hk
    have hm := hL.2.1
    have e5 : J 62 5 = ((m + 1 : Nat) : Int) := by rw [hF.2.1 5 (by decide) (by decide) (by decide)]; exact hL.1
    have e64 : z2 J 62 6 ((k + 1 : Nat) : Int) 64 (((k + 1 : Nat) : Int)).toNat = mkd b n (k + 1) := by
      rw [z2_n (Or.inl (by decide)), hF.1 64 (by decide) (by omega) (by omega)]
      exact (hL.2.2.2.2 (k + 1) (by omega)).1
    refine ⟨fun u => absurd h3 u, fun _ => ?_⟩
    rw [h1, z1p k (by omega), e5]
    refine ⟨fun _ => ⟨by omega, ?_⟩, fun u => absurd (by omega) u⟩
    rw [e64]
    refine H _ ⟨⟨fun y q1 q2 q3 => by rw [z2_r q1, z2_r q1]; exact hF.1 y q1 q2 q3, fun j q1 q2 q3 => by rw [z2_n (Or.inr q2), z2_n (Or.inr q1)]; exact hF.2.1 j q1 q2 q3, ?_⟩, ?_, z2_s, ?_, ?_, ?_, hlt⟩
    · rw [z2_n (Or.inl (by omega)), z2_n (Or.inl (by omega))]; exact hF.2.2
    · rw [z2_n (Or.inr (by decide)), z2_s]
    · rw [z2_n (Or.inr (by decide)), z2_n (Or.inr (by decide))]; exact h3
    · rw [z2_n (Or.inl (by omega)), z2_n (Or.inl (by omega))]; exact h4
    · rw [z2_r (show 45 + 3 * t ≠ 62 by omega), z2_r (show 45 + 3 * t ≠ 62 by omega)]; exact h5
theorem p48 (hL : mLx I b n m) (ht : t < 6) {e : Nat} (he : 1 ≤ e) {r : mP} {J : zI} {g : Nat} (h : mpP I b n m t L r J) (H : ∀ J1, mpP I b n m t L (mbind r mfa) J1 → Q none (c, J1, zRg g)) : zcl e 48 0 0 [zr 62] (c, J, zRg g) Q := by
  obtain ⟨d, rfl⟩ : ∃ d, e = d + 1 := ⟨e - 1, by omega⟩
  refine zen rfl rfl (fun B Q1 hQ => g_x7_fail_0 ?_)
  have H := fun J1 h1 => hQ _ _ _ (H J1 h1)
  obtain ⟨b0, k, cs⟩ := r
  obtain ⟨hF, h⟩ := h
  cases b0 with
  | false =>
    obtain ⟨h1, h2⟩ := h
    refine ⟨fun _ => H _ ⟨⟨fun y q1 q2 q3 => by rw [z2_r q1]; exact hF.1 y q1 q2 q3, fun j q1 q2 q3 => by rw [z2_n (Or.inr q2)]; exact hF.2.1 j q1 q2 q3, ?_⟩, z2_s, ?_⟩, fun u => absurd (by rw [h2]; omega) u⟩
    · rw [z2_n (Or.inl (by omega))]; exact hF.2.2
    · rw [z2_n (Or.inr (by decide))]; exact h2
  | true =>
    obtain ⟨h1, h2, h3, h4, h5, h6⟩ := h
    have hm := hL.2.1
    have e66 : J 66 ((k : Int)).toNat = (mpl b n k : Nat) := by
      rw [hF.1 66 (by decide) (by omega) (by omega)]
      exact (hL.2.2.2.2 k h6).2.2
    refine ⟨fun u => absurd h3 u, fun _ => ?_⟩
    rw [h1, e66]
    refine ⟨by omega, H _ ⟨⟨fun y q1 q2 q3 => by rw [z2_r q1, z2_r q1]; exact hF.1 y q1 q2 q3, fun j q1 q2 q3 => by rw [z2_n (Or.inr q2), z2_n (Or.inr q3)]; exact hF.2.1 j q1 q2 q3, ?_⟩, z2_s, ?_⟩⟩
    · rw [z2_n (Or.inl (by omega)), z2_n (Or.inl (by omega))]; exact hF.2.2
    · rw [z2_n (Or.inr (by decide)), z2_s]
theorem p47 (hL : mLx I b n m) (ht : t < 6) {e : Nat} (he : 2 ≤ e) {r : mP} {J : zI} {g : Nat} {x : Int} (hx : x ≠ -1) (hx2 : x ≠ -2) (h : mpP I b n m t L r J) (H : ∀ J1, mpP I b n m t L (mbind r (mex (mkd b n) x)) J1 → Q none (c, J1, zRg g)) : zcl e 47 0 0 [zr 62, zi x] (c, J, zRg g) Q := by
  obtain ⟨d, rfl⟩ : ∃ d, e = d + 1 := ⟨e - 1, by omega⟩
  refine zen rfl rfl (fun B Q1 hQ => g_x7_expect_0 ?_)
  have H := fun J1 h1 => hQ _ _ _ (H J1 h1)
  obtain ⟨b0, k, cs⟩ := r
  cases b0 with
  | false => exact ⟨fun _ => p48 hL ht (by omega) h (fun J1 h1 => g_x7_expect_19 (H J1 h1)), fun u => absurd (by rw [h.2.1]; exact fun q => hx2 q.symm) u⟩
  | true =>
    have e7 : J 62 7 = mkd b n k := h.2.2.1
    have em : mbind (true, k, cs) (mex (mkd b n) x) = if mkd b n k = x then (true, k + 1, cs) else (false, k, cs) := rfl
    rw [em] at H
    refine ⟨fun u => p48 hL ht (by omega) h (fun J1 h1 => g_x7_expect_19 (H J1 ?_)), fun u => ?_⟩
    · rw [if_neg (by rw [← e7]; exact u)]
      exact h1
    · have u : mkd b n k = x := by rw [← e7]; exact Decidable.not_not.mp u
      refine p49 hL ht (by omega) h (fun k1 c1 q => by cases q; rw [u]; exact hx) (fun J1 h1 => g_x7_expect_12 (g_x7_expect_19 (H J1 ?_)))
      rw [if_pos u]
      exact h1
theorem p47e (hL : mLx I b n m) (ht : t < 6) {e : Nat} (he : 2 ≤ e) {r : mP} {J : zI} {g : Nat} (h : mpP I b n m t L r J) (H : ∀ J1, mpP I b n m t L (mbind r (fun k cs => if mkd b n k = -1 then (true, k, cs) else (false, k, cs))) J1 → Q none (c, J1, zRg g)) : zcl e 47 0 0 [zr 62, zi (-1)] (c, J, zRg g) Q := by
  obtain ⟨d, rfl⟩ : ∃ d, e = d + 1 + 1 := ⟨e - 2, by omega⟩
  refine zen rfl rfl (fun B Q1 hQ => g_x7_expect_0 ?_)
  have H := fun J1 h1 => hQ _ _ _ (H J1 h1)
  obtain ⟨b0, k, cs⟩ := r
  cases b0 with
  | false => exact ⟨fun _ => p48 hL ht (by omega) h (fun J1 h1 => g_x7_expect_19 (H J1 h1)), fun u => absurd (by rw [h.2.1]; decide) u⟩
  | true =>
    have e7 : J 62 7 = mkd b n k := h.2.2.1
    have em : mbind (true, k, cs) (fun k cs => if mkd b n k = -1 then (true, k, cs) else (false, k, cs)) = if mkd b n k = -1 then (true, k, cs) else (false, k, cs) := rfl
    rw [em] at H
    refine ⟨fun u => p48 hL ht (by omega) h (fun J1 h1 => g_x7_expect_19 (H J1 ?_)), fun u => ?_⟩
    · rw [if_neg (by rw [← e7]; exact u)]
      exact h1
    · have u : mkd b n k = -1 := by rw [← e7]; exact Decidable.not_not.mp u
      rw [if_pos u] at H
      have hkm : k = m := by
        rcases Nat.lt_or_ge k m with q | q
        · exact absurd u (hL.2.2.2.1 k q)
        · have := h.2.2.2.2.2.2
          omega
      have hm := hL.2.1
      have e6 : J 62 6 = (k : Int) := h.2.1
      have e5 : J 62 5 = ((m + 1 : Nat) : Int) := by rw [h.1.2.1 5 (by decide) (by decide) (by decide)]; exact hL.1
      refine zen rfl rfl (fun B2 Q2 hQ2 => g_x7_advance_0 ⟨fun q => absurd h.2.2.2.1 q, fun _ => ?_⟩)
      rw [e6, e5, z1p k (by omega)]
      exact ⟨fun q => absurd q (by omega), fun _ => hQ2 _ _ _ (g_x7_expect_12 (g_x7_expect_19 (H J h)))⟩
theorem p71 (ht : t < 6) {e : Nat} (he : 1 ≤ e) {r : mP} {J : zI} {x : Int} (h : mpP I b n m t L r J) (hs : ∀ k cs, r = (true, k, cs) → L.length + cs.length < 160) (H : ∀ J1, mpP I b n m t L (mbind r (mad x)) J1 → Q none (c, J1, zRg (44 + 3 * t))) : zcl e 71 0 0 [zr (44 + 3 * t), zi x] (c, J, zRg (44 + 3 * t)) Q := by
  obtain ⟨d, rfl⟩ : ∃ d, e = d + 1 := ⟨e - 1, by omega⟩
  obtain ⟨h10, h45, -⟩ := mT_0 ht
  refine zen rfl rfl (fun B Q1 hQ => g_x10_add_0 (y1 := 45 + 3 * t) ⟨h10, ?_⟩)
  have H := fun J1 h1 => hQ _ _ _ (H J1 h1)
  obtain ⟨b0, k, cs⟩ := r
  obtain ⟨hF, h⟩ := h
  have hz := hF.2.2
  have key : J (44 + 3 * t) 2 < 160 → (∀ J1, J1 = z2 (z2 J (45 + 3 * t) (J (44 + 3 * t) 2).toNat x) (44 + 3 * t) 2 (J (44 + 3 * t) 2 + 1) → Q1 none (c, J1, zRg (44 + 3 * t))) → ((zSh (44 + 3 * t)).1 = 10) ∧ ((zRg (44 + 3 * t) (44 + 3 * t) 0 = some (45 + 3 * t)) ∧ (((zSh (44 + 3 * t)).1 = 10) ∧ (((zSh (45 + 3 * t)).1 = 100) ∧ ((0 ≤ J (44 + 3 * t) 2 ∧ J (44 + 3 * t) 2 < ((zSh (45 + 3 * t)).2 : Nat)) ∧ (((zSh (44 + 3 * t)).1 = 10) ∧ (((zSh (44 + 3 * t)).1 = 10) ∧ (Q1 none (c, (z2 (z2 J (45 + 3 * t) (J (44 + 3 * t) 2).toNat x) (44 + 3 * t) 2 (zwr (((z2 J (45 + 3 * t) (J (44 + 3 * t) 2).toNat x) (44 + 3 * t) 2) + 1))), zRg (44 + 3 * t))))))))) := by
    intro q Hq
    refine ⟨h10, (mX_t ht).2.1, h10, by rw [h45], by rw [h45]; exact ⟨hz.1, q⟩, h10, h10, Hq _ ?_⟩
    rw [z2_n (Or.inl (by omega)), zwr_eq (show zIn (J (44 + 3 * t) 2 + 1) by omega)]
  have fr : ∀ J1, J1 = z2 (z2 J (45 + 3 * t) (J (44 + 3 * t) 2).toNat x) (44 + 3 * t) 2 (J (44 + 3 * t) 2 + 1) → J (44 + 3 * t) 2 < 160 → mpF I J1 t ∧ (∀ j, J1 62 j = J 62 j) := by
    intro J1 e q
    subst e
    refine ⟨⟨fun y q1 q2 q3 => by rw [z2_r q2, z2_r q3]; exact hF.1 y q1 q2 q3, fun j q1 q2 q3 => by rw [z2_n (Or.inl (by omega)), z2_n (Or.inl (by omega))]; exact hF.2.1 j q1 q2 q3, ?_⟩, fun j => by rw [z2_n (Or.inl (by omega)), z2_n (Or.inl (by omega))]⟩
    rw [z2_s]
    omega
  cases b0 with
  | false =>
    obtain ⟨h1, h2⟩ := h
    refine ⟨fun _ => H J ⟨hF, h1, h2⟩, fun u => key (by omega) (fun J1 e => ?_)⟩
    obtain ⟨f1, f2⟩ := fr J1 e (by omega)
    exact H J1 ⟨f1, by rw [f2]; exact h1, by rw [f2]; exact h2⟩
  | true =>
    obtain ⟨h1, h2, h3, h4, h5, h6⟩ := h
    have hs := hs k cs rfl
    have hll : (L ++ cs).length = L.length + cs.length := List.length_append
    refine ⟨fun u => absurd u (by omega), fun u => key (by omega) (fun J1 e => ?_)⟩
    obtain ⟨f1, f2⟩ := fr J1 e (by omega)
    refine H J1 ⟨f1, by rw [f2]; exact h1, by rw [f2]; exact h2, by rw [f2]; exact h3, ?_, ?_, h6⟩
    · have e2 : (L ++ (cs ++ [x])).length = (L ++ cs).length + 1 := by
        rw [← List.append_assoc, List.length_append (as := L ++ cs) (bs := [x])]
        rfl
      rw [e, z2_s, h4, e2]
      omega
    · intro i hi
      rw [← List.append_assoc] at hi ⊢
      rw [List.length_append] at hi
      simp only [List.length_cons, List.length_nil] at hi
      rw [e, z2_n (Or.inl (by omega)), h4, Int.toNat_natCast]
      by_cases q : i = (L ++ cs).length
      · rw [q, z2_s]
        exact (zgt_app _ _).symm
      · rw [z2_n (Or.inr q), zgt_al _ _ _ (by omega)]
        exact h5 i (by omega)
theorem mqs_160 (hL : mLx I b n m) {r : mP} {J : zI} (h : mpP I b n m t L r J) (hs : mqs L 1 r) : ∀ k cs, r = (true, k, cs) → L.length + cs.length < 160 := by
  intro k cs q
  have h1 := hs k cs q
  rw [q] at h
  have h2 := h.2.2.2.2.2.2
  have h3 := hL.2.1
  omega
theorem p46 (hL : mLx I b n m) (ht : t < 6) {e : Nat} (he : 2 ≤ e) {r : mP} {J : zI} {g : Nat} {x : Int} (h : mpP I b n m t L r J) (hk : ∀ k cs, r = (true, k, cs) → mkd b n k ≠ -1) (H0 : ¬ x < 5 → ∀ J1, mpP I b n m t L (mbind r mfa) J1 → Q (some (zi 0)) (c, J1, zRg g)) (H1 : x < 5 → ∀ J1, mpP I b n m t L (mbind r mav) J1 → Q (some (zi 1)) (c, J1, zRg g)) : zcl e 46 0 0 [zr 62, zi x] (c, J, zRg g) Q := by
  obtain ⟨d, rfl⟩ : ∃ d, e = d + 1 := ⟨e - 1, by omega⟩
  exact zen rfl rfl (fun B Q1 hQ => g_x7_opens_0 ⟨fun u => p49 hL ht (by omega) h hk (fun J1 h1 => g_x7_opens_15 (hQ _ _ _ (H1 u J1 h1))), fun u => p48 hL ht (by omega) h (fun J1 h1 => g_x7_opens_9 (hQ _ _ _ (H0 u J1 h1)))⟩)
end
/-- a method that goes on with f -/
def mCt (I : zI) (b : Nat → Int) (n m t : Nat) (L : List Int) (D X : Nat) (as : List zV) (f : mF) : Prop := ∀ (e : Nat) (c : Nat × Nat × Nat) (J : zI) (r : mP) (Q : zQ), D ≤ e → mpP I b n m t L r J → mqs L 0 r → (∀ J1, mpP I b n m t L (mbind r f) J1 → Q none (c, J1, zRg (44 + 3 * t))) → zcl e X 0 0 as (c, J, zRg (44 + 3 * t)) Q
section
variable {I : zI} {b : Nat → Int} {n m t : Nat} {L : List Int}
theorem p44 (hL : mLx I b n m) (ht : t < 6) {D : Nat} (hD : 1 ≤ D) {x : Int} {one : mF} (hg : mgl one) (h1 : mCt I b n m t L D 45 [zr 62, zi x] one) : mCt I b n m t L (D + 1) 44 [zr 62, zi x] (fun k cs => mbind (one k cs) (mloop (mkd b n) (mop1 42 (-27)) one 160)) := by
  intro e c J r Q he hP hs H
  obtain ⟨d, rfl⟩ : ∃ d, e = d + 1 := ⟨e - 1, by omega⟩
  refine zen rfl rfl (fun B Q1 hQ => g_x7_readTerm_0 ?_)
  have H := fun J1 h1 => hQ _ _ _ (H J1 h1)
  have loop : ∀ (a i : Nat) (r1 : mP) (J : zI), i + a = 160 → mpP I b n m t L r1 J → mqs L 0 r1 → (∀ J1, mpP I b n m t L (mbind r1 (mloop (mkd b n) (mop1 42 (-27)) one a)) J1 → Q1 none (c, J1, zRg (44 + 3 * t))) → zRn (zcl d) 44 B Q1 7 [some (zr 62), some (zi x), some (zi (i : Nat))] [] (c, J, zRg (44 + 3 * t)) := by
    intro a
    induction a with
    | zero =>
      intro i r1 J hi hP hs H
      refine g_x7_readTerm_7 ⟨fun _ => H J ?_, fun u => absurd (by omega) u⟩
      rw [show mbind r1 (mloop (mkd b n) (mop1 42 (-27)) one 0) = r1 from mbind_id r1]
      exact hP
    | succ a ih =>
      intro i r1 J hi hP hs H
      obtain ⟨b0, k, cs⟩ := r1
      refine g_x7_readTerm_7 ⟨fun u => absurd u (by omega), fun _ => ⟨fun u => H J ?_, fun u => ?_⟩⟩
      · cases b0 with
        | false => exact hP
        | true =>
          have e7 : J 62 7 = mkd b n k := hP.2.2.1
          have e8 : mop1 42 (-27) (mkd b n k) = none := by unfold mop1; rw [if_neg (by rw [← e7]; exact u)]
          have e9 : mbind (true, k, cs) (mloop (mkd b n) (mop1 42 (-27)) one (a + 1)) = (true, k, cs) := by
            show mloop (mkd b n) (mop1 42 (-27)) one (a + 1) k cs = _
            unfold mloop
            rw [e8]
          rw [e9]
          exact hP
      · have u := Decidable.not_not.mp u
        cases b0 with
        | false => exact absurd (hP.2.1.symm.trans u) (by decide)
        | true =>
          have e7 : mkd b n k = 42 := hP.2.2.1.symm.trans u
          have e8 : mop1 42 (-27) (mkd b n k) = some (-27) := by unfold mop1; rw [if_pos e7]
          have e9 : mbind (true, k, cs) (mloop (mkd b n) (mop1 42 (-27)) one (a + 1)) = mbind (mbind (mbind (mbind (true, k, cs) mav) one) (mad (-27))) (mloop (mkd b n) (mop1 42 (-27)) one a) := by
            rw [mbind_as (mbind (mbind (true, k, cs) mav) one)]
            show mloop (mkd b n) (mop1 42 (-27)) one (a + 1) k cs = _
            conv => lhs; unfold mloop
            rw [e8]
            rfl
          rw [e9] at H
          refine p49 hL ht (by omega) hP (fun k1 c1 q => by cases q; rw [e7]; decide) (fun J2 h2 => g_x7_readTerm_27 ?_)
          have hs2 := mqs_av hs
          refine h1 d c J2 _ _ (by omega) h2 (mqs_dn hs2) (fun J3 h3 => g_x7_readTerm_32 ⟨by rw [(mT_0 ht).1]; rfl, ?_⟩)
          have hs3 := mqs_bind hg hs2
          refine p71 ht (by omega) h3 (mqs_160 hL h3 hs3) (fun J4 h4 => g_x7_readTerm_41 ?_)
          rw [z1p i (by omega)]
          exact ih (i + 1) _ J4 (by omega) h4 (mqs_ad hs3) H
  refine h1 d c J r _ (by omega) hP hs (fun J1 hP1 => g_x7_readTerm_5 ?_)
  refine loop 160 0 _ J1 (by omega) hP1 (mqs_bind hg hs) (fun J2 h2 => H J2 ?_)
  rw [mbind_as] at h2
  exact h2
theorem p43 (hL : mLx I b n m) (ht : t < 6) {D : Nat} (hD : 1 ≤ D) {x : Int} {one : mF} (hg : mgl one) (h1 : mCt I b n m t L D 44 [zr 62, zi x] one) : mCt I b n m t L (D + 1) 43 [zr 62, zi x] (fun k cs => mbind (one k cs) (mloop (mkd b n) mop2 one 160)) := by
  intro e c J r Q he hP hs H
  obtain ⟨d, rfl⟩ : ∃ d, e = d + 1 := ⟨e - 1, by omega⟩
  refine zen rfl rfl (fun B Q1 hQ => g_x7_readSum_0 ?_)
  have H := fun J1 h1 => hQ _ _ _ (H J1 h1)
  have loop : ∀ (a i : Nat) (r1 : mP) (J : zI) (o : Option zV), i + a = 160 → mpP I b n m t L r1 J → mqs L 0 r1 → (∀ J1, mpP I b n m t L (mbind r1 (mloop (mkd b n) mop2 one a)) J1 → Q1 none (c, J1, zRg (44 + 3 * t))) → zRn (zcl d) 43 B Q1 7 [some (zr 62), some (zi x), some (zi (i : Nat)), o] [] (c, J, zRg (44 + 3 * t)) := by
    intro a
    induction a with
    | zero =>
      intro i r1 J o hi hP hs H
      refine g_x7_readSum_7 ⟨fun _ => H J ?_, fun u => absurd (by omega) u⟩
      rw [show mbind r1 (mloop (mkd b n) mop2 one 0) = r1 from mbind_id r1]
      exact hP
    | succ a ih =>
      intro i r1 J o hi hP hs H
      obtain ⟨b0, k, cs⟩ := r1
      have go : ∀ C : Int, C = -25 ∨ C = -26 → (∃ z : Int, J 62 7 = z ∧ z ≠ -2 ∧ z ≠ -1 ∧ mop2 z = some C) → zcl d 49 0 0 [zr 62] (c, J, zRg (44 + 3 * t)) (fun v h1 => zRn (zcl d) 43 B Q1 53 [some (zr 62), some (zi x), some (zi (i : Nat)), some (zi C)] (zva v []) h1) := by
        intro C hC hz
        obtain ⟨z, z1, z2, z3, z4⟩ := hz
        cases b0 with
        | false => exact absurd (z1.symm.trans hP.2.1) z2
        | true =>
          have e7 : mkd b n k = z := hP.2.2.1.symm.trans z1
          have e8 : mop2 (mkd b n k) = some C := by rw [e7]; exact z4
          have e9 : mbind (true, k, cs) (mloop (mkd b n) mop2 one (a + 1)) = mbind (mbind (mbind (mbind (true, k, cs) mav) one) (mad C)) (mloop (mkd b n) mop2 one a) := by
            rw [mbind_as (mbind (mbind (true, k, cs) mav) one)]
            show mloop (mkd b n) mop2 one (a + 1) k cs = _
            conv => lhs; unfold mloop
            rw [e8]
            rfl
          rw [e9] at H
          refine p49 hL ht (by omega) hP (fun k1 c1 q => by cases q; rw [e7]; exact z3) (fun J2 h2 => g_x7_readSum_53 ?_)
          have hs2 := mqs_av hs
          refine h1 d c J2 _ _ (by omega) h2 (mqs_dn hs2) (fun J3 h3 => g_x7_readSum_58 ⟨by rw [(mT_0 ht).1]; rfl, ?_⟩)
          have hs3 := mqs_bind hg hs2
          refine p71 ht (by omega) h3 (mqs_160 hL h3 hs3) (fun J4 h4 => g_x7_readSum_66 ?_)
          rw [z1p i (by omega)]
          exact ih (i + 1) _ J4 _ (by omega) h4 (mqs_ad hs3) H
      refine g_x7_readSum_7 ⟨fun u => absurd u (by omega), fun _ => ⟨fun u => ⟨fun v => absurd u v, fun _ => go (-25) (Or.inl rfl) ⟨43, u, by decide, by decide, rfl⟩⟩, fun u => ⟨fun v => H J ?_, fun v => ⟨fun _ => go (-26) (Or.inr rfl) ⟨45, Decidable.not_not.mp v, by decide, by decide, rfl⟩, fun w => absurd (Decidable.not_not.mp w) u⟩⟩⟩⟩
      cases b0 with
      | false => exact hP
      | true =>
        have e7 : J 62 7 = mkd b n k := hP.2.2.1
        have e8 : mop2 (mkd b n k) = none := by unfold mop2; rw [if_neg (by rw [← e7]; exact u), if_neg (by rw [← e7]; exact v)]
        have e9 : mbind (true, k, cs) (mloop (mkd b n) mop2 one (a + 1)) = (true, k, cs) := by
          show mloop (mkd b n) mop2 one (a + 1) k cs = _
          unfold mloop
          rw [e8]
        rw [e9]
        exact hP
  refine h1 d c J r _ (by omega) hP hs (fun J1 hP1 => g_x7_readSum_5 ?_)
  refine loop 160 0 _ J1 _ (by omega) hP1 (mqs_bind hg hs) (fun J2 h2 => H J2 ?_)
  rw [mbind_as] at h2
  exact h2
theorem p41 (hL : mLx I b n m) (ht : t < 6) {D : Nat} (hD : 1 ≤ D) {x : Int} {one : mF} (hg : mgl one) (h1 : mCt I b n m t L D 42 [zr 62, zi x] one) : mCt I b n m t L (D + 1) 41 [zr 62, zi x] (fun k cs => mbind (one k cs) (mloop (mkd b n) (mop1 (-9) (-22)) one 160)) := by
  intro e c J r Q he hP hs H
  obtain ⟨d, rfl⟩ : ∃ d, e = d + 1 := ⟨e - 1, by omega⟩
  refine zen rfl rfl (fun B Q1 hQ => g_x7_readAnds_0 ?_)
  have H := fun J1 h1 => hQ _ _ _ (H J1 h1)
  have loop : ∀ (a i : Nat) (r1 : mP) (J : zI), i + a = 160 → mpP I b n m t L r1 J → mqs L 0 r1 → (∀ J1, mpP I b n m t L (mbind r1 (mloop (mkd b n) (mop1 (-9) (-22)) one a)) J1 → Q1 none (c, J1, zRg (44 + 3 * t))) → zRn (zcl d) 41 B Q1 7 [some (zr 62), some (zi x), some (zi (i : Nat))] [] (c, J, zRg (44 + 3 * t)) := by
    intro a
    induction a with
    | zero =>
      intro i r1 J hi hP hs H
      refine g_x7_readAnds_7 ⟨fun _ => H J ?_, fun u => absurd (by omega) u⟩
      rw [show mbind r1 (mloop (mkd b n) (mop1 (-9) (-22)) one 0) = r1 from mbind_id r1]
      exact hP
    | succ a ih =>
      intro i r1 J hi hP hs H
      obtain ⟨b0, k, cs⟩ := r1
      refine g_x7_readAnds_7 ⟨fun u => absurd u (by omega), fun _ => ⟨fun u => H J ?_, fun u => ?_⟩⟩
      · cases b0 with
        | false => exact hP
        | true =>
          have e7 : J 62 7 = mkd b n k := hP.2.2.1
          have e8 : mop1 (-9) (-22) (mkd b n k) = none := by unfold mop1; rw [if_neg (by rw [← e7]; exact u)]
          have e9 : mbind (true, k, cs) (mloop (mkd b n) (mop1 (-9) (-22)) one (a + 1)) = (true, k, cs) := by
            show mloop (mkd b n) (mop1 (-9) (-22)) one (a + 1) k cs = _
            unfold mloop
            rw [e8]
          rw [e9]
          exact hP
      · have u := Decidable.not_not.mp u
        cases b0 with
        | false => exact absurd (hP.2.1.symm.trans u) (by decide)
        | true =>
          have e7 : mkd b n k = (-9) := hP.2.2.1.symm.trans u
          have e8 : mop1 (-9) (-22) (mkd b n k) = some (-22) := by unfold mop1; rw [if_pos e7]
          have e9 : mbind (true, k, cs) (mloop (mkd b n) (mop1 (-9) (-22)) one (a + 1)) = mbind (mbind (mbind (mbind (true, k, cs) mav) one) (mad (-22))) (mloop (mkd b n) (mop1 (-9) (-22)) one a) := by
            rw [mbind_as (mbind (mbind (true, k, cs) mav) one)]
            show mloop (mkd b n) (mop1 (-9) (-22)) one (a + 1) k cs = _
            conv => lhs; unfold mloop
            rw [e8]
            rfl
          rw [e9] at H
          refine p49 hL ht (by omega) hP (fun k1 c1 q => by cases q; rw [e7]; decide) (fun J2 h2 => g_x7_readAnds_27 ?_)
          have hs2 := mqs_av hs
          refine h1 d c J2 _ _ (by omega) h2 (mqs_dn hs2) (fun J3 h3 => g_x7_readAnds_32 ⟨by rw [(mT_0 ht).1]; rfl, ?_⟩)
          have hs3 := mqs_bind hg hs2
          refine p71 ht (by omega) h3 (mqs_160 hL h3 hs3) (fun J4 h4 => g_x7_readAnds_41 ?_)
          rw [z1p i (by omega)]
          exact ih (i + 1) _ J4 (by omega) h4 (mqs_ad hs3) H
  refine h1 d c J r _ (by omega) hP hs (fun J1 hP1 => g_x7_readAnds_5 ?_)
  refine loop 160 0 _ J1 (by omega) hP1 (mqs_bind hg hs) (fun J2 h2 => H J2 ?_)
  rw [mbind_as] at h2
  exact h2
theorem p40 (hL : mLx I b n m) (ht : t < 6) {D : Nat} (hD : 1 ≤ D) {x : Int} {one : mF} (hg : mgl one) (h1 : mCt I b n m t L D 41 [zr 62, zi x] one) : mCt I b n m t L (D + 1) 40 [zr 62, zi x] (fun k cs => mbind (one k cs) (mloop (mkd b n) (mop1 (-8) (-21)) one 160)) := by
  intro e c J r Q he hP hs H
  obtain ⟨d, rfl⟩ : ∃ d, e = d + 1 := ⟨e - 1, by omega⟩
  refine zen rfl rfl (fun B Q1 hQ => g_x7_readOrs_0 ?_)
  have H := fun J1 h1 => hQ _ _ _ (H J1 h1)
  have loop : ∀ (a i : Nat) (r1 : mP) (J : zI), i + a = 160 → mpP I b n m t L r1 J → mqs L 0 r1 → (∀ J1, mpP I b n m t L (mbind r1 (mloop (mkd b n) (mop1 (-8) (-21)) one a)) J1 → Q1 none (c, J1, zRg (44 + 3 * t))) → zRn (zcl d) 40 B Q1 7 [some (zr 62), some (zi x), some (zi (i : Nat))] [] (c, J, zRg (44 + 3 * t)) := by
    intro a
    induction a with
    | zero =>
      intro i r1 J hi hP hs H
      refine g_x7_readOrs_7 ⟨fun _ => H J ?_, fun u => absurd (by omega) u⟩
      rw [show mbind r1 (mloop (mkd b n) (mop1 (-8) (-21)) one 0) = r1 from mbind_id r1]
      exact hP
    | succ a ih =>
      intro i r1 J hi hP hs H
      obtain ⟨b0, k, cs⟩ := r1
      refine g_x7_readOrs_7 ⟨fun u => absurd u (by omega), fun _ => ⟨fun u => H J ?_, fun u => ?_⟩⟩
      · cases b0 with
        | false => exact hP
        | true =>
          have e7 : J 62 7 = mkd b n k := hP.2.2.1
          have e8 : mop1 (-8) (-21) (mkd b n k) = none := by unfold mop1; rw [if_neg (by rw [← e7]; exact u)]
          have e9 : mbind (true, k, cs) (mloop (mkd b n) (mop1 (-8) (-21)) one (a + 1)) = (true, k, cs) := by
            show mloop (mkd b n) (mop1 (-8) (-21)) one (a + 1) k cs = _
            unfold mloop
            rw [e8]
          rw [e9]
          exact hP
      · have u := Decidable.not_not.mp u
        cases b0 with
        | false => exact absurd (hP.2.1.symm.trans u) (by decide)
        | true =>
          have e7 : mkd b n k = (-8) := hP.2.2.1.symm.trans u
          have e8 : mop1 (-8) (-21) (mkd b n k) = some (-21) := by unfold mop1; rw [if_pos e7]
          have e9 : mbind (true, k, cs) (mloop (mkd b n) (mop1 (-8) (-21)) one (a + 1)) = mbind (mbind (mbind (mbind (true, k, cs) mav) one) (mad (-21))) (mloop (mkd b n) (mop1 (-8) (-21)) one a) := by
            rw [mbind_as (mbind (mbind (true, k, cs) mav) one)]
            show mloop (mkd b n) (mop1 (-8) (-21)) one (a + 1) k cs = _
            conv => lhs; unfold mloop
            rw [e8]
            rfl
          rw [e9] at H
          refine p49 hL ht (by omega) hP (fun k1 c1 q => by cases q; rw [e7]; decide) (fun J2 h2 => g_x7_readOrs_27 ?_)
          have hs2 := mqs_av hs
          refine h1 d c J2 _ _ (by omega) h2 (mqs_dn hs2) (fun J3 h3 => g_x7_readOrs_32 ⟨by rw [(mT_0 ht).1]; rfl, ?_⟩)
          have hs3 := mqs_bind hg hs2
          refine p71 ht (by omega) h3 (mqs_160 hL h3 hs3) (fun J4 h4 => g_x7_readOrs_41 ?_)
          rw [z1p i (by omega)]
          exact ih (i + 1) _ J4 (by omega) h4 (mqs_ad hs3) H
  refine h1 d c J r _ (by omega) hP hs (fun J1 hP1 => g_x7_readOrs_5 ?_)
  refine loop 160 0 _ J1 (by omega) hP1 (mqs_bind hg hs) (fun J2 h2 => H J2 ?_)
  rw [mbind_as] at h2
  exact h2
def mcm (kd : Nat → Int) (sum : mF) : mF := fun k1 c1 => if kd k1 = 60 ∨ kd k1 = 61 then mbind (sum (k1 + 1) c1) (fun k2 c2 => (true, k2, c2 ++ [if kd k1 = 60 then -23 else -24])) else (true, k1, c1)
theorem p42 (hL : mLx I b n m) (ht : t < 6) {D : Nat} (hD : 2 ≤ D) {x : Int} (hx : 0 ≤ x ∧ x ≤ 5) {one nt : mF} (hg : mgl (msum (mkd b n) one)) (hg2 : mgl nt) (h1 : mCt I b n m t L D 43 [zr 62, zi x] (msum (mkd b n) one)) (hN : x < 5 → mCt I b n m t L D 42 [zr 62, zi (x + 1)] nt) (hN0 : ¬ x < 5 → ∀ k cs, nt (k + 1) cs = (false, k, cs)) : mCt I b n m t L (D + 1) 42 [zr 62, zi x] (mnot (mkd b n) one nt) := by
  intro e c J r Q he hP hs H
  obtain ⟨d, rfl⟩ : ∃ d, e = d + 1 := ⟨e - 1, by omega⟩
  refine zen rfl rfl (fun B Q1 hQ => g_x7_readNot_0 ?_)
  have H := fun J1 h1 => hQ _ _ _ (H J1 h1)
  have cmp : (∀ J1, mpP I b n m t L (mbind (mbind r (msum (mkd b n) one)) (mcm (mkd b n) (msum (mkd b n) one))) J1 → Q1 none (c, J1, zRg (44 + 3 * t))) → zcl d 43 0 0 [zr 62, zi x] (c, J, zRg (44 + 3 * t)) (fun v h1 => zRn (zcl d) 42 B Q1 40 [some (zr 62), some (zi x), none] (zva v []) h1) := by
    intro H
    refine h1 d c J r _ (by omega) hP hs (fun J1 hP1 => ?_)
    have hs1 := mqs_bind hg hs
    generalize mbind r (msum (mkd b n) one) = r1 at H hP1 hs1
    obtain ⟨b0, k, cs⟩ := r1
    have go : ∀ C : Int, (∃ z : Int, J1 62 7 = z ∧ (z = 60 ∨ z = 61) ∧ (if z = 60 then (-23 : Int) else -24) = C) → zcl d 49 0 0 [zr 62] (c, J1, zRg (44 + 3 * t)) (fun v h1 => zRn (zcl d) 42 B Q1 79 [some (zr 62), some (zi x), some (zi C)] (zva v []) h1) := by
      intro C hz
      obtain ⟨z, z1, z2, z3⟩ := hz
      cases b0 with
      | false => exact absurd (z1.symm.trans hP1.2.1) (by omega)
      | true =>
        have e7 : mkd b n k = z := hP1.2.2.1.symm.trans z1
        have e9 : mbind (true, k, cs) (mcm (mkd b n) (msum (mkd b n) one)) = mbind (mbind (mbind (true, k, cs) mav) (msum (mkd b n) one)) (mad C) := by
          show mcm (mkd b n) (msum (mkd b n) one) k cs = _
          unfold mcm
          rw [if_pos (by rw [e7]; exact z2), e7, z3]
          rfl
        rw [e9] at H
        refine p49 hL ht (by omega) hP1 (fun k1 c1 q => by cases q; rw [e7]; omega) (fun J2 h2 => g_x7_readNot_79 ?_)
        have hs2 := mqs_av hs1
        refine h1 d c J2 _ _ (by omega) h2 (mqs_dn hs2) (fun J3 h3 => g_x7_readNot_84 ⟨by rw [(mT_0 ht).1]; rfl, ?_⟩)
        have hs3 := mqs_bind hg hs2
        exact p71 ht (by omega) h3 (mqs_160 hL h3 hs3) (fun J4 h4 => g_x7_readNot_92 (H J4 h4))
    refine g_x7_readNot_40 ⟨fun u => ⟨fun v => absurd u v, fun _ => go (-23) ⟨60, u, Or.inl rfl, rfl⟩⟩, fun u => ⟨fun v => g_x7_readNot_92 (H J1 ?_), fun v => ⟨fun _ => go (-24) ⟨61, Decidable.not_not.mp v, Or.inr rfl, rfl⟩, fun w => absurd (Decidable.not_not.mp w) u⟩⟩⟩
    cases b0 with
    | false => exact hP1
    | true =>
      have e7 : J1 62 7 = mkd b n k := hP1.2.2.1
      have e9 : mbind (true, k, cs) (mcm (mkd b n) (msum (mkd b n) one)) = (true, k, cs) := by
        show mcm (mkd b n) (msum (mkd b n) one) k cs = _
        unfold mcm
        rw [if_neg (by rw [← e7]; exact fun q => q.elim u v)]
      rw [e9]
      exact hP1
  obtain ⟨b0, k, cs⟩ := r
  cases b0 with
  | false => exact ⟨fun _ => cmp H, fun u => absurd (by rw [hP.2.1]; decide) u⟩
  | true =>
    have e7 : J 62 7 = mkd b n k := hP.2.2.1
    refine ⟨fun u => cmp (fun J1 h1 => H J1 ?_), fun u => ?_⟩
    · have e9 : mbind (true, k, cs) (mnot (mkd b n) one nt) = mbind (mbind (true, k, cs) (msum (mkd b n) one)) (mcm (mkd b n) (msum (mkd b n) one)) := by
        show mnot (mkd b n) one nt k cs = _
        unfold mnot
        rw [if_neg (by rw [← e7]; exact u)]
        rfl
      rw [e9]
      exact h1
    · have u : mkd b n k = -10 := by rw [← e7]; exact Decidable.not_not.mp u
      have e9 : mbind (true, k, cs) (mnot (mkd b n) one nt) = mbind (nt (k + 1) cs) (mad (-11)) := by
        show mnot (mkd b n) one nt k cs = _
        unfold mnot
        rw [if_pos u]
        rfl
      rw [e9] at H
      refine p46 hL ht (by omega) hP (fun k1 c1 q => by cases q; rw [u]; decide) (fun hx5 J1 hJ1 => g_x7_readNot_14 ⟨fun w => absurd rfl w, fun _ => H J1 ?_⟩) (fun hx5 J1 hJ1 => g_x7_readNot_14 ⟨fun _ => ?_, fun w => absurd (by decide) w⟩)
      · rw [hN0 hx5]
        exact hJ1
      · rw [zwr_eq (show zIn (x + 1) by omega)]
        have hs2 := mqs_av hs
        refine hN hx5 d c J1 _ _ (by omega) hJ1 (mqs_dn hs2) (fun J3 h3 => g_x7_readNot_25 ⟨by rw [(mT_0 ht).1]; rfl, ?_⟩)
        have hs3 := mqs_bind hg2 hs2
        exact p71 ht (by omega) h3 (mqs_160 hL h3 hs3) (fun J4 h4 => g_x7_readNot_34 (H J4 h4))
theorem p45 (hL : mLx I b n m) (ht : t < 6) {D : Nat} (hD : 2 ≤ D) {x : Int} (hx : 0 ≤ x ∧ x ≤ 5) {one nt : mF} (hg : mgl one) (hg2 : mgl (mors (mkd b n) nt)) (h1 : x < 5 → mCt I b n m t L D 45 [zr 62, zi (x + 1)] one ∧ mCt I b n m t L D 40 [zr 62, zi (x + 1)] (mors (mkd b n) nt)) (h0 : ¬ x < 5 → (∀ k cs, one (k + 1) cs = (false, k, cs)) ∧ ∀ k cs, mors (mkd b n) nt (k + 1) cs = (false, k, cs)) : mCt I b n m t L (D + 1) 45 [zr 62, zi x] (mone (mkd b n) (mvl b n) one nt) := by
  intro e c J r Q he hP hs H
  obtain ⟨d, rfl⟩ : ∃ d, e = d + 1 := ⟨e - 1, by omega⟩
  refine zen rfl rfl (fun B Q1 hQ => g_x7_readOne_0 ?_)
  have H := fun J1 h1 => hQ _ _ _ (H J1 h1)
  have hm := hL.2.1
  obtain ⟨b0, k, cs⟩ := r
  cases b0 with
  | false =>
    have e7 : J 62 7 = -2 := hP.2.1
    refine ⟨fun u => absurd (e7.symm.trans u) (by decide), fun _ => ⟨fun _ => ⟨fun _ => ⟨fun _ => p48 hL ht (by omega) hP (fun J1 h1 => g_x7_readOne_116 (H J1 h1)), fun u => absurd (by rw [e7]; decide) u⟩, fun u => absurd (by rw [e7]; decide) u⟩, fun u => absurd (by rw [e7]; decide) u⟩⟩
  | true =>
    have e7 : J 62 7 = mkd b n k := hP.2.2.1
    have e6 : J 62 6 = (k : Int) := hP.2.1
    have hkm : k ≤ m := hP.2.2.2.2.2.2
    rw [e6, e7]
    have add : (mkd b n k = -3 ∨ mkd b n k = -4) → zcl d 71 0 0 [zr (44 + 3 * t), zi (J 65 ((k : Int)).toNat)] (c, J, zRg (44 + 3 * t)) (fun v h1 => zRn (zcl d) 45 B Q1 34 [some (zr 62), some (zi x)] (zva v []) h1) := by
      intro hk
      have hlt : k < m := by
        rcases Nat.lt_or_ge k m with q | q
        · exact q
        · have e1 := hL.2.2.1
          rw [show m = k by omega] at e1
          omega
      have e65 : J 65 ((k : Int)).toNat = mvl b n k := by
        rw [hP.1.1 65 (by decide) (by omega) (by omega)]
        exact (hL.2.2.2.2 k hkm).2.1 hk
      rw [e65]
      refine p71 ht (by omega) hP (fun k1 c1 q => ?_) (fun J1 h1 => g_x7_readOne_34 (p49 hL ht (by omega) h1 (fun k1 c1 q => ?_) (fun J2 h2 => g_x7_readOne_38 (g_x7_readOne_116 (H J2 ?_)))))
      · have := hs k1 c1 q
        cases q
        omega
      · cases q
        omega
      · have e9 : mbind (true, k, cs) (mone (mkd b n) (mvl b n) one nt) = (true, k + 1, cs ++ [mvl b n k]) := by
          show mone (mkd b n) (mvl b n) one nt k cs = _
          unfold mone
          rw [if_pos hk]
        rw [e9]
        exact h2
    refine ⟨fun u => ⟨by omega, by rw [(mT_0 ht).1]; rfl, add (Or.inl u)⟩, fun u => ⟨fun v => ⟨fun w => ⟨fun z => p48 hL ht (by omega) hP (fun J1 h1 => g_x7_readOne_116 (H J1 ?_)), fun z => ?_⟩, fun w => ?_⟩, fun v => ⟨by omega, by rw [(mT_0 ht).1]; rfl, add (Or.inr (Decidable.not_not.mp v))⟩⟩⟩
    · have e9 : mbind (true, k, cs) (mone (mkd b n) (mvl b n) one nt) = (false, k, cs) := by
        show mone (mkd b n) (mvl b n) one nt k cs = _
        unfold mone
        rw [if_neg (fun q => q.elim u v), if_neg w, if_neg z]
      rw [e9]
      exact h1
    · have z := Decidable.not_not.mp z
      have e9 : mbind (true, k, cs) (mone (mkd b n) (mvl b n) one nt) = mbind (mors (mkd b n) nt (k + 1) cs) (mex (mkd b n) 41) := by
        show mone (mkd b n) (mvl b n) one nt k cs = _
        unfold mone
        rw [if_neg (fun q => q.elim u v), if_neg w, if_pos z]
        rfl
      rw [e9] at H
      refine p46 hL ht (by omega) hP (fun k1 c1 q => by cases q; rw [z]; decide) (fun hx5 J1 hJ1 => g_x7_readOne_92 ⟨fun w => absurd rfl w, fun _ => H J1 ?_⟩) (fun hx5 J1 hJ1 => g_x7_readOne_92 ⟨fun _ => ?_, fun w => absurd (by decide) w⟩)
      · rw [(h0 hx5).2]
        exact hJ1
      · rw [zwr_eq (show zIn (x + 1) by omega)]
        refine (h1 hx5).2 d c J1 _ _ (by omega) hJ1 (mqs_dn (mqs_av hs)) (fun J3 h3 => g_x7_readOne_103 ?_)
        exact p47 hL ht (by omega) (by decide) (by decide) h3 (fun J4 h4 => g_x7_readOne_109 (g_x7_readOne_116 (H J4 h4)))
    · have w := Decidable.not_not.mp w
      have e9 : mbind (true, k, cs) (mone (mkd b n) (mvl b n) one nt) = mbind (one (k + 1) cs) (mad (-12)) := by
        show mone (mkd b n) (mvl b n) one nt k cs = _
        unfold mone
        rw [if_neg (fun q => q.elim u v), if_pos w]
        rfl
      rw [e9] at H
      refine p46 hL ht (by omega) hP (fun k1 c1 q => by cases q; rw [w]; decide) (fun hx5 J1 hJ1 => g_x7_readOne_55 ⟨fun w => absurd rfl w, fun _ => H J1 ?_⟩) (fun hx5 J1 hJ1 => g_x7_readOne_55 ⟨fun _ => ?_, fun w => absurd (by decide) w⟩)
      · rw [(h0 hx5).1]
        exact hJ1
      · rw [zwr_eq (show zIn (x + 1) by omega)]
        have hs2 := mqs_av hs
        refine (h1 hx5).1 d c J1 _ _ (by omega) hJ1 (mqs_dn hs2) (fun J3 h3 => g_x7_readOne_66 ⟨by rw [(mT_0 ht).1]; rfl, ?_⟩)
        have hs3 := mqs_bind hg hs2
        exact p71 ht (by omega) h3 (mqs_160 hL h3 hs3) (fun J4 h4 => g_x7_readOne_75 (g_x7_readOne_116 (H J4 h4)))
/-- how deep the calls go at most, where r may be begun still -/
theorem p_lev (hL : mLx I b n m) (ht : t < 6) : ∀ (r : Nat) (x : Int), r < 6 → x + r = 5 → mCt I b n m t L (6 * r + 3) 45 [zr 62, zi x] (mlev (mkd b n) (mvl b n) (r + 1)).1 ∧ mCt I b n m t L (6 * r + 6) 42 [zr 62, zi x] (mlev (mkd b n) (mvl b n) (r + 1)).2 ∧ mCt I b n m t L (6 * r + 8) 40 [zr 62, zi x] (mors (mkd b n) (mlev (mkd b n) (mvl b n) (r + 1)).2) := by
  have gl : ∀ r, mgl (mlev (mkd b n) (mvl b n) r).1 ∧ mgl (mlev (mkd b n) (mvl b n) r).2 ∧ mgl (mors (mkd b n) (mlev (mkd b n) (mvl b n) r).2) ∧ mgl (mands (mkd b n) (mlev (mkd b n) (mvl b n) r).2) ∧ mgl (mterm (mkd b n) (mlev (mkd b n) (mvl b n) r).1) ∧ mgl (msum (mkd b n) (mlev (mkd b n) (mvl b n) r).1) := by
    intro r
    have h := mgd_lev (kd := mkd b n) (vl := mvl b n) (nm := fun _ => 0) (mvl_6 (b := b) (n := n)) r
    exact ⟨fun k cs k1 c1 q => (h.1 k cs k1 c1 q).2.1, fun k cs k1 c1 q => (h.2 k cs k1 c1 q).2.1, fun k cs k1 c1 q => (mgd_ors h.2 k cs k1 c1 q).2.1, fun k cs k1 c1 q => (mgd_ands h.2 k cs k1 c1 q).2.1, fun k cs k1 c1 q => (mgd_term h.1 k cs k1 c1 q).2.1, fun k cs k1 c1 q => (mgd_sum h.1 k cs k1 c1 q).2.1⟩
  have up : ∀ {D D1 X : Nat} {as : List zV} {f : mF}, D ≤ D1 → mCt I b n m t L D X as f → mCt I b n m t L D1 X as f := fun h h1 e c J r Q he => h1 e c J r Q (by omega)
  intro r
  induction r with
  | zero =>
    intro x _ hx
    have o : mCt I b n m t L 3 45 [zr 62, zi x] (mlev (mkd b n) (mvl b n) 1).1 := p45 hL ht (D := 2) (by omega) (by omega) (gl 0).1 (gl 0).2.2.1 (fun q => absurd q (by omega)) (fun _ => ⟨fun _ _ => rfl, fun _ _ => rfl⟩)
    have s : mCt I b n m t L 5 43 [zr 62, zi x] (msum (mkd b n) (mlev (mkd b n) (mvl b n) 1).1) := p43 hL ht (D := 4) (by omega) (gl 1).2.2.2.2.1 (p44 hL ht (D := 3) (by omega) (gl 1).1 o)
    have w : mCt I b n m t L 6 42 [zr 62, zi x] (mlev (mkd b n) (mvl b n) 1).2 := p42 hL ht (D := 5) (by omega) (by omega) (gl 1).2.2.2.2.2 (gl 0).2.1 s (fun q => absurd q (by omega)) (fun _ _ _ => rfl)
    exact ⟨o, w, p40 hL ht (D := 7) (by omega) (gl 1).2.2.2.1 (p41 hL ht (D := 6) (by omega) (gl 1).2.1 w)⟩
  | succ r ih =>
    intro x hr hx
    obtain ⟨i1, i2, i3⟩ := ih (x + 1) (by omega) (by omega)
    have o : mCt I b n m t L (6 * (r + 1) + 3) 45 [zr 62, zi x] (mlev (mkd b n) (mvl b n) (r + 2)).1 := p45 hL ht (D := 6 * (r + 1) + 2) (by omega) (by omega) (gl (r + 1)).1 (gl (r + 1)).2.2.1 (fun _ => ⟨up (by omega) i1, up (by omega) i3⟩) (fun q => absurd (by omega) q)
    have s : mCt I b n m t L (6 * (r + 1) + 5) 43 [zr 62, zi x] (msum (mkd b n) (mlev (mkd b n) (mvl b n) (r + 2)).1) := p43 hL ht (D := 6 * (r + 1) + 4) (by omega) (gl (r + 2)).2.2.2.2.1 (p44 hL ht (D := 6 * (r + 1) + 3) (by omega) (gl (r + 2)).1 o)
    have w : mCt I b n m t L (6 * (r + 1) + 6) 42 [zr 62, zi x] (mlev (mkd b n) (mvl b n) (r + 2)).2 := p42 hL ht (D := 6 * (r + 1) + 5) (by omega) (by omega) (gl (r + 2)).2.2.2.2.2 (gl (r + 1)).2.1 s (fun _ => up (by omega) i2) (fun q => absurd (by omega) q)
    exact ⟨o, w, p40 hL ht (D := 6 * (r + 1) + 7) (by omega) (gl (r + 2)).2.2.2.1 (p41 hL ht (D := 6 * (r + 1) + 6) (by omega) (gl (r + 2)).2.1 w)⟩
theorem mgl_E : mgl (mE (mkd b n) (mvl b n)) := fun k cs k1 c1 q => (mgd_E (nm := fun _ => 0) (mvl_6 (b := b) (n := n)) k cs k1 c1 q).2.1
def mpt (b : Nat → Int) (n : Nat) (key : Int) : mF := fun k cs => mpart (mkd b n) (mvl b n) key k cs
theorem mpt_eq {key : Int} {r : mP} : mbind r (mpt b n key) = mbind (mbind (mbind r (mex (mkd b n) key)) (mE (mkd b n) (mvl b n))) (mex (mkd b n) 59) := by
  rw [mbind_as, mbind_as]
  rcases r with ⟨b0, k, cs⟩
  cases b0 with
  | false => rfl
  | true =>
    show mpart (mkd b n) (mvl b n) key k cs = mbind (mex (mkd b n) key k cs) _
    unfold mpart mex
    by_cases h : mkd b n k = key
    · rw [if_pos h, if_pos h]
      rfl
    · rw [if_neg h, if_neg h]
      rfl
theorem p39 (hL : mLx I b n m) (ht : t < 6) {key : Int} (h1 : key ≠ -1) (h2 : key ≠ -2) {q : Nat} (hq : q < 3) {e : Nat} (he : 40 ≤ e) {c : Nat × Nat × Nat} {Q : zQ} {r : mP} {J : zI} (hP : mpP I b n m t L r J) (hs : mqs L 0 r) (H : ∀ J0, mpP I b n m t L (mbind r (mpt b n key)) J0 → Q none (c, z2 J0 (46 + 3 * t) q (J0 (44 + 3 * t) 2), zRg (44 + 3 * t))) : zcl e 39 0 0 [zr 62, zi key, zi (q : Nat)] (c, J, zRg (44 + 3 * t)) Q := by
  obtain ⟨d, rfl⟩ : ∃ d, e = d + 1 := ⟨e - 1, by omega⟩
  obtain ⟨h10, h45, h46⟩ := mT_0 ht
  refine zen rfl rfl (fun B Q1 hQ => g_x7_readPart_0 (p47 hL ht (by omega) h1 h2 hP (fun J1 hJ1 => g_x7_readPart_5 ((p_lev hL ht 5 0 (by omega) (by omega)).2.2 d c J1 _ _ (by omega) hJ1 (mqs_bind mgl_ex hs) (fun J2 hJ2 => g_x7_readPart_10 (p47 hL ht (by omega) (by decide) (by decide) hJ2 (fun J3 hJ3 => g_x7_readPart_16 (y1 := 46 + 3 * t) ?_)))))))
  refine ⟨fun u => absurd u (by omega), fun _ => ⟨fun u => absurd u (by omega), fun _ => ⟨h10, (mX_t ht).2.2, h10, by rw [h46], by rw [h46]; simp only; omega, hQ _ _ _ (H J3 ?_)⟩⟩⟩
  rw [mpt_eq]
  exact hJ3
end
end

