/-! contracts: days in thought, to and fro, from, drawn -/
theorem mW_of {b : Nat} {J : zI} (hb : mB b) (h : mWd (mK b J)) (o : mXo J (J b 6).toNat) : mW b J := ⟨hb, h.1.1, h.1.2.1, h.1.2.2, o⟩
theorem mFr.E {I J : zI} (h : mFr I J) : mEq (mK 2 I) (mK 2 J) := fun x hx => (h.1 (2 + x) (by omega) (by omega) (by omega) (by omega)).symm
theorem mFr.W {I J : zI} (h : mFr I J) (hW : mW 2 I) : mW 2 J := by
  obtain ⟨h1, h2, h3⟩ := (hW.K).E h.E
  refine ⟨hW.1, h1, h2, h3, h.Xo ?_⟩
  rw [h.1 2 (by omega) (by omega) (by omega) (by omega)]
  exact hW.2.2.2.2
/-- told by all, now -/
def mAll (I : zI) (x : Int) : Int := mall (mX I) (mK 2 I) (I 2 2).toNat 0 x
theorem mAll_R {I : zI} (hW : mW 2 I) {x : Int} (hx : mR x) : mR (mAll I x) := mall_R hW.2.1 _ 0 (by have : 0 ≤ I 2 2 := hW.2.1.1.1; show ((0 + (I 2 2).toNat : Nat) : Int) ≤ I 2 2; omega) hx
theorem mAll_F {I J : zI} (h : mFr I J) (hW : mW 2 I) (x : Int) : mAll J x = mAll I x := by
  unfold mAll
  rw [h.X, h.1 2 (by omega) (by omega) (by omega) (by omega)]
  refine (mall_lk (h.E.lk hW.2.1.1.2) (fun _ => rfl) _ 0 x ?_).symm
  have : 0 ≤ I 2 2 := hW.2.1.1.1
  show ((0 + (I 2 2).toNat : Nat) : Int) ≤ I 2 2
  omega
def mit (F : Int → Int) (x : Int) : Nat → Int
  | 0 => x
  | n + 1 => F (mit F x n)
/-- the first that was ahead: behind how many, or what it is -/
def mfs (t : Nat → Int) (what : Int) : Nat → Nat → Int
  | 0, _ => -1
  | m + 1, n => if (List.range n).any (fun k => decide (t k = t n)) = true then (if what = 0 then (n : Int) else t n) else mfs t what m (n + 1)
/-- how many of the first so many; the least -/
def mcn (P : Nat → Bool) : Nat → Int
  | 0 => 0
  | i + 1 => if P i = true then mcn P i + 1 else mcn P i
def mls (P : Nat → Bool) : Nat → Int
  | 0 => -1
  | i + 1 => if P i = true ∧ mls P i = -1 then (i : Int) else mls P i
theorem mcn_r (P : Nat → Bool) : ∀ i, 0 ≤ mcn P i ∧ mcn P i ≤ i ∧ (mcn P i = 0 ↔ mls P i = -1)
  | 0 => ⟨Int.le_refl _, Int.le_refl _, fun _ => rfl, fun _ => rfl⟩
  | i + 1 => by
    obtain ⟨h1, h2, h3⟩ := mcn_r P i
    unfold mcn mls
    by_cases q : P i = true
    · rw [if_pos q]
      by_cases e : mls P i = -1
      · rw [if_pos ⟨q, e⟩]
        exact ⟨by omega, by omega, fun h => absurd h (by omega), fun h => absurd h (by omega)⟩
      · rw [if_neg (fun w => e w.2)]
        exact ⟨by omega, by omega, fun h => absurd h (by omega), fun h => absurd h e⟩
    · rw [if_neg q, if_neg (fun w => q w.1)]
      exact ⟨h1, by omega, h3⟩
def mrg (z : Int) : Int := zwr ((zwr (z * 1103515245)) + 12345)
def mth (z : Int) : Int := zwr (Int.tmod (zushr (mrg z) 9) 1024)
theorem mush (z : Int) : 0 ≤ zushr z 9 ∧ zushr z 9 < 8388608 := by
  have h : ((Int32.ofInt z).toUInt32 >>> ((Int32.ofInt 9).toUInt32 &&& Int32.toUInt32 31)).toInt32.toBitVec.toNat = (Int32.ofInt z).toBitVec.toNat / 2 ^ 9 := pk_ushr (Int32.ofInt z) (Int32.ofInt 9) 9 (by decide)
  have h2 : (Int32.ofInt z).toBitVec.toNat < 2 ^ 32 := (Int32.ofInt z).toBitVec.isLt
  have e : zushr z 9 = (((Int32.ofInt z).toUInt32 >>> ((Int32.ofInt 9).toUInt32 &&& Int32.toUInt32 31)).toInt32.toBitVec).toInt := rfl
  rw [e, m_ti _ (by rw [h]; omega), h]
  omega
theorem mth_R (z : Int) : mR (mth z) := by
  have h := mush (mrg z)
  unfold mth
  rw [Int.tmod_eq_emod_of_nonneg h.1]
  generalize zushr (mrg z) 9 = x at h ⊢
  rw [zwr_eq (show zIn (x % 1024) by omega)]
  omega
def mdrs (F : Int → Int) : Nat → Int → Int → Int
  | 0, _, s => s
  | n + 1, z, s => mdrs F n (mrg z) (s + mbc (zxor (mth z) (F (mth z))))
theorem mdrs_r (F : Int → Int) : ∀ (n : Nat) (z s : Int), s ≤ mdrs F n z s ∧ mdrs F n z s ≤ s + 10 * n
  | 0, z, s => ⟨Int.le_refl _, by show s ≤ s + 10 * ((0 : Nat) : Int); omega⟩
  | n + 1, z, s => by
    have h := mdrs_r F n (mrg z) (s + mbc (zxor (mth z) (F (mth z))))
    have h2 := mbc_r (zxor (mth z) (F (mth z)))
    have e : mdrs F (n + 1) z s = mdrs F n (mrg z) (s + mbc (zxor (mth z) (F (mth z)))) := rfl
    rw [e]
    omega
section
variable {d : Nat} {c : Nat × Nat × Nat} {I : zI} {g : Nat} {Q : zQ}
theorem k_asked {x : Int} (hx : zIn x) (h5 : 0 ≤ I 2 2 ∧ I 2 2 ≤ 5) (H : Q (some (zi (mbo (x = 0 ∨ x = 1 ∨ (10 ≤ x ∧ x < 10 + I 2 2) ∨ (20 ≤ x ∧ x < 20 + I 2 2))))) (c, I, zRg g)) : zcl (d + 2) 91 0 0 [zr 0, zi x] (c, I, zRg g) Q := by
  have e10 : ∀ k : Int, 0 ≤ k → k ≤ 20 → ((0 ≤ zwr (x - k) ∧ zwr (x - k) < I 2 2) ↔ (k ≤ x ∧ x < k + I 2 2)) := by
    intro k h1 h2
    unfold zwr
    omega
  refine zen rfl rfl (fun B Q1 hQ => ?_)
  have H := hQ _ _ _ H
  refine g_x11_isAskedOfRun_0 ⟨fun u => zQi (mbo_t (Or.inl u)).symm H, fun u => ⟨fun u1 => zQi (mbo_t (Or.inr (Or.inl u1))).symm H, fun u1 => k_isThere mB2 (g_x11_isAskedOfRun_20 ⟨fun u2 => zQi (mbo_t ?_).symm H, fun u2 => k_isThere mB2 (g_x11_isAskedOfRun_34 ⟨fun u3 => zQi (mbo_f ?_).symm H, fun u3 => zQi (mbo_t ?_).symm H⟩)⟩)⟩⟩
  · exact Or.inr (Or.inr (Or.inl ((e10 10 (by omega) (by omega)).mp (mbo_n0.mp u2))))
  · have a1 := fun q => mbo_0.mp (Decidable.not_not.mp u2) ((e10 10 (by omega) (by omega)).mpr q)
    have a2 := fun q => mbo_0.mp u3 ((e10 20 (by omega) (by omega)).mpr q)
    intro q
    rcases q with q | q | q | q
    · exact u q
    · exact u1 q
    · exact a1 q
    · exact a2 q
  · exact Or.inr (Or.inr (Or.inr ((e10 20 (by omega) (by omega)).mp (mbo_n0.mp u3))))
theorem l_run {B : Nat × Nat} {N x2 : Int} (hN : N ≤ 20) (hv : x2 = 0 ∨ x2 = 1 ∨ (10 ≤ x2 ∧ x2 < 10 + I 2 2) ∨ (20 ≤ x2 ∧ x2 < 20 + I 2 2)) (ho : mXo I (I 2 6).toNat) : ∀ (n i : Nat) (K : zI) (l m : Int) (J : zI) (o6 : Option zV), (i : Int) + n = N → mlk K (mK 18 J) → mWd K → K 0 4 + n < 4000 → K 0 6 = I 2 6 → K 0 2 = I 2 2 → mFr I J → 0 ≤ m → m ≤ i → (∀ J1, mFr I J1 → Q (some (zi (mrv (mrn (mX I) n K l m) x2))) (c, J1, zRg g)) → zRn (zcl (d + 7)) 90 B Q 41 [some (zr 0), some (zi N), some (zi x2), some (zi l), some (zi m), some (zi (i : Nat)), o6] [] (c, J, zRg g) := by
  intro n
  induction n with
  | zero =>
    intro i K l m J o6 hi hl hK hd k6 k2 hF hm hm2 H
    have H := H J hF
    have h5 : I 2 2 ≤ 5 := by rw [← k2]; exact hK.1.1.1.2
    have fld : ∀ k : Int, k = 10 ∨ k = 20 → k ≤ x2 → x2 < k + I 2 2 → (zwr (x2 - k) = x2 - k ∧ (0 ≤ x2 - k ∧ x2 - k < 5) ∧ zRg g 19 (x2 - k).toNat = some (18 + (3 + (x2 - k).toNat)) ∧ (zSh (18 + (3 + (x2 - k).toNat))).1 = 5 ∧ ∀ j, j < 5 → J (18 + (3 + (x2 - k).toNat)) j = K (3 + (x2 - k).toNat) j) := by
      intro k hk h1 h2
      have hp : (x2 - k).toNat < 5 := by omega
      refine ⟨zwr_eq (show zIn (x2 - k) by omega), by omega, mB_p (b := 18) (Or.inr (Or.inr rfl)) hp, mB_3 (b := 18) (Or.inr (Or.inr rfl)) hp, fun j hj => (hl.2.2 _ (by rw [k2]; omega) j hj).symm⟩
    refine g_x11_run_41 (y1 := 18 + (3 + (x2 - 20).toNat)) (y2 := 18 + (3 + (x2 - 10).toNat)) ⟨fun _ => ⟨fun v => ⟨fun v1 => ⟨fun v2 => ?_, fun v2 => ?_⟩, fun v1 => ?_⟩, fun v => ?_⟩, fun u => absurd (by omega) u⟩
    · obtain ⟨a1, a2, a3, a4, a5⟩ := fld 20 (Or.inr rfl) (by omega) (by omega)
      rw [a1]
      refine ⟨a2, a3, a4, zQi ?_ H⟩
      rw [a5 3 (by omega)]
      show K (3 + (x2 - 20).toNat) 3 = if x2 = 0 then l else if x2 = 1 then m else if x2 < 20 then K (3 + (x2 - 10).toNat) 2 else K (3 + (x2 - 20).toNat) 3
      rw [if_neg v, if_neg v1, if_neg (by omega)]
    · obtain ⟨a1, a2, a3, a4, a5⟩ := fld 10 (Or.inl rfl) (by omega) (by omega)
      rw [a1]
      refine ⟨a2, a3, a4, zQi ?_ H⟩
      rw [a5 2 (by omega)]
      show K (3 + (x2 - 10).toNat) 2 = if x2 = 0 then l else if x2 = 1 then m else if x2 < 20 then K (3 + (x2 - 10).toNat) 2 else K (3 + (x2 - 20).toNat) 3
      rw [if_neg v, if_neg v1, if_pos (by omega)]
    · refine zQi ?_ H
      show m = if x2 = 0 then l else if x2 = 1 then m else if x2 < 20 then K (3 + (x2 - 10).toNat) 2 else K (3 + (x2 - 20).toNat) 3
      rw [if_neg v, if_pos (Decidable.not_not.mp v1)]
    · refine zQi ?_ H
      show l = if x2 = 0 then l else if x2 = 1 then m else if x2 < 20 then K (3 + (x2 - 10).toNat) 2 else K (3 + (x2 - 20).toNat) 3
      rw [if_pos (Decidable.not_not.mp v)]
  | succ n ih =>
    intro i K l m J o6 hi hl hK hd k6 k2 hF hm hm2 H
    have hD : mWd (mK 18 J) := hK.lk hl
    have e6 : J 18 6 = I 2 6 := by rw [← k6]; exact (hl.1 6 (by omega) (by omega)).symm
    have hW : mW 18 J := mW_of (Or.inr (Or.inr rfl)) hD (by rw [e6]; exact hF.Xo ho)
    have hX : mX J = mX I := hF.X
    refine g_x11_run_41 (y1 := 0) (y2 := 0) ⟨fun u => absurd u (by omega), fun _ => k_passDay hW hD (fun J1 hJ1 => ?_)⟩
    rw [hX] at hJ1 ⊢
    have hp := mpass_lk (T := mX I) (T1 := mX I) hl (fun _ => rfl) hK.1.1.1.1
    have hp2 := mpass_K (T := mX I) hK (by omega)
    have hE : mEq (mpass (mX I) (mK 18 J)).1 (mK 18 J1) := fun y hy => by
      show _ = J1 (18 + y)
      rw [hJ1 _ (by omega), mput_in hy]
    have hl1 : mlk (mpass (mX I) K).1 (mK 18 J1) := hp.1.tr (hE.lk (by rw [← hp.1.1 2 (by omega) (by omega), hp2.2.2.1]; exact hK.1.1.1.2))
    have hF1 : mFr I J1 := hF.tr (mFr_put.tr hJ1.F)
    have hi5 : i < 1000000 := by omega
    rw [← hp.2]
    have em : mrn (mX I) (n + 1) K l m = if (mpass (mX I) K).2 = -1 then mrn (mX I) n (mpass (mX I) K).1 l m else mrn (mX I) n (mpass (mX I) K).1 (mpass (mX I) K).2 (m + 1) := rfl
    refine g_x11_run_55 ⟨fun u => ?_, fun u => ?_⟩
    · rw [z1p i hi5]
      refine ih (i + 1) _ l m J1 _ (by omega) hl1 hp2.1 (by rw [hp2.2.1]; omega) (by rw [hp2.2.2.2.1]; exact k6) (by rw [hp2.2.2.1]; exact k2) hF1 hm (by omega) (fun J2 h2 => ?_)
      have H := H J2 h2
      rw [em, if_pos u] at H
      exact H
    · rw [z1p i hi5, zwr_eq (show zIn (m + 1) by omega)]
      refine ih (i + 1) _ _ (m + 1) J1 _ (by omega) hl1 hp2.1 (by rw [hp2.2.1]; omega) (by rw [hp2.2.2.2.1]; exact k6) (by rw [hp2.2.2.1]; exact k2) hF1 (by omega) (by omega) (fun J2 h2 => ?_)
      have H := H J2 h2
      rw [em, if_neg u] at H
      exact H
theorem x_run {x1 x2 : Int} (hx2 : zIn x2) (hW : mW 2 I) (hD : mWd (mK 2 I)) (hd : I 2 4 ≤ 999) (Hb : ¬ ((0 ≤ x1 ∧ x1 ≤ 20) ∧ (x2 = 0 ∨ x2 = 1 ∨ (10 ≤ x2 ∧ x2 < 10 + I 2 2) ∨ (20 ≤ x2 ∧ x2 < 20 + I 2 2))) → Q (some (zi (-1000))) (c, I, zRg g))
    (H : (0 ≤ x1 ∧ x1 ≤ 20) → (x2 = 0 ∨ x2 = 1 ∨ (10 ≤ x2 ∧ x2 < 10 + I 2 2) ∨ (20 ≤ x2 ∧ x2 < 20 + I 2 2)) → ∀ J, mFr I J → Q (some (zi (mrv (mrn (mX I) x1.toNat (mK 2 I) (-1) 0) x2))) (c, J, zRg g)) : zcl (d + 8) 90 0 0 [zr 0, zi x1, zi x2] (c, I, zRg g) Q := by
  have h5 : 0 ≤ I 2 2 ∧ I 2 2 ≤ 5 := hW.2.1.1
  refine zen rfl rfl (fun B Q1 hQ => g_x11_run_0 ⟨fun u => hQ _ _ _ (Hb (fun q => by omega)), fun u => ⟨fun u1 => hQ _ _ _ (Hb (fun q => by omega)), fun u1 => k_asked hx2 h5 (g_x11_run_15 ⟨fun u2 => ?_, fun u2 => hQ _ _ _ (Hb (fun q => mbo_0.mp (Decidable.not_not.mp u2) q.2))⟩)⟩⟩)
  have u2 := mbo_n0.mp u2
  refine k_become (a := 18) (b := 2) (Or.inr (Or.inr rfl)) mB2 (by decide) h5 hD.2.1 (fun J h1 h2 => g_x11_run_38 ?_)
  exact l_run (i := 0) (by omega) u2 hW.2.2.2.2 x1.toNat (mK 2 I) (-1) 0 J _ (by omega) h2 hD (by show I 2 4 + _ < 4000; omega) rfl rfl (mFr_th h1) (by omega) (by omega) (fun J1 h1 => hQ _ _ _ (H (by omega) u2 J1 h1))
-- to and fro
theorem k_all2 {J : zI} (hF : mFr I J) (hW : mW 2 I) {x : Int} (hx : mR x) (H : ∀ J1, mA J J1 → Q (some (zi (mAll I x))) (c, J1, zRg g)) : zcl (d + 6) 97 0 0 [zr 0, zr 2, zi x] (c, J, zRg g) Q :=
  k_toldByAll (hF.W hW) hx (fun J1 h1 => zQi (mAll_F hF hW x) (H J1 h1))
theorem mit_R (hW : mW 2 I) {x : Int} (hx : mR x) : ∀ n, mR (mit (mAll I) x n)
  | 0 => hx
  | n + 1 => mAll_R hW (mit_R hW hx n)
theorem l_fro {B : Nat × Nat} (hW : mW 2 I) {x1 x2 : Int} (hx : mR x1) : ∀ (m n : Nat) (J : zI) (o4 : Option zV), n + m = 61 → 1 ≤ n → mFr I J → (∀ k, k < n → J 29 k = mit (mAll I) x1 k) → (∀ J1, mFr I J1 → Q (some (zi (mfs (mit (mAll I) x1) x2 m n))) (c, J1, zRg g)) → zRn (zcl (d + 6)) 104 B Q 28 [some (zr 0), some (zi x1), some (zi x2), some (zi (n : Nat)), o4] [] (c, J, zRg g) := by
  intro m
  induction m with
  | zero => exact fun n J o4 hn h1 hF ht H => g_x11_fro_28 ⟨fun _ => H J hF, fun u => absurd (by omega) u⟩
  | succ m ih =>
    intro n J o4 hn h1 hF ht H
    have hn6 : n < 1000000 := by omega
    have e : (zwr ((n : Int) - 1)).toNat = n - 1 := by rw [zwr_eq (show zIn ((n : Int) - 1) by omega)]; omega
    refine g_x11_fro_28 ⟨fun u => absurd u (by omega), fun _ => ⟨?_, ?_⟩⟩
    · rw [zwr_eq (show zIn ((n : Int) - 1) by omega)]
      omega
    · rw [e, ht (n - 1) (by omega)]
      refine k_all2 hF hW (mit_R hW hx _) (fun J1 hJ1 => g_x11_fro_55 ⟨by omega, ?_⟩)
      have e2 : mAll I (mit (mAll I) x1 (n - 1)) = mit (mAll I) x1 n := by
        conv => rhs; rw [show n = n - 1 + 1 by omega]
        rfl
      rw [e2]
      have hF1 : mFr I (z2 J1 29 n (mit (mAll I) x1 n)) := by
        refine (hF.tr hJ1.F).tr ⟨fun y a b _ _ => z2_r b, fun j _ _ => z2_n (Or.inl (by decide))⟩
      have ht1 : ∀ k, k < n + 1 → z2 J1 29 n (mit (mAll I) x1 n) 29 k = mit (mAll I) x1 k := by
        intro k hk
        by_cases q : k = n
        · rw [q, z2_s]
        · rw [z2_n (Or.inr q), hJ1 29 (by decide)]
          exact ht k (by omega)
      have inner : ∀ (a k : Nat), k + a = n → (∀ j, j < k → mit (mAll I) x1 j ≠ mit (mAll I) x1 n) → zRn (zcl (d + 6)) 104 B Q 59 [some (zr 0), some (zi x1), some (zi x2), some (zi (n : Nat)), some (zi (k : Nat))] [] (c, z2 J1 29 n (mit (mAll I) x1 n), zRg g) := by
        intro a
        induction a with
        | zero =>
          intro k hk hj
          refine g_x11_fro_59 ⟨fun _ => ?_, fun u => absurd (by omega) u⟩
          rw [z1p n hn6]
          refine ih (n + 1) _ _ (by omega) (by omega) hF1 ht1 (fun J2 h2 => ?_)
          have H := H J2 h2
          unfold mfs at H
          rw [if_neg] at H
          · exact H
          · intro q
            obtain ⟨j, q1, q2⟩ := List.any_eq_true.mp q
            exact hj j (by have := List.mem_range.mp q1; omega) (of_decide_eq_true q2)
        | succ a ih2 =>
          intro k hk hj
          refine g_x11_fro_59 ⟨fun u => absurd u (by omega), fun _ => ⟨by omega, by omega, ?_⟩⟩
          rw [show ((k : Nat) : Int).toNat = k from rfl, show ((n : Nat) : Int).toNat = n from rfl, ht1 k (by omega), ht1 n (by omega)]
          refine ⟨fun u => ?_, fun u => ?_⟩
          · rw [z1p k (by omega)]
            refine ih2 (k + 1) (by omega) (fun j hj2 => ?_)
            by_cases q : j = k
            · rw [q]; exact u
            · exact hj j (by omega)
          · have H := H _ hF1
            unfold mfs at H
            rw [if_pos (List.any_eq_true.mpr ⟨k, List.mem_range.mpr (by omega), decide_eq_true (Decidable.not_not.mp u)⟩)] at H
            refine ⟨fun v => ⟨by omega, ?_⟩, fun v => ?_⟩
            · rw [if_neg v] at H
              exact H
            · rw [if_pos (Decidable.not_not.mp v)] at H
              exact H
      exact inner n 0 (by omega) (fun j hj => absurd hj (by omega))
theorem x_fro {x1 x2 : Int} (hW : mW 2 I) (Hb : ¬ (mR x1 ∧ 0 ≤ x2 ∧ x2 ≤ 1) → Q (some (zi (-2))) (c, I, zRg g)) (H : mR x1 → 0 ≤ x2 → x2 ≤ 1 → ∀ J, mFr I J → Q (some (zi (mfs (mit (mAll I) x1) x2 60 1))) (c, J, zRg g)) : zcl (d + 7) 104 0 0 [zr 0, zi x1, zi x2] (c, I, zRg g) Q := by
  refine zen rfl rfl (fun B Q1 hQ => g_x11_fro_0 (k_isSet (g_x11_fro_4 ⟨fun u => hQ _ _ _ (Hb (fun q => mbo_0.mp u q.1)), fun u => ⟨fun u1 => hQ _ _ _ (Hb (fun q => by omega)), fun u1 => ⟨fun u2 => ?_, fun u2 => hQ _ _ _ (Hb (fun q => by omega))⟩⟩⟩)))
  have u := mbo_n0.mp u
  refine l_fro (n := 1) hW u 60 _ _ (by omega) (by omega) ⟨fun y _ b _ _ => z2_r b, fun j _ _ => z2_n (Or.inl (by decide))⟩ (fun k hk => ?_) (fun J hJ => hQ _ _ _ (H u (by omega) u2 J hJ))
  obtain rfl : k = 0 := by omega
  exact z2_s
-- from
theorem l_from {B : Nat × Nat} (hW : mW 2 I) {x1 x2 : Int} : ∀ (n i : Nat) (J : zI), i + n = 1024 → mFr I J → (∀ J1, mFr I J1 → Q (some (zi (if x2 = 0 then mcn (fun o => decide (mAll I (o : Int) = x1)) 1024 else mls (fun o => decide (mAll I (o : Int) = x1)) 1024))) (c, J1, zRg g)) → zRn (zcl (d + 6)) 109 B Q 27 [some (zr 0), some (zi x1), some (zi x2), some (zi (mcn (fun o => decide (mAll I (o : Int) = x1)) i)), some (zi (mls (fun o => decide (mAll I (o : Int) = x1)) i)), some (zi (i : Nat))] [] (c, J, zRg g) := by
  intro n
  induction n with
  | zero =>
    intro i J hi hF H
    obtain rfl : i = 1024 := by omega
    have H := H J hF
    exact g_x11_from_27 ⟨fun _ => ⟨fun v => zQi (if_neg v).symm H, fun v => zQi (if_pos (Decidable.not_not.mp v)).symm H⟩, fun u => absurd (by omega) u⟩
  | succ n ih =>
    intro i J hi hF H
    have hr := mcn_r (fun o => decide (mAll I (o : Int) = x1)) i
    refine g_x11_from_27 ⟨fun u => absurd u (by omega), fun _ => k_all2 hF hW (by omega) (fun J1 hJ1 => ?_)⟩
    have ih := ih (i + 1) J1 (by omega) (hF.tr hJ1.F) H
    have hi6 : i < 1000000 := by omega
    unfold mcn mls at ih
    refine g_x11_from_45 ⟨fun u => ?_, fun u => ?_⟩
    · have hP : decide (mAll I (i : Int) = x1) = true := decide_eq_true u
      rw [if_pos hP] at ih
      rw [zwr_eq (show zIn (mcn (fun o => decide (mAll I (o : Int) = x1)) i + 1) by omega), z1p i hi6]
      refine ⟨fun v => ?_, fun v => ?_⟩
      · rw [if_neg (fun q => v (hr.2.2.mpr q.2))] at ih
        exact ih
      · rw [if_pos ⟨hP, hr.2.2.mp (Decidable.not_not.mp v)⟩] at ih
        exact ih
    · have hP : ¬ decide (mAll I (i : Int) = x1) = true := fun q => u (of_decide_eq_true q)
      rw [if_neg hP, if_neg (fun q => hP q.1)] at ih
      rw [z1p i hi6]
      exact ih
theorem x_from {x1 x2 : Int} (hW : mW 2 I) (Hb : ¬ (mR x1 ∧ 0 ≤ x2 ∧ x2 ≤ 1) → Q (some (zi (-2))) (c, I, zRg g)) (H : mR x1 → 0 ≤ x2 → x2 ≤ 1 → ∀ J, mFr I J → Q (some (zi (if x2 = 0 then mcn (fun o => decide (mAll I (o : Int) = x1)) 1024 else mls (fun o => decide (mAll I (o : Int) = x1)) 1024))) (c, J, zRg g)) : zcl (d + 7) 109 0 0 [zr 0, zi x1, zi x2] (c, I, zRg g) Q := by
  refine zen rfl rfl (fun B Q1 hQ => g_x11_from_0 (k_isSet (g_x11_from_4 ⟨fun u => hQ _ _ _ (Hb (fun q => mbo_0.mp u q.1)), fun u => ⟨fun u1 => hQ _ _ _ (Hb (fun q => by omega)), fun u1 => ⟨fun u2 => ?_, fun u2 => hQ _ _ _ (Hb (fun q => by omega))⟩⟩⟩)))
  have u := mbo_n0.mp u
  exact l_from (i := 0) hW 1024 _ (by omega) (mFr.rf I) (fun J hJ => hQ _ _ _ (H u (by omega) u2 J hJ))
-- drawn
end

