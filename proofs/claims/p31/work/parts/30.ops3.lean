/-! contracts: rows, learn, mean, chance -/
def mdg10 (dg : Int) (p : Nat) : Int := zwr ((zwr ((zwr (dg * 10)) + (p : Int))) + 1)
/-- the rows of m more, behind one another: how much off, the digits -/
def mcd (F : Nat → Int → Int) (N : Nat) (th : Int) : Nat → Int → Int → Int → List (Int × Int)
  | 0, x, dg, _ => [(mbc (zxor th x), dg)]
  | m + 1, x, dg, tk => (List.range' 0 N).flatMap (fun p : Nat => if zand tk (zshl 1 (p : Int)) = 0 then mcd F N th m (F p x) (mdg10 dg p) (zor tk (zshl 1 (p : Int))) else [])
def mup (o : Option (Int × Int)) (e : Int × Int) : Option (Int × Int) := match o with
  | none => some e
  | some b => if e.1 < b.1 then some e else some b
def mst2 (J : zI) : Option (Int × Int) → Prop
  | none => J 0 12 = -1 ∧ J 0 11 = -1
  | some b => J 0 12 = b.1 ∧ J 0 11 = b.2 ∧ 0 ≤ b.1
theorem m_shl5 {p : Nat} (hp : p < 5) : 0 ≤ zshl 1 (p : Int) ∧ zshl 1 (p : Int) < 32 := m_fin (P := fun x => 0 ≤ zshl 1 x ∧ zshl 1 x < 32) 5 (by decide +kernel) (x := (p : Int)) (by omega) (by omega)
theorem m_or5 {x y : Int} (hx : 0 ≤ x ∧ x < 32) (hy : 0 ≤ y ∧ y < 32) : 0 ≤ zor x y ∧ zor x y < 32 := by
  have h4 : x.toNat ||| y.toNat < 2 ^ 5 := Nat.or_lt_two_pow (by omega) (by omega)
  rw [m_or (by omega) (by omega)]
  omega
section
variable {d : Nat} {c : Nat × Nat × Nat} {I : zI} {g : Nat} {Q : zQ}
/-- told by one of PEOPLE, now -/
def mOne (I : zI) (p : Nat) (x : Int) : Int := mtell (mX I) (mK 2 I) p x
theorem mOne_F {J : zI} (h : mFr I J) (hW : mW 2 I) {p : Nat} (hp : (p : Int) < I 2 2) (x : Int) : mOne J p x = mOne I p x := by
  unfold mOne
  rw [h.X]
  exact (mtell_lk (h.E.lk hW.2.1.1.2) (fun _ => rfl) hp x).symm
theorem k_one2 {J : zI} (hF : mFr I J) (hW : mW 2 I) {p : Nat} (hp : (p : Int) < I 2 2) {x : Int} (hx : mR x) (H : ∀ J1, mA J J1 → Q (some (zi (mOne I p x))) (c, J1, zRg g)) : zcl (d + 5) 94 0 0 [zr 0, zr 2, zr (2 + (3 + p)), zi x] (c, J, zRg g) Q :=
  k_telling (hF.W hW) (by rw [hF.1 2 (by decide) (by decide) (by decide) (by decide)]; exact hp) hx (fun J1 h1 => zQi (mOne_F hF hW hp x) (H J1 h1))
theorem mOne_R (hW : mW 2 I) {p : Nat} (hp : (p : Int) < I 2 2) {x : Int} (hx : mR x) : mR (mOne I p x) := mtell_R hW.2.1 hp hx
theorem mst2_A {J J1 : zI} (h : mA J J1) {o : Option (Int × Int)} (ho : mst2 J o) : mst2 J1 o := by
  have e : J1 0 = J 0 := h 0 (by decide)
  cases o with
  | none => unfold mst2 at ho ⊢; rw [e]; exact ho
  | some b => unfold mst2 at ho ⊢; rw [e]; exact ho
/-- all rows of sizes from s on -/
def mrows (I : zI) (th : Int) : Nat → Nat → Option (Int × Int) → Option (Int × Int)
  | 0, _, o => o
  | n + 1, s, o => mrows I th n (s + 1) ((mcd (mOne I) (I 2 2).toNat th s th 0 0).foldl mup o)
def mrowv (o : Option (Int × Int)) (what : Int) : Int := match o with
  | none => -1
  | some b => if what = 0 then b.2 else b.1
-- learn
/-- a world whose people all have these words, too -/
def mmore (K : zI) (s : Int) : zI := fun y j => if 3 ≤ y ∧ j = 2 then zor (K y 2) s else K y j
def mLn (I : zI) (s x : Int) : Int := mall (mX I) (mmore (mK 2 I) s) (I 2 2).toNat 0 x
/-- the best of the sets below i, and its size -/
def mlb (I : zI) (th : Int) : Nat → Int × Int
  | 0 => (-1, 11)
  | i + 1 => if mbc (i : Int) < (mlb I th i).2 ∧ mLn I (i : Int) th = th then ((i : Int), mbc (i : Int)) else mlb I th i
theorem mmore_ok {K : zI} {s : Int} (hs : mR s) (h : mok K) : mok (mmore K s) := by
  refine ⟨h.1, fun p hp => ?_⟩
  obtain ⟨a1, a2, a3, a4, a5⟩ := h.2 p hp
  have e : mmore K s (3 + p) 2 = zor (K (3 + p) 2) s := if_pos ⟨by omega, rfl⟩
  have en : ∀ j, j ≠ 2 → mmore K s (3 + p) j = K (3 + p) j := fun j hj => if_neg (fun q => hj q.2)
  rw [en 0 (by decide), en 1 (by decide), en 3 (by decide), en 4 (by decide), e]
  refine ⟨a1, a2, ?_, a4, a5⟩
  exact m_orR a3 hs
theorem k_withMore (hW : mW 2 I) {s x : Int} (hs : mR s) (hx : mR x) {J : zI} (hF : mFr I J) (hl : ∀ j, 2 ≤ j → j ≤ 6 → J 18 j = I 2 j) (hp : ∀ p : Nat, (p : Int) < I 2 2 → ∀ j, j < 5 → j ≠ 2 → J (18 + (3 + p)) j = I (2 + (3 + p)) j) (hj : ∀ j : Nat, (j : Int) < I 2 3 → J 20 j = I 4 j)
    (H : ∀ J1, mFr I J1 → (∀ j, 2 ≤ j → j ≤ 6 → J1 18 j = I 2 j) → (∀ p : Nat, (p : Int) < I 2 2 → ∀ j, j < 5 → j ≠ 2 → J1 (18 + (3 + p)) j = I (2 + (3 + p)) j) → (∀ j : Nat, (j : Int) < I 2 3 → J1 20 j = I 4 j) → Q (some (zi (mLn I s x))) (c, J1, zRg g)) : zcl (d + 7) 108 0 0 [zr 0, zi s, zi x] (c, J, zRg g) Q := by
  have h5 : 0 ≤ I 2 2 ∧ I 2 2 ≤ 5 := hW.2.1.1
  have hB : mB 18 := Or.inr (Or.inr rfl)
  refine zen rfl rfl (fun B Q1 hQ => g_x11_toldWithMore_0 ?_)
  have loop : ∀ (n i : Nat) (J : zI), ((i + n : Nat) : Int) = I 2 2 → mFr I J → (∀ j, 2 ≤ j → j ≤ 6 → J 18 j = I 2 j) → (∀ p : Nat, (p : Int) < I 2 2 → ∀ j, j < 5 → j ≠ 2 → J (18 + (3 + p)) j = I (2 + (3 + p)) j) → (∀ j : Nat, (j : Int) < I 2 3 → J 20 j = I 4 j) → (∀ p, p < i → J (18 + (3 + p)) 2 = zor (I (2 + (3 + p)) 2) s) → zRn (zcl (d + 6)) 108 B Q1 2 [some (zr 0), some (zi s), some (zi x), some (zi (i : Nat))] [] (c, J, zRg g) := by
    intro n
    induction n with
    | zero =>
      intro i J hi hF hl hp hj hw
      have lk : mlk (mmore (mK 2 I) s) (mK 18 J) := by
        refine ⟨fun j h1 h2 => ?_, fun j h1 => ?_, fun p h1 j h2 => ?_⟩
        · exact (hl j h1 h2).symm
        · have e : mmore (mK 2 I) s 2 j = mK 2 I 2 j := if_neg (by omega)
          rw [e]
          exact (hj j h1).symm
        · have h1 : (p : Int) < I 2 2 := h1
          by_cases q : j = 2
          · subst q
            have e : mmore (mK 2 I) s (3 + p) 2 = zor (mK 2 I (3 + p) 2) s := if_pos ⟨by omega, rfl⟩
            rw [e]
            exact (hw p (by omega)).symm
          · have e : mmore (mK 2 I) s (3 + p) j = mK 2 I (3 + p) j := if_neg (fun w => q w.2)
            rw [e]
            exact (hp p h1 j h2 q).symm
      have e6 : J 18 6 = I 2 6 := hl 6 (by decide) (by decide)
      have hW18 : mW 18 J := by
        refine ⟨hB, (mmore_ok hs hW.2.1).lk lk, ?_, ?_, ?_⟩
        · rw [hl 4 (by decide) (by decide)]; exact hW.2.2.1
        · rw [e6]; exact hW.2.2.2.1
        · rw [e6]; exact hF.Xo hW.2.2.2.2
      refine g_x11_toldWithMore_2 (y2 := 0) (y3 := 0) ⟨fun _ => k_toldByAll hW18 hx (fun J1 h1 => g_x11_toldWithMore_54 (hQ _ _ _ (zQi ?_ (H J1 (hF.tr h1.F) (fun j a b => by rw [h1 18 (by decide)]; exact hl j a b) (fun p a j b e => by rw [h1 _ (by omega)]; exact hp p a j b e) (fun j a => by rw [h1 20 (by decide)]; exact hj j a))))), fun u => absurd (by rw [hl 2 (by decide) (by decide)]; omega) u⟩
      rw [hF.X, hl 2 (by decide) (by decide)]
      exact (mall_lk lk (fun _ => rfl) _ 0 x (by show ((0 + (I 2 2).toNat : Nat) : Int) ≤ I 2 2; omega)).symm
    | succ n ih =>
      intro i J hi hF hl hp hj hw
      have hi5 : i < 5 := by omega
      refine g_x11_toldWithMore_2 (y2 := 18 + (3 + i)) (y3 := 2 + (3 + i)) ⟨fun u => absurd u (by rw [hl 2 (by decide) (by decide)]; omega), fun _ => ⟨by omega, mB_p hB hi5, by omega, (mP2 hi5).1, (mP2 (g := g) hi5).2, mB_3 hB hi5, ?_⟩⟩
      rw [z1p i (by omega), hF.1 (2 + (3 + i)) (by omega) (by omega) (by omega) (by omega)]
      refine ih (i + 1) _ (by omega) (hF.tr (mFr_th (fun y hy => z2_r (by omega)))) (fun j a b => by rw [z2_n (Or.inl (by omega))]; exact hl j a b) (fun p a j b e => by rw [z2_n (Or.inr e)]; exact hp p a j b e) (fun j a => by rw [z2_n (Or.inl (by omega))]; exact hj j a) (fun p hp2 => ?_)
      by_cases q : p = i
      · rw [q, z2_s]
      · rw [z2_n (Or.inl (by omega))]
        exact hw p (by omega)
  exact loop (I 2 2).toNat 0 J (by omega) hF hl hp hj (fun p hp => absurd hp (by omega))
theorem mlb_r (I : zI) (th : Int) : ∀ i, ((mlb I th i).1 = -1 ∧ (mlb I th i).2 = 11) ∨ (0 ≤ (mlb I th i).1 ∧ (mlb I th i).2 = mbc (mlb I th i).1)
  | 0 => Or.inl ⟨rfl, rfl⟩
  | i + 1 => by
    unfold mlb
    split
    · exact Or.inr ⟨by simp only; omega, rfl⟩
    · exact mlb_r I th i
theorem l_learn {B : Nat × Nat} (hW : mW 2 I) {x1 x2 : Int} (hx : mR x1) : ∀ (n i : Nat) (J : zI) (o6 : Option zV), i + n = 1024 → mFr I J → (∀ j, 2 ≤ j → j ≤ 6 → J 18 j = I 2 j) → (∀ p : Nat, (p : Int) < I 2 2 → ∀ j, j < 5 → j ≠ 2 → J (18 + (3 + p)) j = I (2 + (3 + p)) j) → (∀ j : Nat, (j : Int) < I 2 3 → J 20 j = I 4 j) → (∀ J1, mFr I J1 → Q (some (zi (if (mlb I x1 1024).1 = -1 then -1 else if x2 = 0 then (mlb I x1 1024).1 else (mlb I x1 1024).2))) (c, J1, zRg g)) → zRn (zcl (d + 7)) 107 B Q 39 [some (zr 0), some (zi x1), some (zi x2), some (zi (mlb I x1 i).1), some (zi (mlb I x1 i).2), some (zi (i : Nat)), o6] [] (c, J, zRg g) := by
  intro n
  induction n with
  | zero =>
    intro i J o6 hi hF hl hp hj H
    obtain rfl : i = 1024 := by omega
    have H := H J hF
    exact g_x11_learn_39 ⟨fun _ => ⟨fun v => ⟨fun w => zQi (by rw [if_neg v, if_neg w]) H, fun w => zQi (by rw [if_neg v, if_pos (Decidable.not_not.mp w)]) H⟩, fun v => zQi (by rw [if_pos (Decidable.not_not.mp v)]) H⟩, fun u => absurd (by omega) u⟩
  | succ n ih =>
    intro i J o6 hi hF hl hp hj H
    have hr : mR (i : Int) := by omega
    have hi6 : i < 1000000 := by omega
    have em : mlb I x1 (i + 1) = if mbc (i : Int) < (mlb I x1 i).2 ∧ mLn I (i : Int) x1 = x1 then ((i : Int), mbc (i : Int)) else mlb I x1 i := rfl
    refine g_x11_learn_39 ⟨fun u => absurd u (by omega), fun _ => k_bc hr (g_x11_learn_52 ⟨fun u => ?_, fun u => ?_⟩)⟩
    · rw [z1p i hi6]
      have := ih (i + 1) J (some (zi (mbc (i : Int)))) (by omega) hF hl hp hj H
      rw [em, if_neg (fun q => by omega)] at this
      exact this
    · refine k_withMore hW hr hx hF hl hp hj (fun J1 h1 h2 h3 h4 => ?_)
      have := ih (i + 1) J1 (some (zi (mbc (i : Int)))) (by omega) h1 h2 h3 h4 H
      rw [em] at this
      refine g_x11_learn_68 ⟨fun v => ?_, fun v => ?_⟩
      · rw [z1p i hi6]
        rw [if_neg (fun q => v q.2)] at this
        exact this
      · rw [z1p i hi6]
        rw [if_pos ⟨by omega, Decidable.not_not.mp v⟩] at this
        exact this
theorem x_learn {x1 x2 : Int} (hW : mW 2 I) (h8 : 0 ≤ I 2 3 ∧ I 2 3 ≤ 8) (Hb : ¬ (mR x1 ∧ 0 ≤ x2 ∧ x2 ≤ 1) → Q (some (zi (-2))) (c, I, zRg g)) (H : mR x1 → 0 ≤ x2 → x2 ≤ 1 → ∀ J, mFr I J → Q (some (zi (if (mlb I x1 1024).1 = -1 then -1 else if x2 = 0 then (mlb I x1 1024).1 else (mlb I x1 1024).2))) (c, J, zRg g)) : zcl (d + 8) 107 0 0 [zr 0, zi x1, zi x2] (c, I, zRg g) Q := by
  refine zen rfl rfl (fun B Q1 hQ => g_x11_learn_0 (k_isSet (g_x11_learn_4 ⟨fun u => hQ _ _ _ (Hb (fun q => mbo_0.mp u q.1)), fun u => ⟨fun u1 => hQ _ _ _ (Hb (fun q => by omega)), fun u1 => ⟨fun u2 => ?_, fun u2 => hQ _ _ _ (Hb (fun q => by omega))⟩⟩⟩)))
  have u := mbo_n0.mp u
  refine k_become (a := 18) (b := 2) (Or.inr (Or.inr rfl)) mB2 (by decide) hW.2.1.1 h8 (fun J h1 h2 => g_x11_learn_36 ?_)
  exact l_learn (i := 0) hW u 1024 J _ (by omega) (mFr_th h1) (fun j a b => (h2.1 j a b).symm) (fun p a j b _ => (h2.2.2 p a j b).symm) (fun j a => (h2.2.1 j a).symm) (fun J hJ => hQ _ _ _ (H u (by omega) u2 J hJ))
end

