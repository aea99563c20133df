/-! contracts: a text's worth, what one keeps, tells, how it tires, whether one learns; told by all -/
theorem z1p (i : Nat) (h : i < 1000000) : zwr ((i : Int) + 1) = ((i + 1 : Nat) : Int) := by unfold zwr; omega
theorem z1m (i : Nat) (h : i < 1000000) : zwr (((i + 1 : Nat) : Int) - 1) = (i : Int) := by unfold zwr; omega
theorem z1n (i : Nat) (h : i < 1000000) : zwr (((i + 1 : Nat) : Int) + -1) = (i : Int) := by unfold zwr; omega
theorem z2m (i : Nat) (h : i < 1000000) : zwr (zwr (((i + 1 + 1 : Nat) : Int) + -1) - 1) = (i : Int) := by unfold zwr; omega
def mcs (f : Nat → Int) : Nat → Nat → List Int
  | 0, _ => []
  | m + 1, i => f i :: mcs f m (i + 1)
def mrep (f : Nat → Int) : List Int → Prop
  | [] => True
  | a :: l => f l.length = a ∧ mrep f l
def mwf (o : Option (List Int)) : Int := match o with
  | some (v :: _) => mcl v 0 99
  | _ => 0
theorem mwo_wf (nm : Int → Int) (cs : List Int) : mwo nm cs = mwf (mrun nm cs) := rfl
theorem mst_no (nm : Int → Int) : ∀ cs : List Int, cs.foldl (mst nm) none = none
  | [] => rfl
  | _ :: cs => mst_no nm cs
theorem mrep_up {I : zI} {j : Nat} {v : Int} : ∀ {l : List Int}, l.length ≤ j → mrep (I 27) l → mrep (z2 I 27 j v 27) l
  | [], _, _ => True.intro
  | a :: l, hj, h => by
    simp only [List.length_cons] at hj
    exact ⟨by rw [z2_n (Or.inr (by omega))]; exact h.1, mrep_up (by omega) h.2⟩
def mA (I J : zI) : Prop := ∀ x, x ≠ 27 → J x = I x
theorem mA.rf (I : zI) : mA I I := fun _ _ => rfl
theorem mA.tr {I J L : zI} (h : mA I J) (h1 : mA J L) : mA I L := fun x hx => (h1 x hx).trans (h x hx)
theorem mA.put {I J : zI} (h : mA I J) (j : Nat) (v : Int) : mA I (z2 J 27 j v) := fun x hx => by rw [z2_r hx]; exact h x hx
section
variable {d : Nat} {c : Nat × Nat × Nat} {I : zI} {g : Nat} {Q : zQ}
set_option maxHeartbeats 200000 in
theorem l_worth0 {B : Nat × Nat} {q a e A E : Nat} (hA0 : (zSh A).1 = 10) (hE : zSh E = (100, 3)) (gE : zRg g A 1 = some E) (hq : q < 3) {th dy : Int} {stk : List Int} {J : zI} {o : Option zV} (e1 : J E q = e) (hl : stk.length ≤ 160) (hr : mrep (J 27) stk) (H : Q (some (zi (mwf (some stk)))) (c, J, zRg g)) :
    zRn (zcl (d + 2)) 72 B Q 32 [some (zr A), some (zi q), some (zr a), some (zi th), some (zi dy), some (zr 27), some (zi (stk.length : Nat)), some (zi e), o] [] (c, J, zRg g) := by
  have e2 : J E (q : Int).toNat = e := e1
  refine g_x10_worth_32 (y1 := E) (y3 := 0) ⟨hA0, gE, by rw [hE], by rw [hE]; simp only; omega, fun u => ⟨fun u1 => ?_, fun u1 => ⟨rfl, ?_, ?_⟩⟩, fun u => absurd (by rw [e2]; exact Int.le_refl _) u⟩
  · cases stk with
    | nil => exact H
    | cons v l => exact absurd u1 (by simp only [List.length_cons]; omega)
  · show 0 ≤ zwr ((stk.length : Int) - 1) ∧ zwr ((stk.length : Int) - 1) < (160 : Nat)
    unfold zwr
    omega
  · cases stk with
    | nil => exact absurd (show ((0 : Nat) : Int) ≤ 0 by omega) u1
    | cons v l =>
      simp only [List.length_cons] at hl u1 ⊢
      rw [z1m _ (by omega), show ((l.length : Nat) : Int).toNat = l.length from rfl, hr.1]
      exact k_within (by omega) (g_x10_worth_194 H)
set_option maxHeartbeats 400000 in
theorem l_worth {B : Nat × Nat} {q a e A C E : Nat} {f : Nat → Int} (hA0 : (zSh A).1 = 10) (hC : zSh C = (100, 160)) (hE : zSh E = (100, 3)) (gC : zRg g A 0 = some C) (gE : zRg g A 1 = some E) (hq : q < 3) (ha : (zSh a).1 = 5) {th dy : Int} (hth : mR th) (hw : mR (I a 2)) (he : I E q = e) (he1 : e ≤ 160) (hf : I C = f) {nm : Int → Int} (hn : nm = mnm (I a 2) (I a 3) (I a 1) dy th (I a 4)) (nC : C ≠ 27) (nE : E ≠ 27) (na : a ≠ 27) : ∀ (m i : Nat) (stk : List Int) (J : zI) (o : Option zV), i + m = e → stk.length ≤ i → mA I J → mrep (J 27) stk → (∀ J1, mA I J1 → Q (some (zi (mwf ((mcs f m i).foldl (mst nm) (some stk))))) (c, J1, zRg g)) →
    zRn (zcl (d + 2)) 72 B Q 32 [some (zr A), some (zi q), some (zr a), some (zi th), some (zi dy), some (zr 27), some (zi (stk.length : Nat)), some (zi i), o] [] (c, J, zRg g) := by
  intro m
  induction m with
  | zero =>
    intro i stk J o hi hl hA hr H
    obtain rfl : i = e := by omega
    exact l_worth0 hA0 hE gE hq (by rw [hA E nE]; exact he) (by omega) hr (H J hA)
  | succ m ih =>
    intro i stk J o hi hl hA hr H
    have e1 : J E (q : Int).toNat = e := by rw [hA E nE]; exact he
    have e3 : J C (i : Int).toNat = f i := by rw [hA C nC, hf]; rfl
    have ea : J a = I a := hA a na
    have hi5 : i < 1000000 := by omega
    have hl5 : stk.length < 1000000 := by omega
    have hi2 : (i : Int) < 160 := by omega
    have hi3 : ¬ (e : Int) ≤ (i : Int) := by omega
    have hl2 : (stk.length : Int) < 160 := by omega
    have hl3 : ∀ k : Nat, k ≤ stk.length + 1 → k ≤ i + 1 := by intro k hk; omega
    have hi4 : i + 1 + m = e := by omega
    have hm : mcs f (m + 1) i = f i :: mcs f m (i + 1) := rfl
    rw [hm, List.foldl_cons] at H
    refine g_x10_worth_32 (y1 := E) (y3 := C) ⟨hA0, gE, by rw [hE], by rw [hE]; simp only; omega, fun u => absurd u (by rw [e1]; exact hi3), fun u => ⟨hA0, gC, by rw [hC], by rw [hC]; exact ⟨Int.natCast_nonneg _, hi2⟩, ?_⟩⟩
    rw [e3]
    generalize f i = x at H ⊢
    clear e3 hm u e1 hi3
    refine ⟨fun v => ⟨fun v1 => ⟨fun v2 => ⟨rfl, ?_, rfl, ?_, ?_⟩, fun v2 => ?_⟩, fun v1 => ⟨fun v2 => ⟨rfl, ?_, ?_⟩, fun v2 => ?_⟩⟩, fun v => ⟨⟨by decide, by decide⟩, fun v1 => ⟨fun v2 => ?_, fun v2 => ?_⟩, fun v1 => absurd (show (stk.length : Int) < (160 : Nat) from hl2) v1⟩⟩
    · show 0 ≤ zwr (zwr ((stk.length : Int) + -1) - 1) ∧ zwr (zwr ((stk.length : Int) + -1) - 1) < (160 : Nat)
      clear ih
      unfold zwr; omega
    · show 0 ≤ zwr ((stk.length : Int) + -1) ∧ zwr ((stk.length : Int) + -1) < (160 : Nat)
      clear ih
      unfold zwr; omega
    · rcases stk with _ | ⟨y2, _ | ⟨y1, l⟩⟩
      · exact absurd v2 (by simp)
      · exact absurd v2 (by simp)
      · simp only [List.length_cons] at hl hl2 hl3 ⊢
        rw [z2m l.length (by omega), z1n (l.length + 1) (by omega)]
        have e6 : J 27 ((l.length : Int)).toNat = y1 := hr.2.1
        have e7 : J 27 (((l.length + 1 : Nat) : Int)).toNat = y2 := hr.1
        rw [e6, e7]
        refine k_ofTwo (g_x10_worth_170 ⟨rfl, ⟨Int.natCast_nonneg _, by show (l.length : Int) < (160 : Nat); omega⟩, ?_⟩)
        rw [z1p i hi5]
        rw [mst_2 v1] at H
        exact ih (i + 1) (mo2 x y1 y2 :: l) _ _ hi4 (hl3 _ (by simp only [List.length_cons]; omega)) (hA.put _ _) ⟨z2_s, mrep_up (Nat.le_refl _) hr.2.2⟩ H
    · have hH : ∀ J1, mA I J1 → Q (some (zi 0)) (c, J1, zRg g) := by
        intro J1 h1
        have H := H J1 h1
        rcases stk with _ | ⟨y2, _ | ⟨y1, l⟩⟩
        · have e8 : mst nm (some []) x = none := by unfold mst; simp only; rw [if_neg (by omega)]
          rw [e8, mst_no] at H
          exact H
        · have e8 : mst nm (some [y2]) x = none := by unfold mst; simp only; rw [if_neg (by omega), if_neg (by omega)]
          rw [e8, mst_no] at H
          exact H
        · exact absurd (by simp only [List.length_cons]; omega) v2
      exact hH J hA
    · show 0 ≤ zwr ((stk.length : Int) - 1) ∧ zwr ((stk.length : Int) - 1) < (160 : Nat)
      clear ih
      unfold zwr; omega
    · rcases stk with _ | ⟨y1, l⟩
      · exact absurd v2 (by simp)
      · simp only [List.length_cons] at hl hl2 hl3 ⊢
        rw [z1m l.length (by omega)]
        have e6 : J 27 ((l.length : Int)).toNat = y1 := hr.1
        rw [e6]
        refine k_ofOne (g_x10_worth_132 ⟨rfl, ⟨Int.natCast_nonneg _, by show (l.length : Int) < (160 : Nat); omega⟩, ?_⟩)
        rw [z1p i hi5]
        rw [mst_1 (by omega) (by omega)] at H
        exact ih (i + 1) (mo1 x y1 :: l) _ _ hi4 (hl3 _ (by simp only [List.length_cons]; omega)) (hA.put _ _) ⟨z2_s, mrep_up (Nat.le_refl _) hr.2⟩ H
    · rcases stk with _ | ⟨y1, l⟩
      · have e8 : mst nm (some []) x = none := by unfold mst; simp only; rw [if_neg (by omega)]
        rw [e8, mst_no] at H
        exact H J hA
      · exact absurd (by simp only [List.length_cons]; omega) v2
    · refine k_named ha hth (by rw [ea]; exact hw) (g_x10_worth_92 ⟨rfl, ⟨Int.natCast_nonneg _, hl2⟩, ?_⟩)
      rw [z1p i hi5, z1p stk.length hl5, ea]
      rw [mst_0 (by omega), if_neg (by omega), hn] at H
      exact ih (i + 1) (_ :: stk) _ _ hi4 (hl3 _ (by simp only [List.length_cons]; omega)) (hA.put _ _) ⟨z2_s, mrep_up (Nat.le_refl _) hr⟩ (by rw [hn]; exact H)
    · refine g_x10_worth_92 ⟨rfl, ⟨Int.natCast_nonneg _, hl2⟩, ?_⟩
      rw [z1p i hi5, z1p stk.length hl5]
      rw [mst_0 (by omega), if_pos (by omega)] at H
      exact ih (i + 1) (_ :: stk) _ _ hi4 (hl3 _ (by simp only [List.length_cons]; omega)) (hA.put _ _) ⟨z2_s, mrep_up (Nat.le_refl _) hr⟩ H
end
/-- where the codes of part q of text t begin; these codes; and that all lie in their rows -/
def mX0 (I : zI) (t q : Nat) : Nat := if q = 0 then 0 else (I (46 + 3 * t) (q - 1)).toNat
def mX (I : zI) (t q : Nat) : List Int := mcs (I (45 + 3 * t)) ((I (46 + 3 * t) q).toNat - mX0 I t q) (mX0 I t q)
def mXo (I : zI) (t : Nat) : Prop := 0 ≤ I (46 + 3 * t) 0 ∧ I (46 + 3 * t) 0 ≤ I (46 + 3 * t) 1 ∧ I (46 + 3 * t) 1 ≤ I (46 + 3 * t) 2 ∧ I (46 + 3 * t) 2 ≤ 160
theorem mX_A {I J : zI} (h : mA I J) : mX J = mX I := by
  funext t q
  unfold mX mX0
  rw [h (46 + 3 * t) (by omega), h (45 + 3 * t) (by omega)]
theorem mXo_A {I J : zI} (h : mA I J) {t : Nat} (o : mXo I t) : mXo J t := by
  unfold mXo
  rw [h (46 + 3 * t) (by omega)]
  exact o
section
variable {d : Nat} {c : Nat × Nat × Nat} {I : zI} {g : Nat} {Q : zQ}
set_option maxHeartbeats 400000 in
theorem k_worth {t q a : Nat} (ht : t < 6) (hq : q < 3) (ha : (zSh a).1 = 5) {th dy : Int} (hth : mR th) (hw : mR (I a 2)) (o : mXo I t) (H : ∀ J, mA I J → Q (some (zi (mwo (mnm (I a 2) (I a 3) (I a 1) dy th (I a 4)) (mX I t q)))) (c, J, zRg g)) : zcl (d + 3) 72 0 0 [zr (44 + 3 * t), zi q, zr a, zi th, zi dy, zr 27] (c, I, zRg g) Q := by
  obtain ⟨o1, o2, o3, o4⟩ := o
  refine zen rfl rfl (fun B Q1 hQ => g_x10_worth_0 (y1 := 46 + 3 * t) ⟨fun u => absurd u (by omega), fun u => ⟨fun u1 => ⟨fun u2 => ⟨(mT_0 ht).1, (mX_t ht).2.2, by rw [(mT_0 ht).2.2], by rw [(mT_0 ht).2.2]; simp only; unfold zwr; omega, ?_⟩, fun u2 => ?_⟩, fun u1 => absurd (show (q : Int) < 3 by omega) u1⟩⟩)
  · have hI : I (46 + 3 * t) (q - 1) = ((mX0 I t q : Nat) : Int) ∧ (((I (46 + 3 * t) q).toNat : Nat) : Int) = I (46 + 3 * t) q ∧ mX0 I t q ≤ (I (46 + 3 * t) q).toNat ∧ (I (46 + 3 * t) q).toNat ≤ 160 := by
      unfold mX0
      rw [if_neg (by omega)]
      have : q = 1 ∨ q = 2 := by omega
      rcases this with rfl | rfl
      · show I (46 + 3 * t) 0 = (((I (46 + 3 * t) 0).toNat : Nat) : Int) ∧ _ ∧ (I (46 + 3 * t) 0).toNat ≤ _ ∧ _
        omega
      · show I (46 + 3 * t) 1 = (((I (46 + 3 * t) 1).toNat : Nat) : Int) ∧ _ ∧ (I (46 + 3 * t) 1).toNat ≤ _ ∧ _
        omega
    rw [show (zwr ((q : Int) - 1)).toNat = q - 1 by unfold zwr; omega, hI.1]
    exact l_worth (mT_0 ht).1 (mT_0 ht).2.1 (mT_0 ht).2.2 (mX_t ht).2.1 (mX_t ht).2.2 hq ha hth hw hI.2.1.symm hI.2.2.2 rfl rfl (by omega) (by omega) (fun q => by rw [q] at ha; exact absurd ha (by decide)) _ _ [] _ _ (by omega) (Nat.zero_le _) (mA.rf I) True.intro (fun J hJ => hQ _ _ _ (H J hJ))
  · have q0 : q = 0 := by omega
    subst q0
    have hI : (((I (46 + 3 * t) 0).toNat : Nat) : Int) = I (46 + 3 * t) 0 := by omega
    exact l_worth (mT_0 ht).1 (mT_0 ht).2.1 (mT_0 ht).2.2 (mX_t ht).2.1 (mX_t ht).2.2 hq ha hth hw hI.symm (by omega) rfl rfl (by omega) (by omega) (fun q => by rw [q] at ha; exact absurd ha (by decide)) ((I (46 + 3 * t) 0).toNat) 0 [] _ _ (by omega) (Nat.zero_le _) (mA.rf I) True.intro (fun J hJ => hQ _ _ _ (H J hJ))
end

