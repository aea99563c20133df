/-! contracts: days -/
def mput (b : Nat) (I K : zI) : zI := fun y => if b ≤ y ∧ y < b + 8 then K (y - b) else I y
theorem mput_in {b x : Nat} {I K : zI} (hx : x < 8) : mput b I K (b + x) = K x := by
  unfold mput
  rw [if_pos (by omega), Nat.add_sub_cancel_left]
theorem mput_out {b y : Nat} {I K : zI} (h : ¬ (b ≤ y ∧ y < b + 8)) : mput b I K y = I y := if_neg h
theorem mput_put {b : Nat} {I K K1 : zI} : mput b (mput b I K) K1 = mput b I K1 := by
  funext y
  unfold mput
  by_cases h : b ≤ y ∧ y < b + 8
  · rw [if_pos h, if_pos h]
  · rw [if_neg h, if_neg h, if_neg h]
theorem mput_self {b : Nat} {I : zI} : mput b I (mK b I) = I := by
  funext y
  unfold mput mK
  split
  · rename_i h
    rw [Nat.add_sub_of_le h.1]
  · rfl
theorem mput_A {b : Nat} {I J K : zI} (h : mA I J) : mA (mput b I K) (mput b J K) := by
  intro y hy
  unfold mput
  split
  · rfl
  · exact h y hy
theorem mput_X {b : Nat} (hb : mB b) {I K : zI} : mX (mput b I K) = mX I := by
  funext t q
  have h : ∀ y, 28 ≤ y → mput b I K y = I y := fun y hy => mput_out (by rcases hb with rfl | rfl | rfl <;> omega)
  unfold mX mX0
  rw [h (46 + 3 * t) (by omega), h (45 + 3 * t) (by omega)]
theorem mput_Xo {b : Nat} (hb : mB b) {I K : zI} {t : Nat} (o : mXo I t) : mXo (mput b I K) t := by
  unfold mXo
  rw [mput_out (y := 46 + 3 * t) (by rcases hb with rfl | rfl | rfl <;> omega)]
  exact o
/-- alike in all rows of a world -/
def mEq (K K1 : zI) : Prop := ∀ x, x < 8 → K x = K1 x
theorem mEq.rf (K : zI) : mEq K K := fun _ _ => rfl
theorem mEq.sy {K K1 : zI} (h : mEq K K1) : mEq K1 K := fun x hx => (h x hx).symm
theorem mEq_put {b : Nat} {I K : zI} : mEq (mK b (mput b I K)) K := fun x hx => by
  show mput b I K (b + x) = K x
  exact mput_in hx
theorem mEq.lk {K K1 : zI} (h : mEq K K1) (h5 : K 0 2 ≤ 5) : mlk K K1 := ⟨fun j _ _ => congrFun (h 0 (by omega)) j, fun j _ => congrFun (h 2 (by omega)) j, fun p hp j _ => congrFun (h (3 + p) (by omega)) j⟩
/-- people, day and rule of a world as they may be -/
def mWK (K : zI) : Prop := mok K ∧ (0 ≤ K 0 4 ∧ K 0 4 < 5000) ∧ (0 ≤ K 0 6 ∧ K 0 6 < 6)
theorem mW.K {b : Nat} {I : zI} (h : mW b I) : mWK (mK b I) := ⟨h.2.1, h.2.2.1, h.2.2.2.1⟩
theorem mWK.E {K K1 : zI} (h : mWK K) (e : mEq K K1) : mWK K1 := by
  obtain ⟨h1, h2, h3⟩ := h
  refine ⟨h1.lk (e.lk h1.1.2), ?_, ?_⟩
  · rw [← e 0 (by omega)]; exact h2
  · rw [← e 0 (by omega)]; exact h3
theorem mW.put {b : Nat} {I K : zI} (h : mW b I) (hK : mWK K) (hr : K 0 6 = I b 6) : mW b (mput b I K) := by
  obtain ⟨h1, h2, h3⟩ := hK.E (mEq_put (b := b) (I := I)).sy
  refine ⟨h.1, h1, h2, h3, mput_Xo h.1 ?_⟩
  have e : mput b I K b = K 0 := mput_in (x := 0) (by omega)
  rw [e, hr]
  exact h.2.2.2.2
def mtr (r : Nat → Int) (w m s : Int) : Nat → Int := fun j => if j = 2 then w else if j = 3 then m else if j = 4 then s else r j
/-- one is told truly -/
def mtt (T : Nat → Nat → List Int) (K : zI) (p : Nat) (th : Int) : zI := fun y => if y = 3 + p then mtr (K (3 + p)) (if mlearn T K p th = 0 then K (3 + p) 2 else zor (K (3 + p) 2) (mlow (zand th (zxor (K (3 + p) 2) (-1))))) (mcl (K (3 + p) 3 - mtire T K p th) 0 99) (mcl (K (3 + p) 4 + 1) 0 99) else K y
def mtts (T : Nat → Nat → List Int) : Nat → Nat → zI → Int → zI × Int
  | 0, _, K, x => (K, x)
  | n + 1, p, K, x => mtts T n (p + 1) (mtt T K p x) (mtell T K p x)
def mshift (K : zI) : zI := fun y j => if y = 2 then (if (j : Int) + 1 < K 0 3 then K 2 (j + 1) else K 2 j) else if y = 0 ∧ j = 3 then K 0 3 - 1 else K y j
def mday (K : zI) : zI := z2 K 0 4 (K 0 4 + 1)
def mcome (K : zI) : zI := z2 K 0 5 (mcl (K 0 5 + 1) 0 999)
/-- a DAY -/
def mpass (T : Nat → Nat → List Int) (K : zI) : zI × Int := if 0 < K 0 3 then (mday (mcome (mtts T (K 0 2).toNat 0 (mshift K) (K 2 0)).1), (mtts T (K 0 2).toNat 0 (mshift K) (K 2 0)).2) else (mday K, -1)
theorem mcl_r (v : Int) {lo hi : Int} (h : lo ≤ hi) : lo ≤ mcl v lo hi ∧ mcl v lo hi ≤ hi := by
  unfold mcl
  split
  · omega
  · split <;> omega
theorem mtt_0 {T : Nat → Nat → List Int} {K : zI} {p : Nat} {th : Int} : mtt T K p th 0 = K 0 := if_neg (by omega)
theorem mtt_2 {T : Nat → Nat → List Int} {K : zI} {p : Nat} {th : Int} : mtt T K p th 2 = K 2 := if_neg (by omega)
theorem mtt_n {T : Nat → Nat → List Int} {K : zI} {p y : Nat} {th : Int} (h : y ≠ 3 + p) : mtt T K p th y = K y := if_neg h
theorem mtt_p {T : Nat → Nat → List Int} {K : zI} {p : Nat} {th : Int} : mtt T K p th (3 + p) = mtr (K (3 + p)) (if mlearn T K p th = 0 then K (3 + p) 2 else zor (K (3 + p) 2) (mlow (zand th (zxor (K (3 + p) 2) (-1))))) (mcl (K (3 + p) 3 - mtire T K p th) 0 99) (mcl (K (3 + p) 4 + 1) 0 99) := if_pos rfl
theorem mtt_K {T : Nat → Nat → List Int} {K : zI} (hK : mWK K) {p : Nat} {th : Int} (ht : mR th) : mWK (mtt T K p th) := by
  obtain ⟨h1, h2, h3⟩ := hK
  refine ⟨⟨by rw [mtt_0]; exact h1.1, fun q hq => ?_⟩, by rw [mtt_0]; exact h2, by rw [mtt_0]; exact h3⟩
  rw [mtt_0] at hq
  have hq := h1.2 q hq
  by_cases e : q = p
  · subst e
    rw [mtt_p]
    refine ⟨hq.1, hq.2.1, ?_, mcl_r _ (by omega), mcl_r _ (by omega)⟩
    show mR (if mlearn T K q th = 0 then K (3 + q) 2 else zor (K (3 + q) 2) (mlow (zand th (zxor (K (3 + q) 2) (-1)))))
    split
    · exact hq.2.2.1
    · exact m_orR hq.2.2.1 (m_andR (m_andR ht))
  · rw [mtt_n (by omega)]
    exact hq
theorem mtts_K {T : Nat → Nat → List Int} : ∀ (n p : Nat) {K : zI} {x : Int}, mWK K → ((p + n : Nat) : Int) ≤ K 0 2 → mR x → mWK (mtts T n p K x).1 ∧ mR (mtts T n p K x).2 ∧ (mtts T n p K x).1 0 = K 0 ∧ (mtts T n p K x).1 2 = K 2
  | 0, _, _, _, h, _, hx => ⟨h, hx, rfl, rfl⟩
  | n + 1, p, K, x, h, hp, hx => by
    have := mtts_K (T := T) n (p + 1) (mtt_K (T := T) (p := p) h hx) (by rw [mtt_0]; omega) (mtell_R (T := T) h.1 (p := p) (by omega) hx)
    rw [mtt_0, mtt_2] at this
    exact this
theorem mshift_0 {K : zI} {j : Nat} (h : j ≠ 3) : mshift K 0 j = K 0 j := by
  unfold mshift
  rw [if_neg (by omega), if_neg (fun q => h q.2)]
theorem mshift_p {K : zI} {p : Nat} : mshift K (3 + p) = K (3 + p) := by
  funext j
  unfold mshift
  rw [if_neg (by omega), if_neg (fun q => by omega)]
theorem mshift_K {K : zI} (hK : mWK K) : mWK (mshift K) := by
  obtain ⟨h1, h2, h3⟩ := hK
  refine ⟨⟨by rw [mshift_0 (by omega)]; exact h1.1, fun q hq => ?_⟩, by rw [mshift_0 (by omega)]; exact h2, by rw [mshift_0 (by omega)]; exact h3⟩
  rw [mshift_0 (by omega)] at hq
  rw [mshift_p]
  exact h1.2 q hq
section
variable {d : Nat} {c : Nat × Nat × Nat} {I : zI} {g : Nat} {Q : zQ}
theorem k_tellTruly {b p : Nat} (hW : mW b I) (hp : (p : Int) < I b 2) {th : Int} (ht : mR th) (H : ∀ J, mA (mput b I (mtt (mX I) (mK b I) p th)) J → Q (some (zi (mtell (mX I) (mK b I) p th))) (c, J, zRg g)) : zcl (d + 6) 100 0 0 [zr 0, zr b, zr (b + (3 + p)), zi th] (c, I, zRg g) Q := by
  obtain ⟨h5, -, h1, h2, h3, h4, -, -⟩ := hW.at hp
  have hb := hW.1
  have hp5 : p < 5 := by have : I b 2 ≤ 5 := hW.2.1.1.2; omega
  have h27 : b + (3 + p) ≠ 27 := mB_27 hb (3 + p) (by omega)
  refine zen rfl rfl (fun B Q1 hQ => g_x11_tellTruly_0 (k_telling hW hp ht (fun J1 hJ1 => g_x11_tellTruly_7 ?_)))
  have e1 : J1 b = I b := hJ1 _ (mB_27 hb 0 (by omega))
  have l1 := mK_A hb hW.2.1.1.2 hJ1
  refine k_tiring (hW.A hJ1) (by rw [e1]; exact hp) ht (fun J2 hJ2 => g_x11_tellTruly_16 ?_)
  have hJ2 := hJ1.tr hJ2
  have e2 : J2 b = I b := hJ2 _ (mB_27 hb 0 (by omega))
  have l2 := mK_A hb hW.2.1.1.2 hJ2
  rw [mX_A hJ1, ← mtire_lk l1 (fun _ => rfl) hp]
  refine k_learning (hW.A hJ2) (by rw [e2]; exact hp) ht (fun J3 hJ3 => ?_)
  have hJ3 := hJ2.tr hJ3
  rw [mX_A hJ2, ← mlearn_lk l2 (fun _ => rfl) hp]
  have e3 : J3 (b + (3 + p)) = I (b + (3 + p)) := hJ3 _ h27
  have ht0 : 0 ≤ mtire (mX I) (mK b I) p th ∧ mtire (mX I) (mK b I) p th ≤ 100 := by
    have hv := mwo_r (mnk (mK b I) p th) ((mX I) ((mK b I) 0 6).toNat 1)
    have h1 : 0 ≤ (mK b I) (3 + p) 1 ∧ (mK b I) (3 + p) 1 ≤ 9 := h1
    unfold mtire mti msay
    split
    · omega
    · split
      · omega
      · split
        · omega
        · split
          · omega
          · split
            · split <;> omega
            · omega
  have em : ∀ J : zI, J (b + (3 + p)) 3 = I (b + (3 + p)) 3 → zmx 0 (zwr (J (b + (3 + p)) 3 - mtire (mX I) (mK b I) p th)) = mcl (I (b + (3 + p)) 3 - mtire (mX I) (mK b I) p th) 0 99 := by
    intro J hJ
    rw [hJ, zwr_eq (show zIn (I (b + (3 + p)) 3 - mtire (mX I) (mK b I) p th) by omega)]
    unfold zmx mcl
    omega
  have es : ∀ x : Int, x = I (b + (3 + p)) 4 → zmn 99 (zwr (x + 1)) = mcl (I (b + (3 + p)) 4 + 1) 0 99 := by
    intro x hx
    rw [hx, zwr_eq (show zIn (I (b + (3 + p)) 4 + 1) by omega)]
    unfold zmn mcl
    omega
  have fin : ∀ (J : zI) (w : Int), w = (if mlearn (mX I) (mK b I) p th = 0 then I (b + (3 + p)) 2 else zor (I (b + (3 + p)) 2) (mlow (zand th (zxor (I (b + (3 + p)) 2) (-1))))) → mA I J → mA (mput b I (mtt (mX I) (mK b I) p th)) (fun y => if y = b + (3 + p) then mtr (I (b + (3 + p))) w (mcl (I (b + (3 + p)) 3 - mtire (mX I) (mK b I) p th) 0 99) (mcl (I (b + (3 + p)) 4 + 1) 0 99) else J y) := by
    intro J w hw hJ y hy
    show (if y = b + (3 + p) then mtr (I (b + (3 + p))) w (mcl (I (b + (3 + p)) 3 - mtire (mX I) (mK b I) p th) 0 99) (mcl (I (b + (3 + p)) 4 + 1) 0 99) else J y) = _
    by_cases e : y = b + (3 + p)
    · subst e
      rw [if_pos rfl, mput_in (by omega), mtt_p, hw]
      rfl
    · rw [if_neg e, hJ y hy]
      unfold mput
      split
      · rename_i q
        rw [mtt_n (by omega)]
        show I y = I (b + (y - b))
        rw [Nat.add_sub_of_le q.1]
      · rfl
  have row : ∀ (J : zI) (r : Nat → Int) (w m s : Int), J (b + (3 + p)) = r → z2 (z2 (z2 J (b + (3 + p)) 2 w) (b + (3 + p)) 3 m) (b + (3 + p)) 4 s = fun y => if y = b + (3 + p) then mtr r w m s else J y := by
    intro J r w m s hr
    funext y j
    by_cases e : y = b + (3 + p)
    · subst e
      rw [if_pos rfl, ← hr]
      unfold mtr
      by_cases e4 : j = 4
      · subst e4; rw [z2_s]; rfl
      · by_cases e3 : j = 3
        · subst e3; rw [z2_n (Or.inr (by omega)), z2_s]; rfl
        · by_cases e2 : j = 2
          · subst e2; rw [z2_n (Or.inr (by omega)), z2_n (Or.inr (by omega)), z2_s]; rfl
          · rw [z2_n (Or.inr e4), z2_n (Or.inr e3), z2_n (Or.inr e2), if_neg e2, if_neg e3, if_neg e4]
    · rw [if_neg e, z2_n (Or.inl e), z2_n (Or.inl e), z2_n (Or.inl e)]
  refine g_x11_tellTruly_25 ⟨fun u => ⟨h5, h5, h5, h5, ?_⟩, fun u => ⟨h5, h5, k_low (g_x11_tellTruly_49 ⟨h5, h5, h5, h5, h5, ?_⟩)⟩⟩
  · rw [em J3 (by rw [e3]), es _ (by rw [z2_n (Or.inr (by omega)), e3])]
    refine hQ _ _ _ (H _ ?_)
    have hself : J3 = z2 J3 (b + (3 + p)) 2 (I (b + (3 + p)) 2) := by
      funext y j
      by_cases e : y = b + (3 + p) ∧ j = 2
      · rw [e.1, e.2, z2_s, e3]
      · rw [z2_n (by omega)]
    rw [hself, row J3 _ _ _ _ e3]
    exact fin J3 _ (by rw [if_pos u]) hJ3
  · rw [e3, em _ (by rw [z2_n (Or.inr (by omega)), e3]), es _ (by rw [z2_n (Or.inr (by omega)), z2_n (Or.inr (by omega)), e3]), row J3 _ _ _ _ e3]
    exact hQ _ _ _ (H _ (fin J3 _ (by rw [if_neg u]) hJ3))
end

