/-! contracts: the tape is split into tokens -/
theorem g_x7_readInto_5 {d : Nat} {B : Nat × Nat} {Q : zQ} {c : Nat × Nat × Nat} {I : Nat → Nat → Int} {g : Nat} {a1 : Nat}
    (t : ((zSh g).1 = 10) ∧ (zcl d 50 0 0 [zr 62] (c, (z2 I g 2 0), zRg g) (fun v h1 => zRn (zcl d) 38 B Q 17 [some (zr 62), some (zr a1)] (zva v []) h1))) :
    zRn (zcl d) 38 B Q 5 [some (zr 62), some (zr a1)] [] (c, I, zRg g) :=
  zgo [5, 17, 44, 51, 58, 63] 5 (And.intro rfl (Exists.intro (some g) (And.intro rfl (And.intro t.1 (Exists.intro 50 (And.intro rfl (And.intro (Nat.le_of_ble_eq_true rfl) (Exists.intro 0 (Exists.intro 0 (And.intro (Or.inl rfl) (And.intro (Or.inl rfl) t.2)))))))))))
theorem g_x7_readInto_17 {d : Nat} {B : Nat × Nat} {Q : zQ} {c : Nat × Nat × Nat} {I : Nat → Nat → Int} {g : Nat} {a1 : Nat}
    (t : zcl d 39 0 0 [zr 62, zi (-5), zi 0] (c, (z2 (z2 (z2 I 62 8 (-1)) 62 6 0) 62 7 (I 64 0)), zRg g) (fun v h1 => zRn (zcl d) 38 B Q 44 [some (zr 62), some (zr a1)] (zva v []) h1)) :
    zRn (zcl d) 38 B Q 17 [some (zr 62), some (zr a1)] [] (c, I, zRg g) :=
  zgo [5, 17, 44, 51, 58, 63] 15 (And.intro rfl (And.intro rfl (And.intro rfl (Exists.intro (some 64) (And.intro rfl (And.intro rfl (And.intro (by decide) (And.intro rfl (Exists.intro 39 (And.intro rfl (And.intro (Nat.le_of_ble_eq_true rfl) (Exists.intro 0 (Exists.intro 0 (And.intro (Or.inl rfl) (And.intro (Or.inl rfl) t)))))))))))))))
theorem g_x7_readInto_44 {d : Nat} {B : Nat × Nat} {Q : zQ} {c : Nat × Nat × Nat} {I : Nat → Nat → Int} {g : Nat} {a1 : Nat}
    (t : zcl d 39 0 0 [zr 62, zi (-6), zi 1] (c, I, zRg g) (fun v h1 => zRn (zcl d) 38 B Q 51 [some (zr 62), some (zr a1)] (zva v []) h1)) :
    zRn (zcl d) 38 B Q 44 [some (zr 62), some (zr a1)] [] (c, I, zRg g) :=
  zgo [5, 17, 44, 51, 58, 63] 3 (Exists.intro 39 (And.intro rfl (And.intro (Nat.le_of_ble_eq_true rfl) (Exists.intro 0 (Exists.intro 0 (And.intro (Or.inl rfl) (And.intro (Or.inl rfl) t)))))))
theorem g_x7_readInto_51 {d : Nat} {B : Nat × Nat} {Q : zQ} {c : Nat × Nat × Nat} {I : Nat → Nat → Int} {g : Nat} {a1 : Nat}
    (t : zcl d 39 0 0 [zr 62, zi (-7), zi 2] (c, I, zRg g) (fun v h1 => zRn (zcl d) 38 B Q 58 [some (zr 62), some (zr a1)] (zva v []) h1)) :
    zRn (zcl d) 38 B Q 51 [some (zr 62), some (zr a1)] [] (c, I, zRg g) :=
  zgo [5, 17, 44, 51, 58, 63] 3 (Exists.intro 39 (And.intro rfl (And.intro (Nat.le_of_ble_eq_true rfl) (Exists.intro 0 (Exists.intro 0 (And.intro (Or.inl rfl) (And.intro (Or.inl rfl) t)))))))
theorem g_x7_readInto_58 {d : Nat} {B : Nat × Nat} {Q : zQ} {c : Nat × Nat × Nat} {I : Nat → Nat → Int} {g : Nat} {a1 : Nat}
    (t : zcl d 47 0 0 [zr 62, zi (-1)] (c, I, zRg g) (fun v h1 => zRn (zcl d) 38 B Q 63 [some (zr 62), some (zr a1)] (zva v []) h1)) :
    zRn (zcl d) 38 B Q 58 [some (zr 62), some (zr a1)] [] (c, I, zRg g) :=
  zgo [5, 17, 44, 51, 58, 63] 2 (Exists.intro 47 (And.intro rfl (And.intro (Nat.le_of_ble_eq_true rfl) (Exists.intro 0 (Exists.intro 0 (And.intro (Or.inl rfl) (And.intro (Or.inl rfl) t)))))))
theorem g_x7_readInto_63 {d : Nat} {B : Nat × Nat} {Q : zQ} {c : Nat × Nat × Nat} {I : Nat → Nat → Int} {g : Nat} {a1 : Nat}
    (t : Q (some (zi (I 62 8))) (c, (z2 I 62 1 0), zRg g)) :
    zRn (zcl d) 38 B Q 63 [some (zr 62), some (zr a1)] [] (c, I, zRg g) :=
  zgo [5, 17, 44, 51, 58, 63] 5 (And.intro rfl (And.intro rfl t))
theorem zRg_put {g a : Nat} : z2 (zRg g) 62 9 (some a) = zRg a := by
  funext x j
  by_cases h : x = 62 ∧ j = 9
  · rw [h.1, h.2, z2_s]
    rfl
  · rw [z2_n (by omega)]
    unfold zRg
    by_cases h1 : x = 62
    · have h2 : j ≠ 9 := fun q => h ⟨h1, q⟩
      have e : Nat.beq j 9 = false := by
        cases q : Nat.beq j 9 with
        | true => exact absurd (Nat.eq_of_beq_eq_true q) h2
        | false => rfl
      rw [e]
      split <;> first | rfl | contradiction
    · have e : Nat.beq x 62 = false := by
        cases q : Nat.beq x 62 with
        | true => exact absurd (Nat.eq_of_beq_eq_true q) h1
        | false => rfl
      rw [e]
theorem g_x7_readInto_0 {d : Nat} {B : Nat × Nat} {Q : zQ} {c : Nat × Nat × Nat} {I : Nat → Nat → Int} {g a1 : Nat} (t : zRn (zcl d) 38 B Q 5 [some (zr 62), some (zr a1)] [] (c, I, zRg a1)) : zRn (zcl d) 38 B Q 0 [some (zr 62), some (zr a1)] [] (c, I, zRg g) := by
  rw [← zRg_put (g := g)] at t
  exact zgo [5] 2 (And.intro rfl t)
theorem zgt_D {α : Type} (d : α) : ∀ (l : List α) (n : Nat), zgt d l n = l.getD n d
  | [], 0 => rfl
  | [], _ + 1 => rfl
  | _ :: _, 0 => rfl
  | _ :: l, n + 1 => zgt_D d l n
theorem mwl_eq {b : Nat → Int} {i e : Nat} {L : List Int} : mwl b i e = L ↔ (e - i = L.length ∧ ∀ k, k < L.length → b (i + k) = zgt 0 L k) := by
  constructor
  · intro h
    subst h
    have hl : (mwl b i e).length = e - i := by unfold mwl; rw [List.length_map, List.length_range]
    refine ⟨hl.symm, fun k hk => ?_⟩
    rw [hl] at hk
    rw [zgt_D, List.getD_eq_getElem?_getD]
    unfold mwl
    rw [List.getElem?_map, List.getElem?_range hk]
    rfl
  · intro h
    obtain ⟨h1, h2⟩ := h
    apply List.ext_getElem?
    intro k
    by_cases q2 : k < L.length
    · have := h2 k q2
      rw [zgt_D, List.getD_eq_getElem?_getD, List.getElem?_eq_getElem q2] at this
      unfold mwl
      rw [List.getElem?_map, List.getElem?_range (by omega), List.getElem?_eq_getElem q2]
      show some (b (i + k)) = some L[k]
      rw [this]
      rfl
    · rw [List.getElem?_eq_none (by unfold mwl; rw [List.length_map, List.length_range]; omega), List.getElem?_eq_none (by omega)]
def mnc (l : List Int) : Int := if l = [119, 111, 114, 100, 115] then -1 else if l = [109, 101, 109, 111, 114, 121] then -2 else if l = [110, 117, 109, 98, 101, 114] then -3 else if l = [100, 97, 121] then -4 else if l = [112, 97, 114, 116, 115] then -5 else if l = [115, 97, 105, 100] then -6 else 0
def mkc (l : List Int) : Int := if l = [107, 101, 101, 112, 115] then -5 else if l = [116, 105, 114, 101, 115] then -6 else if l = [108, 101, 97, 114, 110, 115] then -7 else if l = [111, 114] then -8 else if l = [97, 110, 100] then -9 else if l = [110, 111, 116] then -10 else -2
theorem mite {α : Type} {p : Prop} [Decidable p] {a b c : α} (h1 : p → a = c) (h2 : ¬ p → b = c) : (if p then a else b) = c := by
  by_cases h : p
  · rw [if_pos h]; exact h1 h
  · rw [if_neg h]; exact h2 h
theorem mwd_nc (l : List Int) : mwd l = (if mnc l = 0 then (mkc l, 0) else (-4, mnc l)) := by
  unfold mwd
  refine mite (fun h => by rw [h]; rfl) (fun h1 => mite (fun h => by rw [h]; rfl) (fun h2 => mite (fun h => by rw [h]; rfl) (fun h3 => mite (fun h => by rw [h]; rfl) (fun h4 => mite (fun h => by rw [h]; rfl) (fun h5 => mite (fun h => by rw [h]; rfl) (fun h6 => ?_))))))
  have e : mnc l = 0 := by unfold mnc; rw [if_neg h1, if_neg h2, if_neg h3, if_neg h4, if_neg h5, if_neg h6]
  rw [if_pos e]
  unfold mkc
  refine mite (fun h => by rw [h]; rfl) (fun h1 => mite (fun h => by rw [h]; rfl) (fun h2 => mite (fun h => by rw [h]; rfl) (fun h3 => mite (fun h => by rw [h]; rfl) (fun h4 => mite (fun h => by rw [h]; rfl) (fun h5 => mite (fun h => by rw [h]; rfl) (fun h6 => ?_))))))
  rw [if_neg h1, if_neg h2, if_neg h3, if_neg h4, if_neg h5, if_neg h6]
theorem mnu_app (b : Nat → Int) : ∀ (n i : Nat) (v : Int), mnu b (n + 1) i v = 10 * mnu b n i v + b (i + n) - 48
  | 0, i, v => rfl
  | n + 1, i, v => by
    have := mnu_app b n (i + 1) (10 * v + b i - 48)
    show mnu b (n + 1) (i + 1) (10 * v + b i - 48) = 10 * mnu b n (i + 1) (10 * v + b i - 48) + b (i + (n + 1)) - 48
    rw [this, show i + 1 + n = i + (n + 1) by omega]
def madd (I : zI) (k : Nat) (x1 x2 x3 : Int) : zI := z2 (z2 (z2 (z2 I 64 k x1) 65 k x2) 66 k x3) 62 5 ((k : Int) + 1)
section
variable {d : Nat} {c : Nat × Nat × Nat} {I : zI} {g : Nat} {Q : zQ}
theorem k51 {k : Nat} (hk : I 62 5 = k) (h : k < 161) {x1 x2 x3 : Int} (H : Q none (c, madd I k x1 x2 x3, zRg g)) : zcl (d + 1) 51 0 0 [zr 62, zi x1, zi x2, zi x3] (c, I, zRg g) Q := by
  refine zen rfl rfl (fun B Q1 hQ => g_x7_addToken_0 ⟨fun u => ?_, fun u => absurd (by rw [hk]; omega) u⟩)
  have e1 : z2 I 64 (I 62 5).toNat x1 62 5 = k := by rw [z2_n (Or.inl (by decide))]; exact hk
  have e2 : z2 (z2 I 64 (I 62 5).toNat x1) 65 (k : Int).toNat x2 62 5 = k := by rw [z2_n (Or.inl (by decide))]; exact e1
  have e3 : z2 (z2 (z2 I 64 (I 62 5).toNat x1) 65 (k : Int).toNat x2) 66 (k : Int).toNat x3 62 5 = k := by rw [z2_n (Or.inl (by decide))]; exact e2
  rw [e1, e2, e3, zwr_eq (show zIn ((k : Int) + 1) by omega), hk]
  exact ⟨by omega, by omega, by omega, hQ _ _ _ H⟩
theorem k58 {w i e : Nat} {L : List Int} (hw : w < 13) (hl0 : zgt [] zVS w = L) (hie : i ≤ e) (he : (e : Int) ≤ I 62 1) (h160 : I 62 1 ≤ 160) (H : Q (some (zi (mbo (mwl (I 63) i e = L)))) (c, I, zRg g)) : zcl (d + 1) 58 0 0 [zr 62, zr (1000 + w), zi (i : Nat), zi (e : Nat)] (c, I, zRg g) Q := by
  have hw2 : 1000 ≤ 1000 + w ∧ 1000 + w < 1013 := by omega
  have hL : zvsLen (1000 + w) = (zgt [] zVS w).length := by unfold zvsLen; rw [Nat.add_sub_cancel_left]
  have hA : ∀ j, zvsAt (1000 + w) j = zgt 0 L j := fun j => by unfold zvsAt; rw [Nat.add_sub_cancel_left, hl0]
  have he2 : e ≤ 160 := by omega
  rw [hl0] at hL
  refine zen rfl rfl (fun B Q1 hQ => ?_)
  have H0 : ¬ (mwl (I 63) i e = L) → Q1 (some (zi 0)) (c, I, zRg g) := fun q => hQ _ _ _ (zQi (mbo_f q).symm H)
  have H1 : mwl (I 63) i e = L → Q1 (some (zi 1)) (c, I, zRg g) := fun q => hQ _ _ _ (zQi (mbo_t q).symm H)
  have ez : zwr ((e : Int) - (i : Int)) = ((e - i : Nat) : Int) := by rw [zwr_eq (show zIn ((e : Int) - (i : Int)) by omega)]; omega
  refine g_x7_isWord_0 ⟨fun u => absurd u (by clear ez; omega), fun _ => ⟨fun u => absurd u (by clear ez; omega), fun _ => ⟨hw2, ?_⟩⟩⟩
  rw [ez, hL]
  clear ez
  refine ⟨fun u => ?_, fun u => H0 (fun q => u (by rw [(mwl_eq.mp q).1]))⟩
  have hl : e - i = L.length := by omega
  have loop : ∀ (n j : Nat), j + n = L.length → (∀ k, k < j → I 63 (i + k) = zgt 0 L k) → zRn (zcl d) 58 B Q1 27 [some (zr 62), some (zr (1000 + w)), some (zi (i : Nat)), some (zi (e : Nat)), some (zi (j : Nat))] [] (c, I, zRg g) := by
    intro n
    induction n with
    | zero =>
      intro j hj hk
      exact g_x7_isWord_27 ⟨hw2, fun _ => H1 (mwl_eq.mpr ⟨hl, fun k q => hk k (by omega)⟩), fun v => absurd (by rw [hL]; omega) v⟩
    | succ n ih =>
      intro j hj hk
      have e2 : zwr ((i : Int) + (j : Int)) = ((i + j : Nat) : Int) := by rw [zwr_eq (show zIn ((i : Int) + (j : Int)) by omega)]; omega
      refine g_x7_isWord_27 ⟨hw2, fun v => absurd v (by rw [hL]; clear e2; omega), fun _ => ⟨by rw [e2]; clear e2; omega, hw2, by rw [hL]; clear e2; omega, ?_⟩⟩
      rw [e2, hA, show ((i + j : Nat) : Int).toNat = i + j from rfl, show ((j : Nat) : Int).toNat = j from rfl]
      clear e2
      refine ⟨fun v => ?_, fun v => H0 (fun q => v ((mwl_eq.mp q).2 j (by omega)))⟩
      rw [z1p j (by omega)]
      refine ih (j + 1) (by omega) (fun k hk2 => ?_)
      by_cases q : k = j
      · rw [q]; exact v
      · exact hk k (by omega)
  exact loop L.length 0 (by omega) (fun k hk => absurd hk (by omega))
theorem k56 {i e : Nat} (hie : i ≤ e) (he : (e : Int) ≤ I 62 1) (h160 : I 62 1 ≤ 160) (H : Q (some (zi (mnc (mwl (I 63) i e)))) (c, I, zRg g)) : zcl (d + 2) 56 0 0 [zr 62, zi (i : Nat), zi (e : Nat)] (c, I, zRg g) Q := by
  refine zen rfl rfl (fun B Q1 hQ => g_x7_nameCode_0 (k58 (w := 1) (L := [119, 111, 114, 100, 115]) (by decide) rfl hie he h160 (g_x7_nameCode_8 ⟨fun u1 => k58 (w := 2) (L := [109, 101, 109, 111, 114, 121]) (by decide) rfl hie he h160 (g_x7_nameCode_21 ⟨fun u2 => k58 (w := 3) (L := [110, 117, 109, 98, 101, 114]) (by decide) rfl hie he h160 (g_x7_nameCode_35 ⟨fun u3 => k58 (w := 4) (L := [100, 97, 121]) (by decide) rfl hie he h160 (g_x7_nameCode_49 ⟨fun u4 => k58 (w := 5) (L := [112, 97, 114, 116, 115]) (by decide) rfl hie he h160 (g_x7_nameCode_63 ⟨fun u5 => k58 (w := 6) (L := [115, 97, 105, 100]) (by decide) rfl hie he h160 (g_x7_nameCode_77 ⟨fun u6 => ?_, fun u6 => ?_⟩), fun u5 => ?_⟩), fun u4 => ?_⟩), fun u3 => ?_⟩), fun u2 => ?_⟩), fun u1 => ?_⟩)))
  all_goals
    have H := hQ _ _ _ H
    unfold mnc at H
  · rw [if_neg (mbo_0.mp u1), if_neg (mbo_0.mp u2), if_neg (mbo_0.mp u3), if_neg (mbo_0.mp u4), if_neg (mbo_0.mp u5), if_neg (mbo_0.mp u6)] at H; exact H
  · rw [if_neg (mbo_0.mp u1), if_neg (mbo_0.mp u2), if_neg (mbo_0.mp u3), if_neg (mbo_0.mp u4), if_neg (mbo_0.mp u5), if_pos (mbo_n0.mp u6)] at H; exact H
  · rw [if_neg (mbo_0.mp u1), if_neg (mbo_0.mp u2), if_neg (mbo_0.mp u3), if_neg (mbo_0.mp u4), if_pos (mbo_n0.mp u5)] at H; exact H
  · rw [if_neg (mbo_0.mp u1), if_neg (mbo_0.mp u2), if_neg (mbo_0.mp u3), if_pos (mbo_n0.mp u4)] at H; exact H
  · rw [if_neg (mbo_0.mp u1), if_neg (mbo_0.mp u2), if_pos (mbo_n0.mp u3)] at H; exact H
  · rw [if_neg (mbo_0.mp u1), if_pos (mbo_n0.mp u2)] at H; exact H
  · rw [if_pos (mbo_n0.mp u1)] at H; exact H
theorem k57 {i e : Nat} (hie : i ≤ e) (he : (e : Int) ≤ I 62 1) (h160 : I 62 1 ≤ 160) (H : Q (some (zi (mkc (mwl (I 63) i e)))) (c, I, zRg g)) : zcl (d + 2) 57 0 0 [zr 62, zi (i : Nat), zi (e : Nat)] (c, I, zRg g) Q := by
  refine zen rfl rfl (fun B Q1 hQ => g_x7_keyToken_0 (k58 (w := 7) (L := [107, 101, 101, 112, 115]) (by decide) rfl hie he h160 (g_x7_keyToken_8 ⟨fun u1 => k58 (w := 8) (L := [116, 105, 114, 101, 115]) (by decide) rfl hie he h160 (g_x7_keyToken_22 ⟨fun u2 => k58 (w := 9) (L := [108, 101, 97, 114, 110, 115]) (by decide) rfl hie he h160 (g_x7_keyToken_36 ⟨fun u3 => k58 (w := 10) (L := [111, 114]) (by decide) rfl hie he h160 (g_x7_keyToken_50 ⟨fun u4 => k58 (w := 11) (L := [97, 110, 100]) (by decide) rfl hie he h160 (g_x7_keyToken_64 ⟨fun u5 => k58 (w := 12) (L := [110, 111, 116]) (by decide) rfl hie he h160 (g_x7_keyToken_78 ⟨fun u6 => ?_, fun u6 => ?_⟩), fun u5 => ?_⟩), fun u4 => ?_⟩), fun u3 => ?_⟩), fun u2 => ?_⟩), fun u1 => ?_⟩)))
  all_goals
    have H := hQ _ _ _ H
    unfold mkc at H
  · rw [if_neg (mbo_0.mp u1), if_neg (mbo_0.mp u2), if_neg (mbo_0.mp u3), if_neg (mbo_0.mp u4), if_neg (mbo_0.mp u5), if_neg (mbo_0.mp u6)] at H; exact H
  · rw [if_neg (mbo_0.mp u1), if_neg (mbo_0.mp u2), if_neg (mbo_0.mp u3), if_neg (mbo_0.mp u4), if_neg (mbo_0.mp u5), if_pos (mbo_n0.mp u6)] at H; exact H
  · rw [if_neg (mbo_0.mp u1), if_neg (mbo_0.mp u2), if_neg (mbo_0.mp u3), if_neg (mbo_0.mp u4), if_pos (mbo_n0.mp u5)] at H; exact H
  · rw [if_neg (mbo_0.mp u1), if_neg (mbo_0.mp u2), if_neg (mbo_0.mp u3), if_pos (mbo_n0.mp u4)] at H; exact H
  · rw [if_neg (mbo_0.mp u1), if_neg (mbo_0.mp u2), if_pos (mbo_n0.mp u3)] at H; exact H
  · rw [if_neg (mbo_0.mp u1), if_pos (mbo_n0.mp u2)] at H; exact H
  · rw [if_pos (mbo_n0.mp u1)] at H; exact H
theorem k55 {x : Int} (H0 : msg x = false → Q (some (zi 0)) (c, I, zRg g)) (H1 : msg x = true → Q (some (zi 1)) (c, I, zRg g)) : zcl (d + 1) 55 0 0 [zi x] (c, I, zRg g) Q := by
  have h0 : ¬ (x = 40 ∨ x = 41 ∨ x = 59 ∨ x = 43 ∨ x = 45 ∨ x = 42 ∨ x = 60 ∨ x = 61) → Q (some (zi 0)) (c, I, zRg g) := fun q => H0 (decide_eq_false q)
  have h1 : (x = 40 ∨ x = 41 ∨ x = 59 ∨ x = 43 ∨ x = 45 ∨ x = 42 ∨ x = 60 ∨ x = 61) → Q (some (zi 1)) (c, I, zRg g) := fun q => H1 (decide_eq_true q)
  refine zen rfl rfl (fun B Q1 hQ => g_x7_isSign_0 ?_)
  have h0 := fun q => hQ _ _ _ (h0 q)
  have h1 := fun q => hQ _ _ _ (h1 q)
  refine ⟨fun _ => h1 (by omega), fun _ => ⟨fun _ => h1 (by omega), fun _ => ⟨fun _ => h1 (by omega), fun _ => ⟨fun _ => h1 (by omega), fun _ => ⟨fun _ => h0 (by omega), fun _ => ⟨fun _ => h1 (by omega), fun _ => ⟨fun _ => h0 (by omega), fun _ => ⟨fun _ => h0 (by omega), fun _ => ⟨fun _ => h0 (by omega), fun _ => ⟨fun _ => h0 (by omega), fun _ => ⟨fun _ => h0 (by omega), fun _ => ⟨fun _ => h0 (by omega), fun _ => ⟨fun _ => h0 (by omega), fun _ => ⟨fun _ => h0 (by omega), fun _ => ⟨fun _ => h0 (by omega), fun _ => ⟨fun _ => h0 (by omega), fun _ => ⟨fun _ => h0 (by omega), fun _ => ⟨fun _ => h0 (by omega), fun _ => ⟨fun _ => h0 (by omega), fun _ => ⟨fun _ => h1 (by omega), fun _ => ⟨fun _ => h1 (by omega), fun _ => ⟨fun _ => h1 (by omega), fun _ => h0 (by omega)⟩⟩⟩⟩⟩⟩⟩⟩⟩⟩⟩⟩⟩⟩⟩⟩⟩⟩⟩⟩⟩⟩
theorem k53 {k i n : Nat} (hn : I 62 1 = n) (h160 : n ≤ 160) (hk : I 62 5 = k) (h161 : k < 161) (hi : i < n) (H : Q (some (zi ((msc mlt (I 63) (n - i) i : Nat) : Int))) (c, madd I k (mwd (mwl (I 63) i (msc mlt (I 63) (n - i) i))).1 (mwd (mwl (I 63) i (msc mlt (I 63) (n - i) i))).2 (i : Nat), zRg g)) : zcl (d + 3) 53 0 0 [zr 62, zi (i : Nat)] (c, I, zRg g) Q := by
  refine zen rfl rfl (fun B Q1 hQ => g_x7_splitWord_0 ?_)
  have H := hQ _ _ _ H
  have fin : ∀ (e : Nat) (o : Option zV), e ≤ n → i ≤ e → msc mlt (I 63) (n - i) i = e → zcl (d + 2) 56 0 0 [zr 62, zi (i : Nat), zi (e : Nat)] (c, I, zRg g) (fun v h1 => zRn (zcl (d + 2)) 53 B Q1 44 [some (zr 62), some (zi (i : Nat)), some (zi (e : Nat)), o] (zva v []) h1) := by
    intro e o he hie hs
    rw [hs, mwd_nc] at H
    refine k56 hie (by omega) (by omega) (g_x7_splitWord_44 ⟨fun u => k57 hie (by omega) (by omega) (g_x7_splitWord_61 (k51 hk h161 (g_x7_splitWord_66 ?_))), fun u => g_x7_splitWord_61 (k51 hk h161 (g_x7_splitWord_66 ?_))⟩)
    · rw [if_pos u] at H
      rw [u]
      exact H
    · rw [if_neg u] at H
      exact H
  have loop : ∀ (a e : Nat), e + a = n → i ≤ e → msc mlt (I 63) (n - i) i = msc mlt (I 63) (n - e) e → zRn (zcl (d + 2)) 53 B Q1 2 [some (zr 62), some (zi (i : Nat)), some (zi (e : Nat)), none] [] (c, I, zRg g) := by
    intro a
    induction a with
    | zero =>
      intro e he hie hs
      refine g_x7_splitWord_2 ⟨fun _ => fin e none (by omega) hie ?_, fun u => absurd (by rw [hn]; omega) u⟩
      rw [hs, show n - e = 0 by omega]
      rfl
    | succ a ih =>
      intro e he hie hs
      have st : mlt (I 63 e) = false → msc mlt (I 63) (n - i) i = e := fun q => by rw [hs]; exact msc_st q
      refine g_x7_splitWord_2 ⟨fun u => absurd u (by rw [hn]; omega), fun _ => ⟨by omega, fun u => fin e none (by omega) hie (st (decide_eq_false ?_)), fun u => ⟨by omega, fun v => fin e none (by omega) hie (st (decide_eq_false ?_)), fun v => ?_⟩⟩⟩
      · have u : I 63 e < 97 := u
        omega
      · have v : 122 < I 63 e := v
        omega
      · have u : ¬ I 63 e < 97 := u
        have v : ¬ 122 < I 63 e := v
        rw [z1p e (by omega)]
        exact ih (e + 1) (by omega) (by omega) (by rw [hs]; exact msc_un (decide_eq_true (by omega)) (by omega))
  exact loop (n - i) i (by omega) (Nat.le_refl _) rfl
theorem k54 {k i n : Nat} (hn : I 62 1 = n) (h160 : n ≤ 160) (hk : I 62 5 = k) (h161 : k < 161) (hi : i < n) (H : ∀ v : Int, (msc mdg (I 63) (n - i) i - i ≤ 4 → v = mnu (I 63) (msc mdg (I 63) (n - i) i - i) i 0) → Q (some (zi ((msc mdg (I 63) (n - i) i : Nat) : Int))) (c, madd I k (if msc mdg (I 63) (n - i) i - i ≤ 4 then -3 else -2) v (i : Nat), zRg g)) : zcl (d + 2) 54 0 0 [zr 62, zi (i : Nat)] (c, I, zRg g) Q := by
  refine zen rfl rfl (fun B Q1 hQ => g_x7_splitNumber_0 ?_)
  have H := fun v hv => hQ _ _ _ (H v hv)
  have fin : ∀ (e : Nat) (v : Int), e ≤ n → i ≤ e → msc mdg (I 63) (n - i) i = e → (e - i ≤ 4 → v = mnu (I 63) (e - i) i 0) → (4 < zwr ((e : Int) - (i : Int)) → zcl (d + 1) 51 0 0 [zr 62, zi (-2), zi v, zi (i : Nat)] (c, I, zRg g) (fun w h1 => zRn (zcl (d + 1)) 54 B Q1 75 [some (zr 62), some (zi (i : Nat)), some (zi (e : Nat)), some (zi v)] (zva w []) h1)) ∧ (¬ 4 < zwr ((e : Int) - (i : Int)) → zcl (d + 1) 51 0 0 [zr 62, zi (-3), zi v, zi (i : Nat)] (c, I, zRg g) (fun w h1 => zRn (zcl (d + 1)) 54 B Q1 75 [some (zr 62), some (zi (i : Nat)), some (zi (e : Nat)), some (zi v)] (zva w []) h1)) := by
    intro e v he hie hs hv
    have H := H v (by rw [hs]; exact hv)
    rw [hs] at H
    rw [zwr_eq (show zIn ((e : Int) - (i : Int)) by omega)]
    refine ⟨fun u => k51 hk h161 (g_x7_splitNumber_75 ?_), fun u => k51 hk h161 (g_x7_splitNumber_75 ?_)⟩
    · rw [if_neg (by omega)] at H
      exact H
    · rw [if_pos (by omega)] at H
      exact H
  have loop : ∀ (a e : Nat) (v : Int), e + a = n → i ≤ e → msc mdg (I 63) (n - i) i = msc mdg (I 63) (n - e) e → (e - i ≤ 4 → v = mnu (I 63) (e - i) i 0 ∧ 0 ≤ v ∧ v < 100000) → (e - i ≤ 3 → v < 10000) → (e - i ≤ 2 → v < 1000) → (e - i ≤ 1 → v < 100) → (e - i ≤ 0 → v < 10) → zRn (zcl (d + 1)) 54 B Q1 4 [some (zr 62), some (zi (i : Nat)), some (zi (e : Nat)), some (zi v)] [] (c, I, zRg g) := by
    intro a
    induction a with
    | zero =>
      intro e v he hie hs hv _ _ _ _
      exact g_x7_splitNumber_4 ⟨fun _ => fin e v (by omega) hie (by rw [hs, show n - e = 0 by omega]; rfl) (fun q => (hv q).1), fun u => absurd (by rw [hn]; omega) u⟩
    | succ a ih =>
      intro e v he hie hs hv v3 v2 v1 v0
      have st : mdg (I 63 e) = false → msc mdg (I 63) (n - i) i = e := fun q => by rw [hs]; exact msc_st q
      refine g_x7_splitNumber_4 ⟨fun u => absurd u (by rw [hn]; omega), fun _ => ⟨by omega, fun u => fin e v (by omega) hie (st (decide_eq_false ?_)) (fun q => (hv q).1), fun u => ⟨by omega, fun w => fin e v (by omega) hie (st (decide_eq_false ?_)) (fun q => (hv q).1), fun w => ⟨by omega, ?_⟩⟩⟩⟩
      · have u : I 63 e < 48 := u
        omega
      · have w : 57 < I 63 e := w
        omega
      · have u : ¬ I 63 e < 48 := u
        have w : ¬ 57 < I 63 e := w
        have es : msc mdg (I 63) (n - i) i = msc mdg (I 63) (n - (e + 1)) (e + 1) := by rw [hs]; exact msc_un (decide_eq_true (by omega)) (by omega)
        have hi1 : e + 1 - i = (e - i) + 1 := by omega
        have key : e - i ≤ 3 → zwr (zwr (zwr (v * 10) + I 63 (e : Int).toNat) - 48) = 10 * v + I 63 e - 48 := by
          intro q
          have h1 := hv (by omega)
          have h2 := v3 q
          rw [zwr_eq (show zIn (v * 10) by omega), show (e : Int).toNat = e from rfl, zwr_eq (show zIn (v * 10 + I 63 e) by omega), zwr_eq (show zIn (v * 10 + I 63 e - 48) by omega)]
          omega
        have knu : e - i ≤ 3 → 10 * v + I 63 e - 48 = mnu (I 63) (e + 1 - i) i 0 := by
          intro q
          rw [hi1, mnu_app, ← (hv (by omega)).1, show i + (e - i) = e by omega]
        rw [z1p e (by omega)]
        have fwd : ∀ y : Int, (e - i ≤ 3 → y = 10 * v + I 63 e - 48) → zRn (zcl (d + 1)) 54 B Q1 4 [some (zr 62), some (zi (i : Nat)), some (zi ((e + 1 : Nat) : Int)), some (zi y)] [] (c, I, zRg g) := by
          intro y hy
          clear key
          refine ih (e + 1) y (by omega) (by omega) es (fun q => ?_) (fun q => ?_) (fun q => ?_) (fun q => ?_) (fun q => ?_)
          · have h1 := hv (by omega)
            have h2 := v3 (by omega)
            refine ⟨by rw [hy (by omega)]; exact knu (by omega), ?_, ?_⟩ <;> rw [hy (by omega)] <;> omega
          · have h1 := hv (by omega)
            have h2 := v2 (by omega)
            rw [hy (by omega)]; omega
          · have h1 := hv (by omega)
            have h2 := v1 (by omega)
            rw [hy (by omega)]; omega
          · have h1 := hv (by omega)
            have h2 := v0 (by omega)
            rw [hy (by omega)]; omega
          · omega
        exact fwd _ key
  exact loop (n - i) i 0 (by omega) (Nat.le_refl _) rfl (fun _ => ⟨by rw [Nat.sub_self]; rfl, by omega, by omega⟩) (fun _ => by omega) (fun _ => by omega) (fun _ => by omega) (fun _ => by omega)
end

