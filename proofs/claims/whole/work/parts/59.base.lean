section
/-! the first text is read; what the law begins with; rules at the head written by wip/whole/seg.py -/
def zT0 (i : Nat) : Int := zgt 32 [107, 101, 101, 112, 115, 32, 109, 101, 109, 111, 114, 121, 32, 59, 32, 116, 105, 114, 101, 115, 32, 48, 32, 59, 32, 108, 101, 97, 114, 110, 115, 32, 48, 32, 59] i
theorem zT0_35 : mtext (mkd zT0 35) (mvl zT0 35) = (true, 9, [-2], [0], [0]) := by decide +kernel
theorem zT0_40 : mtext (mkd zT0 40) (mvl zT0 40) = (true, 9, [-2], [0], [0]) := by decide +kernel
theorem g_x11_init_230 {d : Nat} {B : Nat × Nat} {Q : zQ} {c : Nat × Nat × Nat} {I : Nat → Nat → Int} {g : Nat} {x1 : Int}
    (t : (35 ≤ x1 → (zcl d 38 0 0 [zr 62, zr 44] (c, I, zRg g) (fun v h1 => zRn (zcl d) 76 B Q 272 [some (zr 0), some (zi x1)] (zva v []) h1))) ∧ (¬ (35 ≤ x1) → ((0 ≤ x1 ∧ x1 < (zvsLen 1000 : Nat)) ∧ (zcl d 37 0 0 [zr 62, zi (zvsAt 1000 x1.toNat)] (c, I, zRg g) (fun v h1 => zRn (zcl d) 76 B Q 252 [some (zr 0), some (zi x1)] (zva v []) h1))))) :
    zRn (zcl d) 76 B Q 230 [some (zr 0), some (zi x1)] [] (c, I, zRg g) :=
  zgo [21, 32, 43, 92, 105, 118, 131, 144, 157, 160, 177, 186, 204, 225, 230, 252, 272] 10 (And.intro (Nat.le_of_ble_eq_true rfl) (And.intro (by decide) (And.intro (fun u1 => And.intro rfl (Exists.intro (some 62) (And.intro rfl (And.intro rfl (Exists.intro (some 26) (And.intro rfl (And.intro (by decide) (And.intro (by decide) (Exists.intro (some 44) (And.intro rfl (Exists.intro 38 (And.intro rfl (And.intro (Nat.le_of_ble_eq_true rfl) (Exists.intro 0 (Exists.intro 0 (And.intro (Or.inl rfl) (And.intro (Or.inl rfl) (t.1 u1)))))))))))))))))) (fun u1 => And.intro rfl (Exists.intro (some 62) (And.intro rfl (And.intro (Nat.le_of_ble_eq_true rfl) (And.intro (by decide) (And.intro (t.2 u1).1 (Exists.intro 37 (And.intro rfl (And.intro (Nat.le_of_ble_eq_true rfl) (Exists.intro 0 (Exists.intro 0 (And.intro (Or.inl rfl) (And.intro (Or.inl rfl) ((t.2 u1).2)))))))))))))))))
theorem g_x11_init_252 {d : Nat} {B : Nat × Nat} {Q : zQ} {c : Nat × Nat × Nat} {I : Nat → Nat → Int} {g : Nat} {x1 s0 : Int}
    (t : zRn (zcl d) 76 B Q 230 [some (zr 0), some (zi (zwr (x1 + 1)))] [] (c, I, zRg g)) :
    zRn (zcl d) 76 B Q 252 [some (zr 0), some (zi x1)] [zi s0] (c, I, zRg g) :=
  zgo [21, 32, 43, 92, 105, 118, 131, 144, 157, 160, 177, 186, 204, 225, 230, 252, 272] 3 (t)
theorem g_x11_init_272 {d : Nat} {B : Nat × Nat} {Q : zQ} {c : Nat × Nat × Nat} {I : Nat → Nat → Int} {g : Nat} {x1 s0 : Int}
    (t : Q none (c, (z2 I 0 7 1), zRg g)) :
    zRn (zcl d) 76 B Q 272 [some (zr 0), some (zi x1)] [zi s0] (c, I, zRg g) :=
  zgo [21, 32, 43, 92, 105, 118, 131, 144, 157, 160, 177, 186, 204, 225, 230, 252, 272] 4 (And.intro rfl t)
theorem g_x12_init_134 {d : Nat} {B : Nat × Nat} {Q : zQ} {c : Nat × Nat × Nat} {I : Nat → Nat → Int} {g : Nat}
    (t : zcl d 133 0 0 [zr 67, zi 8, zi 109, zi 111, zi 114, zi 121, zi 32, zi 59, zi 32, zi 116] (c, I, zRg g) (fun v h1 => zRn (zcl d) 132 B Q 156 [some (zr 67)] (zva v []) h1)) :
    zRn (zcl d) 132 B Q 134 [some (zr 67)] [] (c, I, zRg g) :=
  zgo [134, 156, 178, 200, 222] 10 (Exists.intro 133 (And.intro rfl (And.intro (Nat.le_of_ble_eq_true rfl) (Exists.intro 0 (Exists.intro 0 (And.intro (Or.inl rfl) (And.intro (Or.inl rfl) t)))))))
theorem g_x12_init_156 {d : Nat} {B : Nat × Nat} {Q : zQ} {c : Nat × Nat × Nat} {I : Nat → Nat → Int} {g : Nat}
    (t : zcl d 133 0 0 [zr 67, zi 16, zi 105, zi 114, zi 101, zi 115, zi 32, zi 48, zi 32, zi 59] (c, I, zRg g) (fun v h1 => zRn (zcl d) 132 B Q 178 [some (zr 67)] (zva v []) h1)) :
    zRn (zcl d) 132 B Q 156 [some (zr 67)] [] (c, I, zRg g) :=
  zgo [134, 156, 178, 200, 222] 10 (Exists.intro 133 (And.intro rfl (And.intro (Nat.le_of_ble_eq_true rfl) (Exists.intro 0 (Exists.intro 0 (And.intro (Or.inl rfl) (And.intro (Or.inl rfl) t)))))))
theorem g_x12_init_178 {d : Nat} {B : Nat × Nat} {Q : zQ} {c : Nat × Nat × Nat} {I : Nat → Nat → Int} {g : Nat}
    (t : zcl d 133 0 0 [zr 67, zi 24, zi 32, zi 108, zi 101, zi 97, zi 114, zi 110, zi 115, zi 32] (c, I, zRg g) (fun v h1 => zRn (zcl d) 132 B Q 200 [some (zr 67)] (zva v []) h1)) :
    zRn (zcl d) 132 B Q 178 [some (zr 67)] [] (c, I, zRg g) :=
  zgo [134, 156, 178, 200, 222] 10 (Exists.intro 133 (And.intro rfl (And.intro (Nat.le_of_ble_eq_true rfl) (Exists.intro 0 (Exists.intro 0 (And.intro (Or.inl rfl) (And.intro (Or.inl rfl) t)))))))
theorem g_x12_init_200 {d : Nat} {B : Nat × Nat} {Q : zQ} {c : Nat × Nat × Nat} {I : Nat → Nat → Int} {g : Nat}
    (t : zcl d 133 0 0 [zr 67, zi 32, zi 48, zi 32, zi 59, zi 32, zi 32, zi 32, zi 32, zi 32] (c, I, zRg g) (fun v h1 => zRn (zcl d) 132 B Q 222 [some (zr 67)] (zva v []) h1)) :
    zRn (zcl d) 132 B Q 200 [some (zr 67)] [] (c, I, zRg g) :=
  zgo [134, 156, 178, 200, 222] 10 (Exists.intro 133 (And.intro rfl (And.intro (Nat.le_of_ble_eq_true rfl) (Exists.intro 0 (Exists.intro 0 (And.intro (Or.inl rfl) (And.intro (Or.inl rfl) t)))))))
theorem g_x12_init_222 {d : Nat} {B : Nat × Nat} {Q : zQ} {c : Nat × Nat × Nat} {I : Nat → Nat → Int} {g : Nat}
    (t : Q none (c, (z2 (z2 I 69 0 40) 67 3 1), zRg g)) :
    zRn (zcl d) 132 B Q 222 [some (zr 67)] [] (c, I, zRg g) :=
  zgo [134, 156, 178, 200, 222] 8 (And.intro rfl (Exists.intro (some 69) (And.intro rfl (And.intro rfl (And.intro (by decide) (And.intro rfl t))))))
theorem zT0_s : (List.range 35).all (fun i => decide (zvsAt 1000 i = zT0 i)) = true := by decide +kernel
theorem zT0_at {i : Nat} (h : i < 35) : zvsAt 1000 i = zT0 i := of_decide_eq_true (List.all_eq_true.mp zT0_s i (List.mem_range.mpr h))
theorem zvs35 : zvsLen 1000 = 35 := by decide +kernel
theorem zRg_o {g x j : Nat} (h : x ≠ 62) : zRg g x j = zR0 x j := by
  have e : Nat.beq x 62 = false := by
    cases q : Nat.beq x 62 with
    | true => exact absurd (Nat.eq_of_beq_eq_true q) h
    | false => rfl
  unfold zRg
  rw [e]
theorem bRck : (List.range 67).all (fun x => (List.range (zSh x).2).all (fun j => decide (zhk none bRl x j = some (zRg 44 x j)))) = true := by decide +kernel
theorem bRl_at {R : Nat → Nat → Option Nat} (x : Nat) (hx : x < 67) (j : Nat) (hj : j < (zSh x).2) : zhl none R bRl x j = zRg 44 x j :=
  zhk_at (of_decide_eq_true (List.all_eq_true.mp (List.all_eq_true.mp bRck x (List.mem_range.mpr hx)) j (List.mem_range.mpr hj)))
theorem bRcm : (List.range 14).all (fun x => (List.range (zSh (67 + x)).2).all (fun j => decide (zhk none bRm (67 + x) j = some (zR0 (67 + x) j)))) = true := by decide +kernel
theorem bRmf : (List.range 67).all (fun x => zhf bRm x) = true := by decide +kernel
theorem bRm_at {g : Nat} (x : Nat) (hx : x < 81) (j : Nat) (hj : j < (zSh x).2) : zhl none (zRg g) bRm x j = zRg g x j := by
  by_cases q : x < 67
  · rw [zhf_at (List.all_eq_true.mp bRmf x (List.mem_range.mpr q))]
  · rw [zRg_o (show x ≠ 62 by omega)]
    have e : 67 + (x - 67) = x := by omega
    have h := List.all_eq_true.mp bRcm (x - 67) (List.mem_range.mpr (by omega))
    rw [e] at h
    exact zhk_at (of_decide_eq_true (List.all_eq_true.mp h j (List.mem_range.mpr hj)))
section
variable {d : Nat} {c : Nat × Nat × Nat} {B : Nat × Nat} {Q : zQ} {I : zI} {g : Nat}
theorem x_spell (a : Nat) {x2 x3 x4 x5 x6 x7 x8 x9 : Int} (h : a + 8 ≤ 960) (H : Q none (c, z2 (z2 (z2 (z2 (z2 (z2 (z2 (z2 I 68 a x2) 68 (a + 1) x3) 68 (a + 2) x4) 68 (a + 3) x5) 68 (a + 4) x6) 68 (a + 5) x7) 68 (a + 6) x8) 68 (a + 7) x9, zRg g)) : zcl (d + 1) 133 0 0 [zr 67, zi (a : Nat), zi x2, zi x3, zi x4, zi x5, zi x6, zi x7, zi x8, zi x9] (c, I, zRg g) Q := by
  have e1 : zwr (((a : Nat) : Int) + 1) = ((a + 1 : Nat) : Int) := by rw [zwr_eq (by omega)]; omega
  have e2 : zwr (((a : Nat) : Int) + 2) = ((a + 2 : Nat) : Int) := by rw [zwr_eq (by omega)]; omega
  have e3 : zwr (((a : Nat) : Int) + 3) = ((a + 3 : Nat) : Int) := by rw [zwr_eq (by omega)]; omega
  have e4 : zwr (((a : Nat) : Int) + 4) = ((a + 4 : Nat) : Int) := by rw [zwr_eq (by omega)]; omega
  have e5 : zwr (((a : Nat) : Int) + 5) = ((a + 5 : Nat) : Int) := by rw [zwr_eq (by omega)]; omega
  have e6 : zwr (((a : Nat) : Int) + 6) = ((a + 6 : Nat) : Int) := by rw [zwr_eq (by omega)]; omega
  have e7 : zwr (((a : Nat) : Int) + 7) = ((a + 7 : Nat) : Int) := by rw [zwr_eq (by omega)]; omega
  refine zen rfl rfl (fun B Q1 hQ => g_x12_spell_0 ?_)
  rw [e1, e2, e3, e4, e5, e6, e7]
  clear e1 e2 e3 e4 e5 e6 e7
  exact ⟨by omega, by omega, by omega, by omega, by omega, by omega, by omega, by omega, hQ _ _ _ H⟩
theorem b_put {I0 : zI} (H : ∀ (J : zI) (g1 : Nat), J 62 1 = 35 → (∀ j, j < 35 → J 63 j = zT0 j) → (∀ y, y ≠ 62 → y ≠ 63 → J y = I0 y) → zcl (d + 1) 38 0 0 [zr 62, zr 44] (c, J, zRg g1) (fun v h1 => zRn (zcl (d + 1)) 76 B Q 272 [some (zr 0), some (zi 35)] (zva v []) h1)) : ∀ (n i : Nat) (I : zI) (g : Nat), i + n = 35 → I 62 1 = (i : Nat) → (∀ j, j < i → I 63 j = zT0 j) → (∀ y, y ≠ 62 → y ≠ 63 → I y = I0 y) → zRn (zcl (d + 1)) 76 B Q 230 [some (zr 0), some (zi (i : Nat))] [] (c, I, zRg g)
  | 0, i, I, g, hn, h1, h2, h3 => by
    obtain rfl : i = 35 := by omega
    exact g_x11_init_230 ⟨fun _ => H I g h1 h2 h3, fun u => absurd (by omega) u⟩
  | n + 1, i, I, g, hn, h1, h2, h3 => by
    refine g_x11_init_230 ⟨fun u => absurd u (by omega), fun _ => ⟨by rw [zvs35]; omega, k_put (by omega) (fun u => absurd (by omega) u) (fun _ => g_x11_init_252 ?_)⟩⟩
    rw [z1p i (by omega), h1, Int.toNat_natCast, zT0_at (by omega)]
    refine b_put H n (i + 1) _ g (by omega) (by rw [z2_s]; omega) (fun j hj => ?_) (fun y q1 q2 => ?_)
    · rw [z2_r (show 63 ≠ 62 by decide)]
      by_cases q : j = i
      · rw [q, z2_s]
      · rw [z2_n (Or.inr q)]
        exact h2 j (by omega)
    · rw [z2_r q1, z2_r q2]
      exact h3 y q1 q2
/-- what stands once the class is made -/
def bJ (I J : zI) : Prop := (∀ y, y ≠ 0 → ¬ (44 ≤ y ∧ y ≤ 46) → ¬ (62 ≤ y ∧ y ≤ 66) → J y = zhl 0 I bIl y) ∧ (∀ j, j ≠ 7 → J 0 j = 0) ∧ J 0 7 = 1 ∧ J 62 1 = 0 ∧ mXo J 0 ∧ mX J 0 0 = [-2] ∧ mX J 0 1 = [0] ∧ mX J 0 2 = [0]
theorem b_76 {L : Nat} {R : Nat → Nat → Option Nat} (H : ∀ (J : zI) (g1 : Nat), bJ I J → Q none ((67, 2206, L), J, zRg g1)) : zcl (d + 44) 76 66 2193 [zr 0] ((1, 13, L), z1 I 0 0, z1 R 0 none) Q := by
  refine zenN rfl rfl (fun Q1 hQ => b_class (zcl_eq (h1 := ((67, 2206, L), zhl 0 I bIl, zRg 44)) ⟨rfl, fun _ _ _ => rfl, bRl_at⟩ ?_))
  have e62 : zhl 0 I bIl 62 1 = 0 := zhk_at rfl
  refine k_put (by rw [e62]; decide) (fun u => absurd (by rw [e62]; decide) u) (fun _ => g_x11_init_252 ?_)
  rw [e62]
  refine b_put (d := d + 42) (I0 := zhl 0 I bIl) (fun J g1 a1 a2 a3 => ?_) 34 1 _ 44 rfl (by rw [z2_s]; rfl) (fun j hj => ?_) (fun y q1 q2 => by rw [z2_r q1, z2_r q2])
  · have ek : mtext (mkd (J 63) 35) (mvl (J 63) 35) = (true, 9, [-2], [0], [0]) := by rw [mkd_cg a2, mvl_cg a2]; exact zT0_35
    refine k38 (t := 0) (n := 35) (by decide) (by rw [a1]; rfl) (by decide) (fun J1 k c0 c1 c2 f1 f2 f3 f4 f5 f6 f7 => ?_) (fun J1 k f1 f2 f3 => ?_)
    · rw [ek] at f3
      cases f3
      refine g_x11_init_272 (hQ _ _ rfl (H _ _ ⟨fun y q1 q2 q3 => ?_, fun j hj => ?_, z2_s, ?_, ?_, ?_, ?_, ?_⟩))
      · rw [z2_r q1, f1 y (by omega) (by omega) (by omega) (by omega) (by omega) (by omega) (by omega)]
        exact a3 y (by omega) (by omega)
      · rw [z2_n (Or.inr hj), f1 0 (by decide) (by decide) (by decide) (by decide) (by decide) (by decide) (by decide), a3 0 (by decide) (by decide)]
        exact zhk_at rfl
      · rw [z2_r (by decide)]; exact f2
      · unfold mXo at f4 ⊢
        rw [z2_r (by decide)]
        exact f4
      · exact f5
      · exact f6
      · exact f7
    · rw [ek] at f3
      cases f3
  · obtain rfl : j = 0 := by omega
    rw [z2_r (show 63 ≠ 62 by decide)]
    exact z2_s
theorem b_132 {L : Nat} {J : zI} (H : Q none ((81, 3712, L), zhl 0 J bIz, zRg g)) : zcl (d + 2) 132 13 1461 [zr 67] ((68, 2251, L), z1 J 67 0, z1 (zRg g) 67 none) Q := by
  refine zenN rfl rfl (fun Q1 hQ => b_model (zcl_eq (h1 := ((81, 3712, L), zhl 0 J bIm, zRg g)) ⟨rfl, fun _ _ _ => rfl, bRm_at⟩ ?_))
  refine x_spell 0 (by decide) (g_x12_init_134 ?_)
  refine x_spell 8 (by decide) (g_x12_init_156 ?_)
  refine x_spell 16 (by decide) (g_x12_init_178 ?_)
  refine x_spell 24 (by decide) (g_x12_init_200 ?_)
  refine x_spell 32 (by decide) (g_x12_init_222 ?_)
  exact hQ _ _ rfl H
end
end
