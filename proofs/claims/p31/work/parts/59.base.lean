section
/-! the first text is read; what the law begins with; rules at the head written by wip/whole/seg.py -/
def zT0 (i : Nat) : Int := zgt 32 [107, 101, 101, 112, 115, 32, 109, 101, 109, 111, 114, 121, 32, 59, 32, 116, 105, 114, 101, 115, 32, 48, 32, 59, 32, 108, 101, 97, 114, 110, 115, 32, 48, 32, 59] i
theorem zT0_35 : mtext (mkd zT0 35) (mvl zT0 35) = (true, 9, [-2], [0], [0]) := by decide +kernel
theorem g_x11_init_230 {d : Nat} {B : Nat × Nat} {Q : zQ} {c : Nat × Nat × Nat} {I : Nat → Nat → Int} {g : Nat} {x1 : Int}
    (t : (35 ≤ x1 → (zcl d 38 0 0 [zr 62, zr 44] (c, I, zRg g) (fun v h1 => zRn (zcl d) 76 B Q 272 [some (zr 0), some (zi x1)] (zva v []) h1))) ∧ (¬ (35 ≤ x1) → ((0 ≤ x1 ∧ x1 < (zvsLen 1000 : Nat)) ∧ (zcl d 37 0 0 [zr 62, zi (zvsAt 1000 x1.toNat)] (c, I, zRg g) (fun v h1 => zRn (zcl d) 76 B Q 252 [some (zr 0), some (zi x1)] (zva v []) h1))))) :
    zRn (zcl d) 76 B Q 230 [some (zr 0), some (zi x1)] [] (c, I, zRg g) :=
  zgo [21, 32, 43, 92, 105, 118, 131, 144, 157, 160, 177, 186, 204, 225, 230, 252, 272] 10 (And.intro (Nat.le_of_ble_eq_true rfl) (And.intro (by decide) (And.intro (fun u1 => And.intro rfl (Exists.intro (some 62) (And.intro rfl (And.intro rfl (Exists.intro (some 26) (And.intro rfl (And.intro (by decide) (And.intro (by decide) (Exists.intro (some 44) (And.intro rfl (Exists.intro 38 (And.intro rfl (And.intro (Nat.le_of_ble_eq_true rfl) (Exists.intro 0 (Exists.intro 0 (And.intro (Or.inl rfl) (And.intro (Or.inl rfl) (t.1 u1)))))))))))))))))) (fun u1 => And.intro rfl (Exists.intro (some 62) (And.intro rfl (And.intro (Nat.le_of_ble_eq_true rfl) (And.intro (by decide) (And.intro (t.2 u1).1 (Exists.intro 37 (And.intro rfl (And.intro (Nat.le_of_ble_eq_true rfl) (Exists.intro 0 (Exists.intro 0 (And.intro (Or.inl rfl) (And.intro (Or.inl rfl) ((t.2 u1).2)))))))))))))))))
theorem g_x11_init_252 {d : Nat} {B : Nat × Nat} {Q : zQ} {c : Nat × Nat × Nat} {I : Nat → Nat → Int} {g : Nat} {x1 s0 : Int}
    (t : zRn (zcl d) 76 B Q 230 [some (zr 0), some (zi (zwr (x1 + 1)))] [] (c, I, zRg g)) :
    zRn (zcl d) 76 B Q 252 [some (zr 0), some (zi x1)] [zi s0] (c, I, zRg g) :=
  zgo [21, 32, 43, 92, 105, 118, 131, 144, 157, 160, 177, 186, 204, 225, 230, 252, 272] 3 (t)
theorem g_x11_init_272 {d : Nat} {B : Nat × Nat} {Q : zQ} {c : Nat × Nat × Nat} {I : Nat → Nat → Int} {g : Nat} {x1 s0 : Int}
    (t : Q none (c, (z2 I 0 7 1), zRg g)) :
    zRn (zcl d) 76 B Q 272 [some (zr 0), some (zi x1)] [zi s0] (c, I, zRg g) :=
  zgo [21, 32, 43, 92, 105, 118, 131, 144, 157, 160, 177, 186, 204, 225, 230, 252, 272] 4 (And.intro rfl t)
theorem zT0_s : (List.range 35).all (fun i => decide (zvsAt 1000 i = zT0 i)) = true := by decide +kernel
theorem zT0_at {i : Nat} (h : i < 35) : zvsAt 1000 i = zT0 i := of_decide_eq_true (List.all_eq_true.mp zT0_s i (List.mem_range.mpr h))
theorem zvs35 : zvsLen 1000 = 35 := by decide +kernel
theorem zRg_o {g x j : Nat} (h : x ≠ 62) : zRg g x j = zR0 x j := by
  have e : Nat.beq x 62 = false := by
    cases q : Nat.beq x 62 with
    | true => exact absurd (Nat.eq_of_beq_eq_true q) h
    | false => rfl
  unfold zRg
  rw [e]
theorem bRck : (List.range 67).all (fun x => (List.range (zSh x).2).all (fun j => decide (zhk none bRl x j = some (zRg 44 x j)))) = true := by decide +kernel
theorem bRl_at {R : Nat → Nat → Option Nat} (x : Nat) (hx : x < 67) (j : Nat) (hj : j < (zSh x).2) : zhl none R bRl x j = zRg 44 x j :=
  zhk_at (of_decide_eq_true (List.all_eq_true.mp (List.all_eq_true.mp bRck x (List.mem_range.mpr hx)) j (List.mem_range.mpr hj)))
section
variable {d : Nat} {c : Nat × Nat × Nat} {B : Nat × Nat} {Q : zQ} {I : zI} {g : Nat}
theorem b_put {I0 : zI} (H : ∀ (J : zI) (g1 : Nat), J 62 1 = 35 → (∀ j, j < 35 → J 63 j = zT0 j) → (∀ y, y ≠ 62 → y ≠ 63 → J y = I0 y) → zcl (d + 1) 38 0 0 [zr 62, zr 44] (c, J, zRg g1) (fun v h1 => zRn (zcl (d + 1)) 76 B Q 272 [some (zr 0), some (zi 35)] (zva v []) h1)) : ∀ (n i : Nat) (I : zI) (g : Nat), i + n = 35 → I 62 1 = (i : Nat) → (∀ j, j < i → I 63 j = zT0 j) → (∀ y, y ≠ 62 → y ≠ 63 → I y = I0 y) → zRn (zcl (d + 1)) 76 B Q 230 [some (zr 0), some (zi (i : Nat))] [] (c, I, zRg g)
  | 0, i, I, g, hn, h1, h2, h3 => by
    obtain rfl : i = 35 := by omega
    exact g_x11_init_230 ⟨fun _ => H I g h1 h2 h3, fun u => absurd (by omega) u⟩
  | n + 1, i, I, g, hn, h1, h2, h3 => by
    refine g_x11_init_230 ⟨fun u => absurd u (by omega), fun _ => ⟨by rw [zvs35]; omega, k_put (by omega) (fun u => absurd (by omega) u) (fun _ => g_x11_init_252 ?_)⟩⟩
    rw [z1p i (by omega), h1, Int.toNat_natCast, zT0_at (by omega)]
    refine b_put H n (i + 1) _ g (by omega) (by rw [z2_s]; omega) (fun j hj => ?_) (fun y q1 q2 => ?_)
    · rw [z2_r (show 63 ≠ 62 by decide)]
      by_cases q : j = i
      · rw [q, z2_s]
      · rw [z2_n (Or.inr q)]
        exact h2 j (by omega)
    · rw [z2_r q1, z2_r q2]
      exact h3 y q1 q2
/-- what stands once the class is made -/
def bJ (I J : zI) : Prop := (∀ y, y ≠ 0 → ¬ (44 ≤ y ∧ y ≤ 46) → ¬ (62 ≤ y ∧ y ≤ 66) → J y = zhl 0 I bIl y) ∧ (∀ j, j ≠ 7 → J 0 j = 0) ∧ J 0 7 = 1 ∧ J 62 1 = 0 ∧ mXo J 0 ∧ mX J 0 0 = [-2] ∧ mX J 0 1 = [0] ∧ mX J 0 2 = [0]
theorem b_76 {L : Nat} {R : Nat → Nat → Option Nat} (H : ∀ (J : zI) (g1 : Nat), bJ I J → Q none ((67, 2206, L), J, zRg g1)) : zcl (d + 44) 76 66 2193 [zr 0] ((1, 13, L), z1 I 0 0, z1 R 0 none) Q := by
  refine zenN rfl rfl (fun Q1 hQ => b_class (zcl_eq (h1 := ((67, 2206, L), zhl 0 I bIl, zRg 44)) ⟨rfl, fun _ _ _ => rfl, bRl_at⟩ ?_))
  have e62 : zhl 0 I bIl 62 1 = 0 := zhk_at rfl
  refine k_put (by rw [e62]; decide) (fun u => absurd (by rw [e62]; decide) u) (fun _ => g_x11_init_252 ?_)
  rw [e62]
  refine b_put (d := d + 42) (I0 := zhl 0 I bIl) (fun J g1 a1 a2 a3 => ?_) 34 1 _ 44 rfl (by rw [z2_s]; rfl) (fun j hj => ?_) (fun y q1 q2 => by rw [z2_r q1, z2_r q2])
  · have ek : mtext (mkd (J 63) 35) (mvl (J 63) 35) = (true, 9, [-2], [0], [0]) := by rw [mkd_cg a2, mvl_cg a2]; exact zT0_35
    refine k38 (t := 0) (n := 35) (by decide) (by rw [a1]; rfl) (by decide) (fun J1 k c0 c1 c2 f1 f2 f3 f4 f5 f6 f7 => ?_) (fun J1 k f1 f2 f3 => ?_)
    · rw [ek] at f3
      cases f3
      refine g_x11_init_272 (hQ _ _ rfl (H _ _ ⟨fun y q1 q2 q3 => ?_, fun j hj => ?_, z2_s, ?_, ?_, ?_, ?_, ?_⟩))
      · rw [z2_r q1, f1 y (by omega) (by omega) (by omega) (by omega) (by omega) (by omega) (by omega)]
        exact a3 y (by omega) (by omega)
      · rw [z2_n (Or.inr hj), f1 0 (by decide) (by decide) (by decide) (by decide) (by decide) (by decide) (by decide), a3 0 (by decide) (by decide)]
        exact zhk_at rfl
      · rw [z2_r (by decide)]; exact f2
      · unfold mXo at f4 ⊢
        rw [z2_r (by decide)]
        exact f4
      · exact f5
      · exact f6
      · exact f7
    · rw [ek] at f3
      cases f3
  · obtain rfl : j = 0 := by omega
    rw [z2_r (show 63 ≠ 62 by decide)]
    exact z2_s
end
end
