/-! rules of the stretches of the reference, written by wip/whole/seg.py -/
theorem g_x12_in_0 {d : Nat} {B : Nat × Nat} {Q : zQ} {c : Nat × Nat × Nat} {I : Nat → Nat → Int} {g : Nat} {x0 x2 x4 : Int}
    (t : (zcmp x0 x2 < 0 → (Q (some (zi 0)) (c, I, zRg g))) ∧ (¬ (zcmp x0 x2 < 0) → ((0 < zcmp x0 x4 → (Q (some (zi 0)) (c, I, zRg g))) ∧ (¬ (0 < zcmp x0 x4) → (Q (some (zi 1)) (c, I, zRg g)))))) :
    zRn (zcl d) 130 B Q 0 [some (zl x0), none, some (zl x2), none, some (zl x4), none] [] (c, I, zRg g) :=
  zgo [] 10 (And.intro (fun u373 => (t.1 u373)) (fun u373 => And.intro (fun u374 => ((t.2 u373).1 u374)) (fun u374 => ((t.2 u373).2 u374))))
theorem g_x12_within_0 {d : Nat} {B : Nat × Nat} {Q : zQ} {c : Nat × Nat × Nat} {I : Nat → Nat → Int} {g : Nat} {x0 x1 x2 : Int}
    (t : (x1 ≤ x0 → ((x0 ≤ x2 → (Q (some (zi x0)) (c, I, zRg g))) ∧ (¬ (x0 ≤ x2) → (Q (some (zi x2)) (c, I, zRg g))))) ∧ (¬ (x1 ≤ x0) → (Q (some (zi x1)) (c, I, zRg g)))) :
    zRn (zcl d) 131 B Q 0 [some (zi x0), some (zi x1), some (zi x2)] [] (c, I, zRg g) :=
  zgo [] 8 (And.intro (fun u375 => And.intro (fun u376 => ((t.1 u375).1 u376)) (fun u376 => ((t.1 u375).2 u376))) (fun u375 => (t.2 u375)))
theorem g_x12_spell_0 {d : Nat} {B : Nat × Nat} {Q : zQ} {c : Nat × Nat × Nat} {I : Nat → Nat → Int} {g : Nat} {x1 x2 x3 x4 x5 x6 x7 x8 x9 : Int}
    (t : (0 ≤ x1 ∧ x1 < 960) ∧ ((0 ≤ zwr (x1 + 1) ∧ zwr (x1 + 1) < 960) ∧ ((0 ≤ zwr (x1 + 2) ∧ zwr (x1 + 2) < 960) ∧ ((0 ≤ zwr (x1 + 3) ∧ zwr (x1 + 3) < 960) ∧ ((0 ≤ zwr (x1 + 4) ∧ zwr (x1 + 4) < 960) ∧ ((0 ≤ zwr (x1 + 5) ∧ zwr (x1 + 5) < 960) ∧ ((0 ≤ zwr (x1 + 6) ∧ zwr (x1 + 6) < 960) ∧ ((0 ≤ zwr (x1 + 7) ∧ zwr (x1 + 7) < 960) ∧ (Q none (c, (z2 (z2 (z2 (z2 (z2 (z2 (z2 (z2 I 68 x1.toNat x2) 68 (zwr (x1 + 1)).toNat x3) 68 (zwr (x1 + 2)).toNat x4) 68 (zwr (x1 + 3)).toNat x5) 68 (zwr (x1 + 4)).toNat x6) 68 (zwr (x1 + 5)).toNat x7) 68 (zwr (x1 + 6)).toNat x8) 68 (zwr (x1 + 7)).toNat x9), zRg g)))))))))) :
    zRn (zcl d) 133 B Q 0 [some (zr 67), some (zi x1), some (zi x2), some (zi x3), some (zi x4), some (zi x5), some (zi x6), some (zi x7), some (zi x8), some (zi x9)] [] (c, I, zRg g) :=
  zgo [] 54 (And.intro rfl (Exists.intro (some 68) (And.intro rfl (And.intro rfl (And.intro t.1 (And.intro rfl (Exists.intro (some 68) (And.intro rfl (And.intro rfl (And.intro t.2.1 (And.intro rfl (Exists.intro (some 68) (And.intro rfl (And.intro rfl (And.intro t.2.2.1 (And.intro rfl (Exists.intro (some 68) (And.intro rfl (And.intro rfl (And.intro t.2.2.2.1 (And.intro rfl (Exists.intro (some 68) (And.intro rfl (And.intro rfl (And.intro t.2.2.2.2.1 (And.intro rfl (Exists.intro (some 68) (And.intro rfl (And.intro rfl (And.intro t.2.2.2.2.2.1 (And.intro rfl (Exists.intro (some 68) (And.intro rfl (And.intro rfl (And.intro t.2.2.2.2.2.2.1 (And.intro rfl (Exists.intro (some 68) (And.intro rfl (And.intro rfl (And.intro t.2.2.2.2.2.2.2.1 t.2.2.2.2.2.2.2.2))))))))))))))))))))))))))))))))))))))))
theorem g_x12_isOne_0 {d : Nat} {B : Nat × Nat} {Q : zQ} {c : Nat × Nat × Nat} {I : Nat → Nat → Int} {g : Nat} {x1 : Int}
    (t : zcl d 130 0 0 [zl x1, zl 0, zl (zwr ((I 67 9) - 1))] (c, I, zRg g) (fun v h1 => zRn (zcl d) 134 B Q 13 [some (zr 67), some (zi x1)] (zva v []) h1)) :
    zRn (zcl d) 134 B Q 0 [some (zr 67), some (zi x1)] [] (c, I, zRg g) :=
  zgo [13] 8 (And.intro rfl (Exists.intro 0 (Exists.intro 0 (And.intro (Or.inl rfl) (And.intro (Or.inl rfl) t)))))
theorem g_x12_isOne_13 {d : Nat} {B : Nat × Nat} {Q : zQ} {c : Nat × Nat × Nat} {I : Nat → Nat → Int} {g : Nat} {x1 s0 : Int}
    (t : Q (some (zi s0)) (c, I, zRg g)) :
    zRn (zcl d) 134 B Q 13 [some (zr 67), some (zi x1)] [zi s0] (c, I, zRg g) :=
  zgo [13] 0 (t)
theorem g_x12_isOf_0 {d : Nat} {B : Nat × Nat} {Q : zQ} {c : Nat × Nat × Nat} {I : Nat → Nat → Int} {g : Nat} {x1 x2 : Int}
    (t : (x1 = 0 → (Q (some (zi 1)) (c, I, zRg g))) ∧ (¬ (x1 = 0) → ((6 < x1 → (Q (some (zi 1)) (c, I, zRg g))) ∧ (¬ (6 < x1) → ((x1 ≠ 6 → (zcl d 134 0 0 [zr 67, zi x2] (c, I, zRg g) (fun v h1 => zRn (zcl d) 135 B Q 40 [some (zr 67), some (zi x1), some (zi x2)] (zva v []) h1))) ∧ (¬ (x1 ≠ 6) → (zcl d 130 0 0 [zl x2, zl 0, zl (zwr ((I 67 11) - 1))] (c, I, zRg g) (fun v h1 => zRn (zcl d) 135 B Q 29 [some (zr 67), some (zi x1), some (zi x2)] (zva v []) h1)))))))) :
    zRn (zcl d) 135 B Q 0 [some (zr 67), some (zi x1), some (zi x2)] [] (c, I, zRg g) :=
  zgo [29, 40] 16 (And.intro (fun u377 => (t.1 u377)) (fun u377 => And.intro (fun u378 => ((t.2 u377).1 u378)) (fun u378 => And.intro (fun u379 => Exists.intro 134 (And.intro rfl (Exists.intro 0 (Exists.intro 0 (And.intro (Or.inl rfl) (And.intro (Or.inl rfl) (((t.2 u377).2 u378).1 u379))))))) (fun u379 => And.intro rfl (Exists.intro 0 (Exists.intro 0 (And.intro (Or.inl rfl) (And.intro (Or.inl rfl) (((t.2 u377).2 u378).2 u379)))))))))
theorem g_x12_isOf_29 {d : Nat} {B : Nat × Nat} {Q : zQ} {c : Nat × Nat × Nat} {I : Nat → Nat → Int} {g : Nat} {x1 x2 s0 : Int}
    (t : (s0 = 0 → (Q (some (zi 0)) (c, I, zRg g))) ∧ (¬ (s0 = 0) → (Q (some (zi 1)) (c, I, zRg g)))) :
    zRn (zcl d) 135 B Q 29 [some (zr 67), some (zi x1), some (zi x2)] [zi s0] (c, I, zRg g) :=
  zgo [29, 40] 4 (And.intro (fun u381 => (t.1 u381)) (fun u381 => (t.2 u381)))
theorem g_x12_isOf_40 {d : Nat} {B : Nat × Nat} {Q : zQ} {c : Nat × Nat × Nat} {I : Nat → Nat → Int} {g : Nat} {x1 x2 s0 : Int}
    (t : (s0 = 0 → (Q (some (zi 0)) (c, I, zRg g))) ∧ (¬ (s0 = 0) → (Q (some (zi 1)) (c, I, zRg g)))) :
    zRn (zcl d) 135 B Q 40 [some (zr 67), some (zi x1), some (zi x2)] [zi s0] (c, I, zRg g) :=
  zgo [29, 40] 3 (And.intro (fun u380 => (t.1 u380)) (fun u380 => (t.2 u380)))
theorem g_x12_mostOf_0 {d : Nat} {B : Nat × Nat} {Q : zQ} {c : Nat × Nat × Nat} {I : Nat → Nat → Int} {g : Nat} {x0 : Int}
    (t : (x0 ≠ 0 → ((x0 ≠ 1 → ((x0 ≠ 2 → (Q (some (zi 99)) (c, I, zRg g))) ∧ (¬ (x0 ≠ 2) → (Q (some (zi 1023)) (c, I, zRg g))))) ∧ (¬ (x0 ≠ 1) → (Q (some (zi 9)) (c, I, zRg g))))) ∧ (¬ (x0 ≠ 0) → (Q (some (zi 999)) (c, I, zRg g)))) :
    zRn (zcl d) 136 B Q 0 [some (zi x0)] [] (c, I, zRg g) :=
  zgo [] 10 (And.intro (fun u382 => And.intro (fun u383 => And.intro (fun u384 => (((t.1 u382).1 u383).1 u384)) (fun u384 => (((t.1 u382).1 u383).2 u384))) (fun u383 => ((t.1 u382).2 u383))) (fun u382 => (t.2 u382)))
theorem g_x12_set_0 {d : Nat} {B : Nat × Nat} {Q : zQ} {c : Nat × Nat × Nat} {I : Nat → Nat → Int} {g : Nat} {x1 x2 x3 : Int}
    (t : zcl d 130 0 0 [zl x1, zl 0, zl 4] (c, I, zRg g) (fun v h1 => zRn (zcl d) 137 B Q 9 [some (zr 67), some (zi x1), some (zi x2), some (zi x3), none] (zva v []) h1)) :
    zRn (zcl d) 137 B Q 0 [some (zr 67), some (zi x1), some (zi x2), some (zi x3), none] [] (c, I, zRg g) :=
  zgo [9, 18, 28, 32, 44, 53] 4 (Exists.intro 0 (Exists.intro 0 (And.intro (Or.inl rfl) (And.intro (Or.inl rfl) t))))
theorem g_x12_set_9 {d : Nat} {B : Nat × Nat} {Q : zQ} {c : Nat × Nat × Nat} {I : Nat → Nat → Int} {g : Nat} {x1 x2 x3 s0 : Int}
    (t : (s0 = 0 → (Q (some (zi (-2))) (c, I, zRg g))) ∧ (¬ (s0 = 0) → (zcl d 135 0 0 [zr 67, zi x1, zi x2] (c, I, zRg g) (fun v h1 => zRn (zcl d) 137 B Q 18 [some (zr 67), some (zi x1), some (zi x2), some (zi x3), none] (zva v []) h1)))) :
    zRn (zcl d) 137 B Q 9 [some (zr 67), some (zi x1), some (zi x2), some (zi x3), none] [zi s0] (c, I, zRg g) :=
  zgo [9, 18, 28, 32, 44, 53] 4 (And.intro (fun u385 => (t.1 u385)) (fun u385 => Exists.intro 135 (And.intro rfl (Exists.intro 0 (Exists.intro 0 (And.intro (Or.inl rfl) (And.intro (Or.inl rfl) (t.2 u385))))))))
theorem g_x12_set_18 {d : Nat} {B : Nat × Nat} {Q : zQ} {c : Nat × Nat × Nat} {I : Nat → Nat → Int} {g : Nat} {x1 x2 x3 s0 : Int}
    (t : (s0 = 0 → (Q (some (zi (-2))) (c, I, zRg g))) ∧ (¬ (s0 = 0) → (zcl d 136 0 0 [zi x1] (c, I, zRg g) (fun v h1 => zRn (zcl d) 137 B Q 28 [some (zr 67), some (zi x1), some (zi x2), some (zi x3), none] (zva v [zl 0, zl x3]) h1)))) :
    zRn (zcl d) 137 B Q 18 [some (zr 67), some (zi x1), some (zi x2), some (zi x3), none] [zi s0] (c, I, zRg g) :=
  zgo [9, 18, 28, 32, 44, 53] 5 (And.intro (fun u386 => (t.1 u386)) (fun u386 => Exists.intro 0 (Exists.intro 0 (And.intro (Or.inl rfl) (And.intro (Or.inl rfl) (t.2 u386))))))
theorem g_x12_set_28 {d : Nat} {B : Nat × Nat} {Q : zQ} {c : Nat × Nat × Nat} {I : Nat → Nat → Int} {g : Nat} {x1 x2 x3 s0 s1 s2 : Int}
    (t : zcl d 130 0 0 [zl s2, zl s1, zl s0] (c, I, zRg g) (fun v h1 => zRn (zcl d) 137 B Q 32 [some (zr 67), some (zi x1), some (zi x2), some (zi x3), none] (zva v []) h1)) :
    zRn (zcl d) 137 B Q 28 [some (zr 67), some (zi x1), some (zi x2), some (zi x3), none] [zi s0, zl s1, zl s2] (c, I, zRg g) :=
  zgo [9, 18, 28, 32, 44, 53] 1 (Exists.intro 0 (Exists.intro 0 (And.intro (Or.inl rfl) (And.intro (Or.inl rfl) t))))
theorem g_x12_set_32 {d : Nat} {B : Nat × Nat} {Q : zQ} {c : Nat × Nat × Nat} {I : Nat → Nat → Int} {g : Nat} {x1 x2 x3 s0 : Int}
    (t : (s0 ≠ 0 → (zcl d 140 0 0 [zr 67, zi x2, zi x1] (c, I, zRg g) (fun v h1 => zRn (zcl d) 137 B Q 44 [some (zr 67), some (zi x1), some (zi x2), some (zi x3), none] (zva v []) h1))) ∧ (¬ (s0 ≠ 0) → (Q (some (zi (-2))) (c, I, zRg g)))) :
    zRn (zcl d) 137 B Q 32 [some (zr 67), some (zi x1), some (zi x2), some (zi x3), none] [zi s0] (c, I, zRg g) :=
  zgo [9, 18, 28, 32, 44, 53] 4 (And.intro (fun u387 => Exists.intro 140 (And.intro rfl (Exists.intro 0 (Exists.intro 0 (And.intro (Or.inl rfl) (And.intro (Or.inl rfl) (t.1 u387))))))) (fun u387 => (t.2 u387)))
theorem g_x12_set_44 {d : Nat} {B : Nat × Nat} {Q : zQ} {c : Nat × Nat × Nat} {I : Nat → Nat → Int} {g : Nat} {x1 x2 x3 s0 : Int}
    (t : zcl d 138 0 0 [zr 67, zi x1, zi x2, zi x3] (c, I, zRg g) (fun v h1 => zRn (zcl d) 137 B Q 53 [some (zr 67), some (zi x1), some (zi x2), some (zi x3), some (zi s0)] (zva v []) h1)) :
    zRn (zcl d) 137 B Q 44 [some (zr 67), some (zi x1), some (zi x2), some (zi x3), none] [zi s0] (c, I, zRg g) :=
  zgo [9, 18, 28, 32, 44, 53] 5 (Exists.intro 138 (And.intro rfl (Exists.intro 0 (Exists.intro 0 (And.intro (Or.inl rfl) (And.intro (Or.inl rfl) t))))))
theorem g_x12_set_53 {d : Nat} {B : Nat × Nat} {Q : zQ} {c : Nat × Nat × Nat} {I : Nat → Nat → Int} {g : Nat} {x1 x2 x3 x4 : Int}
    (t : Q (some (zi x4)) (c, I, zRg g)) :
    zRn (zcl d) 137 B Q 53 [some (zr 67), some (zi x1), some (zi x2), some (zi x3), some (zi x4)] [] (c, I, zRg g) :=
  zgo [9, 18, 28, 32, 44, 53] 1 (t)
theorem g_x12_lays_0 {d : Nat} {B : Nat × Nat} {Q : zQ} {c : Nat × Nat × Nat} {I : Nat → Nat → Int} {g : Nat} {x1 x2 x3 : Int}
    (t : (x1 ≠ 0 → ((6 ≤ x1 → (Q none (c, (z2 I 67 4 x3), zRg g))) ∧ (¬ (6 ≤ x1) → ((0 ≤ zwr ((zwr ((zwr (5 * x2)) + x1)) - 1) ∧ zwr ((zwr ((zwr (5 * x2)) + x1)) - 1) < 25) ∧ (Q none (c, (z2 I 71 (zwr ((zwr ((zwr (5 * x2)) + x1)) - 1)).toNat x3), zRg g)))))) ∧ (¬ (x1 ≠ 0) → (Q none (c, (z2 I 67 7 x3), zRg g)))) :
    zRn (zcl d) 138 B Q 0 [some (zr 67), some (zi x1), some (zi x2), some (zi x3)] [] (c, I, zRg g) :=
  zgo [] 17 (And.intro (fun u388 => And.intro (fun u389 => And.intro rfl ((t.1 u388).1 u389)) (fun u389 => And.intro rfl (Exists.intro (some 71) (And.intro rfl (And.intro rfl (And.intro ((t.1 u388).2 u389).1 (((t.1 u388).2 u389).2))))))) (fun u388 => And.intro rfl (t.2 u388)))
theorem g_x12_person_0 {d : Nat} {B : Nat × Nat} {Q : zQ} {c : Nat × Nat × Nat} {I : Nat → Nat → Int} {g : Nat} {x1 x2 x3 x4 : Int}
    (t : zcl d 130 0 0 [zl x1, zl 0, zl 5] (c, I, zRg g) (fun v h1 => zRn (zcl d) 139 B Q 9 [some (zr 67), some (zi x1), some (zi x2), some (zi x3), some (zi x4), none] (zva v []) h1)) :
    zRn (zcl d) 139 B Q 0 [some (zr 67), some (zi x1), some (zi x2), some (zi x3), some (zi x4), none] [] (c, I, zRg g) :=
  zgo [9, 21, 33, 46] 4 (Exists.intro 0 (Exists.intro 0 (And.intro (Or.inl rfl) (And.intro (Or.inl rfl) t))))
theorem g_x12_person_9 {d : Nat} {B : Nat × Nat} {Q : zQ} {c : Nat × Nat × Nat} {I : Nat → Nat → Int} {g : Nat} {x1 x2 x3 x4 s0 : Int}
    (t : (s0 = 0 → (Q (some (zi (-2))) (c, I, zRg g))) ∧ (¬ (s0 = 0) → (zcl d 130 0 0 [zl x2, zl 0, zl 9] (c, I, zRg g) (fun v h1 => zRn (zcl d) 139 B Q 21 [some (zr 67), some (zi x1), some (zi x2), some (zi x3), some (zi x4), none] (zva v []) h1)))) :
    zRn (zcl d) 139 B Q 9 [some (zr 67), some (zi x1), some (zi x2), some (zi x3), some (zi x4), none] [zi s0] (c, I, zRg g) :=
  zgo [9, 21, 33, 46] 5 (And.intro (fun u390 => (t.1 u390)) (fun u390 => Exists.intro 0 (Exists.intro 0 (And.intro (Or.inl rfl) (And.intro (Or.inl rfl) (t.2 u390))))))
theorem g_x12_person_21 {d : Nat} {B : Nat × Nat} {Q : zQ} {c : Nat × Nat × Nat} {I : Nat → Nat → Int} {g : Nat} {x1 x2 x3 x4 s0 : Int}
    (t : (s0 = 0 → (Q (some (zi (-2))) (c, I, zRg g))) ∧ (¬ (s0 = 0) → (zcl d 130 0 0 [zl x3, zl 0, zl 1023] (c, I, zRg g) (fun v h1 => zRn (zcl d) 139 B Q 33 [some (zr 67), some (zi x1), some (zi x2), some (zi x3), some (zi x4), none] (zva v []) h1)))) :
    zRn (zcl d) 139 B Q 21 [some (zr 67), some (zi x1), some (zi x2), some (zi x3), some (zi x4), none] [zi s0] (c, I, zRg g) :=
  zgo [9, 21, 33, 46] 5 (And.intro (fun u391 => (t.1 u391)) (fun u391 => Exists.intro 0 (Exists.intro 0 (And.intro (Or.inl rfl) (And.intro (Or.inl rfl) (t.2 u391))))))
theorem g_x12_person_33 {d : Nat} {B : Nat × Nat} {Q : zQ} {c : Nat × Nat × Nat} {I : Nat → Nat → Int} {g : Nat} {x1 x2 x3 x4 s0 : Int}
    (t : (s0 = 0 → (Q (some (zi (-2))) (c, I, zRg g))) ∧ (¬ (s0 = 0) → (zcl d 130 0 0 [zl x4, zl 0, zl 99] (c, I, zRg g) (fun v h1 => zRn (zcl d) 139 B Q 46 [some (zr 67), some (zi x1), some (zi x2), some (zi x3), some (zi x4), none] (zva v []) h1)))) :
    zRn (zcl d) 139 B Q 33 [some (zr 67), some (zi x1), some (zi x2), some (zi x3), some (zi x4), none] [zi s0] (c, I, zRg g) :=
  zgo [9, 21, 33, 46] 5 (And.intro (fun u392 => (t.1 u392)) (fun u392 => Exists.intro 0 (Exists.intro 0 (And.intro (Or.inl rfl) (And.intro (Or.inl rfl) (t.2 u392))))))
theorem g_x12_person_46 {d : Nat} {B : Nat × Nat} {Q : zQ} {c : Nat × Nat × Nat} {I : Nat → Nat → Int} {g : Nat} {x1 x2 x3 x4 s0 : Int}
    (t : (s0 ≠ 0 → ((I 67 9 ≠ 5 → ((0 ≤ zwr (5 * (I 67 9)) ∧ zwr (5 * (I 67 9)) < 25) ∧ ((0 ≤ zwr ((zwr (5 * (I 67 9))) + 1) ∧ zwr ((zwr (5 * (I 67 9))) + 1) < 25) ∧ ((0 ≤ zwr ((zwr (5 * (I 67 9))) + 2) ∧ zwr ((zwr (5 * (I 67 9))) + 2) < 25) ∧ ((0 ≤ zwr ((zwr (5 * (I 67 9))) + 3) ∧ zwr ((zwr (5 * (I 67 9))) + 3) < 25) ∧ ((0 ≤ zwr ((zwr (5 * (I 67 9))) + 4) ∧ zwr ((zwr (5 * (I 67 9))) + 4) < 25) ∧ (Q (some (zi (zwr ((zwr (((z2 (z2 (z2 (z2 (z2 I 71 (zwr (5 * (I 67 9))).toNat x2) 71 (zwr ((zwr (5 * (I 67 9))) + 1)).toNat x3) 71 (zwr ((zwr (5 * (I 67 9))) + 2)).toNat x4) 71 (zwr ((zwr (5 * (I 67 9))) + 3)).toNat 0) 71 (zwr ((zwr (5 * (I 67 9))) + 4)).toNat x1) 67 9) + 1)) - 1)))) (c, (z2 (z2 (z2 (z2 (z2 (z2 I 71 (zwr (5 * (I 67 9))).toNat x2) 71 (zwr ((zwr (5 * (I 67 9))) + 1)).toNat x3) 71 (zwr ((zwr (5 * (I 67 9))) + 2)).toNat x4) 71 (zwr ((zwr (5 * (I 67 9))) + 3)).toNat 0) 71 (zwr ((zwr (5 * (I 67 9))) + 4)).toNat x1) 67 9 (zwr (((z2 (z2 (z2 (z2 (z2 I 71 (zwr (5 * (I 67 9))).toNat x2) 71 (zwr ((zwr (5 * (I 67 9))) + 1)).toNat x3) 71 (zwr ((zwr (5 * (I 67 9))) + 2)).toNat x4) 71 (zwr ((zwr (5 * (I 67 9))) + 3)).toNat 0) 71 (zwr ((zwr (5 * (I 67 9))) + 4)).toNat x1) 67 9) + 1))), zRg g)))))))) ∧ (¬ (I 67 9 ≠ 5) → (Q (some (zi (-4))) (c, I, zRg g))))) ∧ (¬ (s0 ≠ 0) → (Q (some (zi (-2))) (c, I, zRg g)))) :
    zRn (zcl d) 139 B Q 46 [some (zr 67), some (zi x1), some (zi x2), some (zi x3), some (zi x4), none] [zi s0] (c, I, zRg g) :=
  zgo [9, 21, 33, 46] 53 (And.intro (fun u393 => And.intro rfl (And.intro (fun u394 => And.intro rfl (And.intro rfl (Exists.intro (some 71) (And.intro rfl (And.intro rfl (And.intro ((t.1 u393).1 u394).1 (And.intro rfl (Exists.intro (some 71) (And.intro rfl (And.intro rfl (And.intro ((t.1 u393).1 u394).2.1 (And.intro rfl (Exists.intro (some 71) (And.intro rfl (And.intro rfl (And.intro ((t.1 u393).1 u394).2.2.1 (And.intro rfl (Exists.intro (some 71) (And.intro rfl (And.intro rfl (And.intro ((t.1 u393).1 u394).2.2.2.1 (And.intro rfl (Exists.intro (some 71) (And.intro rfl (And.intro rfl (And.intro ((t.1 u393).1 u394).2.2.2.2.1 (And.intro rfl (And.intro rfl (And.intro rfl (((t.1 u393).1 u394).2.2.2.2.2)))))))))))))))))))))))))))))) (fun u394 => ((t.1 u393).2 u394)))) (fun u393 => (t.2 u393)))
theorem g_x12_told_0 {d : Nat} {B : Nat × Nat} {Q : zQ} {c : Nat × Nat × Nat} {I : Nat → Nat → Int} {g : Nat} {x1 x2 : Int}
    (t : zcl d 130 0 0 [zl x2, zl 0, zl 8] (c, I, zRg g) (fun v h1 => zRn (zcl d) 140 B Q 9 [some (zr 67), some (zi x1), some (zi x2)] (zva v []) h1)) :
    zRn (zcl d) 140 B Q 0 [some (zr 67), some (zi x1), some (zi x2)] [] (c, I, zRg g) :=
  zgo [9, 18] 4 (Exists.intro 0 (Exists.intro 0 (And.intro (Or.inl rfl) (And.intro (Or.inl rfl) t))))
theorem g_x12_told_9 {d : Nat} {B : Nat × Nat} {Q : zQ} {c : Nat × Nat × Nat} {I : Nat → Nat → Int} {g : Nat} {x1 x2 s0 : Int}
    (t : (s0 = 0 → (Q (some (zi (-1000))) (c, I, zRg g))) ∧ (¬ (s0 = 0) → (zcl d 135 0 0 [zr 67, zi x2, zi x1] (c, I, zRg g) (fun v h1 => zRn (zcl d) 140 B Q 18 [some (zr 67), some (zi x1), some (zi x2)] (zva v []) h1)))) :
    zRn (zcl d) 140 B Q 9 [some (zr 67), some (zi x1), some (zi x2)] [zi s0] (c, I, zRg g) :=
  zgo [9, 18] 4 (And.intro (fun u395 => (t.1 u395)) (fun u395 => Exists.intro 135 (And.intro rfl (Exists.intro 0 (Exists.intro 0 (And.intro (Or.inl rfl) (And.intro (Or.inl rfl) (t.2 u395))))))))
theorem g_x12_told_18 {d : Nat} {B : Nat × Nat} {Q : zQ} {c : Nat × Nat × Nat} {I : Nat → Nat → Int} {g : Nat} {x1 x2 s0 : Int}
    (t : (s0 ≠ 0 → ((6 ≤ x2 → ((x2 ≠ 6 → ((x2 ≠ 7 → (Q (some (zi (I 67 12))) (c, I, zRg g))) ∧ (¬ (x2 ≠ 7) → (Q (some (zi (I 67 11))) (c, I, zRg g))))) ∧ (¬ (x2 ≠ 6) → ((0 ≤ x1 ∧ x1 < 8) ∧ (Q (some (zi (I 72 x1.toNat))) (c, I, zRg g)))))) ∧ (¬ (6 ≤ x2) → ((x2 ≠ 0 → ((0 ≤ zwr ((zwr ((zwr (5 * x1)) + x2)) - 1) ∧ zwr ((zwr ((zwr (5 * x1)) + x2)) - 1) < 25) ∧ (Q (some (zi (I 71 ((zwr ((zwr ((zwr (5 * x1)) + x2)) - 1)).toNat)))) (c, I, zRg g)))) ∧ (¬ (x2 ≠ 0) → (Q (some (zi (I 67 7))) (c, I, zRg g))))))) ∧ (¬ (s0 ≠ 0) → (Q (some (zi (-1000))) (c, I, zRg g)))) :
    zRn (zcl d) 140 B Q 18 [some (zr 67), some (zi x1), some (zi x2)] [zi s0] (c, I, zRg g) :=
  zgo [9, 18] 16 (And.intro (fun u396 => And.intro (fun u397 => And.intro (fun u398 => And.intro (fun u399 => And.intro rfl ((((t.1 u396).1 u397).1 u398).1 u399)) (fun u399 => And.intro rfl ((((t.1 u396).1 u397).1 u398).2 u399))) (fun u398 => And.intro rfl (Exists.intro (some 72) (And.intro rfl (And.intro rfl (And.intro (((t.1 u396).1 u397).2 u398).1 ((((t.1 u396).1 u397).2 u398).2))))))) (fun u397 => And.intro (fun u400 => And.intro rfl (Exists.intro (some 71) (And.intro rfl (And.intro rfl (And.intro (((t.1 u396).2 u397).1 u400).1 ((((t.1 u396).2 u397).1 u400).2)))))) (fun u400 => And.intro rfl (((t.1 u396).2 u397).2 u400)))) (fun u396 => (t.2 u396)))
theorem g_x12_brings_0 {d : Nat} {B : Nat × Nat} {Q : zQ} {c : Nat × Nat × Nat} {I : Nat → Nat → Int} {g : Nat} {x1 : Int}
    (t : zcl d 130 0 0 [zl x1, zl 1, zl 1023] (c, I, zRg g) (fun v h1 => zRn (zcl d) 141 B Q 9 [some (zr 67), some (zi x1)] (zva v []) h1)) :
    zRn (zcl d) 141 B Q 0 [some (zr 67), some (zi x1)] [] (c, I, zRg g) :=
  zgo [9] 4 (Exists.intro 0 (Exists.intro 0 (And.intro (Or.inl rfl) (And.intro (Or.inl rfl) t))))
theorem g_x12_brings_9 {d : Nat} {B : Nat × Nat} {Q : zQ} {c : Nat × Nat × Nat} {I : Nat → Nat → Int} {g : Nat} {x1 s0 : Int}
    (t : (s0 ≠ 0 → ((I 67 11 ≠ 8 → ((0 ≤ I 67 11 ∧ I 67 11 < 8) ∧ (Q (some (zi (zwr (((z2 I 72 (I 67 11).toNat x1) 67 11) + 1)))) (c, (z2 (z2 I 72 (I 67 11).toNat x1) 67 11 (zwr (((z2 I 72 (I 67 11).toNat x1) 67 11) + 1))), zRg g)))) ∧ (¬ (I 67 11 ≠ 8) → (Q (some (zi (-4))) (c, I, zRg g))))) ∧ (¬ (s0 ≠ 0) → (Q (some (zi (-2))) (c, I, zRg g)))) :
    zRn (zcl d) 141 B Q 9 [some (zr 67), some (zi x1)] [zi s0] (c, I, zRg g) :=
  zgo [9] 19 (And.intro (fun u401 => And.intro rfl (And.intro (fun u402 => And.intro rfl (Exists.intro (some 72) (And.intro rfl (And.intro rfl (And.intro rfl (And.intro ((t.1 u401).1 u402).1 (And.intro rfl (And.intro rfl (And.intro rfl (((t.1 u401).1 u402).2)))))))))) (fun u402 => ((t.1 u401).2 u402)))) (fun u401 => (t.2 u401)))
theorem g_x12_feed_0 {d : Nat} {B : Nat × Nat} {Q : zQ} {c : Nat × Nat × Nat} {I : Nat → Nat → Int} {g : Nat} {x1 : Int}
    (t : zcl d 130 0 0 [zl x1, zl 0, zl 255] (c, I, zRg g) (fun v h1 => zRn (zcl d) 142 B Q 9 [some (zr 67), some (zi x1)] (zva v []) h1)) :
    zRn (zcl d) 142 B Q 0 [some (zr 67), some (zi x1)] [] (c, I, zRg g) :=
  zgo [9] 4 (Exists.intro 0 (Exists.intro 0 (And.intro (Or.inl rfl) (And.intro (Or.inl rfl) t))))
theorem g_x12_feed_9 {d : Nat} {B : Nat × Nat} {Q : zQ} {c : Nat × Nat × Nat} {I : Nat → Nat → Int} {g : Nat} {x1 s0 : Int}
    (t : (s0 ≠ 0 → ((I 67 6 ≠ 160 → ((0 ≤ I 67 6 ∧ I 67 6 < 160) ∧ (Q (some (zi (zwr (((z2 I 70 (I 67 6).toNat x1) 67 6) + 1)))) (c, (z2 (z2 I 70 (I 67 6).toNat x1) 67 6 (zwr (((z2 I 70 (I 67 6).toNat x1) 67 6) + 1))), zRg g)))) ∧ (¬ (I 67 6 ≠ 160) → (Q (some (zi (-4))) (c, I, zRg g))))) ∧ (¬ (s0 ≠ 0) → (Q (some (zi (-2))) (c, I, zRg g)))) :
    zRn (zcl d) 142 B Q 9 [some (zr 67), some (zi x1)] [zi s0] (c, I, zRg g) :=
  zgo [9] 19 (And.intro (fun u403 => And.intro rfl (And.intro (fun u404 => And.intro rfl (Exists.intro (some 70) (And.intro rfl (And.intro rfl (And.intro rfl (And.intro ((t.1 u403).1 u404).1 (And.intro rfl (And.intro rfl (And.intro rfl (((t.1 u403).1 u404).2)))))))))) (fun u404 => ((t.1 u403).2 u404)))) (fun u403 => (t.2 u403)))
theorem g_x12_byteAt_0 {d : Nat} {B : Nat × Nat} {Q : zQ} {c : Nat × Nat × Nat} {I : Nat → Nat → Int} {g : Nat} {x1 : Int}
    (t : (I 67 21 ≤ x1 → (Q (some (zi (-1))) (c, I, zRg g))) ∧ (¬ (I 67 21 ≤ x1) → ((0 ≤ zwr ((I 67 20) + x1) ∧ zwr ((I 67 20) + x1) < 960) ∧ (Q (some (zi (I 68 ((zwr ((I 67 20) + x1)).toNat)))) (c, I, zRg g))))) :
    zRn (zcl d) 143 B Q 0 [some (zr 67), some (zi x1)] [] (c, I, zRg g) :=
  zgo [] 12 (And.intro rfl (And.intro (fun u405 => (t.1 u405)) (fun u405 => And.intro rfl (Exists.intro (some 68) (And.intro rfl (And.intro rfl (And.intro rfl (And.intro (t.2 u405).1 ((t.2 u405).2)))))))))
theorem g_x12_next_0 {d : Nat} {B : Nat × Nat} {Q : zQ} {c : Nat × Nat × Nat} {I : Nat → Nat → Int} {g : Nat}
    (t : zcl d 143 0 0 [zr 67, zi (I 67 22)] (c, I, zRg g) (fun v h1 => zRn (zcl d) 144 B Q 8 [some (zr 67), none, none] (zva v []) h1)) :
    zRn (zcl d) 144 B Q 0 [some (zr 67), none, none] [] (c, I, zRg g) :=
  zgo [0, 8, 21, 55, 92, 100, 108, 118, 145, 160, 168, 178, 203] 3 (And.intro rfl (Exists.intro 143 (And.intro rfl (Exists.intro 0 (Exists.intro 0 (And.intro (Or.inl rfl) (And.intro (Or.inl rfl) t)))))))
theorem g_x12_next_8 {d : Nat} {B : Nat × Nat} {Q : zQ} {c : Nat × Nat × Nat} {I : Nat → Nat → Int} {g : Nat} {s0 : Int}
    (t : (s0 = 32 → (zRn (zcl d) 144 B Q 0 [some (zr 67), none, none] [] (c, (z2 I 67 22 (zwr ((I 67 22) + 1))), zRg g))) ∧ (¬ (s0 = 32) → (zcl d 143 0 0 [zr 67, zi (I 67 22)] (c, I, zRg g) (fun v h1 => zRn (zcl d) 144 B Q 21 [some (zr 67), none, none] (zva v []) h1)))) :
    zRn (zcl d) 144 B Q 8 [some (zr 67), none, none] [zi s0] (c, I, zRg g) :=
  zgo [0, 8, 21, 55, 92, 100, 108, 118, 145, 160, 168, 178, 203] 9 (And.intro (fun u406 => And.intro rfl (And.intro rfl (t.1 u406))) (fun u406 => And.intro rfl (Exists.intro 143 (And.intro rfl (Exists.intro 0 (Exists.intro 0 (And.intro (Or.inl rfl) (And.intro (Or.inl rfl) (t.2 u406)))))))))
theorem g_x12_next_21 {d : Nat} {B : Nat × Nat} {Q : zQ} {c : Nat × Nat × Nat} {I : Nat → Nat → Int} {g : Nat} {s0 : Int}
    (t : (s0 ≠ 10 → (zcl d 143 0 0 [zr 67, zi (I 67 22)] (c, (z2 I 67 24 (I 67 22)), zRg g) (fun v h1 => zRn (zcl d) 144 B Q 55 [some (zr 67), none, none] (zva v []) h1))) ∧ (¬ (s0 ≠ 10) → (zRn (zcl d) 144 B Q 0 [some (zr 67), none, none] [] (c, (z2 I 67 22 (zwr ((I 67 22) + 1))), zRg g)))) :
    zRn (zcl d) 144 B Q 21 [some (zr 67), none, none] [zi s0] (c, I, zRg g) :=
  zgo [0, 8, 21, 55, 92, 100, 108, 118, 145, 160, 168, 178, 203] 9 (And.intro (fun u407 => And.intro rfl (And.intro rfl (And.intro rfl (Exists.intro 143 (And.intro rfl (Exists.intro 0 (Exists.intro 0 (And.intro (Or.inl rfl) (And.intro (Or.inl rfl) (t.1 u407)))))))))) (fun u407 => And.intro rfl (And.intro rfl (t.2 u407))))
theorem g_x12_next_55 {d : Nat} {B : Nat × Nat} {Q : zQ} {c : Nat × Nat × Nat} {I : Nat → Nat → Int} {g : Nat} {s0 : Int}
    (t : (0 ≤ s0 → (zcl d 130 0 0 [zl s0, zl 97, zl 122] (c, (z2 I 67 23 4), zRg g) (fun v h1 => zRn (zcl d) 144 B Q 92 [some (zr 67), some (zi s0), none] (zva v []) h1))) ∧ (¬ (0 ≤ s0) → (Q none (c, (z2 (z2 (z2 I 67 23 4) 67 23 0) 67 24 (I 67 21)), zRg g)))) :
    zRn (zcl d) 144 B Q 55 [some (zr 67), none, none] [zi s0] (c, I, zRg g) :=
  zgo [0, 8, 21, 55, 92, 100, 108, 118, 145, 160, 168, 178, 203] 14 (And.intro rfl (And.intro (fun u408 => Exists.intro 0 (Exists.intro 0 (And.intro (Or.inl rfl) (And.intro (Or.inl rfl) (t.1 u408))))) (fun u408 => And.intro rfl (And.intro rfl (And.intro rfl (t.2 u408))))))
theorem g_x12_next_92 {d : Nat} {B : Nat × Nat} {Q : zQ} {c : Nat × Nat × Nat} {I : Nat → Nat → Int} {g : Nat} {x1 s0 : Int}
    (t : (s0 = 0 → (zcl d 130 0 0 [zl x1, zl 48, zl 57] (c, I, zRg g) (fun v h1 => zRn (zcl d) 144 B Q 145 [some (zr 67), some (zi x1), none] (zva v []) h1))) ∧ (¬ (s0 = 0) → (zRn (zcl d) 144 B Q 100 [some (zr 67), some (zi x1), none] [] (c, (z2 I 67 23 1), zRg g)))) :
    zRn (zcl d) 144 B Q 92 [some (zr 67), some (zi x1), none] [zi s0] (c, I, zRg g) :=
  zgo [0, 8, 21, 55, 92, 100, 108, 118, 145, 160, 168, 178, 203] 5 (And.intro (fun u409 => Exists.intro 0 (Exists.intro 0 (And.intro (Or.inl rfl) (And.intro (Or.inl rfl) (t.1 u409))))) (fun u409 => And.intro rfl (t.2 u409)))
theorem g_x12_next_100 {d : Nat} {B : Nat × Nat} {Q : zQ} {c : Nat × Nat × Nat} {I : Nat → Nat → Int} {g : Nat} {x1 : Int}
    (t : zcl d 143 0 0 [zr 67, zi (I 67 22)] (c, I, zRg g) (fun v h1 => zRn (zcl d) 144 B Q 108 [some (zr 67), some (zi x1), none] (zva v []) h1)) :
    zRn (zcl d) 144 B Q 100 [some (zr 67), some (zi x1), none] [] (c, I, zRg g) :=
  zgo [0, 8, 21, 55, 92, 100, 108, 118, 145, 160, 168, 178, 203] 3 (And.intro rfl (Exists.intro 143 (And.intro rfl (Exists.intro 0 (Exists.intro 0 (And.intro (Or.inl rfl) (And.intro (Or.inl rfl) t)))))))
theorem g_x12_next_108 {d : Nat} {B : Nat × Nat} {Q : zQ} {c : Nat × Nat × Nat} {I : Nat → Nat → Int} {g : Nat} {x1 s0 : Int}
    (t : zcl d 130 0 0 [zl s0, zl 97, zl 122] (c, I, zRg g) (fun v h1 => zRn (zcl d) 144 B Q 118 [some (zr 67), some (zi x1), none] (zva v []) h1)) :
    zRn (zcl d) 144 B Q 108 [some (zr 67), some (zi x1), none] [zi s0] (c, I, zRg g) :=
  zgo [0, 8, 21, 55, 92, 100, 108, 118, 145, 160, 168, 178, 203] 3 (Exists.intro 0 (Exists.intro 0 (And.intro (Or.inl rfl) (And.intro (Or.inl rfl) t))))
theorem g_x12_next_118 {d : Nat} {B : Nat × Nat} {Q : zQ} {c : Nat × Nat × Nat} {I : Nat → Nat → Int} {g : Nat} {x1 s0 : Int}
    (t : (s0 = 0 → (Q none (c, I, zRg g))) ∧ (¬ (s0 = 0) → (zRn (zcl d) 144 B Q 100 [some (zr 67), some (zi x1), none] [] (c, (z2 I 67 22 (zwr ((I 67 22) + 1))), zRg g)))) :
    zRn (zcl d) 144 B Q 118 [some (zr 67), some (zi x1), none] [zi s0] (c, I, zRg g) :=
  zgo [0, 8, 21, 55, 92, 100, 108, 118, 145, 160, 168, 178, 203] 8 (And.intro (fun u419 => (t.1 u419)) (fun u419 => And.intro rfl (And.intro rfl (t.2 u419))))
theorem g_x12_next_145 {d : Nat} {B : Nat × Nat} {Q : zQ} {c : Nat × Nat × Nat} {I : Nat → Nat → Int} {g : Nat} {x1 s0 : Int}
    (t : (s0 = 0 → ((x1 = 40 → (Q none (c, (z2 (z2 (z2 I 67 23 3) 67 25 x1) 67 22 (zwr ((I 67 22) + 1))), zRg g))) ∧ (¬ (x1 = 40) → ((x1 = 41 → (Q none (c, (z2 (z2 (z2 I 67 23 3) 67 25 x1) 67 22 (zwr ((I 67 22) + 1))), zRg g))) ∧ (¬ (x1 = 41) → ((x1 = 59 → (Q none (c, (z2 (z2 (z2 I 67 23 3) 67 25 x1) 67 22 (zwr ((I 67 22) + 1))), zRg g))) ∧ (¬ (x1 = 59) → ((x1 = 43 → (Q none (c, (z2 (z2 (z2 I 67 23 3) 67 25 x1) 67 22 (zwr ((I 67 22) + 1))), zRg g))) ∧ (¬ (x1 = 43) → ((x1 = 45 → (Q none (c, (z2 (z2 (z2 I 67 23 3) 67 25 x1) 67 22 (zwr ((I 67 22) + 1))), zRg g))) ∧ (¬ (x1 = 45) → ((x1 = 42 → (Q none (c, (z2 (z2 (z2 I 67 23 3) 67 25 x1) 67 22 (zwr ((I 67 22) + 1))), zRg g))) ∧ (¬ (x1 = 42) → ((x1 = 60 → (Q none (c, (z2 (z2 (z2 I 67 23 3) 67 25 x1) 67 22 (zwr ((I 67 22) + 1))), zRg g))) ∧ (¬ (x1 = 60) → ((x1 ≠ 61 → (Q none (c, I, zRg g))) ∧ (¬ (x1 ≠ 61) → (Q none (c, (z2 (z2 (z2 I 67 23 3) 67 25 x1) 67 22 (zwr ((I 67 22) + 1))), zRg g))))))))))))))))))) ∧ (¬ (s0 = 0) → (zRn (zcl d) 144 B Q 160 [some (zr 67), some (zi x1), some (zi 0)] [] (c, (z2 (z2 I 67 23 2) 67 25 0), zRg g)))) :
    zRn (zcl d) 144 B Q 145 [some (zr 67), some (zi x1), none] [zi s0] (c, I, zRg g) :=
  zgo [0, 8, 21, 55, 92, 100, 108, 118, 145, 160, 168, 178, 203] 38 (And.intro (fun u410 => And.intro (fun u411 => And.intro rfl (And.intro rfl (And.intro rfl (And.intro rfl ((t.1 u410).1 u411))))) (fun u411 => And.intro (fun u412 => And.intro rfl (And.intro rfl (And.intro rfl (And.intro rfl (((t.1 u410).2 u411).1 u412))))) (fun u412 => And.intro (fun u413 => And.intro rfl (And.intro rfl (And.intro rfl (And.intro rfl ((((t.1 u410).2 u411).2 u412).1 u413))))) (fun u413 => And.intro (fun u414 => And.intro rfl (And.intro rfl (And.intro rfl (And.intro rfl (((((t.1 u410).2 u411).2 u412).2 u413).1 u414))))) (fun u414 => And.intro (fun u415 => And.intro rfl (And.intro rfl (And.intro rfl (And.intro rfl ((((((t.1 u410).2 u411).2 u412).2 u413).2 u414).1 u415))))) (fun u415 => And.intro (fun u416 => And.intro rfl (And.intro rfl (And.intro rfl (And.intro rfl (((((((t.1 u410).2 u411).2 u412).2 u413).2 u414).2 u415).1 u416))))) (fun u416 => And.intro (fun u417 => And.intro rfl (And.intro rfl (And.intro rfl (And.intro rfl ((((((((t.1 u410).2 u411).2 u412).2 u413).2 u414).2 u415).2 u416).1 u417))))) (fun u417 => And.intro (fun u418 => (((((((((t.1 u410).2 u411).2 u412).2 u413).2 u414).2 u415).2 u416).2 u417).1 u418)) (fun u418 => And.intro rfl (And.intro rfl (And.intro rfl (And.intro rfl (((((((((t.1 u410).2 u411).2 u412).2 u413).2 u414).2 u415).2 u416).2 u417).2 u418))))))))))))) (fun u410 => And.intro rfl (And.intro rfl (t.2 u410))))
theorem g_x12_next_160 {d : Nat} {B : Nat × Nat} {Q : zQ} {c : Nat × Nat × Nat} {I : Nat → Nat → Int} {g : Nat} {x1 x2 : Int}
    (t : zcl d 143 0 0 [zr 67, zi (I 67 22)] (c, I, zRg g) (fun v h1 => zRn (zcl d) 144 B Q 168 [some (zr 67), some (zi x1), some (zi x2)] (zva v []) h1)) :
    zRn (zcl d) 144 B Q 160 [some (zr 67), some (zi x1), some (zi x2)] [] (c, I, zRg g) :=
  zgo [0, 8, 21, 55, 92, 100, 108, 118, 145, 160, 168, 178, 203] 3 (And.intro rfl (Exists.intro 143 (And.intro rfl (Exists.intro 0 (Exists.intro 0 (And.intro (Or.inl rfl) (And.intro (Or.inl rfl) t)))))))
theorem g_x12_next_168 {d : Nat} {B : Nat × Nat} {Q : zQ} {c : Nat × Nat × Nat} {I : Nat → Nat → Int} {g : Nat} {x1 x2 s0 : Int}
    (t : zcl d 130 0 0 [zl s0, zl 48, zl 57] (c, I, zRg g) (fun v h1 => zRn (zcl d) 144 B Q 178 [some (zr 67), some (zi x1), some (zi x2)] (zva v []) h1)) :
    zRn (zcl d) 144 B Q 168 [some (zr 67), some (zi x1), some (zi x2)] [zi s0] (c, I, zRg g) :=
  zgo [0, 8, 21, 55, 92, 100, 108, 118, 145, 160, 168, 178, 203] 3 (Exists.intro 0 (Exists.intro 0 (And.intro (Or.inl rfl) (And.intro (Or.inl rfl) t))))
theorem g_x12_next_178 {d : Nat} {B : Nat × Nat} {Q : zQ} {c : Nat × Nat × Nat} {I : Nat → Nat → Int} {g : Nat} {x1 x2 s0 : Int}
    (t : (s0 = 0 → ((x2 ≤ 4 → (Q none (c, (z2 I 67 23 2), zRg g))) ∧ (¬ (x2 ≤ 4) → (Q none (c, (z2 I 67 23 4), zRg g))))) ∧ (¬ (s0 = 0) → ((4 ≤ x2 → (zRn (zcl d) 144 B Q 160 [some (zr 67), some (zi x1), some (zi (zwr (x2 + 1)))] [] (c, (z2 (z2 I 67 25 (I 67 25)) 67 22 (zwr ((I 67 22) + 1))), zRg g))) ∧ (¬ (4 ≤ x2) → (zcl d 143 0 0 [zr 67, zi (I 67 22)] (c, I, zRg g) (fun v h1 => zRn (zcl d) 144 B Q 203 [some (zr 67), some (zi x1), some (zi x2)] (zva v [zl (zwl (10 * (I 67 25))), zr 67]) h1)))))) :
    zRn (zcl d) 144 B Q 178 [some (zr 67), some (zi x1), some (zi x2)] [zi s0] (c, I, zRg g) :=
  zgo [0, 8, 21, 55, 92, 100, 108, 118, 145, 160, 168, 178, 203] 16 (And.intro (fun u420 => And.intro (fun u421 => And.intro rfl ((t.1 u420).1 u421)) (fun u421 => And.intro rfl ((t.1 u420).2 u421))) (fun u420 => And.intro (fun u422 => And.intro rfl (And.intro rfl (And.intro rfl (And.intro rfl ((t.2 u420).1 u422))))) (fun u422 => And.intro rfl (And.intro rfl (Exists.intro 143 (And.intro rfl (Exists.intro 0 (Exists.intro 0 (And.intro (Or.inl rfl) (And.intro (Or.inl rfl) ((t.2 u420).2 u422)))))))))))
theorem g_x12_next_203 {d : Nat} {B : Nat × Nat} {Q : zQ} {c : Nat × Nat × Nat} {I : Nat → Nat → Int} {g : Nat} {x1 x2 s0 s1 : Int}
    (t : zRn (zcl d) 144 B Q 160 [some (zr 67), some (zi x1), some (zi (zwr (x2 + 1)))] [] (c, (z2 (z2 I 67 25 (zwl ((zwl (s1 + s0)) - 48))) 67 22 (zwr ((I 67 22) + 1))), zRg g)) :
    zRn (zcl d) 144 B Q 203 [some (zr 67), some (zi x1), some (zi x2)] [zi s0, zl s1, zr 67] (c, I, zRg g) :=
  zgo [0, 8, 21, 55, 92, 100, 108, 118, 145, 160, 168, 178, 203] 14 (And.intro rfl (And.intro rfl (And.intro rfl t)))
theorem g_x12_fail_0 {d : Nat} {B : Nat × Nat} {Q : zQ} {c : Nat × Nat × Nat} {I : Nat → Nat → Int} {g : Nat}
    (t : (I 67 27 ≠ 0 → (Q none (c, I, zRg g))) ∧ (¬ (I 67 27 ≠ 0) → (Q none (c, (z2 (z2 I 67 27 1) 67 28 (I 67 24)), zRg g)))) :
    zRn (zcl d) 145 B Q 0 [some (zr 67)] [] (c, I, zRg g) :=
  zgo [] 10 (And.intro rfl (And.intro (fun u423 => (t.1 u423)) (fun u423 => And.intro rfl (And.intro (Or.inr rfl) (And.intro rfl (And.intro rfl (t.2 u423)))))))
theorem g_x12_isLetter_0 {d : Nat} {B : Nat × Nat} {Q : zQ} {c : Nat × Nat × Nat} {I : Nat → Nat → Int} {g : Nat} {x1 x2 : Int}
    (t : (I 67 22 ≤ zwr ((I 67 24) + x1) → ((x2 ≠ 0 → (Q (some (zi 0)) (c, I, zRg g))) ∧ (¬ (x2 ≠ 0) → (Q (some (zi 1)) (c, I, zRg g))))) ∧ (¬ (I 67 22 ≤ zwr ((I 67 24) + x1)) → (zcl d 143 0 0 [zr 67, zi (zwr ((I 67 24) + x1))] (c, I, zRg g) (fun v h1 => zRn (zcl d) 146 B Q 23 [some (zr 67), some (zi x1), some (zi x2)] (zva v []) h1)))) :
    zRn (zcl d) 146 B Q 0 [some (zr 67), some (zi x1), some (zi x2)] [] (c, I, zRg g) :=
  zgo [23] 12 (And.intro rfl (And.intro rfl (And.intro (fun u424 => And.intro (fun u425 => ((t.1 u424).1 u425)) (fun u425 => ((t.1 u424).2 u425))) (fun u424 => And.intro rfl (Exists.intro 143 (And.intro rfl (Exists.intro 0 (Exists.intro 0 (And.intro (Or.inl rfl) (And.intro (Or.inl rfl) (t.2 u424)))))))))))
theorem g_x12_isLetter_23 {d : Nat} {B : Nat × Nat} {Q : zQ} {c : Nat × Nat × Nat} {I : Nat → Nat → Int} {g : Nat} {x1 x2 s0 : Int}
    (t : (s0 ≠ x2 → (Q (some (zi 0)) (c, I, zRg g))) ∧ (¬ (s0 ≠ x2) → (Q (some (zi 1)) (c, I, zRg g)))) :
    zRn (zcl d) 146 B Q 23 [some (zr 67), some (zi x1), some (zi x2)] [zi s0] (c, I, zRg g) :=
  zgo [23] 4 (And.intro (fun u426 => (t.1 u426)) (fun u426 => (t.2 u426)))
theorem g_x12_isWord_0 {d : Nat} {B : Nat × Nat} {Q : zQ} {c : Nat × Nat × Nat} {I : Nat → Nat → Int} {g : Nat} {x1 x2 x3 x4 x5 x6 x7 x8 : Int}
    (t : (I 67 27 ≠ 0 → (Q (some (zi 0)) (c, I, zRg g))) ∧ (¬ (I 67 27 ≠ 0) → ((I 67 23 ≠ 1 → (Q (some (zi 0)) (c, I, zRg g))) ∧ (¬ (I 67 23 ≠ 1) → ((zwr ((I 67 24) + 8) < I 67 22 → (Q (some (zi 0)) (c, I, zRg g))) ∧ (¬ (zwr ((I 67 24) + 8) < I 67 22) → (zcl d 146 0 0 [zr 67, zi 0, zi x1] (c, I, zRg g) (fun v h1 => zRn (zcl d) 147 B Q 35 [some (zr 67), some (zi x1), some (zi x2), some (zi x3), some (zi x4), some (zi x5), some (zi x6), some (zi x7), some (zi x8)] (zva v []) h1)))))))) :
    zRn (zcl d) 147 B Q 0 [some (zr 67), some (zi x1), some (zi x2), some (zi x3), some (zi x4), some (zi x5), some (zi x6), some (zi x7), some (zi x8)] [] (c, I, zRg g) :=
  zgo [35, 44, 53, 63, 73, 83, 94, 105] 17 (And.intro rfl (And.intro (fun u427 => (t.1 u427)) (fun u427 => And.intro rfl (And.intro (fun u428 => ((t.2 u427).1 u428)) (fun u428 => And.intro rfl (And.intro rfl (And.intro (fun u429 => (((t.2 u427).2 u428).1 u429)) (fun u429 => Exists.intro 146 (And.intro rfl (Exists.intro 0 (Exists.intro 0 (And.intro (Or.inl rfl) (And.intro (Or.inl rfl) (((t.2 u427).2 u428).2 u429))))))))))))))
theorem g_x12_isWord_35 {d : Nat} {B : Nat × Nat} {Q : zQ} {c : Nat × Nat × Nat} {I : Nat → Nat → Int} {g : Nat} {x1 x2 x3 x4 x5 x6 x7 x8 s0 : Int}
    (t : (s0 = 0 → (Q (some (zi 0)) (c, I, zRg g))) ∧ (¬ (s0 = 0) → (zcl d 146 0 0 [zr 67, zi 1, zi x2] (c, I, zRg g) (fun v h1 => zRn (zcl d) 147 B Q 44 [some (zr 67), some (zi x1), some (zi x2), some (zi x3), some (zi x4), some (zi x5), some (zi x6), some (zi x7), some (zi x8)] (zva v []) h1)))) :
    zRn (zcl d) 147 B Q 35 [some (zr 67), some (zi x1), some (zi x2), some (zi x3), some (zi x4), some (zi x5), some (zi x6), some (zi x7), some (zi x8)] [zi s0] (c, I, zRg g) :=
  zgo [35, 44, 53, 63, 73, 83, 94, 105] 4 (And.intro (fun u430 => (t.1 u430)) (fun u430 => Exists.intro 146 (And.intro rfl (Exists.intro 0 (Exists.intro 0 (And.intro (Or.inl rfl) (And.intro (Or.inl rfl) (t.2 u430))))))))
theorem g_x12_isWord_44 {d : Nat} {B : Nat × Nat} {Q : zQ} {c : Nat × Nat × Nat} {I : Nat → Nat → Int} {g : Nat} {x1 x2 x3 x4 x5 x6 x7 x8 s0 : Int}
    (t : (s0 = 0 → (Q (some (zi 0)) (c, I, zRg g))) ∧ (¬ (s0 = 0) → (zcl d 146 0 0 [zr 67, zi 2, zi x3] (c, I, zRg g) (fun v h1 => zRn (zcl d) 147 B Q 53 [some (zr 67), some (zi x1), some (zi x2), some (zi x3), some (zi x4), some (zi x5), some (zi x6), some (zi x7), some (zi x8)] (zva v []) h1)))) :
    zRn (zcl d) 147 B Q 44 [some (zr 67), some (zi x1), some (zi x2), some (zi x3), some (zi x4), some (zi x5), some (zi x6), some (zi x7), some (zi x8)] [zi s0] (c, I, zRg g) :=
  zgo [35, 44, 53, 63, 73, 83, 94, 105] 4 (And.intro (fun u431 => (t.1 u431)) (fun u431 => Exists.intro 146 (And.intro rfl (Exists.intro 0 (Exists.intro 0 (And.intro (Or.inl rfl) (And.intro (Or.inl rfl) (t.2 u431))))))))
theorem g_x12_isWord_53 {d : Nat} {B : Nat × Nat} {Q : zQ} {c : Nat × Nat × Nat} {I : Nat → Nat → Int} {g : Nat} {x1 x2 x3 x4 x5 x6 x7 x8 s0 : Int}
    (t : (s0 = 0 → (Q (some (zi 0)) (c, I, zRg g))) ∧ (¬ (s0 = 0) → (zcl d 146 0 0 [zr 67, zi 3, zi x4] (c, I, zRg g) (fun v h1 => zRn (zcl d) 147 B Q 63 [some (zr 67), some (zi x1), some (zi x2), some (zi x3), some (zi x4), some (zi x5), some (zi x6), some (zi x7), some (zi x8)] (zva v []) h1)))) :
    zRn (zcl d) 147 B Q 53 [some (zr 67), some (zi x1), some (zi x2), some (zi x3), some (zi x4), some (zi x5), some (zi x6), some (zi x7), some (zi x8)] [zi s0] (c, I, zRg g) :=
  zgo [35, 44, 53, 63, 73, 83, 94, 105] 4 (And.intro (fun u432 => (t.1 u432)) (fun u432 => Exists.intro 146 (And.intro rfl (Exists.intro 0 (Exists.intro 0 (And.intro (Or.inl rfl) (And.intro (Or.inl rfl) (t.2 u432))))))))
theorem g_x12_isWord_63 {d : Nat} {B : Nat × Nat} {Q : zQ} {c : Nat × Nat × Nat} {I : Nat → Nat → Int} {g : Nat} {x1 x2 x3 x4 x5 x6 x7 x8 s0 : Int}
    (t : (s0 = 0 → (Q (some (zi 0)) (c, I, zRg g))) ∧ (¬ (s0 = 0) → (zcl d 146 0 0 [zr 67, zi 4, zi x5] (c, I, zRg g) (fun v h1 => zRn (zcl d) 147 B Q 73 [some (zr 67), some (zi x1), some (zi x2), some (zi x3), some (zi x4), some (zi x5), some (zi x6), some (zi x7), some (zi x8)] (zva v []) h1)))) :
    zRn (zcl d) 147 B Q 63 [some (zr 67), some (zi x1), some (zi x2), some (zi x3), some (zi x4), some (zi x5), some (zi x6), some (zi x7), some (zi x8)] [zi s0] (c, I, zRg g) :=
  zgo [35, 44, 53, 63, 73, 83, 94, 105] 4 (And.intro (fun u433 => (t.1 u433)) (fun u433 => Exists.intro 146 (And.intro rfl (Exists.intro 0 (Exists.intro 0 (And.intro (Or.inl rfl) (And.intro (Or.inl rfl) (t.2 u433))))))))
theorem g_x12_isWord_73 {d : Nat} {B : Nat × Nat} {Q : zQ} {c : Nat × Nat × Nat} {I : Nat → Nat → Int} {g : Nat} {x1 x2 x3 x4 x5 x6 x7 x8 s0 : Int}
    (t : (s0 = 0 → (Q (some (zi 0)) (c, I, zRg g))) ∧ (¬ (s0 = 0) → (zcl d 146 0 0 [zr 67, zi 5, zi x6] (c, I, zRg g) (fun v h1 => zRn (zcl d) 147 B Q 83 [some (zr 67), some (zi x1), some (zi x2), some (zi x3), some (zi x4), some (zi x5), some (zi x6), some (zi x7), some (zi x8)] (zva v []) h1)))) :
    zRn (zcl d) 147 B Q 73 [some (zr 67), some (zi x1), some (zi x2), some (zi x3), some (zi x4), some (zi x5), some (zi x6), some (zi x7), some (zi x8)] [zi s0] (c, I, zRg g) :=
  zgo [35, 44, 53, 63, 73, 83, 94, 105] 4 (And.intro (fun u434 => (t.1 u434)) (fun u434 => Exists.intro 146 (And.intro rfl (Exists.intro 0 (Exists.intro 0 (And.intro (Or.inl rfl) (And.intro (Or.inl rfl) (t.2 u434))))))))
theorem g_x12_isWord_83 {d : Nat} {B : Nat × Nat} {Q : zQ} {c : Nat × Nat × Nat} {I : Nat → Nat → Int} {g : Nat} {x1 x2 x3 x4 x5 x6 x7 x8 s0 : Int}
    (t : (s0 = 0 → (Q (some (zi 0)) (c, I, zRg g))) ∧ (¬ (s0 = 0) → (zcl d 146 0 0 [zr 67, zi 6, zi x7] (c, I, zRg g) (fun v h1 => zRn (zcl d) 147 B Q 94 [some (zr 67), some (zi x1), some (zi x2), some (zi x3), some (zi x4), some (zi x5), some (zi x6), some (zi x7), some (zi x8)] (zva v []) h1)))) :
    zRn (zcl d) 147 B Q 83 [some (zr 67), some (zi x1), some (zi x2), some (zi x3), some (zi x4), some (zi x5), some (zi x6), some (zi x7), some (zi x8)] [zi s0] (c, I, zRg g) :=
  zgo [35, 44, 53, 63, 73, 83, 94, 105] 4 (And.intro (fun u435 => (t.1 u435)) (fun u435 => Exists.intro 146 (And.intro rfl (Exists.intro 0 (Exists.intro 0 (And.intro (Or.inl rfl) (And.intro (Or.inl rfl) (t.2 u435))))))))
theorem g_x12_isWord_94 {d : Nat} {B : Nat × Nat} {Q : zQ} {c : Nat × Nat × Nat} {I : Nat → Nat → Int} {g : Nat} {x1 x2 x3 x4 x5 x6 x7 x8 s0 : Int}
    (t : (s0 = 0 → (Q (some (zi 0)) (c, I, zRg g))) ∧ (¬ (s0 = 0) → (zcl d 146 0 0 [zr 67, zi 7, zi x8] (c, I, zRg g) (fun v h1 => zRn (zcl d) 147 B Q 105 [some (zr 67), some (zi x1), some (zi x2), some (zi x3), some (zi x4), some (zi x5), some (zi x6), some (zi x7), some (zi x8)] (zva v []) h1)))) :
    zRn (zcl d) 147 B Q 94 [some (zr 67), some (zi x1), some (zi x2), some (zi x3), some (zi x4), some (zi x5), some (zi x6), some (zi x7), some (zi x8)] [zi s0] (c, I, zRg g) :=
  zgo [35, 44, 53, 63, 73, 83, 94, 105] 4 (And.intro (fun u436 => (t.1 u436)) (fun u436 => Exists.intro 146 (And.intro rfl (Exists.intro 0 (Exists.intro 0 (And.intro (Or.inl rfl) (And.intro (Or.inl rfl) (t.2 u436))))))))
theorem g_x12_isWord_105 {d : Nat} {B : Nat × Nat} {Q : zQ} {c : Nat × Nat × Nat} {I : Nat → Nat → Int} {g : Nat} {x1 x2 x3 x4 x5 x6 x7 x8 s0 : Int}
    (t : (s0 = 0 → (Q (some (zi 0)) (c, I, zRg g))) ∧ (¬ (s0 = 0) → (Q (some (zi 1)) (c, I, zRg g)))) :
    zRn (zcl d) 147 B Q 105 [some (zr 67), some (zi x1), some (zi x2), some (zi x3), some (zi x4), some (zi x5), some (zi x6), some (zi x7), some (zi x8)] [zi s0] (c, I, zRg g) :=
  zgo [35, 44, 53, 63, 73, 83, 94, 105] 3 (And.intro (fun u437 => (t.1 u437)) (fun u437 => (t.2 u437)))
theorem g_x12_isSign_0 {d : Nat} {B : Nat × Nat} {Q : zQ} {c : Nat × Nat × Nat} {I : Nat → Nat → Int} {g : Nat} {x1 : Int}
    (t : (I 67 27 ≠ 0 → (Q (some (zi 0)) (c, I, zRg g))) ∧ (¬ (I 67 27 ≠ 0) → ((I 67 23 ≠ 3 → (Q (some (zi 0)) (c, I, zRg g))) ∧ (¬ (I 67 23 ≠ 3) → ((zcmp (I 67 25) x1 ≠ 0 → (Q (some (zi 0)) (c, I, zRg g))) ∧ (¬ (zcmp (I 67 25) x1 ≠ 0) → (Q (some (zi 1)) (c, I, zRg g)))))))) :
    zRn (zcl d) 148 B Q 0 [some (zr 67), some (zi x1)] [] (c, I, zRg g) :=
  zgo [] 15 (And.intro rfl (And.intro (fun u438 => (t.1 u438)) (fun u438 => And.intro rfl (And.intro (fun u439 => ((t.2 u438).1 u439)) (fun u439 => And.intro rfl (And.intro (fun u440 => (((t.2 u438).2 u439).1 u440)) (fun u440 => (((t.2 u438).2 u439).2 u440))))))))
theorem g_x12_opens_0 {d : Nat} {B : Nat × Nat} {Q : zQ} {c : Nat × Nat × Nat} {I : Nat → Nat → Int} {g : Nat}
    (t : (I 67 26 ≠ 5 → (zcl d 144 0 0 [zr 67] (c, (z2 I 67 26 (zwr ((I 67 26) + 1))), zRg g) (fun v h1 => zRn (zcl d) 149 B Q 28 [some (zr 67)] (zva v []) h1))) ∧ (¬ (I 67 26 ≠ 5) → (zcl d 145 0 0 [zr 67] (c, I, zRg g) (fun v h1 => zRn (zcl d) 149 B Q 12 [some (zr 67)] (zva v []) h1)))) :
    zRn (zcl d) 149 B Q 0 [some (zr 67)] [] (c, I, zRg g) :=
  zgo [12, 28] 11 (And.intro rfl (And.intro (fun u441 => And.intro rfl (And.intro rfl (Exists.intro 144 (And.intro rfl (Exists.intro 0 (Exists.intro 0 (And.intro (Or.inl rfl) (And.intro (Or.inl rfl) (t.1 u441))))))))) (fun u441 => Exists.intro 145 (And.intro rfl (Exists.intro 0 (Exists.intro 0 (And.intro (Or.inl rfl) (And.intro (Or.inl rfl) (t.2 u441)))))))))
theorem g_x12_opens_12 {d : Nat} {B : Nat × Nat} {Q : zQ} {c : Nat × Nat × Nat} {I : Nat → Nat → Int} {g : Nat}
    (t : Q (some (zi 0)) (c, I, zRg g)) :
    zRn (zcl d) 149 B Q 12 [some (zr 67)] [] (c, I, zRg g) :=
  zgo [12, 28] 1 (t)
theorem g_x12_opens_28 {d : Nat} {B : Nat × Nat} {Q : zQ} {c : Nat × Nat × Nat} {I : Nat → Nat → Int} {g : Nat}
    (t : Q (some (zi 1)) (c, I, zRg g)) :
    zRn (zcl d) 149 B Q 28 [some (zr 67)] [] (c, I, zRg g) :=
  zgo [12, 28] 1 (t)
theorem g_x12_name_0 {d : Nat} {B : Nat × Nat} {Q : zQ} {c : Nat × Nat × Nat} {I : Nat → Nat → Int} {g : Nat}
    (t : zcl d 147 0 0 [zr 67, zi 119, zi 111, zi 114, zi 100, zi 115, zi 0, zi 0, zi 0] (c, I, zRg g) (fun v h1 => zRn (zcl d) 150 B Q 17 [some (zr 67)] (zva v []) h1)) :
    zRn (zcl d) 150 B Q 0 [some (zr 67)] [] (c, I, zRg g) :=
  zgo [17, 43, 69, 92, 117, 141, 153] 9 (Exists.intro 147 (And.intro rfl (Exists.intro 0 (Exists.intro 0 (And.intro (Or.inl rfl) (And.intro (Or.inl rfl) t))))))
theorem g_x12_name_17 {d : Nat} {B : Nat × Nat} {Q : zQ} {c : Nat × Nat × Nat} {I : Nat → Nat → Int} {g : Nat} {s0 : Int}
    (t : (s0 = 0 → (zcl d 147 0 0 [zr 67, zi 109, zi 101, zi 109, zi 111, zi 114, zi 121, zi 0, zi 0] (c, I, zRg g) (fun v h1 => zRn (zcl d) 150 B Q 43 [some (zr 67)] (zva v []) h1))) ∧ (¬ (s0 = 0) → (Q (some (zi (I 67 14))) (c, I, zRg g)))) :
    zRn (zcl d) 150 B Q 17 [some (zr 67)] [zi s0] (c, I, zRg g) :=
  zgo [17, 43, 69, 92, 117, 141, 153] 10 (And.intro (fun u442 => Exists.intro 147 (And.intro rfl (Exists.intro 0 (Exists.intro 0 (And.intro (Or.inl rfl) (And.intro (Or.inl rfl) (t.1 u442))))))) (fun u442 => And.intro rfl (t.2 u442)))
theorem g_x12_name_43 {d : Nat} {B : Nat × Nat} {Q : zQ} {c : Nat × Nat × Nat} {I : Nat → Nat → Int} {g : Nat} {s0 : Int}
    (t : (s0 = 0 → (zcl d 147 0 0 [zr 67, zi 110, zi 117, zi 109, zi 98, zi 101, zi 114, zi 0, zi 0] (c, I, zRg g) (fun v h1 => zRn (zcl d) 150 B Q 69 [some (zr 67)] (zva v []) h1))) ∧ (¬ (s0 = 0) → (Q (some (zi (I 67 15))) (c, I, zRg g)))) :
    zRn (zcl d) 150 B Q 43 [some (zr 67)] [zi s0] (c, I, zRg g) :=
  zgo [17, 43, 69, 92, 117, 141, 153] 10 (And.intro (fun u443 => Exists.intro 147 (And.intro rfl (Exists.intro 0 (Exists.intro 0 (And.intro (Or.inl rfl) (And.intro (Or.inl rfl) (t.1 u443))))))) (fun u443 => And.intro rfl (t.2 u443)))
theorem g_x12_name_69 {d : Nat} {B : Nat × Nat} {Q : zQ} {c : Nat × Nat × Nat} {I : Nat → Nat → Int} {g : Nat} {s0 : Int}
    (t : (s0 = 0 → (zcl d 147 0 0 [zr 67, zi 100, zi 97, zi 121, zi 0, zi 0, zi 0, zi 0, zi 0] (c, I, zRg g) (fun v h1 => zRn (zcl d) 150 B Q 92 [some (zr 67)] (zva v []) h1))) ∧ (¬ (s0 = 0) → (Q (some (zi (I 67 16))) (c, I, zRg g)))) :
    zRn (zcl d) 150 B Q 69 [some (zr 67)] [zi s0] (c, I, zRg g) :=
  zgo [17, 43, 69, 92, 117, 141, 153] 10 (And.intro (fun u444 => Exists.intro 147 (And.intro rfl (Exists.intro 0 (Exists.intro 0 (And.intro (Or.inl rfl) (And.intro (Or.inl rfl) (t.1 u444))))))) (fun u444 => And.intro rfl (t.2 u444)))
theorem g_x12_name_92 {d : Nat} {B : Nat × Nat} {Q : zQ} {c : Nat × Nat × Nat} {I : Nat → Nat → Int} {g : Nat} {s0 : Int}
    (t : (s0 = 0 → (zcl d 147 0 0 [zr 67, zi 112, zi 97, zi 114, zi 116, zi 115, zi 0, zi 0, zi 0] (c, I, zRg g) (fun v h1 => zRn (zcl d) 150 B Q 117 [some (zr 67)] (zva v []) h1))) ∧ (¬ (s0 = 0) → (Q (some (zi (I 67 17))) (c, I, zRg g)))) :
    zRn (zcl d) 150 B Q 92 [some (zr 67)] [zi s0] (c, I, zRg g) :=
  zgo [17, 43, 69, 92, 117, 141, 153] 10 (And.intro (fun u445 => Exists.intro 147 (And.intro rfl (Exists.intro 0 (Exists.intro 0 (And.intro (Or.inl rfl) (And.intro (Or.inl rfl) (t.1 u445))))))) (fun u445 => And.intro rfl (t.2 u445)))
theorem g_x12_name_117 {d : Nat} {B : Nat × Nat} {Q : zQ} {c : Nat × Nat × Nat} {I : Nat → Nat → Int} {g : Nat} {s0 : Int}
    (t : (s0 = 0 → (zcl d 147 0 0 [zr 67, zi 115, zi 97, zi 105, zi 100, zi 0, zi 0, zi 0, zi 0] (c, I, zRg g) (fun v h1 => zRn (zcl d) 150 B Q 141 [some (zr 67)] (zva v []) h1))) ∧ (¬ (s0 = 0) → (Q (some (zi (I 67 18))) (c, I, zRg g)))) :
    zRn (zcl d) 150 B Q 117 [some (zr 67)] [zi s0] (c, I, zRg g) :=
  zgo [17, 43, 69, 92, 117, 141, 153] 10 (And.intro (fun u446 => Exists.intro 147 (And.intro rfl (Exists.intro 0 (Exists.intro 0 (And.intro (Or.inl rfl) (And.intro (Or.inl rfl) (t.1 u446))))))) (fun u446 => And.intro rfl (t.2 u446)))
theorem g_x12_name_141 {d : Nat} {B : Nat × Nat} {Q : zQ} {c : Nat × Nat × Nat} {I : Nat → Nat → Int} {g : Nat} {s0 : Int}
    (t : (s0 = 0 → (zcl d 145 0 0 [zr 67] (c, I, zRg g) (fun v h1 => zRn (zcl d) 150 B Q 153 [some (zr 67)] (zva v []) h1))) ∧ (¬ (s0 = 0) → (Q (some (zi (I 67 19))) (c, I, zRg g)))) :
    zRn (zcl d) 150 B Q 141 [some (zr 67)] [zi s0] (c, I, zRg g) :=
  zgo [17, 43, 69, 92, 117, 141, 153] 3 (And.intro (fun u447 => Exists.intro 145 (And.intro rfl (Exists.intro 0 (Exists.intro 0 (And.intro (Or.inl rfl) (And.intro (Or.inl rfl) (t.1 u447))))))) (fun u447 => And.intro rfl (t.2 u447)))
theorem g_x12_name_153 {d : Nat} {B : Nat × Nat} {Q : zQ} {c : Nat × Nat × Nat} {I : Nat → Nat → Int} {g : Nat}
    (t : Q (some (zi 0)) (c, I, zRg g)) :
    zRn (zcl d) 150 B Q 153 [some (zr 67)] [] (c, I, zRg g) :=
  zgo [17, 43, 69, 92, 117, 141, 153] 1 (t)
theorem g_x12_atom_0 {d : Nat} {B : Nat × Nat} {Q : zQ} {c : Nat × Nat × Nat} {I : Nat → Nat → Int} {g : Nat}
    (t : zcl d 148 0 0 [zr 67, zi 45] (c, I, zRg g) (fun v h1 => zRn (zcl d) 151 B Q 8 [some (zr 67), some (zi 0)] (zva v []) h1)) :
    zRn (zcl d) 151 B Q 0 [some (zr 67), none] [] (c, I, zRg g) :=
  zgo [8, 15, 22, 43, 50, 57, 64, 71, 92, 120, 142, 154, 161] 4 (Exists.intro 148 (And.intro rfl (Exists.intro 0 (Exists.intro 0 (And.intro (Or.inl rfl) (And.intro (Or.inl rfl) t))))))
theorem g_x12_atom_8 {d : Nat} {B : Nat × Nat} {Q : zQ} {c : Nat × Nat × Nat} {I : Nat → Nat → Int} {g : Nat} {x1 s0 : Int}
    (t : (s0 = 0 → (zcl d 148 0 0 [zr 67, zi 40] (c, I, zRg g) (fun v h1 => zRn (zcl d) 151 B Q 43 [some (zr 67), some (zi x1)] (zva v []) h1))) ∧ (¬ (s0 = 0) → (zcl d 149 0 0 [zr 67] (c, I, zRg g) (fun v h1 => zRn (zcl d) 151 B Q 15 [some (zr 67), some (zi x1)] (zva v []) h1)))) :
    zRn (zcl d) 151 B Q 8 [some (zr 67), some (zi x1)] [zi s0] (c, I, zRg g) :=
  zgo [8, 15, 22, 43, 50, 57, 64, 71, 92, 120, 142, 154, 161] 3 (And.intro (fun u448 => Exists.intro 148 (And.intro rfl (Exists.intro 0 (Exists.intro 0 (And.intro (Or.inl rfl) (And.intro (Or.inl rfl) (t.1 u448))))))) (fun u448 => Exists.intro 149 (And.intro rfl (Exists.intro 0 (Exists.intro 0 (And.intro (Or.inl rfl) (And.intro (Or.inl rfl) (t.2 u448))))))))
theorem g_x12_atom_15 {d : Nat} {B : Nat × Nat} {Q : zQ} {c : Nat × Nat × Nat} {I : Nat → Nat → Int} {g : Nat} {x1 s0 : Int}
    (t : (s0 = 0 → (zRn (zcl d) 151 B Q 161 [some (zr 67), some (zi x1)] [] (c, I, zRg g))) ∧ (¬ (s0 = 0) → (zcl d 151 0 0 [zr 67] (c, I, zRg g) (fun v h1 => zRn (zcl d) 151 B Q 22 [some (zr 67), some (zi x1)] (zva v []) h1)))) :
    zRn (zcl d) 151 B Q 15 [some (zr 67), some (zi x1)] [zi s0] (c, I, zRg g) :=
  zgo [8, 15, 22, 43, 50, 57, 64, 71, 92, 120, 142, 154, 161] 2 (And.intro (fun u456 => (t.1 u456)) (fun u456 => Exists.intro 151 (And.intro rfl (Exists.intro 0 (Exists.intro 0 (And.intro (Or.inl rfl) (And.intro (Or.inl rfl) (t.2 u456))))))))
theorem g_x12_atom_22 {d : Nat} {B : Nat × Nat} {Q : zQ} {c : Nat × Nat × Nat} {I : Nat → Nat → Int} {g : Nat} {x1 s0 : Int}
    (t : zRn (zcl d) 151 B Q 161 [some (zr 67), some (zi (zwr (-s0)))] [] (c, (z2 I 67 26 (zwr ((I 67 26) - 1))), zRg g)) :
    zRn (zcl d) 151 B Q 22 [some (zr 67), some (zi x1)] [zi s0] (c, I, zRg g) :=
  zgo [8, 15, 22, 43, 50, 57, 64, 71, 92, 120, 142, 154, 161] 9 (And.intro rfl (And.intro rfl t))
theorem g_x12_atom_43 {d : Nat} {B : Nat × Nat} {Q : zQ} {c : Nat × Nat × Nat} {I : Nat → Nat → Int} {g : Nat} {x1 s0 : Int}
    (t : (s0 = 0 → ((I 67 27 ≠ 0 → ((I 67 27 ≠ 0 → (zcl d 145 0 0 [zr 67] (c, I, zRg g) (fun v h1 => zRn (zcl d) 151 B Q 161 [some (zr 67), some (zi x1)] (zva v []) h1))) ∧ (¬ (I 67 27 ≠ 0) → ((I 67 23 ≠ 1 → (zcl d 145 0 0 [zr 67] (c, I, zRg g) (fun v h1 => zRn (zcl d) 151 B Q 161 [some (zr 67), some (zi x1)] (zva v []) h1))) ∧ (¬ (I 67 23 ≠ 1) → (zcl d 150 0 0 [zr 67] (c, I, zRg g) (fun v h1 => zRn (zcl d) 151 B Q 142 [some (zr 67), some (zi x1)] (zva v []) h1))))))) ∧ (¬ (I 67 27 ≠ 0) → ((I 67 23 ≠ 2 → ((I 67 27 ≠ 0 → (zcl d 145 0 0 [zr 67] (c, I, zRg g) (fun v h1 => zRn (zcl d) 151 B Q 161 [some (zr 67), some (zi x1)] (zva v []) h1))) ∧ (¬ (I 67 27 ≠ 0) → ((I 67 23 ≠ 1 → (zcl d 145 0 0 [zr 67] (c, I, zRg g) (fun v h1 => zRn (zcl d) 151 B Q 161 [some (zr 67), some (zi x1)] (zva v []) h1))) ∧ (¬ (I 67 23 ≠ 1) → (zcl d 150 0 0 [zr 67] (c, I, zRg g) (fun v h1 => zRn (zcl d) 151 B Q 142 [some (zr 67), some (zi x1)] (zva v []) h1))))))) ∧ (¬ (I 67 23 ≠ 2) → (zcl d 144 0 0 [zr 67] (c, I, zRg g) (fun v h1 => zRn (zcl d) 151 B Q 120 [some (zr 67), some (zi (zwr (I 67 25)))] (zva v []) h1))))))) ∧ (¬ (s0 = 0) → (zcl d 149 0 0 [zr 67] (c, I, zRg g) (fun v h1 => zRn (zcl d) 151 B Q 50 [some (zr 67), some (zi x1)] (zva v []) h1)))) :
    zRn (zcl d) 151 B Q 43 [some (zr 67), some (zi x1)] [zi s0] (c, I, zRg g) :=
  zgo [8, 15, 22, 43, 50, 57, 64, 71, 92, 120, 142, 154, 161] 16 (And.intro (fun u449 => And.intro rfl (And.intro (fun u450 => And.intro rfl (And.intro (fun u451 => Exists.intro 145 (And.intro rfl (Exists.intro 0 (Exists.intro 0 (And.intro (Or.inl rfl) (And.intro (Or.inl rfl) (((t.1 u449).1 u450).1 u451))))))) (fun u451 => And.intro rfl (And.intro (fun u452 => Exists.intro 145 (And.intro rfl (Exists.intro 0 (Exists.intro 0 (And.intro (Or.inl rfl) (And.intro (Or.inl rfl) ((((t.1 u449).1 u450).2 u451).1 u452))))))) (fun u452 => Exists.intro 150 (And.intro rfl (Exists.intro 0 (Exists.intro 0 (And.intro (Or.inl rfl) (And.intro (Or.inl rfl) ((((t.1 u449).1 u450).2 u451).2 u452))))))))))) (fun u450 => And.intro rfl (And.intro (fun u453 => And.intro rfl (And.intro (fun u454 => Exists.intro 145 (And.intro rfl (Exists.intro 0 (Exists.intro 0 (And.intro (Or.inl rfl) (And.intro (Or.inl rfl) ((((t.1 u449).2 u450).1 u453).1 u454))))))) (fun u454 => And.intro rfl (And.intro (fun u455 => Exists.intro 145 (And.intro rfl (Exists.intro 0 (Exists.intro 0 (And.intro (Or.inl rfl) (And.intro (Or.inl rfl) (((((t.1 u449).2 u450).1 u453).2 u454).1 u455))))))) (fun u455 => Exists.intro 150 (And.intro rfl (Exists.intro 0 (Exists.intro 0 (And.intro (Or.inl rfl) (And.intro (Or.inl rfl) (((((t.1 u449).2 u450).1 u453).2 u454).2 u455))))))))))) (fun u453 => And.intro rfl (Exists.intro 144 (And.intro rfl (Exists.intro 0 (Exists.intro 0 (And.intro (Or.inl rfl) (And.intro (Or.inl rfl) (((t.1 u449).2 u450).2 u453)))))))))))) (fun u449 => Exists.intro 149 (And.intro rfl (Exists.intro 0 (Exists.intro 0 (And.intro (Or.inl rfl) (And.intro (Or.inl rfl) (t.2 u449))))))))
theorem g_x12_atom_50 {d : Nat} {B : Nat × Nat} {Q : zQ} {c : Nat × Nat × Nat} {I : Nat → Nat → Int} {g : Nat} {x1 s0 : Int}
    (t : (s0 = 0 → (zRn (zcl d) 151 B Q 161 [some (zr 67), some (zi x1)] [] (c, I, zRg g))) ∧ (¬ (s0 = 0) → (zcl d 156 0 0 [zr 67] (c, I, zRg g) (fun v h1 => zRn (zcl d) 151 B Q 57 [some (zr 67), some (zi x1)] (zva v []) h1)))) :
    zRn (zcl d) 151 B Q 50 [some (zr 67), some (zi x1)] [zi s0] (c, I, zRg g) :=
  zgo [8, 15, 22, 43, 50, 57, 64, 71, 92, 120, 142, 154, 161] 2 (And.intro (fun u458 => (t.1 u458)) (fun u458 => Exists.intro 156 (And.intro rfl (Exists.intro 0 (Exists.intro 0 (And.intro (Or.inl rfl) (And.intro (Or.inl rfl) (t.2 u458))))))))
theorem g_x12_atom_57 {d : Nat} {B : Nat × Nat} {Q : zQ} {c : Nat × Nat × Nat} {I : Nat → Nat → Int} {g : Nat} {x1 s0 : Int}
    (t : zcl d 148 0 0 [zr 67, zi 41] (c, I, zRg g) (fun v h1 => zRn (zcl d) 151 B Q 64 [some (zr 67), some (zi s0)] (zva v []) h1)) :
    zRn (zcl d) 151 B Q 57 [some (zr 67), some (zi x1)] [zi s0] (c, I, zRg g) :=
  zgo [8, 15, 22, 43, 50, 57, 64, 71, 92, 120, 142, 154, 161] 3 (Exists.intro 148 (And.intro rfl (Exists.intro 0 (Exists.intro 0 (And.intro (Or.inl rfl) (And.intro (Or.inl rfl) t))))))
theorem g_x12_atom_64 {d : Nat} {B : Nat × Nat} {Q : zQ} {c : Nat × Nat × Nat} {I : Nat → Nat → Int} {g : Nat} {x1 s0 : Int}
    (t : (s0 ≠ 0 → (zRn (zcl d) 151 B Q 71 [some (zr 67), some (zi x1)] [] (c, I, zRg g))) ∧ (¬ (s0 ≠ 0) → (zcl d 145 0 0 [zr 67] (c, I, zRg g) (fun v h1 => zRn (zcl d) 151 B Q 71 [some (zr 67), some (zi x1)] (zva v []) h1)))) :
    zRn (zcl d) 151 B Q 64 [some (zr 67), some (zi x1)] [zi s0] (c, I, zRg g) :=
  zgo [8, 15, 22, 43, 50, 57, 64, 71, 92, 120, 142, 154, 161] 2 (And.intro (fun u459 => (t.1 u459)) (fun u459 => Exists.intro 145 (And.intro rfl (Exists.intro 0 (Exists.intro 0 (And.intro (Or.inl rfl) (And.intro (Or.inl rfl) (t.2 u459))))))))
theorem g_x12_atom_71 {d : Nat} {B : Nat × Nat} {Q : zQ} {c : Nat × Nat × Nat} {I : Nat → Nat → Int} {g : Nat} {x1 : Int}
    (t : (I 67 27 ≠ 0 → (zRn (zcl d) 151 B Q 161 [some (zr 67), some (zi x1)] [] (c, (z2 I 67 26 (zwr ((I 67 26) - 1))), zRg g))) ∧ (¬ (I 67 27 ≠ 0) → (zcl d 144 0 0 [zr 67] (c, (z2 I 67 26 (zwr ((I 67 26) - 1))), zRg g) (fun v h1 => zRn (zcl d) 151 B Q 92 [some (zr 67), some (zi x1)] (zva v []) h1)))) :
    zRn (zcl d) 151 B Q 71 [some (zr 67), some (zi x1)] [] (c, I, zRg g) :=
  zgo [8, 15, 22, 43, 50, 57, 64, 71, 92, 120, 142, 154, 161] 10 (And.intro rfl (And.intro rfl (And.intro rfl (And.intro (fun u460 => (t.1 u460)) (fun u460 => Exists.intro 144 (And.intro rfl (Exists.intro 0 (Exists.intro 0 (And.intro (Or.inl rfl) (And.intro (Or.inl rfl) (t.2 u460)))))))))))
theorem g_x12_atom_92 {d : Nat} {B : Nat × Nat} {Q : zQ} {c : Nat × Nat × Nat} {I : Nat → Nat → Int} {g : Nat} {x1 : Int}
    (t : zRn (zcl d) 151 B Q 161 [some (zr 67), some (zi x1)] [] (c, I, zRg g)) :
    zRn (zcl d) 151 B Q 92 [some (zr 67), some (zi x1)] [] (c, I, zRg g) :=
  zgo [8, 15, 22, 43, 50, 57, 64, 71, 92, 120, 142, 154, 161] 1 (t)
theorem g_x12_atom_120 {d : Nat} {B : Nat × Nat} {Q : zQ} {c : Nat × Nat × Nat} {I : Nat → Nat → Int} {g : Nat} {x1 : Int}
    (t : zRn (zcl d) 151 B Q 161 [some (zr 67), some (zi x1)] [] (c, I, zRg g)) :
    zRn (zcl d) 151 B Q 120 [some (zr 67), some (zi x1)] [] (c, I, zRg g) :=
  zgo [8, 15, 22, 43, 50, 57, 64, 71, 92, 120, 142, 154, 161] 1 (t)
theorem g_x12_atom_142 {d : Nat} {B : Nat × Nat} {Q : zQ} {c : Nat × Nat × Nat} {I : Nat → Nat → Int} {g : Nat} {x1 s0 : Int}
    (t : (I 67 27 ≠ 0 → (zRn (zcl d) 151 B Q 161 [some (zr 67), some (zi s0)] [] (c, I, zRg g))) ∧ (¬ (I 67 27 ≠ 0) → (zcl d 144 0 0 [zr 67] (c, I, zRg g) (fun v h1 => zRn (zcl d) 151 B Q 154 [some (zr 67), some (zi s0)] (zva v []) h1)))) :
    zRn (zcl d) 151 B Q 142 [some (zr 67), some (zi x1)] [zi s0] (c, I, zRg g) :=
  zgo [8, 15, 22, 43, 50, 57, 64, 71, 92, 120, 142, 154, 161] 5 (And.intro rfl (And.intro (fun u457 => (t.1 u457)) (fun u457 => Exists.intro 144 (And.intro rfl (Exists.intro 0 (Exists.intro 0 (And.intro (Or.inl rfl) (And.intro (Or.inl rfl) (t.2 u457)))))))))
theorem g_x12_atom_154 {d : Nat} {B : Nat × Nat} {Q : zQ} {c : Nat × Nat × Nat} {I : Nat → Nat → Int} {g : Nat} {x1 : Int}
    (t : zRn (zcl d) 151 B Q 161 [some (zr 67), some (zi x1)] [] (c, I, zRg g)) :
    zRn (zcl d) 151 B Q 154 [some (zr 67), some (zi x1)] [] (c, I, zRg g) :=
  zgo [8, 15, 22, 43, 50, 57, 64, 71, 92, 120, 142, 154, 161] 1 (t)
theorem g_x12_atom_161 {d : Nat} {B : Nat × Nat} {Q : zQ} {c : Nat × Nat × Nat} {I : Nat → Nat → Int} {g : Nat} {x1 : Int}
    (t : Q (some (zi x1)) (c, I, zRg g)) :
    zRn (zcl d) 151 B Q 161 [some (zr 67), some (zi x1)] [] (c, I, zRg g) :=
  zgo [8, 15, 22, 43, 50, 57, 64, 71, 92, 120, 142, 154, 161] 1 (t)
theorem g_x12_term_0 {d : Nat} {B : Nat × Nat} {Q : zQ} {c : Nat × Nat × Nat} {I : Nat → Nat → Int} {g : Nat}
    (t : zcl d 151 0 0 [zr 67] (c, I, zRg g) (fun v h1 => zRn (zcl d) 152 B Q 4 [some (zr 67), none] (zva v []) h1)) :
    zRn (zcl d) 152 B Q 0 [some (zr 67), none] [] (c, I, zRg g) :=
  zgo [4, 5, 11, 18, 23] 1 (Exists.intro 151 (And.intro rfl (Exists.intro 0 (Exists.intro 0 (And.intro (Or.inl rfl) (And.intro (Or.inl rfl) t))))))
theorem g_x12_term_4 {d : Nat} {B : Nat × Nat} {Q : zQ} {c : Nat × Nat × Nat} {I : Nat → Nat → Int} {g : Nat} {s0 : Int}
    (t : zRn (zcl d) 152 B Q 5 [some (zr 67), some (zi s0)] [] (c, I, zRg g)) :
    zRn (zcl d) 152 B Q 4 [some (zr 67), none] [zi s0] (c, I, zRg g) :=
  zgo [4, 5, 11, 18, 23] 1 (t)
theorem g_x12_term_5 {d : Nat} {B : Nat × Nat} {Q : zQ} {c : Nat × Nat × Nat} {I : Nat → Nat → Int} {g : Nat} {x1 : Int}
    (t : zcl d 148 0 0 [zr 67, zi 42] (c, I, zRg g) (fun v h1 => zRn (zcl d) 152 B Q 11 [some (zr 67), some (zi x1)] (zva v []) h1)) :
    zRn (zcl d) 152 B Q 5 [some (zr 67), some (zi x1)] [] (c, I, zRg g) :=
  zgo [4, 5, 11, 18, 23] 2 (Exists.intro 148 (And.intro rfl (Exists.intro 0 (Exists.intro 0 (And.intro (Or.inl rfl) (And.intro (Or.inl rfl) t))))))
theorem g_x12_term_11 {d : Nat} {B : Nat × Nat} {Q : zQ} {c : Nat × Nat × Nat} {I : Nat → Nat → Int} {g : Nat} {x1 s0 : Int}
    (t : (s0 = 0 → (Q (some (zi x1)) (c, I, zRg g))) ∧ (¬ (s0 = 0) → (zcl d 144 0 0 [zr 67] (c, I, zRg g) (fun v h1 => zRn (zcl d) 152 B Q 18 [some (zr 67), some (zi x1)] (zva v []) h1)))) :
    zRn (zcl d) 152 B Q 11 [some (zr 67), some (zi x1)] [zi s0] (c, I, zRg g) :=
  zgo [4, 5, 11, 18, 23] 2 (And.intro (fun u461 => (t.1 u461)) (fun u461 => Exists.intro 144 (And.intro rfl (Exists.intro 0 (Exists.intro 0 (And.intro (Or.inl rfl) (And.intro (Or.inl rfl) (t.2 u461))))))))
theorem g_x12_term_18 {d : Nat} {B : Nat × Nat} {Q : zQ} {c : Nat × Nat × Nat} {I : Nat → Nat → Int} {g : Nat} {x1 : Int}
    (t : zcl d 151 0 0 [zr 67] (c, I, zRg g) (fun v h1 => zRn (zcl d) 152 B Q 23 [some (zr 67), some (zi x1)] (zva v [zi x1]) h1)) :
    zRn (zcl d) 152 B Q 18 [some (zr 67), some (zi x1)] [] (c, I, zRg g) :=
  zgo [4, 5, 11, 18, 23] 2 (Exists.intro 151 (And.intro rfl (Exists.intro 0 (Exists.intro 0 (And.intro (Or.inl rfl) (And.intro (Or.inl rfl) t))))))
theorem g_x12_term_23 {d : Nat} {B : Nat × Nat} {Q : zQ} {c : Nat × Nat × Nat} {I : Nat → Nat → Int} {g : Nat} {x1 s0 s1 : Int}
    (t : zRn (zcl d) 152 B Q 5 [some (zr 67), some (zi (zwr (s1 * s0)))] [] (c, I, zRg g)) :
    zRn (zcl d) 152 B Q 23 [some (zr 67), some (zi x1)] [zi s0, zi s1] (c, I, zRg g) :=
  zgo [4, 5, 11, 18, 23] 3 (t)
theorem g_x12_added_0 {d : Nat} {B : Nat × Nat} {Q : zQ} {c : Nat × Nat × Nat} {I : Nat → Nat → Int} {g : Nat}
    (t : zcl d 152 0 0 [zr 67] (c, I, zRg g) (fun v h1 => zRn (zcl d) 153 B Q 4 [some (zr 67), none, none, none] (zva v []) h1)) :
    zRn (zcl d) 153 B Q 0 [some (zr 67), none, none, none] [] (c, I, zRg g) :=
  zgo [4, 5, 11, 20, 44, 48] 1 (Exists.intro 152 (And.intro rfl (Exists.intro 0 (Exists.intro 0 (And.intro (Or.inl rfl) (And.intro (Or.inl rfl) t))))))
theorem g_x12_added_4 {d : Nat} {B : Nat × Nat} {Q : zQ} {c : Nat × Nat × Nat} {I : Nat → Nat → Int} {g : Nat} {s0 : Int}
    (t : zRn (zcl d) 153 B Q 5 [some (zr 67), some (zi s0), none, none] [] (c, I, zRg g)) :
    zRn (zcl d) 153 B Q 4 [some (zr 67), none, none, none] [zi s0] (c, I, zRg g) :=
  zgo [4, 5, 11, 20, 44, 48] 1 (t)
theorem g_x12_added_5 {d : Nat} {B : Nat × Nat} {Q : zQ} {c : Nat × Nat × Nat} {I : Nat → Nat → Int} {g : Nat} {x1 : Int}
    (t : zcl d 148 0 0 [zr 67, zi 43] (c, I, zRg g) (fun v h1 => zRn (zcl d) 153 B Q 11 [some (zr 67), some (zi x1), none, none] (zva v []) h1)) :
    zRn (zcl d) 153 B Q 5 [some (zr 67), some (zi x1), none, none] [] (c, I, zRg g) :=
  zgo [4, 5, 11, 20, 44, 48] 2 (Exists.intro 148 (And.intro rfl (Exists.intro 0 (Exists.intro 0 (And.intro (Or.inl rfl) (And.intro (Or.inl rfl) t))))))
theorem g_x12_added_11 {d : Nat} {B : Nat × Nat} {Q : zQ} {c : Nat × Nat × Nat} {I : Nat → Nat → Int} {g : Nat} {x1 s0 : Int}
    (t : (s0 ≠ 0 → ((zcmp (I 67 25) 43 ≠ 0 → (zcl d 144 0 0 [zr 67] (c, I, zRg g) (fun v h1 => zRn (zcl d) 153 B Q 44 [some (zr 67), some (zi x1), some (zi 0), none] (zva v []) h1))) ∧ (¬ (zcmp (I 67 25) 43 ≠ 0) → (zcl d 144 0 0 [zr 67] (c, I, zRg g) (fun v h1 => zRn (zcl d) 153 B Q 44 [some (zr 67), some (zi x1), some (zi 1), none] (zva v []) h1))))) ∧ (¬ (s0 ≠ 0) → (zcl d 148 0 0 [zr 67, zi 45] (c, I, zRg g) (fun v h1 => zRn (zcl d) 153 B Q 20 [some (zr 67), some (zi x1), none, none] (zva v []) h1)))) :
    zRn (zcl d) 153 B Q 11 [some (zr 67), some (zi x1), none, none] [zi s0] (c, I, zRg g) :=
  zgo [4, 5, 11, 20, 44, 48] 10 (And.intro (fun u462 => And.intro rfl (And.intro (fun u463 => Exists.intro 144 (And.intro rfl (Exists.intro 0 (Exists.intro 0 (And.intro (Or.inl rfl) (And.intro (Or.inl rfl) ((t.1 u462).1 u463))))))) (fun u463 => Exists.intro 144 (And.intro rfl (Exists.intro 0 (Exists.intro 0 (And.intro (Or.inl rfl) (And.intro (Or.inl rfl) ((t.1 u462).2 u463))))))))) (fun u462 => Exists.intro 148 (And.intro rfl (Exists.intro 0 (Exists.intro 0 (And.intro (Or.inl rfl) (And.intro (Or.inl rfl) (t.2 u462))))))))
theorem g_x12_added_20 {d : Nat} {B : Nat × Nat} {Q : zQ} {c : Nat × Nat × Nat} {I : Nat → Nat → Int} {g : Nat} {x1 s0 : Int}
    (t : (s0 = 0 → (Q (some (zi x1)) (c, I, zRg g))) ∧ (¬ (s0 = 0) → ((zcmp (I 67 25) 43 ≠ 0 → (zcl d 144 0 0 [zr 67] (c, I, zRg g) (fun v h1 => zRn (zcl d) 153 B Q 44 [some (zr 67), some (zi x1), some (zi 0), none] (zva v []) h1))) ∧ (¬ (zcmp (I 67 25) 43 ≠ 0) → (zcl d 144 0 0 [zr 67] (c, I, zRg g) (fun v h1 => zRn (zcl d) 153 B Q 44 [some (zr 67), some (zi x1), some (zi 1), none] (zva v []) h1)))))) :
    zRn (zcl d) 153 B Q 20 [some (zr 67), some (zi x1), none, none] [zi s0] (c, I, zRg g) :=
  zgo [4, 5, 11, 20, 44, 48] 10 (And.intro (fun u464 => (t.1 u464)) (fun u464 => And.intro rfl (And.intro (fun u465 => Exists.intro 144 (And.intro rfl (Exists.intro 0 (Exists.intro 0 (And.intro (Or.inl rfl) (And.intro (Or.inl rfl) ((t.2 u464).1 u465))))))) (fun u465 => Exists.intro 144 (And.intro rfl (Exists.intro 0 (Exists.intro 0 (And.intro (Or.inl rfl) (And.intro (Or.inl rfl) ((t.2 u464).2 u465))))))))))
theorem g_x12_added_44 {d : Nat} {B : Nat × Nat} {Q : zQ} {c : Nat × Nat × Nat} {I : Nat → Nat → Int} {g : Nat} {x1 x2 : Int}
    (t : zcl d 152 0 0 [zr 67] (c, I, zRg g) (fun v h1 => zRn (zcl d) 153 B Q 48 [some (zr 67), some (zi x1), some (zi x2), none] (zva v []) h1)) :
    zRn (zcl d) 153 B Q 44 [some (zr 67), some (zi x1), some (zi x2), none] [] (c, I, zRg g) :=
  zgo [4, 5, 11, 20, 44, 48] 1 (Exists.intro 152 (And.intro rfl (Exists.intro 0 (Exists.intro 0 (And.intro (Or.inl rfl) (And.intro (Or.inl rfl) t))))))
theorem g_x12_added_48 {d : Nat} {B : Nat × Nat} {Q : zQ} {c : Nat × Nat × Nat} {I : Nat → Nat → Int} {g : Nat} {x1 x2 s0 : Int}
    (t : (x2 = 0 → (zRn (zcl d) 153 B Q 5 [some (zr 67), some (zi (zwr (x1 - s0))), some (zi x2), some (zi s0)] [] (c, I, zRg g))) ∧ (¬ (x2 = 0) → (zRn (zcl d) 153 B Q 5 [some (zr 67), some (zi (zwr (x1 + s0))), some (zi x2), some (zi s0)] [] (c, I, zRg g)))) :
    zRn (zcl d) 153 B Q 48 [some (zr 67), some (zi x1), some (zi x2), none] [zi s0] (c, I, zRg g) :=
  zgo [4, 5, 11, 20, 44, 48] 9 (And.intro (fun u466 => (t.1 u466)) (fun u466 => (t.2 u466)))
theorem g_x12_not_0 {d : Nat} {B : Nat × Nat} {Q : zQ} {c : Nat × Nat × Nat} {I : Nat → Nat → Int} {g : Nat}
    (t : zcl d 147 0 0 [zr 67, zi 110, zi 111, zi 116, zi 0, zi 0, zi 0, zi 0, zi 0] (c, I, zRg g) (fun v h1 => zRn (zcl d) 154 B Q 15 [some (zr 67), none, none, none] (zva v []) h1)) :
    zRn (zcl d) 154 B Q 0 [some (zr 67), none, none, none] [] (c, I, zRg g) :=
  zgo [15, 22, 31, 56, 63, 72, 98, 102] 9 (Exists.intro 147 (And.intro rfl (Exists.intro 0 (Exists.intro 0 (And.intro (Or.inl rfl) (And.intro (Or.inl rfl) t))))))
theorem g_x12_not_15 {d : Nat} {B : Nat × Nat} {Q : zQ} {c : Nat × Nat × Nat} {I : Nat → Nat → Int} {g : Nat} {s0 : Int}
    (t : (s0 = 0 → (zcl d 153 0 0 [zr 67] (c, I, zRg g) (fun v h1 => zRn (zcl d) 154 B Q 56 [some (zr 67), none, none, none] (zva v []) h1))) ∧ (¬ (s0 = 0) → (zcl d 149 0 0 [zr 67] (c, I, zRg g) (fun v h1 => zRn (zcl d) 154 B Q 22 [some (zr 67), none, none, none] (zva v []) h1)))) :
    zRn (zcl d) 154 B Q 15 [some (zr 67), none, none, none] [zi s0] (c, I, zRg g) :=
  zgo [15, 22, 31, 56, 63, 72, 98, 102] 2 (And.intro (fun u467 => Exists.intro 153 (And.intro rfl (Exists.intro 0 (Exists.intro 0 (And.intro (Or.inl rfl) (And.intro (Or.inl rfl) (t.1 u467))))))) (fun u467 => Exists.intro 149 (And.intro rfl (Exists.intro 0 (Exists.intro 0 (And.intro (Or.inl rfl) (And.intro (Or.inl rfl) (t.2 u467))))))))
theorem g_x12_not_22 {d : Nat} {B : Nat × Nat} {Q : zQ} {c : Nat × Nat × Nat} {I : Nat → Nat → Int} {g : Nat} {s0 : Int}
    (t : (s0 ≠ 0 → (zcl d 154 0 0 [zr 67] (c, I, zRg g) (fun v h1 => zRn (zcl d) 154 B Q 31 [some (zr 67), none, none, none] (zva v []) h1))) ∧ (¬ (s0 ≠ 0) → (Q (some (zi 0)) (c, I, zRg g)))) :
    zRn (zcl d) 154 B Q 22 [some (zr 67), none, none, none] [zi s0] (c, I, zRg g) :=
  zgo [15, 22, 31, 56, 63, 72, 98, 102] 2 (And.intro (fun u468 => Exists.intro 154 (And.intro rfl (Exists.intro 0 (Exists.intro 0 (And.intro (Or.inl rfl) (And.intro (Or.inl rfl) (t.1 u468))))))) (fun u468 => (t.2 u468)))
theorem g_x12_not_31 {d : Nat} {B : Nat × Nat} {Q : zQ} {c : Nat × Nat × Nat} {I : Nat → Nat → Int} {g : Nat} {s0 : Int}
    (t : (s0 ≠ 0 → (Q (some (zi 0)) (c, (z2 I 67 26 (zwr ((I 67 26) - 1))), zRg g))) ∧ (¬ (s0 ≠ 0) → (Q (some (zi 1)) (c, (z2 I 67 26 (zwr ((I 67 26) - 1))), zRg g)))) :
    zRn (zcl d) 154 B Q 31 [some (zr 67), none, none, none] [zi s0] (c, I, zRg g) :=
  zgo [15, 22, 31, 56, 63, 72, 98, 102] 11 (And.intro rfl (And.intro rfl (And.intro (fun u471 => (t.1 u471)) (fun u471 => (t.2 u471)))))
theorem g_x12_not_56 {d : Nat} {B : Nat × Nat} {Q : zQ} {c : Nat × Nat × Nat} {I : Nat → Nat → Int} {g : Nat} {s0 : Int}
    (t : zcl d 148 0 0 [zr 67, zi 60] (c, I, zRg g) (fun v h1 => zRn (zcl d) 154 B Q 63 [some (zr 67), some (zi s0), none, none] (zva v []) h1)) :
    zRn (zcl d) 154 B Q 56 [some (zr 67), none, none, none] [zi s0] (c, I, zRg g) :=
  zgo [15, 22, 31, 56, 63, 72, 98, 102] 3 (Exists.intro 148 (And.intro rfl (Exists.intro 0 (Exists.intro 0 (And.intro (Or.inl rfl) (And.intro (Or.inl rfl) t))))))
theorem g_x12_not_63 {d : Nat} {B : Nat × Nat} {Q : zQ} {c : Nat × Nat × Nat} {I : Nat → Nat → Int} {g : Nat} {x1 s0 : Int}
    (t : (s0 ≠ 0 → ((zcmp (I 67 25) 60 ≠ 0 → (zcl d 144 0 0 [zr 67] (c, I, zRg g) (fun v h1 => zRn (zcl d) 154 B Q 98 [some (zr 67), some (zi x1), some (zi 0), none] (zva v []) h1))) ∧ (¬ (zcmp (I 67 25) 60 ≠ 0) → (zcl d 144 0 0 [zr 67] (c, I, zRg g) (fun v h1 => zRn (zcl d) 154 B Q 98 [some (zr 67), some (zi x1), some (zi 1), none] (zva v []) h1))))) ∧ (¬ (s0 ≠ 0) → (zcl d 148 0 0 [zr 67, zi 61] (c, I, zRg g) (fun v h1 => zRn (zcl d) 154 B Q 72 [some (zr 67), some (zi x1), none, none] (zva v []) h1)))) :
    zRn (zcl d) 154 B Q 63 [some (zr 67), some (zi x1), none, none] [zi s0] (c, I, zRg g) :=
  zgo [15, 22, 31, 56, 63, 72, 98, 102] 10 (And.intro (fun u469 => And.intro rfl (And.intro (fun u470 => Exists.intro 144 (And.intro rfl (Exists.intro 0 (Exists.intro 0 (And.intro (Or.inl rfl) (And.intro (Or.inl rfl) ((t.1 u469).1 u470))))))) (fun u470 => Exists.intro 144 (And.intro rfl (Exists.intro 0 (Exists.intro 0 (And.intro (Or.inl rfl) (And.intro (Or.inl rfl) ((t.1 u469).2 u470))))))))) (fun u469 => Exists.intro 148 (And.intro rfl (Exists.intro 0 (Exists.intro 0 (And.intro (Or.inl rfl) (And.intro (Or.inl rfl) (t.2 u469))))))))
theorem g_x12_not_72 {d : Nat} {B : Nat × Nat} {Q : zQ} {c : Nat × Nat × Nat} {I : Nat → Nat → Int} {g : Nat} {x1 s0 : Int}
    (t : (s0 ≠ 0 → ((zcmp (I 67 25) 60 ≠ 0 → (zcl d 144 0 0 [zr 67] (c, I, zRg g) (fun v h1 => zRn (zcl d) 154 B Q 98 [some (zr 67), some (zi x1), some (zi 0), none] (zva v []) h1))) ∧ (¬ (zcmp (I 67 25) 60 ≠ 0) → (zcl d 144 0 0 [zr 67] (c, I, zRg g) (fun v h1 => zRn (zcl d) 154 B Q 98 [some (zr 67), some (zi x1), some (zi 1), none] (zva v []) h1))))) ∧ (¬ (s0 ≠ 0) → (Q (some (zi x1)) (c, I, zRg g)))) :
    zRn (zcl d) 154 B Q 72 [some (zr 67), some (zi x1), none, none] [zi s0] (c, I, zRg g) :=
  zgo [15, 22, 31, 56, 63, 72, 98, 102] 10 (And.intro (fun u472 => And.intro rfl (And.intro (fun u473 => Exists.intro 144 (And.intro rfl (Exists.intro 0 (Exists.intro 0 (And.intro (Or.inl rfl) (And.intro (Or.inl rfl) ((t.1 u472).1 u473))))))) (fun u473 => Exists.intro 144 (And.intro rfl (Exists.intro 0 (Exists.intro 0 (And.intro (Or.inl rfl) (And.intro (Or.inl rfl) ((t.1 u472).2 u473))))))))) (fun u472 => (t.2 u472)))
theorem g_x12_not_98 {d : Nat} {B : Nat × Nat} {Q : zQ} {c : Nat × Nat × Nat} {I : Nat → Nat → Int} {g : Nat} {x1 x2 : Int}
    (t : zcl d 153 0 0 [zr 67] (c, I, zRg g) (fun v h1 => zRn (zcl d) 154 B Q 102 [some (zr 67), some (zi x1), some (zi x2), none] (zva v []) h1)) :
    zRn (zcl d) 154 B Q 98 [some (zr 67), some (zi x1), some (zi x2), none] [] (c, I, zRg g) :=
  zgo [15, 22, 31, 56, 63, 72, 98, 102] 1 (Exists.intro 153 (And.intro rfl (Exists.intro 0 (Exists.intro 0 (And.intro (Or.inl rfl) (And.intro (Or.inl rfl) t))))))
theorem g_x12_not_102 {d : Nat} {B : Nat × Nat} {Q : zQ} {c : Nat × Nat × Nat} {I : Nat → Nat → Int} {g : Nat} {x1 x2 s0 : Int}
    (t : (x2 = 0 → ((x1 ≠ s0 → (Q (some (zi 0)) (c, I, zRg g))) ∧ (¬ (x1 ≠ s0) → (Q (some (zi 1)) (c, I, zRg g))))) ∧ (¬ (x2 = 0) → ((s0 ≤ x1 → (Q (some (zi 0)) (c, I, zRg g))) ∧ (¬ (s0 ≤ x1) → (Q (some (zi 1)) (c, I, zRg g)))))) :
    zRn (zcl d) 154 B Q 102 [some (zr 67), some (zi x1), some (zi x2), none] [zi s0] (c, I, zRg g) :=
  zgo [15, 22, 31, 56, 63, 72, 98, 102] 9 (And.intro (fun u474 => And.intro (fun u475 => ((t.1 u474).1 u475)) (fun u475 => ((t.1 u474).2 u475))) (fun u474 => And.intro (fun u476 => ((t.2 u474).1 u476)) (fun u476 => ((t.2 u474).2 u476))))
theorem g_x12_both_0 {d : Nat} {B : Nat × Nat} {Q : zQ} {c : Nat × Nat × Nat} {I : Nat → Nat → Int} {g : Nat}
    (t : zcl d 154 0 0 [zr 67] (c, I, zRg g) (fun v h1 => zRn (zcl d) 155 B Q 4 [some (zr 67), none, none] (zva v []) h1)) :
    zRn (zcl d) 155 B Q 0 [some (zr 67), none, none] [] (c, I, zRg g) :=
  zgo [4, 5, 20, 27, 31] 1 (Exists.intro 154 (And.intro rfl (Exists.intro 0 (Exists.intro 0 (And.intro (Or.inl rfl) (And.intro (Or.inl rfl) t))))))
theorem g_x12_both_4 {d : Nat} {B : Nat × Nat} {Q : zQ} {c : Nat × Nat × Nat} {I : Nat → Nat → Int} {g : Nat} {s0 : Int}
    (t : zRn (zcl d) 155 B Q 5 [some (zr 67), some (zi s0), none] [] (c, I, zRg g)) :
    zRn (zcl d) 155 B Q 4 [some (zr 67), none, none] [zi s0] (c, I, zRg g) :=
  zgo [4, 5, 20, 27, 31] 1 (t)
theorem g_x12_both_5 {d : Nat} {B : Nat × Nat} {Q : zQ} {c : Nat × Nat × Nat} {I : Nat → Nat → Int} {g : Nat} {x1 : Int}
    (t : zcl d 147 0 0 [zr 67, zi 97, zi 110, zi 100, zi 0, zi 0, zi 0, zi 0, zi 0] (c, I, zRg g) (fun v h1 => zRn (zcl d) 155 B Q 20 [some (zr 67), some (zi x1), none] (zva v []) h1)) :
    zRn (zcl d) 155 B Q 5 [some (zr 67), some (zi x1), none] [] (c, I, zRg g) :=
  zgo [4, 5, 20, 27, 31] 9 (Exists.intro 147 (And.intro rfl (Exists.intro 0 (Exists.intro 0 (And.intro (Or.inl rfl) (And.intro (Or.inl rfl) t))))))
theorem g_x12_both_20 {d : Nat} {B : Nat × Nat} {Q : zQ} {c : Nat × Nat × Nat} {I : Nat → Nat → Int} {g : Nat} {x1 s0 : Int}
    (t : (s0 = 0 → (Q (some (zi x1)) (c, I, zRg g))) ∧ (¬ (s0 = 0) → (zcl d 144 0 0 [zr 67] (c, I, zRg g) (fun v h1 => zRn (zcl d) 155 B Q 27 [some (zr 67), some (zi x1), none] (zva v []) h1)))) :
    zRn (zcl d) 155 B Q 20 [some (zr 67), some (zi x1), none] [zi s0] (c, I, zRg g) :=
  zgo [4, 5, 20, 27, 31] 2 (And.intro (fun u477 => (t.1 u477)) (fun u477 => Exists.intro 144 (And.intro rfl (Exists.intro 0 (Exists.intro 0 (And.intro (Or.inl rfl) (And.intro (Or.inl rfl) (t.2 u477))))))))
theorem g_x12_both_27 {d : Nat} {B : Nat × Nat} {Q : zQ} {c : Nat × Nat × Nat} {I : Nat → Nat → Int} {g : Nat} {x1 : Int}
    (t : zcl d 154 0 0 [zr 67] (c, I, zRg g) (fun v h1 => zRn (zcl d) 155 B Q 31 [some (zr 67), some (zi x1), none] (zva v []) h1)) :
    zRn (zcl d) 155 B Q 27 [some (zr 67), some (zi x1), none] [] (c, I, zRg g) :=
  zgo [4, 5, 20, 27, 31] 1 (Exists.intro 154 (And.intro rfl (Exists.intro 0 (Exists.intro 0 (And.intro (Or.inl rfl) (And.intro (Or.inl rfl) t))))))
theorem g_x12_both_31 {d : Nat} {B : Nat × Nat} {Q : zQ} {c : Nat × Nat × Nat} {I : Nat → Nat → Int} {g : Nat} {x1 s0 : Int}
    (t : (x1 = 0 → (zRn (zcl d) 155 B Q 5 [some (zr 67), some (zi 0), some (zi s0)] [] (c, I, zRg g))) ∧ (¬ (x1 = 0) → ((s0 = 0 → (zRn (zcl d) 155 B Q 5 [some (zr 67), some (zi 0), some (zi s0)] [] (c, I, zRg g))) ∧ (¬ (s0 = 0) → (zRn (zcl d) 155 B Q 5 [some (zr 67), some (zi 1), some (zi s0)] [] (c, I, zRg g)))))) :
    zRn (zcl d) 155 B Q 31 [some (zr 67), some (zi x1), none] [zi s0] (c, I, zRg g) :=
  zgo [4, 5, 20, 27, 31] 9 (And.intro (fun u478 => (t.1 u478)) (fun u478 => And.intro (fun u479 => ((t.2 u478).1 u479)) (fun u479 => ((t.2 u478).2 u479))))
theorem g_x12_either_0 {d : Nat} {B : Nat × Nat} {Q : zQ} {c : Nat × Nat × Nat} {I : Nat → Nat → Int} {g : Nat}
    (t : zcl d 155 0 0 [zr 67] (c, I, zRg g) (fun v h1 => zRn (zcl d) 156 B Q 4 [some (zr 67), none, none] (zva v []) h1)) :
    zRn (zcl d) 156 B Q 0 [some (zr 67), none, none] [] (c, I, zRg g) :=
  zgo [4, 5, 19, 26, 30] 1 (Exists.intro 155 (And.intro rfl (Exists.intro 0 (Exists.intro 0 (And.intro (Or.inl rfl) (And.intro (Or.inl rfl) t))))))
theorem g_x12_either_4 {d : Nat} {B : Nat × Nat} {Q : zQ} {c : Nat × Nat × Nat} {I : Nat → Nat → Int} {g : Nat} {s0 : Int}
    (t : zRn (zcl d) 156 B Q 5 [some (zr 67), some (zi s0), none] [] (c, I, zRg g)) :
    zRn (zcl d) 156 B Q 4 [some (zr 67), none, none] [zi s0] (c, I, zRg g) :=
  zgo [4, 5, 19, 26, 30] 1 (t)
theorem g_x12_either_5 {d : Nat} {B : Nat × Nat} {Q : zQ} {c : Nat × Nat × Nat} {I : Nat → Nat → Int} {g : Nat} {x1 : Int}
    (t : zcl d 147 0 0 [zr 67, zi 111, zi 114, zi 0, zi 0, zi 0, zi 0, zi 0, zi 0] (c, I, zRg g) (fun v h1 => zRn (zcl d) 156 B Q 19 [some (zr 67), some (zi x1), none] (zva v []) h1)) :
    zRn (zcl d) 156 B Q 5 [some (zr 67), some (zi x1), none] [] (c, I, zRg g) :=
  zgo [4, 5, 19, 26, 30] 9 (Exists.intro 147 (And.intro rfl (Exists.intro 0 (Exists.intro 0 (And.intro (Or.inl rfl) (And.intro (Or.inl rfl) t))))))
theorem g_x12_either_19 {d : Nat} {B : Nat × Nat} {Q : zQ} {c : Nat × Nat × Nat} {I : Nat → Nat → Int} {g : Nat} {x1 s0 : Int}
    (t : (s0 = 0 → (Q (some (zi x1)) (c, I, zRg g))) ∧ (¬ (s0 = 0) → (zcl d 144 0 0 [zr 67] (c, I, zRg g) (fun v h1 => zRn (zcl d) 156 B Q 26 [some (zr 67), some (zi x1), none] (zva v []) h1)))) :
    zRn (zcl d) 156 B Q 19 [some (zr 67), some (zi x1), none] [zi s0] (c, I, zRg g) :=
  zgo [4, 5, 19, 26, 30] 2 (And.intro (fun u480 => (t.1 u480)) (fun u480 => Exists.intro 144 (And.intro rfl (Exists.intro 0 (Exists.intro 0 (And.intro (Or.inl rfl) (And.intro (Or.inl rfl) (t.2 u480))))))))
theorem g_x12_either_26 {d : Nat} {B : Nat × Nat} {Q : zQ} {c : Nat × Nat × Nat} {I : Nat → Nat → Int} {g : Nat} {x1 : Int}
    (t : zcl d 155 0 0 [zr 67] (c, I, zRg g) (fun v h1 => zRn (zcl d) 156 B Q 30 [some (zr 67), some (zi x1), none] (zva v []) h1)) :
    zRn (zcl d) 156 B Q 26 [some (zr 67), some (zi x1), none] [] (c, I, zRg g) :=
  zgo [4, 5, 19, 26, 30] 1 (Exists.intro 155 (And.intro rfl (Exists.intro 0 (Exists.intro 0 (And.intro (Or.inl rfl) (And.intro (Or.inl rfl) t))))))
theorem g_x12_either_30 {d : Nat} {B : Nat × Nat} {Q : zQ} {c : Nat × Nat × Nat} {I : Nat → Nat → Int} {g : Nat} {x1 s0 : Int}
    (t : (x1 ≠ 0 → (zRn (zcl d) 156 B Q 5 [some (zr 67), some (zi 1), some (zi s0)] [] (c, I, zRg g))) ∧ (¬ (x1 ≠ 0) → ((s0 = 0 → (zRn (zcl d) 156 B Q 5 [some (zr 67), some (zi 0), some (zi s0)] [] (c, I, zRg g))) ∧ (¬ (s0 = 0) → (zRn (zcl d) 156 B Q 5 [some (zr 67), some (zi 1), some (zi s0)] [] (c, I, zRg g)))))) :
    zRn (zcl d) 156 B Q 30 [some (zr 67), some (zi x1), none] [zi s0] (c, I, zRg g) :=
  zgo [4, 5, 19, 26, 30] 9 (And.intro (fun u481 => (t.1 u481)) (fun u481 => And.intro (fun u482 => ((t.2 u481).1 u482)) (fun u482 => ((t.2 u481).2 u482))))
theorem g_x12_part_0 {d : Nat} {B : Nat × Nat} {Q : zQ} {c : Nat × Nat × Nat} {I : Nat → Nat → Int} {g : Nat} {x1 : Int}
    (t : (x1 ≠ 0 → (zRn (zcl d) 157 B Q 8 [some (zr 67), some (zi x1), none] [] (c, I, zRg g))) ∧ (¬ (x1 ≠ 0) → (zcl d 145 0 0 [zr 67] (c, I, zRg g) (fun v h1 => zRn (zcl d) 157 B Q 8 [some (zr 67), some (zi x1), none] (zva v []) h1)))) :
    zRn (zcl d) 157 B Q 0 [some (zr 67), some (zi x1), none] [] (c, I, zRg g) :=
  zgo [8, 19, 34, 41, 48, 59] 3 (And.intro (fun u483 => (t.1 u483)) (fun u483 => Exists.intro 145 (And.intro rfl (Exists.intro 0 (Exists.intro 0 (And.intro (Or.inl rfl) (And.intro (Or.inl rfl) (t.2 u483))))))))
theorem g_x12_part_8 {d : Nat} {B : Nat × Nat} {Q : zQ} {c : Nat × Nat × Nat} {I : Nat → Nat → Int} {g : Nat} {x1 : Int}
    (t : (I 67 27 ≠ 0 → (zRn (zcl d) 157 B Q 19 [some (zr 67), some (zi x1), none] [] (c, I, zRg g))) ∧ (¬ (I 67 27 ≠ 0) → (zcl d 144 0 0 [zr 67] (c, I, zRg g) (fun v h1 => zRn (zcl d) 157 B Q 19 [some (zr 67), some (zi x1), none] (zva v []) h1)))) :
    zRn (zcl d) 157 B Q 8 [some (zr 67), some (zi x1), none] [] (c, I, zRg g) :=
  zgo [8, 19, 34, 41, 48, 59] 4 (And.intro rfl (And.intro (fun u484 => (t.1 u484)) (fun u484 => Exists.intro 144 (And.intro rfl (Exists.intro 0 (Exists.intro 0 (And.intro (Or.inl rfl) (And.intro (Or.inl rfl) (t.2 u484)))))))))
theorem g_x12_part_19 {d : Nat} {B : Nat × Nat} {Q : zQ} {c : Nat × Nat × Nat} {I : Nat → Nat → Int} {g : Nat} {x1 : Int}
    (t : (I 67 27 = 0 → (zcl d 156 0 0 [zr 67] (c, I, zRg g) (fun v h1 => zRn (zcl d) 157 B Q 34 [some (zr 67), some (zi x1), none] (zva v []) h1))) ∧ (¬ (I 67 27 = 0) → (zRn (zcl d) 157 B Q 34 [some (zr 67), some (zi x1), none] [zi 0] (c, I, zRg g)))) :
    zRn (zcl d) 157 B Q 19 [some (zr 67), some (zi x1), none] [] (c, I, zRg g) :=
  zgo [8, 19, 34, 41, 48, 59] 5 (And.intro rfl (And.intro (fun u485 => Exists.intro 156 (And.intro rfl (Exists.intro 0 (Exists.intro 0 (And.intro (Or.inl rfl) (And.intro (Or.inl rfl) (t.1 u485))))))) (fun u485 => (t.2 u485))))
theorem g_x12_part_34 {d : Nat} {B : Nat × Nat} {Q : zQ} {c : Nat × Nat × Nat} {I : Nat → Nat → Int} {g : Nat} {x1 s0 : Int}
    (t : zcl d 148 0 0 [zr 67, zi 59] (c, I, zRg g) (fun v h1 => zRn (zcl d) 157 B Q 41 [some (zr 67), some (zi x1), some (zi s0)] (zva v []) h1)) :
    zRn (zcl d) 157 B Q 34 [some (zr 67), some (zi x1), none] [zi s0] (c, I, zRg g) :=
  zgo [8, 19, 34, 41, 48, 59] 3 (Exists.intro 148 (And.intro rfl (Exists.intro 0 (Exists.intro 0 (And.intro (Or.inl rfl) (And.intro (Or.inl rfl) t))))))
theorem g_x12_part_41 {d : Nat} {B : Nat × Nat} {Q : zQ} {c : Nat × Nat × Nat} {I : Nat → Nat → Int} {g : Nat} {x1 x2 s0 : Int}
    (t : (s0 ≠ 0 → (zRn (zcl d) 157 B Q 48 [some (zr 67), some (zi x1), some (zi x2)] [] (c, I, zRg g))) ∧ (¬ (s0 ≠ 0) → (zcl d 145 0 0 [zr 67] (c, I, zRg g) (fun v h1 => zRn (zcl d) 157 B Q 48 [some (zr 67), some (zi x1), some (zi x2)] (zva v []) h1)))) :
    zRn (zcl d) 157 B Q 41 [some (zr 67), some (zi x1), some (zi x2)] [zi s0] (c, I, zRg g) :=
  zgo [8, 19, 34, 41, 48, 59] 2 (And.intro (fun u486 => (t.1 u486)) (fun u486 => Exists.intro 145 (And.intro rfl (Exists.intro 0 (Exists.intro 0 (And.intro (Or.inl rfl) (And.intro (Or.inl rfl) (t.2 u486))))))))
theorem g_x12_part_48 {d : Nat} {B : Nat × Nat} {Q : zQ} {c : Nat × Nat × Nat} {I : Nat → Nat → Int} {g : Nat} {x1 x2 : Int}
    (t : (I 67 27 ≠ 0 → (zRn (zcl d) 157 B Q 59 [some (zr 67), some (zi x1), some (zi x2)] [] (c, I, zRg g))) ∧ (¬ (I 67 27 ≠ 0) → (zcl d 144 0 0 [zr 67] (c, I, zRg g) (fun v h1 => zRn (zcl d) 157 B Q 59 [some (zr 67), some (zi x1), some (zi x2)] (zva v []) h1)))) :
    zRn (zcl d) 157 B Q 48 [some (zr 67), some (zi x1), some (zi x2)] [] (c, I, zRg g) :=
  zgo [8, 19, 34, 41, 48, 59] 4 (And.intro rfl (And.intro (fun u487 => (t.1 u487)) (fun u487 => Exists.intro 144 (And.intro rfl (Exists.intro 0 (Exists.intro 0 (And.intro (Or.inl rfl) (And.intro (Or.inl rfl) (t.2 u487)))))))))
theorem g_x12_part_59 {d : Nat} {B : Nat × Nat} {Q : zQ} {c : Nat × Nat × Nat} {I : Nat → Nat → Int} {g : Nat} {x1 x2 : Int}
    (t : Q (some (zi x2)) (c, I, zRg g)) :
    zRn (zcl d) 157 B Q 59 [some (zr 67), some (zi x1), some (zi x2)] [] (c, I, zRg g) :=
  zgo [8, 19, 34, 41, 48, 59] 1 (t)
theorem g_x12_read_0 {d : Nat} {B : Nat × Nat} {Q : zQ} {c : Nat × Nat × Nat} {I : Nat → Nat → Int} {g : Nat} {x1 x2 : Int}
    (t : (0 ≤ x1 ∧ x1 < 6) ∧ (zcl d 144 0 0 [zr 67] (c, (z2 (z2 (z2 (z2 (z2 I 67 20 (zwr (160 * x1))) 67 21 ((z2 I 67 20 (zwr (160 * x1))) 69 x1.toNat)) 67 22 0) 67 26 0) 67 27 0), zRg g) (fun v h1 => zRn (zcl d) 158 B Q 38 [some (zr 67), some (zi x1), some (zi x2), none, none, none] (zva v []) h1))) :
    zRn (zcl d) 158 B Q 0 [some (zr 67), some (zi x1), some (zi x2), none, none, none] [] (c, I, zRg g) :=
  zgo [38, 56, 59, 89, 92, 124, 127, 147] 21 (And.intro rfl (And.intro rfl (Exists.intro (some 69) (And.intro rfl (And.intro rfl (And.intro t.1 (And.intro rfl (And.intro rfl (And.intro rfl (And.intro rfl (And.intro (Or.inl rfl) (Exists.intro 144 (And.intro rfl (Exists.intro 0 (Exists.intro 0 (And.intro (Or.inl rfl) (And.intro (Or.inl rfl) t.2)))))))))))))))))
theorem g_x12_read_38 {d : Nat} {B : Nat × Nat} {Q : zQ} {c : Nat × Nat × Nat} {I : Nat → Nat → Int} {g : Nat} {x1 x2 : Int}
    (t : zcl d 147 0 0 [zr 67, zi 107, zi 101, zi 101, zi 112, zi 115, zi 0, zi 0, zi 0] (c, I, zRg g) (fun v h1 => zRn (zcl d) 158 B Q 56 [some (zr 67), some (zi x1), some (zi x2), none, none, none] (zva v [zr 67]) h1)) :
    zRn (zcl d) 158 B Q 38 [some (zr 67), some (zi x1), some (zi x2), none, none, none] [] (c, I, zRg g) :=
  zgo [38, 56, 59, 89, 92, 124, 127, 147] 10 (Exists.intro 147 (And.intro rfl (Exists.intro 0 (Exists.intro 0 (And.intro (Or.inl rfl) (And.intro (Or.inl rfl) t))))))
theorem g_x12_read_56 {d : Nat} {B : Nat × Nat} {Q : zQ} {c : Nat × Nat × Nat} {I : Nat → Nat → Int} {g : Nat} {x1 x2 s0 : Int}
    (t : zcl d 157 0 0 [zr 67, zi s0] (c, I, zRg g) (fun v h1 => zRn (zcl d) 158 B Q 59 [some (zr 67), some (zi x1), some (zi x2), none, none, none] (zva v []) h1)) :
    zRn (zcl d) 158 B Q 56 [some (zr 67), some (zi x1), some (zi x2), none, none, none] [zi s0, zr 67] (c, I, zRg g) :=
  zgo [38, 56, 59, 89, 92, 124, 127, 147] 0 (Exists.intro 157 (And.intro rfl (Exists.intro 0 (Exists.intro 0 (And.intro (Or.inl rfl) (And.intro (Or.inl rfl) t))))))
theorem g_x12_read_59 {d : Nat} {B : Nat × Nat} {Q : zQ} {c : Nat × Nat × Nat} {I : Nat → Nat → Int} {g : Nat} {x1 x2 s0 : Int}
    (t : (I 67 27 = 0 → (zcl d 147 0 0 [zr 67, zi 116, zi 105, zi 114, zi 101, zi 115, zi 0, zi 0, zi 0] (c, I, zRg g) (fun v h1 => zRn (zcl d) 158 B Q 89 [some (zr 67), some (zi x1), some (zi x2), some (zi s0), none, none] (zva v [zr 67]) h1))) ∧ (¬ (I 67 27 = 0) → (zRn (zcl d) 158 B Q 92 [some (zr 67), some (zi x1), some (zi x2), some (zi s0), none, none] [zi 0] (c, I, zRg g)))) :
    zRn (zcl d) 158 B Q 59 [some (zr 67), some (zi x1), some (zi x2), none, none, none] [zi s0] (c, I, zRg g) :=
  zgo [38, 56, 59, 89, 92, 124, 127, 147] 14 (And.intro rfl (And.intro (fun u488 => Exists.intro 147 (And.intro rfl (Exists.intro 0 (Exists.intro 0 (And.intro (Or.inl rfl) (And.intro (Or.inl rfl) (t.1 u488))))))) (fun u488 => (t.2 u488))))
theorem g_x12_read_89 {d : Nat} {B : Nat × Nat} {Q : zQ} {c : Nat × Nat × Nat} {I : Nat → Nat → Int} {g : Nat} {x1 x2 x3 s0 : Int}
    (t : zcl d 157 0 0 [zr 67, zi s0] (c, I, zRg g) (fun v h1 => zRn (zcl d) 158 B Q 92 [some (zr 67), some (zi x1), some (zi x2), some (zi x3), none, none] (zva v []) h1)) :
    zRn (zcl d) 158 B Q 89 [some (zr 67), some (zi x1), some (zi x2), some (zi x3), none, none] [zi s0, zr 67] (c, I, zRg g) :=
  zgo [38, 56, 59, 89, 92, 124, 127, 147] 0 (Exists.intro 157 (And.intro rfl (Exists.intro 0 (Exists.intro 0 (And.intro (Or.inl rfl) (And.intro (Or.inl rfl) t))))))
theorem g_x12_read_92 {d : Nat} {B : Nat × Nat} {Q : zQ} {c : Nat × Nat × Nat} {I : Nat → Nat → Int} {g : Nat} {x1 x2 x3 s0 : Int}
    (t : (I 67 27 = 0 → (zcl d 147 0 0 [zr 67, zi 108, zi 101, zi 97, zi 114, zi 110, zi 115, zi 0, zi 0] (c, I, zRg g) (fun v h1 => zRn (zcl d) 158 B Q 124 [some (zr 67), some (zi x1), some (zi x2), some (zi x3), some (zi s0), none] (zva v [zr 67]) h1))) ∧ (¬ (I 67 27 = 0) → (zRn (zcl d) 158 B Q 127 [some (zr 67), some (zi x1), some (zi x2), some (zi x3), some (zi s0), none] [zi 0] (c, I, zRg g)))) :
    zRn (zcl d) 158 B Q 92 [some (zr 67), some (zi x1), some (zi x2), some (zi x3), none, none] [zi s0] (c, I, zRg g) :=
  zgo [38, 56, 59, 89, 92, 124, 127, 147] 14 (And.intro rfl (And.intro (fun u489 => Exists.intro 147 (And.intro rfl (Exists.intro 0 (Exists.intro 0 (And.intro (Or.inl rfl) (And.intro (Or.inl rfl) (t.1 u489))))))) (fun u489 => (t.2 u489))))
theorem g_x12_read_124 {d : Nat} {B : Nat × Nat} {Q : zQ} {c : Nat × Nat × Nat} {I : Nat → Nat → Int} {g : Nat} {x1 x2 x3 x4 s0 : Int}
    (t : zcl d 157 0 0 [zr 67, zi s0] (c, I, zRg g) (fun v h1 => zRn (zcl d) 158 B Q 127 [some (zr 67), some (zi x1), some (zi x2), some (zi x3), some (zi x4), none] (zva v []) h1)) :
    zRn (zcl d) 158 B Q 124 [some (zr 67), some (zi x1), some (zi x2), some (zi x3), some (zi x4), none] [zi s0, zr 67] (c, I, zRg g) :=
  zgo [38, 56, 59, 89, 92, 124, 127, 147] 0 (Exists.intro 157 (And.intro rfl (Exists.intro 0 (Exists.intro 0 (And.intro (Or.inl rfl) (And.intro (Or.inl rfl) t))))))
theorem g_x12_read_127 {d : Nat} {B : Nat × Nat} {Q : zQ} {c : Nat × Nat × Nat} {I : Nat → Nat → Int} {g : Nat} {x1 x2 x3 x4 s0 : Int}
    (t : (I 67 27 ≠ 0 → (zRn (zcl d) 158 B Q 147 [some (zr 67), some (zi x1), some (zi x2), some (zi x3), some (zi x4), some (zi s0)] [] (c, I, zRg g))) ∧ (¬ (I 67 27 ≠ 0) → ((I 67 23 = 0 → (zRn (zcl d) 158 B Q 147 [some (zr 67), some (zi x1), some (zi x2), some (zi x3), some (zi x4), some (zi s0)] [] (c, I, zRg g))) ∧ (¬ (I 67 23 = 0) → (zcl d 145 0 0 [zr 67] (c, I, zRg g) (fun v h1 => zRn (zcl d) 158 B Q 147 [some (zr 67), some (zi x1), some (zi x2), some (zi x3), some (zi x4), some (zi s0)] (zva v []) h1)))))) :
    zRn (zcl d) 158 B Q 127 [some (zr 67), some (zi x1), some (zi x2), some (zi x3), some (zi x4), none] [zi s0] (c, I, zRg g) :=
  zgo [38, 56, 59, 89, 92, 124, 127, 147] 8 (And.intro rfl (And.intro (fun u490 => (t.1 u490)) (fun u490 => And.intro rfl (And.intro (fun u491 => ((t.2 u490).1 u491)) (fun u491 => Exists.intro 145 (And.intro rfl (Exists.intro 0 (Exists.intro 0 (And.intro (Or.inl rfl) (And.intro (Or.inl rfl) ((t.2 u490).2 u491)))))))))))
theorem g_x12_read_147 {d : Nat} {B : Nat × Nat} {Q : zQ} {c : Nat × Nat × Nat} {I : Nat → Nat → Int} {g : Nat} {x1 x2 x3 x4 x5 : Int}
    (t : (x2 ≠ 0 → ((x2 ≠ 1 → (Q (some (zi x5)) (c, I, zRg g))) ∧ (¬ (x2 ≠ 1) → (Q (some (zi x4)) (c, I, zRg g))))) ∧ (¬ (x2 ≠ 0) → (Q (some (zi x3)) (c, I, zRg g)))) :
    zRn (zcl d) 158 B Q 147 [some (zr 67), some (zi x1), some (zi x2), some (zi x3), some (zi x4), some (zi x5)] [] (c, I, zRg g) :=
  zgo [38, 56, 59, 89, 92, 124, 127, 147] 7 (And.intro (fun u492 => And.intro (fun u493 => ((t.1 u492).1 u493)) (fun u493 => ((t.1 u492).2 u493))) (fun u492 => (t.2 u492)))
theorem g_x12_text_0 {d : Nat} {B : Nat × Nat} {Q : zQ} {c : Nat × Nat × Nat} {I : Nat → Nat → Int} {g : Nat}
    (t : (I 67 3 ≠ 6 → (zRn (zcl d) 159 B Q 14 [some (zr 67), some (zi 0)] [] (c, I, zRg g))) ∧ (¬ (I 67 3 ≠ 6) → (Q (some (zi (-4))) (c, I, zRg g)))) :
    zRn (zcl d) 159 B Q 0 [some (zr 67), none] [] (c, I, zRg g) :=
  zgo [14, 76] 6 (And.intro rfl (And.intro (fun u494 => (t.1 u494)) (fun u494 => (t.2 u494))))
theorem g_x12_text_14 {d : Nat} {B : Nat × Nat} {Q : zQ} {c : Nat × Nat × Nat} {I : Nat → Nat → Int} {g : Nat} {x1 : Int}
    (t : (I 67 6 ≤ x1 → ((0 ≤ I 67 3 ∧ I 67 3 < 6) ∧ (zcl d 158 0 0 [zr 67, zi ((z2 I 69 (I 67 3).toNat (I 67 6)) 67 3), zi 0] (c, (z2 (z2 I 69 (I 67 3).toNat (I 67 6)) 67 6 0), zRg g) (fun v h1 => zRn (zcl d) 159 B Q 76 [some (zr 67), some (zi x1)] (zva v []) h1)))) ∧ (¬ (I 67 6 ≤ x1) → ((0 ≤ x1 ∧ x1 < 160) ∧ ((0 ≤ zwr ((zwr (160 * (I 67 3))) + x1) ∧ zwr ((zwr (160 * (I 67 3))) + x1) < 960) ∧ (zRn (zcl d) 159 B Q 14 [some (zr 67), some (zi (zwr (x1 + 1)))] [] (c, (z2 I 68 (zwr ((zwr (160 * (I 67 3))) + x1)).toNat (I 70 x1.toNat)), zRg g)))))) :
    zRn (zcl d) 159 B Q 14 [some (zr 67), some (zi x1)] [] (c, I, zRg g) :=
  zgo [14, 76] 19 (And.intro rfl (And.intro (fun u495 => And.intro rfl (Exists.intro (some 69) (And.intro rfl (And.intro rfl (And.intro rfl (And.intro rfl (And.intro (t.1 u495).1 (And.intro rfl (And.intro rfl (Exists.intro 158 (And.intro rfl (Exists.intro 0 (Exists.intro 0 (And.intro (Or.inl rfl) (And.intro (Or.inl rfl) ((t.1 u495).2)))))))))))))))) (fun u495 => And.intro rfl (Exists.intro (some 68) (And.intro rfl (And.intro rfl (And.intro rfl (Exists.intro (some 70) (And.intro rfl (And.intro rfl (And.intro (t.2 u495).1 (And.intro rfl (And.intro (t.2 u495).2.1 ((t.2 u495).2.2))))))))))))))
theorem g_x12_text_76 {d : Nat} {B : Nat × Nat} {Q : zQ} {c : Nat × Nat × Nat} {I : Nat → Nat → Int} {g : Nat} {x1 s0 : Int}
    (t : (I 67 27 = 0 → (Q (some (zi (zwr ((zwr ((I 67 3) + 1)) - 1)))) (c, (z2 I 67 3 (zwr ((I 67 3) + 1))), zRg g))) ∧ (¬ (I 67 27 = 0) → (Q (some (zi (zwr ((-100) - (I 67 28))))) (c, I, zRg g)))) :
    zRn (zcl d) 159 B Q 76 [some (zr 67), some (zi x1)] [zi s0] (c, I, zRg g) :=
  zgo [14, 76] 14 (And.intro rfl (And.intro (fun u496 => And.intro rfl (And.intro rfl (And.intro rfl (t.1 u496)))) (fun u496 => And.intro rfl (t.2 u496))))
theorem g_x12_force_0 {d : Nat} {B : Nat × Nat} {Q : zQ} {c : Nat × Nat × Nat} {I : Nat → Nat → Int} {g : Nat} {x1 : Int}
    (t : zcl d 130 0 0 [zl x1, zl 0, zl (zwr ((I 67 3) - 1))] (c, I, zRg g) (fun v h1 => zRn (zcl d) 160 B Q 13 [some (zr 67), some (zi x1), none] (zva v []) h1)) :
    zRn (zcl d) 160 B Q 0 [some (zr 67), some (zi x1), none] [] (c, I, zRg g) :=
  zgo [13] 8 (And.intro rfl (Exists.intro 0 (Exists.intro 0 (And.intro (Or.inl rfl) (And.intro (Or.inl rfl) t)))))
theorem g_x12_force_13 {d : Nat} {B : Nat × Nat} {Q : zQ} {c : Nat × Nat × Nat} {I : Nat → Nat → Int} {g : Nat} {x1 s0 : Int}
    (t : (s0 ≠ 0 → (Q (some (zi (I 67 4))) (c, (z2 I 67 4 x1), zRg g))) ∧ (¬ (s0 ≠ 0) → (Q (some (zi (-2))) (c, I, zRg g)))) :
    zRn (zcl d) 160 B Q 13 [some (zr 67), some (zi x1), none] [zi s0] (c, I, zRg g) :=
  zgo [13] 8 (And.intro (fun u497 => And.intro rfl (And.intro rfl (t.1 u497))) (fun u497 => (t.2 u497)))
theorem g_x12_bitsOf_0 {d : Nat} {B : Nat × Nat} {Q : zQ} {c : Nat × Nat × Nat} {I : Nat → Nat → Int} {g : Nat} {x0 : Int}
    (t : zRn (zcl d) 161 B Q 4 [some (zi x0), some (zi 0), some (zi x0)] [] (c, I, zRg g)) :
    zRn (zcl d) 161 B Q 0 [some (zi x0), none, none] [] (c, I, zRg g) :=
  zgo [4] 4 (t)
theorem g_x12_bitsOf_4 {d : Nat} {B : Nat × Nat} {Q : zQ} {c : Nat × Nat × Nat} {I : Nat → Nat → Int} {g : Nat} {x0 x1 x2 : Int}
    (t : (x2 = 0 → (Q (some (zi x1)) (c, I, zRg g))) ∧ (¬ (x2 = 0) → (zRn (zcl d) 161 B Q 4 [some (zi x0), some (zi (zwr (x1 + 1))), some (zi (zand x2 (zwr (x2 - 1))))] [] (c, I, zRg g)))) :
    zRn (zcl d) 161 B Q 4 [some (zi x0), some (zi x1), some (zi x2)] [] (c, I, zRg g) :=
  zgo [4] 10 (And.intro (fun u498 => (t.1 u498)) (fun u498 => (t.2 u498)))
theorem g_x12_wordsOf_0 {d : Nat} {B : Nat × Nat} {Q : zQ} {c : Nat × Nat × Nat} {I : Nat → Nat → Int} {g : Nat} {x1 : Int}
    (t : (0 ≤ zwr ((zwr (5 * x1)) + 1) ∧ zwr ((zwr (5 * x1)) + 1) < 25) ∧ (Q (some (zi (zor (I 71 ((zwr ((zwr (5 * x1)) + 1)).toNat)) (I 67 13)))) (c, I, zRg g))) :
    zRn (zcl d) 162 B Q 0 [some (zr 67), some (zi x1)] [] (c, I, zRg g) :=
  zgo [] 11 (And.intro rfl (Exists.intro (some 71) (And.intro rfl (And.intro rfl (And.intro t.1 (And.intro rfl t.2))))))
theorem g_x12_says_0 {d : Nat} {B : Nat × Nat} {Q : zQ} {c : Nat × Nat × Nat} {I : Nat → Nat → Int} {g : Nat} {x1 x2 x3 : Int}
    (t : zcl d 162 0 0 [zr 67, zi x2] (c, I, zRg g) (fun v h1 => zRn (zcl d) 163 B Q 6 [some (zr 67), some (zi x1), some (zi x2), some (zi x3)] (zva v [zr 67]) h1)) :
    zRn (zcl d) 163 B Q 0 [some (zr 67), some (zi x1), some (zi x2), some (zi x3)] [] (c, I, zRg g) :=
  zgo [6, 9, 51, 77, 83] 3 (Exists.intro 162 (And.intro rfl (Exists.intro 0 (Exists.intro 0 (And.intro (Or.inl rfl) (And.intro (Or.inl rfl) t))))))
theorem g_x12_says_6 {d : Nat} {B : Nat × Nat} {Q : zQ} {c : Nat × Nat × Nat} {I : Nat → Nat → Int} {g : Nat} {x1 x2 x3 s0 : Int}
    (t : zcl d 161 0 0 [zi s0] (c, I, zRg g) (fun v h1 => zRn (zcl d) 163 B Q 9 [some (zr 67), some (zi x1), some (zi x2), some (zi x3)] (zva v [zr 67]) h1)) :
    zRn (zcl d) 163 B Q 6 [some (zr 67), some (zi x1), some (zi x2), some (zi x3)] [zi s0, zr 67] (c, I, zRg g) :=
  zgo [6, 9, 51, 77, 83] 0 (Exists.intro 0 (Exists.intro 0 (And.intro (Or.inl rfl) (And.intro (Or.inl rfl) t))))
theorem g_x12_says_9 {d : Nat} {B : Nat × Nat} {Q : zQ} {c : Nat × Nat × Nat} {I : Nat → Nat → Int} {g : Nat} {x1 x2 x3 s0 : Int}
    (t : (0 ≤ zwr ((zwr (5 * x2)) + 2) ∧ zwr ((zwr (5 * x2)) + 2) < 25) ∧ ((0 ≤ zwr (5 * x2) ∧ zwr (5 * x2) < 25) ∧ (zcl d 161 0 0 [zi x3] (c, (z2 (z2 (z2 (z2 I 67 14 s0) 67 15 ((z2 I 67 14 s0) 71 ((zwr ((zwr (5 * x2)) + 2)).toNat))) 67 16 ((z2 (z2 I 67 14 s0) 67 15 ((z2 I 67 14 s0) 71 ((zwr ((zwr (5 * x2)) + 2)).toNat))) 71 ((zwr (5 * x2)).toNat))) 67 17 (I 67 7)), zRg g) (fun v h1 => zRn (zcl d) 163 B Q 51 [some (zr 67), some (zi x1), some (zi x2), some (zi x3)] (zva v [zr 67]) h1)))) :
    zRn (zcl d) 163 B Q 9 [some (zr 67), some (zi x1), some (zi x2), some (zi x3)] [zi s0, zr 67] (c, I, zRg g) :=
  zgo [6, 9, 51, 77, 83] 25 (And.intro rfl (And.intro rfl (Exists.intro (some 71) (And.intro rfl (And.intro rfl (And.intro t.1 (And.intro rfl (And.intro rfl (Exists.intro (some 71) (And.intro rfl (And.intro rfl (And.intro t.2.1 (And.intro rfl (And.intro rfl (And.intro rfl (Exists.intro 0 (Exists.intro 0 (And.intro (Or.inl rfl) (And.intro (Or.inl rfl) t.2.2)))))))))))))))))))
theorem g_x12_says_51 {d : Nat} {B : Nat × Nat} {Q : zQ} {c : Nat × Nat × Nat} {I : Nat → Nat → Int} {g : Nat} {x1 x2 x3 s0 : Int}
    (t : (0 ≤ zwr ((zwr (5 * x2)) + 3) ∧ zwr ((zwr (5 * x2)) + 3) < 25) ∧ (zcl d 158 0 0 [zr 67, zi (I 67 4), zi x1] (c, (z2 (z2 I 67 18 s0) 67 19 ((z2 I 67 18 s0) 71 ((zwr ((zwr (5 * x2)) + 3)).toNat))), zRg g) (fun v h1 => zRn (zcl d) 163 B Q 77 [some (zr 67), some (zi x1), some (zi x2), some (zi x3)] (zva v []) h1))) :
    zRn (zcl d) 163 B Q 51 [some (zr 67), some (zi x1), some (zi x2), some (zi x3)] [zi s0, zr 67] (c, I, zRg g) :=
  zgo [6, 9, 51, 77, 83] 15 (And.intro rfl (And.intro rfl (Exists.intro (some 71) (And.intro rfl (And.intro rfl (And.intro t.1 (And.intro rfl (And.intro rfl (Exists.intro 158 (And.intro rfl (Exists.intro 0 (Exists.intro 0 (And.intro (Or.inl rfl) (And.intro (Or.inl rfl) t.2))))))))))))))
theorem g_x12_says_77 {d : Nat} {B : Nat × Nat} {Q : zQ} {c : Nat × Nat × Nat} {I : Nat → Nat → Int} {g : Nat} {x1 x2 x3 s0 : Int}
    (t : zcl d 131 0 0 [zi s0, zi 0, zi 99] (c, I, zRg g) (fun v h1 => zRn (zcl d) 163 B Q 83 [some (zr 67), some (zi x1), some (zi x2), some (zi x3)] (zva v []) h1)) :
    zRn (zcl d) 163 B Q 77 [some (zr 67), some (zi x1), some (zi x2), some (zi x3)] [zi s0] (c, I, zRg g) :=
  zgo [6, 9, 51, 77, 83] 2 (Exists.intro 0 (Exists.intro 0 (And.intro (Or.inl rfl) (And.intro (Or.inl rfl) t))))
theorem g_x12_says_83 {d : Nat} {B : Nat × Nat} {Q : zQ} {c : Nat × Nat × Nat} {I : Nat → Nat → Int} {g : Nat} {x1 x2 x3 s0 : Int}
    (t : Q (some (zi s0)) (c, I, zRg g)) :
    zRn (zcl d) 163 B Q 83 [some (zr 67), some (zi x1), some (zi x2), some (zi x3)] [zi s0] (c, I, zRg g) :=
  zgo [6, 9, 51, 77, 83] 0 (t)
theorem g_x12_keepsOf_0 {d : Nat} {B : Nat × Nat} {Q : zQ} {c : Nat × Nat × Nat} {I : Nat → Nat → Int} {g : Nat} {x1 x2 : Int}
    (t : (0 ≤ zwr ((zwr (5 * x1)) + 4) ∧ zwr ((zwr (5 * x1)) + 4) < 25) ∧ ((I 71 ((zwr ((zwr (5 * x1)) + 4)).toNat) ≠ 4 → (zcl d 163 0 0 [zr 67, zi 0, zi x1, zi x2] (c, I, zRg g) (fun v h1 => zRn (zcl d) 164 B Q 35 [some (zr 67), some (zi x1), some (zi x2), some (zi (I 71 ((zwr ((zwr (5 * x1)) + 4)).toNat))), none] (zva v []) h1))) ∧ (¬ (I 71 ((zwr ((zwr (5 * x1)) + 4)).toNat) ≠ 4) → ((zwr (Int.tmod (I 67 7) 4) ≠ 0 → (zcl d 163 0 0 [zr 67, zi 0, zi x1, zi x2] (c, I, zRg g) (fun v h1 => zRn (zcl d) 164 B Q 35 [some (zr 67), some (zi x1), some (zi x2), some (zi (I 71 ((zwr ((zwr (5 * x1)) + 4)).toNat))), none] (zva v []) h1))) ∧ (¬ (zwr (Int.tmod (I 67 7) 4) ≠ 0) → (Q (some (zi 10)) (c, I, zRg g))))))) :
    zRn (zcl d) 164 B Q 0 [some (zr 67), some (zi x1), some (zi x2), none, none] [] (c, I, zRg g) :=
  zgo [35, 91] 21 (And.intro rfl (Exists.intro (some 71) (And.intro rfl (And.intro rfl (And.intro t.1 (And.intro (fun u499 => Exists.intro 163 (And.intro rfl (Exists.intro 0 (Exists.intro 0 (And.intro (Or.inl rfl) (And.intro (Or.inl rfl) (t.2.1 u499))))))) (fun u499 => And.intro rfl (And.intro (by decide) (And.intro (fun u500 => Exists.intro 163 (And.intro rfl (Exists.intro 0 (Exists.intro 0 (And.intro (Or.inl rfl) (And.intro (Or.inl rfl) ((t.2.2 u499).1 u500))))))) (fun u500 => ((t.2.2 u499).2 u500)))))))))))
theorem g_x12_keepsOf_35 {d : Nat} {B : Nat × Nat} {Q : zQ} {c : Nat × Nat × Nat} {I : Nat → Nat → Int} {g : Nat} {x1 x2 x3 s0 : Int}
    (t : (x3 = 1 → (zcl d 131 0 0 [zi (zwr (s0 + 1)), zi 0, zi 10] (c, I, zRg g) (fun v h1 => zRn (zcl d) 164 B Q 91 [some (zr 67), some (zi x1), some (zi x2), some (zi x3), some (zi s0)] (zva v []) h1))) ∧ (¬ (x3 = 1) → ((x3 ≠ 3 → ((x3 = 2 → (zcl d 131 0 0 [zi (zwr (2 * s0)), zi 0, zi 10] (c, I, zRg g) (fun v h1 => zRn (zcl d) 164 B Q 91 [some (zr 67), some (zi x1), some (zi x2), some (zi x3), some (zi s0)] (zva v []) h1))) ∧ (¬ (x3 = 2) → ((x3 ≠ 4 → ((x3 ≠ 5 → (zcl d 131 0 0 [zi s0, zi 0, zi 10] (c, I, zRg g) (fun v h1 => zRn (zcl d) 164 B Q 91 [some (zr 67), some (zi x1), some (zi x2), some (zi x3), some (zi s0)] (zva v []) h1))) ∧ (¬ (x3 ≠ 5) → (zcl d 131 0 0 [zi (zwr (Int.tdiv s0 2)), zi 0, zi 10] (c, I, zRg g) (fun v h1 => zRn (zcl d) 164 B Q 91 [some (zr 67), some (zi x1), some (zi x2), some (zi x3), some (zi s0)] (zva v []) h1))))) ∧ (¬ (x3 ≠ 4) → (zcl d 131 0 0 [zi (zwr (2 * s0)), zi 0, zi 10] (c, I, zRg g) (fun v h1 => zRn (zcl d) 164 B Q 91 [some (zr 67), some (zi x1), some (zi x2), some (zi x3), some (zi s0)] (zva v []) h1))))))) ∧ (¬ (x3 ≠ 3) → (zcl d 131 0 0 [zi (zwr (s0 + 1)), zi 0, zi 10] (c, I, zRg g) (fun v h1 => zRn (zcl d) 164 B Q 91 [some (zr 67), some (zi x1), some (zi x2), some (zi x3), some (zi s0)] (zva v []) h1)))))) :
    zRn (zcl d) 164 B Q 35 [some (zr 67), some (zi x1), some (zi x2), some (zi x3), none] [zi s0] (c, I, zRg g) :=
  zgo [35, 91] 22 (And.intro (fun u501 => Exists.intro 0 (Exists.intro 0 (And.intro (Or.inl rfl) (And.intro (Or.inl rfl) (t.1 u501))))) (fun u501 => And.intro (fun u502 => And.intro (fun u503 => Exists.intro 0 (Exists.intro 0 (And.intro (Or.inl rfl) (And.intro (Or.inl rfl) (((t.2 u501).1 u502).1 u503))))) (fun u503 => And.intro (fun u504 => And.intro (fun u505 => Exists.intro 0 (Exists.intro 0 (And.intro (Or.inl rfl) (And.intro (Or.inl rfl) (((((t.2 u501).1 u502).2 u503).1 u504).1 u505))))) (fun u505 => And.intro (by decide) (Exists.intro 0 (Exists.intro 0 (And.intro (Or.inl rfl) (And.intro (Or.inl rfl) (((((t.2 u501).1 u502).2 u503).1 u504).2 u505))))))) (fun u504 => Exists.intro 0 (Exists.intro 0 (And.intro (Or.inl rfl) (And.intro (Or.inl rfl) ((((t.2 u501).1 u502).2 u503).2 u504))))))) (fun u502 => Exists.intro 0 (Exists.intro 0 (And.intro (Or.inl rfl) (And.intro (Or.inl rfl) ((t.2 u501).2 u502)))))))
theorem g_x12_keepsOf_91 {d : Nat} {B : Nat × Nat} {Q : zQ} {c : Nat × Nat × Nat} {I : Nat → Nat → Int} {g : Nat} {x1 x2 x3 x4 s0 : Int}
    (t : Q (some (zi s0)) (c, I, zRg g)) :
    zRn (zcl d) 164 B Q 91 [some (zr 67), some (zi x1), some (zi x2), some (zi x3), some (zi x4)] [zi s0] (c, I, zRg g) :=
  zgo [35, 91] 0 (t)
theorem g_x12_tellsOf_0 {d : Nat} {B : Nat × Nat} {Q : zQ} {c : Nat × Nat × Nat} {I : Nat → Nat → Int} {g : Nat} {x1 x2 : Int}
    (t : (0 ≤ zwr ((zwr (5 * x1)) + 4) ∧ zwr ((zwr (5 * x1)) + 4) < 25) ∧ (zcl d 162 0 0 [zr 67, zi x1] (c, I, zRg g) (fun v h1 => zRn (zcl d) 165 B Q 17 [some (zr 67), some (zi x1), some (zi x2), some (zi (I 71 ((zwr ((zwr (5 * x1)) + 4)).toNat))), none, none, none, none] (zva v [zi x2]) h1))) :
    zRn (zcl d) 165 B Q 0 [some (zr 67), some (zi x1), some (zi x2), none, none, none, none, none] [] (c, I, zRg g) :=
  zgo [17, 29, 31, 145] 12 (And.intro rfl (Exists.intro (some 71) (And.intro rfl (And.intro rfl (And.intro t.1 (Exists.intro 162 (And.intro rfl (Exists.intro 0 (Exists.intro 0 (And.intro (Or.inl rfl) (And.intro (Or.inl rfl) t.2)))))))))))
theorem g_x12_tellsOf_17 {d : Nat} {B : Nat × Nat} {Q : zQ} {c : Nat × Nat × Nat} {I : Nat → Nat → Int} {g : Nat} {x1 x2 x3 s0 s1 : Int}
    (t : zcl d 164 0 0 [zr 67, zi x1, zi x2] (c, I, zRg g) (fun v h1 => zRn (zcl d) 165 B Q 29 [some (zr 67), some (zi x1), some (zi x2), some (zi x3), some (zi (zand s1 s0)), some (zi 0), none, none] (zva v []) h1)) :
    zRn (zcl d) 165 B Q 17 [some (zr 67), some (zi x1), some (zi x2), some (zi x3), none, none, none, none] [zi s0, zi s1] (c, I, zRg g) :=
  zgo [17, 29, 31, 145] 7 (Exists.intro 164 (And.intro rfl (Exists.intro 0 (Exists.intro 0 (And.intro (Or.inl rfl) (And.intro (Or.inl rfl) t))))))
theorem g_x12_tellsOf_29 {d : Nat} {B : Nat × Nat} {Q : zQ} {c : Nat × Nat × Nat} {I : Nat → Nat → Int} {g : Nat} {x1 x2 x3 x4 x5 s0 : Int}
    (t : zRn (zcl d) 165 B Q 31 [some (zr 67), some (zi x1), some (zi x2), some (zi x3), some (zi x4), some (zi x5), some (zi s0), none] [] (c, I, zRg g)) :
    zRn (zcl d) 165 B Q 29 [some (zr 67), some (zi x1), some (zi x2), some (zi x3), some (zi x4), some (zi x5), none, none] [zi s0] (c, I, zRg g) :=
  zgo [17, 29, 31, 145] 1 (t)
theorem g_x12_tellsOf_31 {d : Nat} {B : Nat × Nat} {Q : zQ} {c : Nat × Nat × Nat} {I : Nat → Nat → Int} {g : Nat} {x1 x2 x3 x4 x5 x6 : Int}
    (t : (x6 ≤ 0 → ((0 ≤ zwr (5 * x1) ∧ zwr (5 * x1) < 25) ∧ ((x3 = 1 → ((x3 ≠ 1 → (Q (some (zi (zxor (zor x5 (zshl 1 (I 71 ((zwr (5 * x1)).toNat)))) (zshl 1 (zwr (9 - (I 71 ((zwr (5 * x1)).toNat)))))))) (c, I, zRg g))) ∧ (¬ (x3 ≠ 1) → (Q (some (zi (zor x5 (zshl 1 (I 71 ((zwr (5 * x1)).toNat)))))) (c, I, zRg g))))) ∧ (¬ (x3 = 1) → ((x3 ≠ 3 → ((x3 ≠ 4 → ((x3 ≠ 2 → ((x3 ≠ 5 → (Q (some (zi x5)) (c, I, zRg g))) ∧ (¬ (x3 ≠ 5) → (Q (some (zi (zand x5 31))) (c, I, zRg g))))) ∧ (¬ (x3 ≠ 2) → (Q (some (zi (zor x5 (zand (zshl x5 1) x2)))) (c, I, zRg g))))) ∧ (¬ (x3 ≠ 4) → ((zor x5 (zand (zshl x5 1) x2) ≠ 0 → (zcl d 162 0 0 [zr 67, zi x1] (c, I, zRg g) (fun v h1 => zRn (zcl d) 165 B Q 145 [some (zr 67), some (zi x1), some (zi x2), some (zi x3), some (zi x4), some (zi x5), some (zi (I 71 ((zwr (5 * x1)).toNat))), some (zi (zor x5 (zand (zshl x5 1) x2)))] (zva v [zi (zor x5 (zand (zshl x5 1) x2))]) h1))) ∧ (¬ (zor x5 (zand (zshl x5 1) x2) ≠ 0) → (Q (some (zi 0)) (c, I, zRg g))))))) ∧ (¬ (x3 ≠ 3) → ((x3 ≠ 1 → (Q (some (zi (zxor (zor x5 (zshl 1 (I 71 ((zwr (5 * x1)).toNat)))) (zshl 1 (zwr (9 - (I 71 ((zwr (5 * x1)).toNat)))))))) (c, I, zRg g))) ∧ (¬ (x3 ≠ 1) → (Q (some (zi (zor x5 (zshl 1 (I 71 ((zwr (5 * x1)).toNat)))))) (c, I, zRg g)))))))))) ∧ (¬ (x6 ≤ 0) → (zRn (zcl d) 165 B Q 31 [some (zr 67), some (zi x1), some (zi x2), some (zi x3), some (zi (zand x4 (zwr (x4 - 1)))), some (zi (zor x5 (zand x4 (zwr (-x4))))), some (zi (zwr (x6 + (-1)))), none] [] (c, I, zRg g)))) :
    zRn (zcl d) 165 B Q 31 [some (zr 67), some (zi x1), some (zi x2), some (zi x3), some (zi x4), some (zi x5), some (zi x6), none] [] (c, I, zRg g) :=
  zgo [17, 29, 31, 145] 37 (And.intro (fun u506 => And.intro rfl (Exists.intro (some 71) (And.intro rfl (And.intro rfl (And.intro (t.1 u506).1 (And.intro (fun u507 => And.intro (fun u508 => (((t.1 u506).2.1 u507).1 u508)) (fun u508 => (((t.1 u506).2.1 u507).2 u508))) (fun u507 => And.intro (fun u509 => And.intro (fun u510 => And.intro (fun u511 => And.intro (fun u512 => ((((((t.1 u506).2.2 u507).1 u509).1 u510).1 u511).1 u512)) (fun u512 => ((((((t.1 u506).2.2 u507).1 u509).1 u510).1 u511).2 u512))) (fun u511 => (((((t.1 u506).2.2 u507).1 u509).1 u510).2 u511))) (fun u510 => And.intro (fun u513 => Exists.intro 162 (And.intro rfl (Exists.intro 0 (Exists.intro 0 (And.intro (Or.inl rfl) (And.intro (Or.inl rfl) (((((t.1 u506).2.2 u507).1 u509).2 u510).1 u513))))))) (fun u513 => (((((t.1 u506).2.2 u507).1 u509).2 u510).2 u513)))) (fun u509 => And.intro (fun u514 => ((((t.1 u506).2.2 u507).2 u509).1 u514)) (fun u514 => ((((t.1 u506).2.2 u507).2 u509).2 u514)))))))))) (fun u506 => (t.2 u506)))
theorem g_x12_tellsOf_145 {d : Nat} {B : Nat × Nat} {Q : zQ} {c : Nat × Nat × Nat} {I : Nat → Nat → Int} {g : Nat} {x1 x2 x3 x4 x5 x6 x7 s0 s1 : Int}
    (t : Q (some (zi (zor s1 (zand s0 (zwr ((zand x7 (zwr (-x7))) - 1)))))) (c, I, zRg g)) :
    zRn (zcl d) 165 B Q 145 [some (zr 67), some (zi x1), some (zi x2), some (zi x3), some (zi x4), some (zi x5), some (zi x6), some (zi x7)] [zi s0, zi s1] (c, I, zRg g) :=
  zgo [17, 29, 31, 145] 8 (t)
theorem g_x12_tiresOf_0 {d : Nat} {B : Nat × Nat} {Q : zQ} {c : Nat × Nat × Nat} {I : Nat → Nat → Int} {g : Nat} {x1 x2 : Int}
    (t : (0 ≤ zwr ((zwr (5 * x1)) + 4) ∧ zwr ((zwr (5 * x1)) + 4) < 25) ∧ ((I 71 ((zwr ((zwr (5 * x1)) + 4)).toNat) = 1 → ((I 71 ((zwr ((zwr (5 * x1)) + 4)).toNat) ≠ 3 → (Q (some (zi 0)) (c, I, zRg g))) ∧ (¬ (I 71 ((zwr ((zwr (5 * x1)) + 4)).toNat) ≠ 3) → ((0 ≤ zwr (5 * x1) ∧ zwr (5 * x1) < 25) ∧ (Q (some (zi (I 71 ((zwr (5 * x1)).toNat)))) (c, I, zRg g)))))) ∧ (¬ (I 71 ((zwr ((zwr (5 * x1)) + 4)).toNat) = 1) → ((I 71 ((zwr ((zwr (5 * x1)) + 4)).toNat) ≠ 3 → (zcl d 163 0 0 [zr 67, zi 1, zi x1, zi x2] (c, I, zRg g) (fun v h1 => zRn (zcl d) 166 B Q 46 [some (zr 67), some (zi x1), some (zi x2), some (zi (I 71 ((zwr ((zwr (5 * x1)) + 4)).toNat))), none] (zva v []) h1))) ∧ (¬ (I 71 ((zwr ((zwr (5 * x1)) + 4)).toNat) ≠ 3) → ((I 71 ((zwr ((zwr (5 * x1)) + 4)).toNat) ≠ 3 → (Q (some (zi 0)) (c, I, zRg g))) ∧ (¬ (I 71 ((zwr ((zwr (5 * x1)) + 4)).toNat) ≠ 3) → ((0 ≤ zwr (5 * x1) ∧ zwr (5 * x1) < 25) ∧ (Q (some (zi (I 71 ((zwr (5 * x1)).toNat)))) (c, I, zRg g)))))))))) :
    zRn (zcl d) 166 B Q 0 [some (zr 67), some (zi x1), some (zi x2), none, none] [] (c, I, zRg g) :=
  zgo [46] 25 (And.intro rfl (Exists.intro (some 71) (And.intro rfl (And.intro rfl (And.intro t.1 (And.intro (fun u515 => And.intro (fun u516 => ((t.2.1 u515).1 u516)) (fun u516 => And.intro rfl (Exists.intro (some 71) (And.intro rfl (And.intro rfl (And.intro ((t.2.1 u515).2 u516).1 (((t.2.1 u515).2 u516).2))))))) (fun u515 => And.intro (fun u517 => Exists.intro 163 (And.intro rfl (Exists.intro 0 (Exists.intro 0 (And.intro (Or.inl rfl) (And.intro (Or.inl rfl) ((t.2.2 u515).1 u517))))))) (fun u517 => And.intro (fun u518 => (((t.2.2 u515).2 u517).1 u518)) (fun u518 => And.intro rfl (Exists.intro (some 71) (And.intro rfl (And.intro rfl (And.intro (((t.2.2 u515).2 u517).2 u518).1 ((((t.2.2 u515).2 u517).2 u518).2))))))))))))))
theorem g_x12_tiresOf_46 {d : Nat} {B : Nat × Nat} {Q : zQ} {c : Nat × Nat × Nat} {I : Nat → Nat → Int} {g : Nat} {x1 x2 x3 s0 : Int}
    (t : (x3 ≠ 2 → ((x3 ≠ 4 → ((x3 ≠ 5 → (Q (some (zi s0)) (c, I, zRg g))) ∧ (¬ (x3 ≠ 5) → ((0 ≤ zwr ((zwr (5 * x1)) + 3) ∧ zwr ((zwr (5 * x1)) + 3) < 25) ∧ ((zwr (Int.tmod (I 71 ((zwr ((zwr (5 * x1)) + 3)).toNat)) 2) ≠ 1 → (Q (some (zi s0)) (c, I, zRg g))) ∧ (¬ (zwr (Int.tmod (I 71 ((zwr ((zwr (5 * x1)) + 3)).toNat)) 2) ≠ 1) → (Q (some (zi 0)) (c, I, zRg g)))))))) ∧ (¬ (x3 ≠ 4) → (Q (some (zi (zwr (Int.tdiv (zwr (s0 + 1)) 2)))) (c, I, zRg g))))) ∧ (¬ (x3 ≠ 2) → (Q (some (zi (zwr (s0 + 1)))) (c, I, zRg g)))) :
    zRn (zcl d) 166 B Q 46 [some (zr 67), some (zi x1), some (zi x2), some (zi x3), none] [zi s0] (c, I, zRg g) :=
  zgo [46] 24 (And.intro (fun u519 => And.intro (fun u520 => And.intro (fun u521 => (((t.1 u519).1 u520).1 u521)) (fun u521 => And.intro rfl (Exists.intro (some 71) (And.intro rfl (And.intro rfl (And.intro (((t.1 u519).1 u520).2 u521).1 (And.intro (by decide) (And.intro (fun u522 => ((((t.1 u519).1 u520).2 u521).2.1 u522)) (fun u522 => ((((t.1 u519).1 u520).2 u521).2.2 u522)))))))))) (fun u520 => And.intro (by decide) ((t.1 u519).2 u520))) (fun u519 => (t.2 u519)))
theorem g_x12_learns_0 {d : Nat} {B : Nat × Nat} {Q : zQ} {c : Nat × Nat × Nat} {I : Nat → Nat → Int} {g : Nat} {x1 x2 : Int}
    (t : (0 ≤ zwr ((zwr (5 * x1)) + 4) ∧ zwr ((zwr (5 * x1)) + 4) < 25) ∧ ((I 71 ((zwr ((zwr (5 * x1)) + 4)).toNat) = 1 → (Q (some (zi 0)) (c, I, zRg g))) ∧ (¬ (I 71 ((zwr ((zwr (5 * x1)) + 4)).toNat) = 1) → ((I 71 ((zwr ((zwr (5 * x1)) + 4)).toNat) ≠ 5 → (zcl d 163 0 0 [zr 67, zi 2, zi x1, zi x2] (c, I, zRg g) (fun v h1 => zRn (zcl d) 167 B Q 30 [some (zr 67), some (zi x1), some (zi x2), some (zi (I 71 ((zwr ((zwr (5 * x1)) + 4)).toNat)))] (zva v []) h1))) ∧ (¬ (I 71 ((zwr ((zwr (5 * x1)) + 4)).toNat) ≠ 5) → (Q (some (zi 0)) (c, I, zRg g))))))) :
    zRn (zcl d) 167 B Q 0 [some (zr 67), some (zi x1), some (zi x2), none] [] (c, I, zRg g) :=
  zgo [30, 47] 19 (And.intro rfl (Exists.intro (some 71) (And.intro rfl (And.intro rfl (And.intro t.1 (And.intro (fun u523 => (t.2.1 u523)) (fun u523 => And.intro (fun u524 => Exists.intro 163 (And.intro rfl (Exists.intro 0 (Exists.intro 0 (And.intro (Or.inl rfl) (And.intro (Or.inl rfl) ((t.2.2 u523).1 u524))))))) (fun u524 => ((t.2.2 u523).2 u524)))))))))
theorem g_x12_learns_30 {d : Nat} {B : Nat × Nat} {Q : zQ} {c : Nat × Nat × Nat} {I : Nat → Nat → Int} {g : Nat} {x1 x2 x3 s0 : Int}
    (t : (s0 ≠ 0 → (Q (some (zi 1)) (c, I, zRg g))) ∧ (¬ (s0 ≠ 0) → ((x3 = 2 → (zcl d 161 0 0 [zi x2] (c, I, zRg g) (fun v h1 => zRn (zcl d) 167 B Q 47 [some (zr 67), some (zi x1), some (zi x2), some (zi x3)] (zva v []) h1))) ∧ (¬ (x3 = 2) → ((x3 ≠ 4 → (Q (some (zi 0)) (c, I, zRg g))) ∧ (¬ (x3 ≠ 4) → (zcl d 161 0 0 [zi x2] (c, I, zRg g) (fun v h1 => zRn (zcl d) 167 B Q 47 [some (zr 67), some (zi x1), some (zi x2), some (zi x3)] (zva v []) h1)))))))) :
    zRn (zcl d) 167 B Q 30 [some (zr 67), some (zi x1), some (zi x2), some (zi x3)] [zi s0] (c, I, zRg g) :=
  zgo [30, 47] 8 (And.intro (fun u525 => (t.1 u525)) (fun u525 => And.intro (fun u526 => Exists.intro 0 (Exists.intro 0 (And.intro (Or.inl rfl) (And.intro (Or.inl rfl) ((t.2 u525).1 u526))))) (fun u526 => And.intro (fun u527 => (((t.2 u525).2 u526).1 u527)) (fun u527 => Exists.intro 0 (Exists.intro 0 (And.intro (Or.inl rfl) (And.intro (Or.inl rfl) (((t.2 u525).2 u526).2 u527))))))))
theorem g_x12_learns_47 {d : Nat} {B : Nat × Nat} {Q : zQ} {c : Nat × Nat × Nat} {I : Nat → Nat → Int} {g : Nat} {x1 x2 x3 s0 : Int}
    (t : (s0 ≠ 1 → (Q (some (zi 0)) (c, I, zRg g))) ∧ (¬ (s0 ≠ 1) → (Q (some (zi 1)) (c, I, zRg g)))) :
    zRn (zcl d) 167 B Q 47 [some (zr 67), some (zi x1), some (zi x2), some (zi x3)] [zi s0] (c, I, zRg g) :=
  zgo [30, 47] 4 (And.intro (fun u528 => (t.1 u528)) (fun u528 => (t.2 u528)))
theorem g_x12_asks_0 {d : Nat} {B : Nat × Nat} {Q : zQ} {c : Nat × Nat × Nat} {I : Nat → Nat → Int} {g : Nat} {x1 x2 x3 : Int}
    (t : zcl d 134 0 0 [zr 67, zi x1] (c, I, zRg g) (fun v h1 => zRn (zcl d) 168 B Q 5 [some (zr 67), some (zi x1), some (zi x2), some (zi x3)] (zva v []) h1)) :
    zRn (zcl d) 168 B Q 0 [some (zr 67), some (zi x1), some (zi x2), some (zi x3)] [] (c, I, zRg g) :=
  zgo [5, 17, 29, 45, 59, 73, 82] 2 (Exists.intro 134 (And.intro rfl (Exists.intro 0 (Exists.intro 0 (And.intro (Or.inl rfl) (And.intro (Or.inl rfl) t))))))
theorem g_x12_asks_5 {d : Nat} {B : Nat × Nat} {Q : zQ} {c : Nat × Nat × Nat} {I : Nat → Nat → Int} {g : Nat} {x1 x2 x3 s0 : Int}
    (t : (s0 = 0 → (Q (some (zi (-2))) (c, I, zRg g))) ∧ (¬ (s0 = 0) → (zcl d 130 0 0 [zl x2, zl 0, zl 1023] (c, I, zRg g) (fun v h1 => zRn (zcl d) 168 B Q 17 [some (zr 67), some (zi x1), some (zi x2), some (zi x3)] (zva v []) h1)))) :
    zRn (zcl d) 168 B Q 5 [some (zr 67), some (zi x1), some (zi x2), some (zi x3)] [zi s0] (c, I, zRg g) :=
  zgo [5, 17, 29, 45, 59, 73, 82] 5 (And.intro (fun u529 => (t.1 u529)) (fun u529 => Exists.intro 0 (Exists.intro 0 (And.intro (Or.inl rfl) (And.intro (Or.inl rfl) (t.2 u529))))))
theorem g_x12_asks_17 {d : Nat} {B : Nat × Nat} {Q : zQ} {c : Nat × Nat × Nat} {I : Nat → Nat → Int} {g : Nat} {x1 x2 x3 s0 : Int}
    (t : (s0 = 0 → (Q (some (zi (-2))) (c, I, zRg g))) ∧ (¬ (s0 = 0) → (zcl d 130 0 0 [zl x3, zl 0, zl 3] (c, I, zRg g) (fun v h1 => zRn (zcl d) 168 B Q 29 [some (zr 67), some (zi x1), some (zi x2), some (zi x3)] (zva v []) h1)))) :
    zRn (zcl d) 168 B Q 17 [some (zr 67), some (zi x1), some (zi x2), some (zi x3)] [zi s0] (c, I, zRg g) :=
  zgo [5, 17, 29, 45, 59, 73, 82] 5 (And.intro (fun u530 => (t.1 u530)) (fun u530 => Exists.intro 0 (Exists.intro 0 (And.intro (Or.inl rfl) (And.intro (Or.inl rfl) (t.2 u530))))))
theorem g_x12_asks_29 {d : Nat} {B : Nat × Nat} {Q : zQ} {c : Nat × Nat × Nat} {I : Nat → Nat → Int} {g : Nat} {x1 x2 x3 s0 : Int}
    (t : (s0 ≠ 0 → ((x3 ≠ 0 → ((x3 ≠ 1 → ((x3 ≠ 2 → (zcl d 167 0 0 [zr 67, zi x1, zi x2] (c, I, zRg g) (fun v h1 => zRn (zcl d) 168 B Q 82 [some (zr 67), some (zi x1), some (zi x2), some (zi x3)] (zva v []) h1))) ∧ (¬ (x3 ≠ 2) → (zcl d 166 0 0 [zr 67, zi x1, zi x2] (c, I, zRg g) (fun v h1 => zRn (zcl d) 168 B Q 73 [some (zr 67), some (zi x1), some (zi x2), some (zi x3)] (zva v []) h1))))) ∧ (¬ (x3 ≠ 1) → (zcl d 164 0 0 [zr 67, zi x1, zi x2] (c, I, zRg g) (fun v h1 => zRn (zcl d) 168 B Q 59 [some (zr 67), some (zi x1), some (zi x2), some (zi x3)] (zva v []) h1))))) ∧ (¬ (x3 ≠ 0) → (zcl d 165 0 0 [zr 67, zi x1, zi x2] (c, I, zRg g) (fun v h1 => zRn (zcl d) 168 B Q 45 [some (zr 67), some (zi x1), some (zi x2), some (zi x3)] (zva v []) h1))))) ∧ (¬ (s0 ≠ 0) → (Q (some (zi (-2))) (c, I, zRg g)))) :
    zRn (zcl d) 168 B Q 29 [some (zr 67), some (zi x1), some (zi x2), some (zi x3)] [zi s0] (c, I, zRg g) :=
  zgo [5, 17, 29, 45, 59, 73, 82] 12 (And.intro (fun u531 => And.intro (fun u532 => And.intro (fun u533 => And.intro (fun u534 => Exists.intro 167 (And.intro rfl (Exists.intro 0 (Exists.intro 0 (And.intro (Or.inl rfl) (And.intro (Or.inl rfl) ((((t.1 u531).1 u532).1 u533).1 u534))))))) (fun u534 => Exists.intro 166 (And.intro rfl (Exists.intro 0 (Exists.intro 0 (And.intro (Or.inl rfl) (And.intro (Or.inl rfl) ((((t.1 u531).1 u532).1 u533).2 u534)))))))) (fun u533 => Exists.intro 164 (And.intro rfl (Exists.intro 0 (Exists.intro 0 (And.intro (Or.inl rfl) (And.intro (Or.inl rfl) (((t.1 u531).1 u532).2 u533)))))))) (fun u532 => Exists.intro 165 (And.intro rfl (Exists.intro 0 (Exists.intro 0 (And.intro (Or.inl rfl) (And.intro (Or.inl rfl) ((t.1 u531).2 u532)))))))) (fun u531 => (t.2 u531)))
theorem g_x12_asks_45 {d : Nat} {B : Nat × Nat} {Q : zQ} {c : Nat × Nat × Nat} {I : Nat → Nat → Int} {g : Nat} {x1 x2 x3 s0 : Int}
    (t : Q (some (zi s0)) (c, I, zRg g)) :
    zRn (zcl d) 168 B Q 45 [some (zr 67), some (zi x1), some (zi x2), some (zi x3)] [zi s0] (c, I, zRg g) :=
  zgo [5, 17, 29, 45, 59, 73, 82] 1 (t)
theorem g_x12_asks_59 {d : Nat} {B : Nat × Nat} {Q : zQ} {c : Nat × Nat × Nat} {I : Nat → Nat → Int} {g : Nat} {x1 x2 x3 s0 : Int}
    (t : Q (some (zi s0)) (c, I, zRg g)) :
    zRn (zcl d) 168 B Q 59 [some (zr 67), some (zi x1), some (zi x2), some (zi x3)] [zi s0] (c, I, zRg g) :=
  zgo [5, 17, 29, 45, 59, 73, 82] 1 (t)
theorem g_x12_asks_73 {d : Nat} {B : Nat × Nat} {Q : zQ} {c : Nat × Nat × Nat} {I : Nat → Nat → Int} {g : Nat} {x1 x2 x3 s0 : Int}
    (t : Q (some (zi s0)) (c, I, zRg g)) :
    zRn (zcl d) 168 B Q 73 [some (zr 67), some (zi x1), some (zi x2), some (zi x3)] [zi s0] (c, I, zRg g) :=
  zgo [5, 17, 29, 45, 59, 73, 82] 1 (t)
theorem g_x12_asks_82 {d : Nat} {B : Nat × Nat} {Q : zQ} {c : Nat × Nat × Nat} {I : Nat → Nat → Int} {g : Nat} {x1 x2 x3 s0 : Int}
    (t : (s0 = 0 → (Q (some (zi 0)) (c, I, zRg g))) ∧ (¬ (s0 = 0) → (Q (some (zi 1)) (c, I, zRg g)))) :
    zRn (zcl d) 168 B Q 82 [some (zr 67), some (zi x1), some (zi x2), some (zi x3)] [zi s0] (c, I, zRg g) :=
  zgo [5, 17, 29, 45, 59, 73, 82] 3 (And.intro (fun u535 => (t.1 u535)) (fun u535 => (t.2 u535)))
theorem g_x12_byAll_0 {d : Nat} {B : Nat × Nat} {Q : zQ} {c : Nat × Nat × Nat} {I : Nat → Nat → Int} {g : Nat} {x1 : Int}
    (t : zRn (zcl d) 169 B Q 4 [some (zr 67), some (zi x1), some (zi x1), some (zi 0)] [] (c, I, zRg g)) :
    zRn (zcl d) 169 B Q 0 [some (zr 67), some (zi x1), none, none] [] (c, I, zRg g) :=
  zgo [4, 18] 4 (t)
theorem g_x12_byAll_4 {d : Nat} {B : Nat × Nat} {Q : zQ} {c : Nat × Nat × Nat} {I : Nat → Nat → Int} {g : Nat} {x1 x2 x3 : Int}
    (t : (I 67 9 ≤ x3 → (Q (some (zi x2)) (c, I, zRg g))) ∧ (¬ (I 67 9 ≤ x3) → (zcl d 165 0 0 [zr 67, zi x3, zi x2] (c, I, zRg g) (fun v h1 => zRn (zcl d) 169 B Q 18 [some (zr 67), some (zi x1), some (zi x2), some (zi x3)] (zva v []) h1)))) :
    zRn (zcl d) 169 B Q 4 [some (zr 67), some (zi x1), some (zi x2), some (zi x3)] [] (c, I, zRg g) :=
  zgo [4, 18] 7 (And.intro rfl (And.intro (fun u536 => (t.1 u536)) (fun u536 => Exists.intro 165 (And.intro rfl (Exists.intro 0 (Exists.intro 0 (And.intro (Or.inl rfl) (And.intro (Or.inl rfl) (t.2 u536)))))))))
theorem g_x12_byAll_18 {d : Nat} {B : Nat × Nat} {Q : zQ} {c : Nat × Nat × Nat} {I : Nat → Nat → Int} {g : Nat} {x1 x2 x3 s0 : Int}
    (t : zRn (zcl d) 169 B Q 4 [some (zr 67), some (zi x1), some (zi s0), some (zi (zwr (x3 + 1)))] [] (c, I, zRg g)) :
    zRn (zcl d) 169 B Q 18 [some (zr 67), some (zi x1), some (zi x2), some (zi x3)] [zi s0] (c, I, zRg g) :=
  zgo [4, 18] 3 (t)
theorem g_x12_off_0 {d : Nat} {B : Nat × Nat} {Q : zQ} {c : Nat × Nat × Nat} {I : Nat → Nat → Int} {g : Nat} {x0 x1 : Int}
    (t : zcl d 161 0 0 [zi (zxor x0 x1)] (c, I, zRg g) (fun v h1 => zRn (zcl d) 170 B Q 6 [some (zi x0), some (zi x1)] (zva v []) h1)) :
    zRn (zcl d) 170 B Q 0 [some (zi x0), some (zi x1)] [] (c, I, zRg g) :=
  zgo [6] 3 (Exists.intro 0 (Exists.intro 0 (And.intro (Or.inl rfl) (And.intro (Or.inl rfl) t))))
theorem g_x12_off_6 {d : Nat} {B : Nat × Nat} {Q : zQ} {c : Nat × Nat × Nat} {I : Nat → Nat → Int} {g : Nat} {x0 x1 s0 : Int}
    (t : Q (some (zi s0)) (c, I, zRg g)) :
    zRn (zcl d) 170 B Q 6 [some (zi x0), some (zi x1)] [zi s0] (c, I, zRg g) :=
  zgo [6] 0 (t)
theorem g_x12_over_0 {d : Nat} {B : Nat × Nat} {Q : zQ} {c : Nat × Nat × Nat} {I : Nat → Nat → Int} {g : Nat} {x1 x2 x3 : Int}
    (t : zcl d 195 0 0 [zi x1] (c, I, zRg g) (fun v h1 => zRn (zcl d) 171 B Q 4 [some (zr 67), some (zi x1), some (zi x2), some (zi x3), none, none] (zva v []) h1)) :
    zRn (zcl d) 171 B Q 0 [some (zr 67), some (zi x1), some (zi x2), some (zi x3), none, none] [] (c, I, zRg g) :=
  zgo [4, 16, 28, 52, 79, 94, 123, 151] 1 (Exists.intro 0 (Exists.intro 0 (And.intro (Or.inl rfl) (And.intro (Or.inl rfl) t))))
theorem g_x12_over_4 {d : Nat} {B : Nat × Nat} {Q : zQ} {c : Nat × Nat × Nat} {I : Nat → Nat → Int} {g : Nat} {x1 x2 x3 s0 : Int}
    (t : (s0 = 0 → (Q (some (zi (-2))) (c, I, zRg g))) ∧ (¬ (s0 = 0) → (zcl d 130 0 0 [zl x2, zl 0, zl 1023] (c, I, zRg g) (fun v h1 => zRn (zcl d) 171 B Q 16 [some (zr 67), some (zi x1), some (zi x2), some (zi x3), none, none] (zva v []) h1)))) :
    zRn (zcl d) 171 B Q 4 [some (zr 67), some (zi x1), some (zi x2), some (zi x3), none, none] [zi s0] (c, I, zRg g) :=
  zgo [4, 16, 28, 52, 79, 94, 123, 151] 5 (And.intro (fun u537 => (t.1 u537)) (fun u537 => Exists.intro 0 (Exists.intro 0 (And.intro (Or.inl rfl) (And.intro (Or.inl rfl) (t.2 u537))))))
theorem g_x12_over_16 {d : Nat} {B : Nat × Nat} {Q : zQ} {c : Nat × Nat × Nat} {I : Nat → Nat → Int} {g : Nat} {x1 x2 x3 s0 : Int}
    (t : (s0 = 0 → (Q (some (zi (-2))) (c, I, zRg g))) ∧ (¬ (s0 = 0) → (zcl d 130 0 0 [zl x3, zl 0, zl 3] (c, I, zRg g) (fun v h1 => zRn (zcl d) 171 B Q 28 [some (zr 67), some (zi x1), some (zi x2), some (zi x3), none, none] (zva v []) h1)))) :
    zRn (zcl d) 171 B Q 16 [some (zr 67), some (zi x1), some (zi x2), some (zi x3), none, none] [zi s0] (c, I, zRg g) :=
  zgo [4, 16, 28, 52, 79, 94, 123, 151] 5 (And.intro (fun u538 => (t.1 u538)) (fun u538 => Exists.intro 0 (Exists.intro 0 (And.intro (Or.inl rfl) (And.intro (Or.inl rfl) (t.2 u538))))))
theorem g_x12_over_28 {d : Nat} {B : Nat × Nat} {Q : zQ} {c : Nat × Nat × Nat} {I : Nat → Nat → Int} {g : Nat} {x1 x2 x3 s0 : Int}
    (t : (s0 ≠ 0 → ((0 ≤ x1 ∧ x1 < 4) ∧ ((I 77 x1.toNat ≠ 0 → (zRn (zcl d) 171 B Q 52 [some (zr 67), some (zi x1), some (zi x2), some (zi x3), some (zi x2), some (zi 0)] [] (c, I, zRg g))) ∧ (¬ (I 77 x1.toNat ≠ 0) → (Q (some (zi (-11))) (c, I, zRg g)))))) ∧ (¬ (s0 ≠ 0) → (Q (some (zi (-2))) (c, I, zRg g)))) :
    zRn (zcl d) 171 B Q 28 [some (zr 67), some (zi x1), some (zi x2), some (zi x3), none, none] [zi s0] (c, I, zRg g) :=
  zgo [4, 16, 28, 52, 79, 94, 123, 151] 10 (And.intro (fun u539 => And.intro rfl (Exists.intro (some 77) (And.intro rfl (And.intro rfl (And.intro (t.1 u539).1 (And.intro (fun u540 => ((t.1 u539).2.1 u540)) (fun u540 => ((t.1 u539).2.2 u540)))))))) (fun u539 => (t.2 u539)))
theorem g_x12_over_52 {d : Nat} {B : Nat × Nat} {Q : zQ} {c : Nat × Nat × Nat} {I : Nat → Nat → Int} {g : Nat} {x1 x2 x3 x4 x5 : Int}
    (t : (0 ≤ x1 ∧ x1 < 4) ∧ ((I 79 x1.toNat ≤ x5 → (zRn (zcl d) 171 B Q 94 [some (zr 67), some (zi x1), some (zi x2), some (zi x3), some (zi x4), some (zi 0)] [] (c, I, zRg g))) ∧ (¬ (I 79 x1.toNat ≤ x5) → ((0 ≤ zwr ((zwr (40 * x1)) + x5) ∧ zwr ((zwr (40 * x1)) + x5) < 160) ∧ (zcl d 134 0 0 [zr 67, zi (I 80 ((zwr ((zwr (40 * x1)) + x5)).toNat))] (c, I, zRg g) (fun v h1 => zRn (zcl d) 171 B Q 79 [some (zr 67), some (zi x1), some (zi x2), some (zi x3), some (zi x4), some (zi x5)] (zva v []) h1)))))) :
    zRn (zcl d) 171 B Q 52 [some (zr 67), some (zi x1), some (zi x2), some (zi x3), some (zi x4), some (zi x5)] [] (c, I, zRg g) :=
  zgo [4, 16, 28, 52, 79, 94, 123, 151] 15 (And.intro rfl (Exists.intro (some 79) (And.intro rfl (And.intro rfl (And.intro t.1 (And.intro (fun u541 => (t.2.1 u541)) (fun u541 => And.intro rfl (Exists.intro (some 80) (And.intro rfl (And.intro rfl (And.intro (t.2.2 u541).1 (Exists.intro 134 (And.intro rfl (Exists.intro 0 (Exists.intro 0 (And.intro (Or.inl rfl) (And.intro (Or.inl rfl) ((t.2.2 u541).2))))))))))))))))))
theorem g_x12_over_79 {d : Nat} {B : Nat × Nat} {Q : zQ} {c : Nat × Nat × Nat} {I : Nat → Nat → Int} {g : Nat} {x1 x2 x3 x4 x5 s0 : Int}
    (t : (s0 ≠ 0 → (zRn (zcl d) 171 B Q 52 [some (zr 67), some (zi x1), some (zi x2), some (zi x3), some (zi x4), some (zi (zwr (x5 + 1)))] [] (c, I, zRg g))) ∧ (¬ (s0 ≠ 0) → (Q (some (zi (-2))) (c, I, zRg g)))) :
    zRn (zcl d) 171 B Q 79 [some (zr 67), some (zi x1), some (zi x2), some (zi x3), some (zi x4), some (zi x5)] [zi s0] (c, I, zRg g) :=
  zgo [4, 16, 28, 52, 79, 94, 123, 151] 3 (And.intro (fun u546 => (t.1 u546)) (fun u546 => (t.2 u546)))
theorem g_x12_over_94 {d : Nat} {B : Nat × Nat} {Q : zQ} {c : Nat × Nat × Nat} {I : Nat → Nat → Int} {g : Nat} {x1 x2 x3 x4 x5 : Int}
    (t : (0 ≤ x1 ∧ x1 < 4) ∧ ((I 79 x1.toNat ≤ x5 → ((x3 ≠ 0 → ((x3 ≠ 1 → ((x3 ≠ 2 → (Q (some (zi (zand x4 (zxor x2 (-1))))) (c, I, zRg g))) ∧ (¬ (x3 ≠ 2) → (Q (some (zi (zand x2 (zxor x4 (-1))))) (c, I, zRg g))))) ∧ (¬ (x3 ≠ 1) → (zcl d 170 0 0 [zi x2, zi x4] (c, I, zRg g) (fun v h1 => zRn (zcl d) 171 B Q 151 [some (zr 67), some (zi x1), some (zi x2), some (zi x3), some (zi x4), some (zi x5)] (zva v []) h1))))) ∧ (¬ (x3 ≠ 0) → (Q (some (zi x4)) (c, I, zRg g))))) ∧ (¬ (I 79 x1.toNat ≤ x5) → ((0 ≤ zwr ((zwr (40 * x1)) + x5) ∧ zwr ((zwr (40 * x1)) + x5) < 160) ∧ (zcl d 165 0 0 [zr 67, zi (I 80 ((zwr ((zwr (40 * x1)) + x5)).toNat)), zi x4] (c, I, zRg g) (fun v h1 => zRn (zcl d) 171 B Q 123 [some (zr 67), some (zi x1), some (zi x2), some (zi x3), some (zi x4), some (zi x5)] (zva v []) h1)))))) :
    zRn (zcl d) 171 B Q 94 [some (zr 67), some (zi x1), some (zi x2), some (zi x3), some (zi x4), some (zi x5)] [] (c, I, zRg g) :=
  zgo [4, 16, 28, 52, 79, 94, 123, 151] 20 (And.intro rfl (Exists.intro (some 79) (And.intro rfl (And.intro rfl (And.intro t.1 (And.intro (fun u542 => And.intro (fun u543 => And.intro (fun u544 => And.intro (fun u545 => ((((t.2.1 u542).1 u543).1 u544).1 u545)) (fun u545 => ((((t.2.1 u542).1 u543).1 u544).2 u545))) (fun u544 => Exists.intro 0 (Exists.intro 0 (And.intro (Or.inl rfl) (And.intro (Or.inl rfl) (((t.2.1 u542).1 u543).2 u544)))))) (fun u543 => ((t.2.1 u542).2 u543))) (fun u542 => And.intro rfl (Exists.intro (some 80) (And.intro rfl (And.intro rfl (And.intro (t.2.2 u542).1 (Exists.intro 165 (And.intro rfl (Exists.intro 0 (Exists.intro 0 (And.intro (Or.inl rfl) (And.intro (Or.inl rfl) ((t.2.2 u542).2))))))))))))))))))
theorem g_x12_over_123 {d : Nat} {B : Nat × Nat} {Q : zQ} {c : Nat × Nat × Nat} {I : Nat → Nat → Int} {g : Nat} {x1 x2 x3 x4 x5 s0 : Int}
    (t : zRn (zcl d) 171 B Q 94 [some (zr 67), some (zi x1), some (zi x2), some (zi x3), some (zi s0), some (zi (zwr (x5 + 1)))] [] (c, I, zRg g)) :
    zRn (zcl d) 171 B Q 123 [some (zr 67), some (zi x1), some (zi x2), some (zi x3), some (zi x4), some (zi x5)] [zi s0] (c, I, zRg g) :=
  zgo [4, 16, 28, 52, 79, 94, 123, 151] 3 (t)
theorem g_x12_over_151 {d : Nat} {B : Nat × Nat} {Q : zQ} {c : Nat × Nat × Nat} {I : Nat → Nat → Int} {g : Nat} {x1 x2 x3 x4 x5 s0 : Int}
    (t : Q (some (zi s0)) (c, I, zRg g)) :
    zRn (zcl d) 171 B Q 151 [some (zr 67), some (zi x1), some (zi x2), some (zi x3), some (zi x4), some (zi x5)] [zi s0] (c, I, zRg g) :=
  zgo [4, 16, 28, 52, 79, 94, 123, 151] 1 (t)
theorem g_x12_tellsTruly_0 {d : Nat} {B : Nat × Nat} {Q : zQ} {c : Nat × Nat × Nat} {I : Nat → Nat → Int} {g : Nat} {x1 x2 : Int}
    (t : zcl d 165 0 0 [zr 67, zi x1, zi x2] (c, I, zRg g) (fun v h1 => zRn (zcl d) 172 B Q 10 [some (zr 67), some (zi x1), some (zi x2), some (zi (zwr (5 * x1))), none, none, none] (zva v []) h1)) :
    zRn (zcl d) 172 B Q 0 [some (zr 67), some (zi x1), some (zi x2), none, none, none, none] [] (c, I, zRg g) :=
  zgo [10, 18, 49, 88, 112] 7 (Exists.intro 165 (And.intro rfl (Exists.intro 0 (Exists.intro 0 (And.intro (Or.inl rfl) (And.intro (Or.inl rfl) t))))))
theorem g_x12_tellsTruly_10 {d : Nat} {B : Nat × Nat} {Q : zQ} {c : Nat × Nat × Nat} {I : Nat → Nat → Int} {g : Nat} {x1 x2 x3 s0 : Int}
    (t : zcl d 166 0 0 [zr 67, zi x1, zi x2] (c, I, zRg g) (fun v h1 => zRn (zcl d) 172 B Q 18 [some (zr 67), some (zi x1), some (zi x2), some (zi x3), some (zi s0), none, none] (zva v []) h1)) :
    zRn (zcl d) 172 B Q 10 [some (zr 67), some (zi x1), some (zi x2), some (zi x3), none, none, none] [zi s0] (c, I, zRg g) :=
  zgo [10, 18, 49, 88, 112] 4 (Exists.intro 166 (And.intro rfl (Exists.intro 0 (Exists.intro 0 (And.intro (Or.inl rfl) (And.intro (Or.inl rfl) t))))))
theorem g_x12_tellsTruly_18 {d : Nat} {B : Nat × Nat} {Q : zQ} {c : Nat × Nat × Nat} {I : Nat → Nat → Int} {g : Nat} {x1 x2 x3 x4 s0 : Int}
    (t : (0 ≤ zwr (x3 + 1) ∧ zwr (x3 + 1) < 25) ∧ ((0 ≤ zwr (x3 + 1) ∧ zwr (x3 + 1) < 25) ∧ (zcl d 167 0 0 [zr 67, zi x1, zi x2] (c, I, zRg g) (fun v h1 => zRn (zcl d) 172 B Q 49 [some (zr 67), some (zi x1), some (zi x2), some (zi x3), some (zi x4), some (zi s0), some (zi (zand x2 (zxor (I 71 ((zwr (x3 + 1)).toNat)) (-1))))] (zva v [zi (I 71 ((zwr (x3 + 1)).toNat)), zi (zwr (x3 + 1)), zr 71]) h1)))) :
    zRn (zcl d) 172 B Q 18 [some (zr 67), some (zi x1), some (zi x2), some (zi x3), some (zi x4), none, none] [zi s0] (c, I, zRg g) :=
  zgo [10, 18, 49, 88, 112] 22 (And.intro rfl (Exists.intro (some 71) (And.intro rfl (And.intro rfl (And.intro t.1 (And.intro rfl (Exists.intro (some 71) (And.intro rfl (And.intro rfl (And.intro t.2.1 (Exists.intro 167 (And.intro rfl (Exists.intro 0 (Exists.intro 0 (And.intro (Or.inl rfl) (And.intro (Or.inl rfl) t.2.2))))))))))))))))
theorem g_x12_tellsTruly_49 {d : Nat} {B : Nat × Nat} {Q : zQ} {c : Nat × Nat × Nat} {I : Nat → Nat → Int} {g : Nat} {x1 x2 x3 x4 x5 x6 s0 s1 s2 : Int}
    (t : (s0 = 0 → ((0 ≤ s2 ∧ s2 < 25) ∧ ((0 ≤ zwr (x3 + 2) ∧ zwr (x3 + 2) < 25) ∧ (zcl d 131 0 0 [zi (zwr (((z2 I 71 s2.toNat (zor s1 0)) 71 ((zwr (x3 + 2)).toNat)) - x5)), zi 0, zi 99] (c, (z2 I 71 s2.toNat (zor s1 0)), zRg g) (fun v h1 => zRn (zcl d) 172 B Q 88 [some (zr 67), some (zi x1), some (zi x2), some (zi x3), some (zi x4), some (zi x5), some (zi x6)] (zva v [zi (zwr (x3 + 2)), zr 71]) h1))))) ∧ (¬ (s0 = 0) → ((0 ≤ s2 ∧ s2 < 25) ∧ ((0 ≤ zwr (x3 + 2) ∧ zwr (x3 + 2) < 25) ∧ (zcl d 131 0 0 [zi (zwr (((z2 I 71 s2.toNat (zor s1 (zand x6 (zwr (-x6))))) 71 ((zwr (x3 + 2)).toNat)) - x5)), zi 0, zi 99] (c, (z2 I 71 s2.toNat (zor s1 (zand x6 (zwr (-x6))))), zRg g) (fun v h1 => zRn (zcl d) 172 B Q 88 [some (zr 67), some (zi x1), some (zi x2), some (zi x3), some (zi x4), some (zi x5), some (zi x6)] (zva v [zi (zwr (x3 + 2)), zr 71]) h1)))))) :
    zRn (zcl d) 172 B Q 49 [some (zr 67), some (zi x1), some (zi x2), some (zi x3), some (zi x4), some (zi x5), some (zi x6)] [zi s0, zi s1, zi s2, zr 71] (c, I, zRg g) :=
  zgo [10, 18, 49, 88, 112] 23 (And.intro (fun u547 => And.intro rfl (And.intro (t.1 u547).1 (And.intro rfl (Exists.intro (some 71) (And.intro rfl (And.intro rfl (Exists.intro (some 71) (And.intro rfl (And.intro rfl (And.intro (t.1 u547).2.1 (Exists.intro 0 (Exists.intro 0 (And.intro (Or.inl rfl) (And.intro (Or.inl rfl) ((t.1 u547).2.2))))))))))))))) (fun u547 => And.intro rfl (And.intro (t.2 u547).1 (And.intro rfl (Exists.intro (some 71) (And.intro rfl (And.intro rfl (Exists.intro (some 71) (And.intro rfl (And.intro rfl (And.intro (t.2 u547).2.1 (Exists.intro 0 (Exists.intro 0 (And.intro (Or.inl rfl) (And.intro (Or.inl rfl) ((t.2 u547).2.2))))))))))))))))
theorem g_x12_tellsTruly_88 {d : Nat} {B : Nat × Nat} {Q : zQ} {c : Nat × Nat × Nat} {I : Nat → Nat → Int} {g : Nat} {x1 x2 x3 x4 x5 x6 s0 s1 : Int}
    (t : (0 ≤ s1 ∧ s1 < 25) ∧ ((0 ≤ zwr (x3 + 3) ∧ zwr (x3 + 3) < 25) ∧ (zcl d 131 0 0 [zi (zwr (((z2 I 71 s1.toNat s0) 71 ((zwr (x3 + 3)).toNat)) + 1)), zi 0, zi 99] (c, (z2 I 71 s1.toNat s0), zRg g) (fun v h1 => zRn (zcl d) 172 B Q 112 [some (zr 67), some (zi x1), some (zi x2), some (zi x3), some (zi x4), some (zi x5), some (zi x6)] (zva v [zi (zwr (x3 + 3)), zr 71]) h1)))) :
    zRn (zcl d) 172 B Q 88 [some (zr 67), some (zi x1), some (zi x2), some (zi x3), some (zi x4), some (zi x5), some (zi x6)] [zi s0, zi s1, zr 71] (c, I, zRg g) :=
  zgo [10, 18, 49, 88, 112] 16 (And.intro rfl (And.intro t.1 (And.intro rfl (Exists.intro (some 71) (And.intro rfl (And.intro rfl (Exists.intro (some 71) (And.intro rfl (And.intro rfl (And.intro t.2.1 (Exists.intro 0 (Exists.intro 0 (And.intro (Or.inl rfl) (And.intro (Or.inl rfl) t.2.2))))))))))))))
theorem g_x12_tellsTruly_112 {d : Nat} {B : Nat × Nat} {Q : zQ} {c : Nat × Nat × Nat} {I : Nat → Nat → Int} {g : Nat} {x1 x2 x3 x4 x5 x6 s0 s1 : Int}
    (t : (0 ≤ s1 ∧ s1 < 25) ∧ (Q (some (zi x4)) (c, (z2 I 71 s1.toNat s0), zRg g))) :
    zRn (zcl d) 172 B Q 112 [some (zr 67), some (zi x1), some (zi x2), some (zi x3), some (zi x4), some (zi x5), some (zi x6)] [zi s0, zi s1, zr 71] (c, I, zRg g) :=
  zgo [10, 18, 49, 88, 112] 2 (And.intro rfl (And.intro t.1 t.2))
theorem g_x12_passes_0 {d : Nat} {B : Nat × Nat} {Q : zQ} {c : Nat × Nat × Nat} {I : Nat → Nat → Int} {g : Nat}
    (t : (I 67 11 ≤ 0 → (Q (some (zi (-1))) (c, (z2 I 67 7 (zwr ((I 67 7) + 1))), zRg g))) ∧ (¬ (I 67 11 ≤ 0) → (zRn (zcl d) 173 B Q 18 [some (zr 67), some (zi (I 72 0)), some (zi 0)] [] (c, I, zRg g)))) :
    zRn (zcl d) 173 B Q 0 [some (zr 67), none, none] [] (c, I, zRg g) :=
  zgo [18, 32, 51, 93] 12 (And.intro rfl (And.intro (fun u548 => And.intro rfl (And.intro rfl (t.1 u548))) (fun u548 => And.intro rfl (Exists.intro (some 72) (And.intro rfl (And.intro rfl (And.intro (by decide) (t.2 u548))))))))
theorem g_x12_passes_18 {d : Nat} {B : Nat × Nat} {Q : zQ} {c : Nat × Nat × Nat} {I : Nat → Nat → Int} {g : Nat} {x1 x2 : Int}
    (t : (I 67 9 ≤ x2 → (zRn (zcl d) 173 B Q 51 [some (zr 67), some (zi x1), some (zi 0)] [] (c, (z2 I 67 11 (zwr ((I 67 11) - 1))), zRg g))) ∧ (¬ (I 67 9 ≤ x2) → (zcl d 172 0 0 [zr 67, zi x2, zi x1] (c, I, zRg g) (fun v h1 => zRn (zcl d) 173 B Q 32 [some (zr 67), some (zi x1), some (zi x2)] (zva v []) h1)))) :
    zRn (zcl d) 173 B Q 18 [some (zr 67), some (zi x1), some (zi x2)] [] (c, I, zRg g) :=
  zgo [18, 32, 51, 93] 12 (And.intro rfl (And.intro (fun u549 => And.intro rfl (And.intro rfl (t.1 u549))) (fun u549 => Exists.intro 172 (And.intro rfl (Exists.intro 0 (Exists.intro 0 (And.intro (Or.inl rfl) (And.intro (Or.inl rfl) (t.2 u549)))))))))
theorem g_x12_passes_32 {d : Nat} {B : Nat × Nat} {Q : zQ} {c : Nat × Nat × Nat} {I : Nat → Nat → Int} {g : Nat} {x1 x2 s0 : Int}
    (t : zRn (zcl d) 173 B Q 18 [some (zr 67), some (zi s0), some (zi (zwr (x2 + 1)))] [] (c, I, zRg g)) :
    zRn (zcl d) 173 B Q 32 [some (zr 67), some (zi x1), some (zi x2)] [zi s0] (c, I, zRg g) :=
  zgo [18, 32, 51, 93] 3 (t)
theorem g_x12_passes_51 {d : Nat} {B : Nat × Nat} {Q : zQ} {c : Nat × Nat × Nat} {I : Nat → Nat → Int} {g : Nat} {x1 x2 : Int}
    (t : (I 67 11 ≤ x2 → (zcl d 131 0 0 [zi (zwr ((I 67 12) + 1)), zi 0, zi 999] (c, I, zRg g) (fun v h1 => zRn (zcl d) 173 B Q 93 [some (zr 67), some (zi x1), some (zi x2)] (zva v [zr 67]) h1))) ∧ (¬ (I 67 11 ≤ x2) → ((0 ≤ zwr (x2 + 1) ∧ zwr (x2 + 1) < 8) ∧ ((0 ≤ x2 ∧ x2 < 8) ∧ (zRn (zcl d) 173 B Q 51 [some (zr 67), some (zi x1), some (zi (zwr (x2 + 1)))] [] (c, (z2 I 72 x2.toNat (I 72 ((zwr (x2 + 1)).toNat))), zRg g)))))) :
    zRn (zcl d) 173 B Q 51 [some (zr 67), some (zi x1), some (zi x2)] [] (c, I, zRg g) :=
  zgo [18, 32, 51, 93] 16 (And.intro rfl (And.intro (fun u550 => And.intro rfl (Exists.intro 0 (Exists.intro 0 (And.intro (Or.inl rfl) (And.intro (Or.inl rfl) (t.1 u550)))))) (fun u550 => And.intro rfl (Exists.intro (some 72) (And.intro rfl (And.intro rfl (Exists.intro (some 72) (And.intro rfl (And.intro rfl (And.intro (t.2 u550).1 (And.intro rfl (And.intro (t.2 u550).2.1 ((t.2 u550).2.2)))))))))))))
theorem g_x12_passes_93 {d : Nat} {B : Nat × Nat} {Q : zQ} {c : Nat × Nat × Nat} {I : Nat → Nat → Int} {g : Nat} {x1 x2 s0 : Int}
    (t : Q (some (zi x1)) (c, (z2 (z2 I 67 12 s0) 67 7 (zwr ((I 67 7) + 1))), zRg g)) :
    zRn (zcl d) 173 B Q 93 [some (zr 67), some (zi x1), some (zi x2)] [zi s0, zr 67] (c, I, zRg g) :=
  zgo [18, 32, 51, 93] 8 (And.intro rfl (And.intro rfl (And.intro rfl t)))
theorem g_x12_day_0 {d : Nat} {B : Nat × Nat} {Q : zQ} {c : Nat × Nat × Nat} {I : Nat → Nat → Int} {g : Nat}
    (t : (I 67 7 ≠ 999 → (zcl d 173 0 0 [zr 67] (c, I, zRg g) (fun v h1 => zRn (zcl d) 174 B Q 19 [some (zr 67)] (zva v []) h1))) ∧ (¬ (I 67 7 ≠ 999) → (zRn (zcl d) 174 B Q 19 [some (zr 67)] [zi (-3)] (c, I, zRg g)))) :
    zRn (zcl d) 174 B Q 0 [some (zr 67)] [] (c, I, zRg g) :=
  zgo [19] 6 (And.intro rfl (And.intro (fun u551 => Exists.intro 173 (And.intro rfl (Exists.intro 0 (Exists.intro 0 (And.intro (Or.inl rfl) (And.intro (Or.inl rfl) (t.1 u551))))))) (fun u551 => (t.2 u551))))
theorem g_x12_day_19 {d : Nat} {B : Nat × Nat} {Q : zQ} {c : Nat × Nat × Nat} {I : Nat → Nat → Int} {g : Nat} {s0 : Int}
    (t : Q (some (zi s0)) (c, I, zRg g)) :
    zRn (zcl d) 174 B Q 19 [some (zr 67)] [zi s0] (c, I, zRg g) :=
  zgo [19] 0 (t)
theorem g_x12_laysAside_0 {d : Nat} {B : Nat × Nat} {Q : zQ} {c : Nat × Nat × Nat} {I : Nat → Nat → Int} {g : Nat}
    (t : zRn (zcl d) 175 B Q 2 [some (zr 67), some (zi 0)] [] (c, I, zRg g)) :
    zRn (zcl d) 175 B Q 0 [some (zr 67), none] [] (c, I, zRg g) :=
  zgo [2, 28] 2 (t)
theorem g_x12_laysAside_2 {d : Nat} {B : Nat × Nat} {Q : zQ} {c : Nat × Nat × Nat} {I : Nat → Nat → Int} {g : Nat} {x1 : Int}
    (t : (25 ≤ x1 → (zRn (zcl d) 175 B Q 28 [some (zr 67), some (zi 0)] [] (c, I, zRg g))) ∧ (¬ (25 ≤ x1) → ((0 ≤ x1 ∧ x1 < 25) ∧ ((0 ≤ x1 ∧ x1 < 36) ∧ (zRn (zcl d) 175 B Q 2 [some (zr 67), some (zi (zwr (x1 + 1)))] [] (c, (z2 I 73 x1.toNat (I 71 x1.toNat)), zRg g)))))) :
    zRn (zcl d) 175 B Q 2 [some (zr 67), some (zi x1)] [] (c, I, zRg g) :=
  zgo [2, 28] 13 (And.intro (fun u552 => (t.1 u552)) (fun u552 => And.intro rfl (Exists.intro (some 73) (And.intro rfl (And.intro rfl (Exists.intro (some 71) (And.intro rfl (And.intro rfl (And.intro (t.2 u552).1 (And.intro rfl (And.intro (t.2 u552).2.1 ((t.2 u552).2.2))))))))))))
theorem g_x12_laysAside_28 {d : Nat} {B : Nat × Nat} {Q : zQ} {c : Nat × Nat × Nat} {I : Nat → Nat → Int} {g : Nat} {x1 : Int}
    (t : (8 ≤ x1 → (Q none (c, (z2 (z2 (z2 I 73 33 (I 67 11)) 73 34 (I 67 12)) 73 35 (I 67 7)), zRg g))) ∧ (¬ (8 ≤ x1) → ((0 ≤ x1 ∧ x1 < 8) ∧ ((0 ≤ zwr (25 + x1) ∧ zwr (25 + x1) < 36) ∧ (zRn (zcl d) 175 B Q 28 [some (zr 67), some (zi (zwr (x1 + 1)))] [] (c, (z2 I 73 (zwr (25 + x1)).toNat (I 72 x1.toNat)), zRg g)))))) :
    zRn (zcl d) 175 B Q 28 [some (zr 67), some (zi x1)] [] (c, I, zRg g) :=
  zgo [2, 28] 21 (And.intro (fun u553 => And.intro rfl (Exists.intro (some 73) (And.intro rfl (And.intro rfl (And.intro rfl (And.intro (by decide) (And.intro rfl (Exists.intro (some 73) (And.intro rfl (And.intro rfl (And.intro rfl (And.intro (by decide) (And.intro rfl (Exists.intro (some 73) (And.intro rfl (And.intro rfl (And.intro rfl (And.intro (by decide) (t.1 u553))))))))))))))))))) (fun u553 => And.intro rfl (Exists.intro (some 73) (And.intro rfl (And.intro rfl (Exists.intro (some 72) (And.intro rfl (And.intro rfl (And.intro (t.2 u553).1 (And.intro rfl (And.intro (t.2 u553).2.1 ((t.2 u553).2.2))))))))))))
theorem g_x12_laysBack_0 {d : Nat} {B : Nat × Nat} {Q : zQ} {c : Nat × Nat × Nat} {I : Nat → Nat → Int} {g : Nat}
    (t : zRn (zcl d) 176 B Q 2 [some (zr 67), some (zi 0)] [] (c, I, zRg g)) :
    zRn (zcl d) 176 B Q 0 [some (zr 67), none] [] (c, I, zRg g) :=
  zgo [2, 28] 2 (t)
theorem g_x12_laysBack_2 {d : Nat} {B : Nat × Nat} {Q : zQ} {c : Nat × Nat × Nat} {I : Nat → Nat → Int} {g : Nat} {x1 : Int}
    (t : (25 ≤ x1 → (zRn (zcl d) 176 B Q 28 [some (zr 67), some (zi 0)] [] (c, I, zRg g))) ∧ (¬ (25 ≤ x1) → ((0 ≤ x1 ∧ x1 < 36) ∧ ((0 ≤ x1 ∧ x1 < 25) ∧ (zRn (zcl d) 176 B Q 2 [some (zr 67), some (zi (zwr (x1 + 1)))] [] (c, (z2 I 71 x1.toNat (I 73 x1.toNat)), zRg g)))))) :
    zRn (zcl d) 176 B Q 2 [some (zr 67), some (zi x1)] [] (c, I, zRg g) :=
  zgo [2, 28] 13 (And.intro (fun u554 => (t.1 u554)) (fun u554 => And.intro rfl (Exists.intro (some 71) (And.intro rfl (And.intro rfl (Exists.intro (some 73) (And.intro rfl (And.intro rfl (And.intro (t.2 u554).1 (And.intro rfl (And.intro (t.2 u554).2.1 ((t.2 u554).2.2))))))))))))
theorem g_x12_laysBack_28 {d : Nat} {B : Nat × Nat} {Q : zQ} {c : Nat × Nat × Nat} {I : Nat → Nat → Int} {g : Nat} {x1 : Int}
    (t : (8 ≤ x1 → (Q none (c, (z2 (z2 (z2 I 67 11 (I 73 33)) 67 12 (I 73 34)) 67 7 (I 73 35)), zRg g))) ∧ (¬ (8 ≤ x1) → ((0 ≤ zwr (25 + x1) ∧ zwr (25 + x1) < 36) ∧ ((0 ≤ x1 ∧ x1 < 8) ∧ (zRn (zcl d) 176 B Q 28 [some (zr 67), some (zi (zwr (x1 + 1)))] [] (c, (z2 I 72 x1.toNat (I 73 ((zwr (25 + x1)).toNat))), zRg g)))))) :
    zRn (zcl d) 176 B Q 28 [some (zr 67), some (zi x1)] [] (c, I, zRg g) :=
  zgo [2, 28] 21 (And.intro (fun u555 => And.intro rfl (Exists.intro (some 73) (And.intro rfl (And.intro rfl (And.intro (by decide) (And.intro rfl (And.intro rfl (Exists.intro (some 73) (And.intro rfl (And.intro rfl (And.intro (by decide) (And.intro rfl (And.intro rfl (Exists.intro (some 73) (And.intro rfl (And.intro rfl (And.intro (by decide) (And.intro rfl (t.1 u555))))))))))))))))))) (fun u555 => And.intro rfl (Exists.intro (some 72) (And.intro rfl (And.intro rfl (Exists.intro (some 73) (And.intro rfl (And.intro rfl (And.intro (t.2 u555).1 (And.intro rfl (And.intro (t.2 u555).2.1 ((t.2 u555).2.2))))))))))))
theorem g_x12_run_0 {d : Nat} {B : Nat × Nat} {Q : zQ} {c : Nat × Nat × Nat} {I : Nat → Nat → Int} {g : Nat} {x1 x2 : Int}
    (t : zcl d 130 0 0 [zl x2, zl 10, zl 14] (c, I, zRg g) (fun v h1 => zRn (zcl d) 177 B Q 11 [some (zr 67), some (zi x1), some (zi x2), none, none, none, none, none] (zva v []) h1)) :
    zRn (zcl d) 177 B Q 0 [some (zr 67), some (zi x1), some (zi x2), none, none, none, none, none] [] (c, I, zRg g) :=
  zgo [11, 25, 36, 54, 64, 79, 88, 98, 178] 4 (Exists.intro 0 (Exists.intro 0 (And.intro (Or.inl rfl) (And.intro (Or.inl rfl) t))))
theorem g_x12_run_11 {d : Nat} {B : Nat × Nat} {Q : zQ} {c : Nat × Nat × Nat} {I : Nat → Nat → Int} {g : Nat} {x1 x2 s0 : Int}
    (t : (s0 ≠ 0 → (zcl d 134 0 0 [zr 67, zi (zwr (Int.tmod x2 10))] (c, I, zRg g) (fun v h1 => zRn (zcl d) 177 B Q 36 [some (zr 67), some (zi x1), some (zi x2), none, none, none, none, none] (zva v []) h1))) ∧ (¬ (s0 ≠ 0) → (zcl d 130 0 0 [zl x2, zl 20, zl 24] (c, I, zRg g) (fun v h1 => zRn (zcl d) 177 B Q 25 [some (zr 67), some (zi x1), some (zi x2), none, none, none, none, none] (zva v []) h1)))) :
    zRn (zcl d) 177 B Q 11 [some (zr 67), some (zi x1), some (zi x2), none, none, none, none, none] [zi s0] (c, I, zRg g) :=
  zgo [11, 25, 36, 54, 64, 79, 88, 98, 178] 5 (And.intro (fun u556 => And.intro (by decide) (Exists.intro 134 (And.intro rfl (Exists.intro 0 (Exists.intro 0 (And.intro (Or.inl rfl) (And.intro (Or.inl rfl) (t.1 u556)))))))) (fun u556 => Exists.intro 0 (Exists.intro 0 (And.intro (Or.inl rfl) (And.intro (Or.inl rfl) (t.2 u556))))))
theorem g_x12_run_25 {d : Nat} {B : Nat × Nat} {Q : zQ} {c : Nat × Nat × Nat} {I : Nat → Nat → Int} {g : Nat} {x1 x2 s0 : Int}
    (t : (s0 = 0 → (zcl d 130 0 0 [zl x1, zl 0, zl 20] (c, I, zRg g) (fun v h1 => zRn (zcl d) 177 B Q 54 [some (zr 67), some (zi x1), some (zi x2), some (zi 0), none, none, none, none] (zva v []) h1))) ∧ (¬ (s0 = 0) → (zcl d 134 0 0 [zr 67, zi (zwr (Int.tmod x2 10))] (c, I, zRg g) (fun v h1 => zRn (zcl d) 177 B Q 36 [some (zr 67), some (zi x1), some (zi x2), none, none, none, none, none] (zva v []) h1)))) :
    zRn (zcl d) 177 B Q 25 [some (zr 67), some (zi x1), some (zi x2), none, none, none, none, none] [zi s0] (c, I, zRg g) :=
  zgo [11, 25, 36, 54, 64, 79, 88, 98, 178] 7 (And.intro (fun u558 => Exists.intro 0 (Exists.intro 0 (And.intro (Or.inl rfl) (And.intro (Or.inl rfl) (t.1 u558))))) (fun u558 => And.intro (by decide) (Exists.intro 134 (And.intro rfl (Exists.intro 0 (Exists.intro 0 (And.intro (Or.inl rfl) (And.intro (Or.inl rfl) (t.2 u558)))))))))
theorem g_x12_run_36 {d : Nat} {B : Nat × Nat} {Q : zQ} {c : Nat × Nat × Nat} {I : Nat → Nat → Int} {g : Nat} {x1 x2 s0 : Int}
    (t : (s0 = 0 → (zcl d 130 0 0 [zl x1, zl 0, zl 20] (c, I, zRg g) (fun v h1 => zRn (zcl d) 177 B Q 54 [some (zr 67), some (zi x1), some (zi x2), some (zi 0), none, none, none, none] (zva v []) h1))) ∧ (¬ (s0 = 0) → (zcl d 130 0 0 [zl x1, zl 0, zl 20] (c, I, zRg g) (fun v h1 => zRn (zcl d) 177 B Q 54 [some (zr 67), some (zi x1), some (zi x2), some (zi 1), none, none, none, none] (zva v []) h1)))) :
    zRn (zcl d) 177 B Q 36 [some (zr 67), some (zi x1), some (zi x2), none, none, none, none, none] [zi s0] (c, I, zRg g) :=
  zgo [11, 25, 36, 54, 64, 79, 88, 98, 178] 8 (And.intro (fun u557 => Exists.intro 0 (Exists.intro 0 (And.intro (Or.inl rfl) (And.intro (Or.inl rfl) (t.1 u557))))) (fun u557 => Exists.intro 0 (Exists.intro 0 (And.intro (Or.inl rfl) (And.intro (Or.inl rfl) (t.2 u557))))))
theorem g_x12_run_54 {d : Nat} {B : Nat × Nat} {Q : zQ} {c : Nat × Nat × Nat} {I : Nat → Nat → Int} {g : Nat} {x1 x2 x3 s0 : Int}
    (t : (s0 = 0 → (Q (some (zi (-1000))) (c, I, zRg g))) ∧ (¬ (s0 = 0) → (zcl d 130 0 0 [zl x2, zl 0, zl 1] (c, I, zRg g) (fun v h1 => zRn (zcl d) 177 B Q 64 [some (zr 67), some (zi x1), some (zi x2), some (zi x3), none, none, none, none] (zva v []) h1)))) :
    zRn (zcl d) 177 B Q 54 [some (zr 67), some (zi x1), some (zi x2), some (zi x3), none, none, none, none] [zi s0] (c, I, zRg g) :=
  zgo [11, 25, 36, 54, 64, 79, 88, 98, 178] 5 (And.intro (fun u559 => (t.1 u559)) (fun u559 => Exists.intro 0 (Exists.intro 0 (And.intro (Or.inl rfl) (And.intro (Or.inl rfl) (t.2 u559))))))
theorem g_x12_run_64 {d : Nat} {B : Nat × Nat} {Q : zQ} {c : Nat × Nat × Nat} {I : Nat → Nat → Int} {g : Nat} {x1 x2 x3 s0 : Int}
    (t : (s0 ≠ 0 → (zcl d 175 0 0 [zr 67] (c, I, zRg g) (fun v h1 => zRn (zcl d) 177 B Q 79 [some (zr 67), some (zi x1), some (zi x2), some (zi x3), none, none, none, none] (zva v []) h1))) ∧ (¬ (s0 ≠ 0) → ((x3 ≠ 0 → (zcl d 175 0 0 [zr 67] (c, I, zRg g) (fun v h1 => zRn (zcl d) 177 B Q 79 [some (zr 67), some (zi x1), some (zi x2), some (zi x3), none, none, none, none] (zva v []) h1))) ∧ (¬ (x3 ≠ 0) → (Q (some (zi (-1000))) (c, I, zRg g)))))) :
    zRn (zcl d) 177 B Q 64 [some (zr 67), some (zi x1), some (zi x2), some (zi x3), none, none, none, none] [zi s0] (c, I, zRg g) :=
  zgo [11, 25, 36, 54, 64, 79, 88, 98, 178] 4 (And.intro (fun u560 => Exists.intro 175 (And.intro rfl (Exists.intro 0 (Exists.intro 0 (And.intro (Or.inl rfl) (And.intro (Or.inl rfl) (t.1 u560))))))) (fun u560 => And.intro (fun u561 => Exists.intro 175 (And.intro rfl (Exists.intro 0 (Exists.intro 0 (And.intro (Or.inl rfl) (And.intro (Or.inl rfl) ((t.2 u560).1 u561))))))) (fun u561 => ((t.2 u560).2 u561))))
theorem g_x12_run_79 {d : Nat} {B : Nat × Nat} {Q : zQ} {c : Nat × Nat × Nat} {I : Nat → Nat → Int} {g : Nat} {x1 x2 x3 : Int}
    (t : zRn (zcl d) 177 B Q 88 [some (zr 67), some (zi x1), some (zi x2), some (zi x3), some (zi (-1)), some (zi 0), some (zi 0), none] [] (c, I, zRg g)) :
    zRn (zcl d) 177 B Q 79 [some (zr 67), some (zi x1), some (zi x2), some (zi x3), none, none, none, none] [] (c, I, zRg g) :=
  zgo [11, 25, 36, 54, 64, 79, 88, 98, 178] 6 (t)
theorem g_x12_run_88 {d : Nat} {B : Nat × Nat} {Q : zQ} {c : Nat × Nat × Nat} {I : Nat → Nat → Int} {g : Nat} {x1 x2 x3 x4 x5 x6 : Int}
    (t : (x1 ≤ x6 → ((x2 ≠ 0 → ((x2 ≠ 1 → ((0 ≤ zwr ((zwr (5 * (zwr (Int.tmod x2 10)))) + (zwr (Int.tdiv x2 10))) ∧ zwr ((zwr (5 * (zwr (Int.tmod x2 10)))) + (zwr (Int.tdiv x2 10))) < 25) ∧ (zcl d 176 0 0 [zr 67] (c, I, zRg g) (fun v h1 => zRn (zcl d) 177 B Q 178 [some (zr 67), some (zi x1), some (zi x2), some (zi x3), some (zi x4), some (zi x5), some (zi (I 71 ((zwr ((zwr (5 * (zwr (Int.tmod x2 10)))) + (zwr (Int.tdiv x2 10)))).toNat))), none] (zva v []) h1)))) ∧ (¬ (x2 ≠ 1) → (zcl d 176 0 0 [zr 67] (c, I, zRg g) (fun v h1 => zRn (zcl d) 177 B Q 178 [some (zr 67), some (zi x1), some (zi x2), some (zi x3), some (zi x4), some (zi x5), some (zi x5), none] (zva v []) h1))))) ∧ (¬ (x2 ≠ 0) → (zcl d 176 0 0 [zr 67] (c, I, zRg g) (fun v h1 => zRn (zcl d) 177 B Q 178 [some (zr 67), some (zi x1), some (zi x2), some (zi x3), some (zi x4), some (zi x5), some (zi x4), none] (zva v []) h1))))) ∧ (¬ (x1 ≤ x6) → (zcl d 173 0 0 [zr 67] (c, I, zRg g) (fun v h1 => zRn (zcl d) 177 B Q 98 [some (zr 67), some (zi x1), some (zi x2), some (zi x3), some (zi x4), some (zi x5), some (zi x6), none] (zva v []) h1)))) :
    zRn (zcl d) 177 B Q 88 [some (zr 67), some (zi x1), some (zi x2), some (zi x3), some (zi x4), some (zi x5), some (zi x6), none] [] (c, I, zRg g) :=
  zgo [11, 25, 36, 54, 64, 79, 88, 98, 178] 22 (And.intro (fun u562 => And.intro (fun u563 => And.intro (fun u564 => And.intro rfl (Exists.intro (some 71) (And.intro rfl (And.intro (by decide) (And.intro (by decide) (And.intro rfl (And.intro (((t.1 u562).1 u563).1 u564).1 (Exists.intro 176 (And.intro rfl (Exists.intro 0 (Exists.intro 0 (And.intro (Or.inl rfl) (And.intro (Or.inl rfl) ((((t.1 u562).1 u563).1 u564).2)))))))))))))) (fun u564 => Exists.intro 176 (And.intro rfl (Exists.intro 0 (Exists.intro 0 (And.intro (Or.inl rfl) (And.intro (Or.inl rfl) (((t.1 u562).1 u563).2 u564)))))))) (fun u563 => Exists.intro 176 (And.intro rfl (Exists.intro 0 (Exists.intro 0 (And.intro (Or.inl rfl) (And.intro (Or.inl rfl) ((t.1 u562).2 u563)))))))) (fun u562 => Exists.intro 173 (And.intro rfl (Exists.intro 0 (Exists.intro 0 (And.intro (Or.inl rfl) (And.intro (Or.inl rfl) (t.2 u562))))))))
theorem g_x12_run_98 {d : Nat} {B : Nat × Nat} {Q : zQ} {c : Nat × Nat × Nat} {I : Nat → Nat → Int} {g : Nat} {x1 x2 x3 x4 x5 x6 s0 : Int}
    (t : (s0 ≠ (-1) → ((s0 ≠ (-1) → (zRn (zcl d) 177 B Q 88 [some (zr 67), some (zi x1), some (zi x2), some (zi x3), some (zi s0), some (zi (zwr (x5 + 1))), some (zi (zwr (x6 + 1))), some (zi s0)] [] (c, I, zRg g))) ∧ (¬ (s0 ≠ (-1)) → (zRn (zcl d) 177 B Q 88 [some (zr 67), some (zi x1), some (zi x2), some (zi x3), some (zi s0), some (zi (zwr (x5 + 0))), some (zi (zwr (x6 + 1))), some (zi s0)] [] (c, I, zRg g))))) ∧ (¬ (s0 ≠ (-1)) → ((s0 ≠ (-1) → (zRn (zcl d) 177 B Q 88 [some (zr 67), some (zi x1), some (zi x2), some (zi x3), some (zi x4), some (zi (zwr (x5 + 1))), some (zi (zwr (x6 + 1))), some (zi s0)] [] (c, I, zRg g))) ∧ (¬ (s0 ≠ (-1)) → (zRn (zcl d) 177 B Q 88 [some (zr 67), some (zi x1), some (zi x2), some (zi x3), some (zi x4), some (zi (zwr (x5 + 0))), some (zi (zwr (x6 + 1))), some (zi s0)] [] (c, I, zRg g)))))) :
    zRn (zcl d) 177 B Q 98 [some (zr 67), some (zi x1), some (zi x2), some (zi x3), some (zi x4), some (zi x5), some (zi x6), none] [zi s0] (c, I, zRg g) :=
  zgo [11, 25, 36, 54, 64, 79, 88, 98, 178] 17 (And.intro (fun u565 => And.intro (fun u566 => ((t.1 u565).1 u566)) (fun u566 => ((t.1 u565).2 u566))) (fun u565 => And.intro (fun u567 => ((t.2 u565).1 u567)) (fun u567 => ((t.2 u565).2 u567))))
theorem g_x12_run_178 {d : Nat} {B : Nat × Nat} {Q : zQ} {c : Nat × Nat × Nat} {I : Nat → Nat → Int} {g : Nat} {x1 x2 x3 x4 x5 x6 : Int}
    (t : Q (some (zi x6)) (c, I, zRg g)) :
    zRn (zcl d) 177 B Q 178 [some (zr 67), some (zi x1), some (zi x2), some (zi x3), some (zi x4), some (zi x5), some (zi x6), none] [] (c, I, zRg g) :=
  zgo [11, 25, 36, 54, 64, 79, 88, 98, 178] 1 (t)
theorem g_x12_fro_0 {d : Nat} {B : Nat × Nat} {Q : zQ} {c : Nat × Nat × Nat} {I : Nat → Nat → Int} {g : Nat} {x1 x2 : Int}
    (t : zcl d 130 0 0 [zl x1, zl 0, zl 1023] (c, I, zRg g) (fun v h1 => zRn (zcl d) 178 B Q 9 [some (zr 67), some (zi x1), some (zi x2), none, none] (zva v []) h1)) :
    zRn (zcl d) 178 B Q 0 [some (zr 67), some (zi x1), some (zi x2), none, none] [] (c, I, zRg g) :=
  zgo [9, 19, 34, 57, 61] 4 (Exists.intro 0 (Exists.intro 0 (And.intro (Or.inl rfl) (And.intro (Or.inl rfl) t))))
theorem g_x12_fro_9 {d : Nat} {B : Nat × Nat} {Q : zQ} {c : Nat × Nat × Nat} {I : Nat → Nat → Int} {g : Nat} {x1 x2 s0 : Int}
    (t : (s0 = 0 → (Q (some (zi (-2))) (c, I, zRg g))) ∧ (¬ (s0 = 0) → (zcl d 130 0 0 [zl x2, zl 0, zl 1] (c, I, zRg g) (fun v h1 => zRn (zcl d) 178 B Q 19 [some (zr 67), some (zi x1), some (zi x2), none, none] (zva v []) h1)))) :
    zRn (zcl d) 178 B Q 9 [some (zr 67), some (zi x1), some (zi x2), none, none] [zi s0] (c, I, zRg g) :=
  zgo [9, 19, 34, 57, 61] 5 (And.intro (fun u568 => (t.1 u568)) (fun u568 => Exists.intro 0 (Exists.intro 0 (And.intro (Or.inl rfl) (And.intro (Or.inl rfl) (t.2 u568))))))
theorem g_x12_fro_19 {d : Nat} {B : Nat × Nat} {Q : zQ} {c : Nat × Nat × Nat} {I : Nat → Nat → Int} {g : Nat} {x1 x2 s0 : Int}
    (t : (s0 ≠ 0 → (zRn (zcl d) 178 B Q 34 [some (zr 67), some (zi x1), some (zi x2), some (zi 1), none] [] (c, (z2 I 74 0 x1), zRg g))) ∧ (¬ (s0 ≠ 0) → (Q (some (zi (-2))) (c, I, zRg g)))) :
    zRn (zcl d) 178 B Q 19 [some (zr 67), some (zi x1), some (zi x2), none, none] [zi s0] (c, I, zRg g) :=
  zgo [9, 19, 34, 57, 61] 8 (And.intro (fun u569 => And.intro rfl (Exists.intro (some 74) (And.intro rfl (And.intro rfl (And.intro (by decide) (t.1 u569)))))) (fun u569 => (t.2 u569)))
theorem g_x12_fro_34 {d : Nat} {B : Nat × Nat} {Q : zQ} {c : Nat × Nat × Nat} {I : Nat → Nat → Int} {g : Nat} {x1 x2 x3 : Int}
    (t : (60 < x3 → (Q (some (zi (-1))) (c, I, zRg g))) ∧ (¬ (60 < x3) → ((0 ≤ zwr (x3 - 1) ∧ zwr (x3 - 1) < 61) ∧ (zcl d 169 0 0 [zr 67, zi (I 74 ((zwr (x3 - 1)).toNat))] (c, I, zRg g) (fun v h1 => zRn (zcl d) 178 B Q 57 [some (zr 67), some (zi x1), some (zi x2), some (zi x3), none] (zva v [zi x3, zr 74]) h1))))) :
    zRn (zcl d) 178 B Q 34 [some (zr 67), some (zi x1), some (zi x2), some (zi x3), none] [] (c, I, zRg g) :=
  zgo [9, 19, 34, 57, 61] 13 (And.intro (fun u570 => (t.1 u570)) (fun u570 => And.intro rfl (Exists.intro (some 74) (And.intro rfl (And.intro rfl (Exists.intro (some 74) (And.intro rfl (And.intro rfl (And.intro (t.2 u570).1 (Exists.intro 169 (And.intro rfl (Exists.intro 0 (Exists.intro 0 (And.intro (Or.inl rfl) (And.intro (Or.inl rfl) ((t.2 u570).2))))))))))))))))
theorem g_x12_fro_57 {d : Nat} {B : Nat × Nat} {Q : zQ} {c : Nat × Nat × Nat} {I : Nat → Nat → Int} {g : Nat} {x1 x2 x3 s0 s1 : Int}
    (t : (0 ≤ s1 ∧ s1 < 61) ∧ (zRn (zcl d) 178 B Q 61 [some (zr 67), some (zi x1), some (zi x2), some (zi x3), some (zi 0)] [] (c, (z2 I 74 s1.toNat s0), zRg g))) :
    zRn (zcl d) 178 B Q 57 [some (zr 67), some (zi x1), some (zi x2), some (zi x3), none] [zi s0, zi s1, zr 74] (c, I, zRg g) :=
  zgo [9, 19, 34, 57, 61] 3 (And.intro rfl (And.intro t.1 t.2))
theorem g_x12_fro_61 {d : Nat} {B : Nat × Nat} {Q : zQ} {c : Nat × Nat × Nat} {I : Nat → Nat → Int} {g : Nat} {x1 x2 x3 x4 : Int}
    (t : (x3 ≤ x4 → (zRn (zcl d) 178 B Q 34 [some (zr 67), some (zi x1), some (zi x2), some (zi (zwr (x3 + 1))), some (zi x4)] [] (c, I, zRg g))) ∧ (¬ (x3 ≤ x4) → ((0 ≤ x4 ∧ x4 < 61) ∧ ((0 ≤ x3 ∧ x3 < 61) ∧ ((I 74 x4.toNat ≠ I 74 x3.toNat → (zRn (zcl d) 178 B Q 61 [some (zr 67), some (zi x1), some (zi x2), some (zi x3), some (zi (zwr (x4 + 1)))] [] (c, I, zRg g))) ∧ (¬ (I 74 x4.toNat ≠ I 74 x3.toNat) → ((x2 ≠ 0 → ((0 ≤ x3 ∧ x3 < 61) ∧ (Q (some (zi (I 74 x3.toNat))) (c, I, zRg g)))) ∧ (¬ (x2 ≠ 0) → (Q (some (zi x3)) (c, I, zRg g)))))))))) :
    zRn (zcl d) 178 B Q 61 [some (zr 67), some (zi x1), some (zi x2), some (zi x3), some (zi x4)] [] (c, I, zRg g) :=
  zgo [9, 19, 34, 57, 61] 18 (And.intro (fun u571 => (t.1 u571)) (fun u571 => And.intro rfl (Exists.intro (some 74) (And.intro rfl (And.intro rfl (And.intro (t.2 u571).1 (And.intro rfl (Exists.intro (some 74) (And.intro rfl (And.intro rfl (And.intro (t.2 u571).2.1 (And.intro (fun u572 => ((t.2 u571).2.2.1 u572)) (fun u572 => And.intro (fun u573 => And.intro rfl (Exists.intro (some 74) (And.intro rfl (And.intro rfl (And.intro (((t.2 u571).2.2.2 u572).1 u573).1 ((((t.2 u571).2.2.2 u572).1 u573).2)))))) (fun u573 => (((t.2 u571).2.2.2 u572).2 u573)))))))))))))))
theorem g_x12_rowsFrom_0 {d : Nat} {B : Nat × Nat} {Q : zQ} {c : Nat × Nat × Nat} {I : Nat → Nat → Int} {g : Nat} {x1 x2 x3 x4 x5 x6 : Int}
    (t : zcl d 170 0 0 [zi x1, zi x2] (c, I, zRg g) (fun v h1 => zRn (zcl d) 179 B Q 5 [some (zr 67), some (zi x1), some (zi x2), some (zi x3), some (zi x4), some (zi x5), some (zi x6), none, none] (zva v []) h1)) :
    zRn (zcl d) 179 B Q 0 [some (zr 67), some (zi x1), some (zi x2), some (zi x3), some (zi x4), some (zi x5), some (zi x6), none, none] [] (c, I, zRg g) :=
  zgo [5, 57, 91, 116] 2 (Exists.intro 0 (Exists.intro 0 (And.intro (Or.inl rfl) (And.intro (Or.inl rfl) t))))
theorem g_x12_rowsFrom_5 {d : Nat} {B : Nat × Nat} {Q : zQ} {c : Nat × Nat × Nat} {I : Nat → Nat → Int} {g : Nat} {x1 x2 x3 x4 x5 x6 s0 : Int}
    (t : (x3 ≤ 0 → (zRn (zcl d) 179 B Q 57 [some (zr 67), some (zi x1), some (zi x2), some (zi x3), some (zi x4), some (zi x5), some (zi x6), some (zi s0), some (zi 0)] [] (c, I, zRg g))) ∧ (¬ (x3 ≤ 0) → ((s0 < I 67 32 → (zRn (zcl d) 179 B Q 57 [some (zr 67), some (zi x1), some (zi x2), some (zi x3), some (zi x4), some (zi x5), some (zi x6), some (zi s0), some (zi 0)] [] (c, (z2 (z2 (z2 I 67 31 x6) 67 32 s0) 67 33 x3), zRg g))) ∧ (¬ (s0 < I 67 32) → ((s0 ≠ I 67 32 → (zRn (zcl d) 179 B Q 57 [some (zr 67), some (zi x1), some (zi x2), some (zi x3), some (zi x4), some (zi x5), some (zi x6), some (zi s0), some (zi 0)] [] (c, I, zRg g))) ∧ (¬ (s0 ≠ I 67 32) → ((I 67 33 ≤ x3 → (zRn (zcl d) 179 B Q 57 [some (zr 67), some (zi x1), some (zi x2), some (zi x3), some (zi x4), some (zi x5), some (zi x6), some (zi s0), some (zi 0)] [] (c, I, zRg g))) ∧ (¬ (I 67 33 ≤ x3) → (zRn (zcl d) 179 B Q 57 [some (zr 67), some (zi x1), some (zi x2), some (zi x3), some (zi x4), some (zi x5), some (zi x6), some (zi s0), some (zi 0)] [] (c, (z2 (z2 (z2 I 67 31 x6) 67 32 s0) 67 33 x3), zRg g)))))))))) :
    zRn (zcl d) 179 B Q 5 [some (zr 67), some (zi x1), some (zi x2), some (zi x3), some (zi x4), some (zi x5), some (zi x6), none, none] [zi s0] (c, I, zRg g) :=
  zgo [5, 57, 91, 116] 26 (And.intro (fun u574 => (t.1 u574)) (fun u574 => And.intro rfl (And.intro (fun u575 => And.intro rfl (And.intro rfl (And.intro rfl ((t.2 u574).1 u575)))) (fun u575 => And.intro rfl (And.intro (fun u576 => (((t.2 u574).2 u575).1 u576)) (fun u576 => And.intro rfl (And.intro (fun u577 => ((((t.2 u574).2 u575).2 u576).1 u577)) (fun u577 => And.intro rfl (And.intro rfl (And.intro rfl ((((t.2 u574).2 u575).2 u576).2 u577)))))))))))
theorem g_x12_rowsFrom_57 {d : Nat} {B : Nat × Nat} {Q : zQ} {c : Nat × Nat × Nat} {I : Nat → Nat → Int} {g : Nat} {x1 x2 x3 x4 x5 x6 x7 x8 : Int}
    (t : (I 67 9 ≤ x8 → (Q none (c, I, zRg g))) ∧ (¬ (I 67 9 ≤ x8) → ((x4 ≤ x3 → (Q none (c, I, zRg g))) ∧ (¬ (x4 ≤ x3) → ((zand (zshr x5 x8) 1 ≠ 0 → (zRn (zcl d) 179 B Q 116 [some (zr 67), some (zi x1), some (zi x2), some (zi x3), some (zi x4), some (zi x5), some (zi x6), some (zi x7), some (zi x8)] [] (c, I, zRg g))) ∧ (¬ (zand (zshr x5 x8) 1 ≠ 0) → (zcl d 165 0 0 [zr 67, zi x8, zi x2] (c, I, zRg g) (fun v h1 => zRn (zcl d) 179 B Q 91 [some (zr 67), some (zi x1), some (zi x2), some (zi x3), some (zi x4), some (zi x5), some (zi x6), some (zi x7), some (zi x8)] (zva v [zi x1, zr 67]) h1)))))))) :
    zRn (zcl d) 179 B Q 57 [some (zr 67), some (zi x1), some (zi x2), some (zi x3), some (zi x4), some (zi x5), some (zi x6), some (zi x7), some (zi x8)] [] (c, I, zRg g) :=
  zgo [5, 57, 91, 116] 18 (And.intro rfl (And.intro (fun u578 => (t.1 u578)) (fun u578 => And.intro (fun u579 => ((t.2 u578).1 u579)) (fun u579 => And.intro (fun u580 => (((t.2 u578).2 u579).1 u580)) (fun u580 => Exists.intro 165 (And.intro rfl (Exists.intro 0 (Exists.intro 0 (And.intro (Or.inl rfl) (And.intro (Or.inl rfl) (((t.2 u578).2 u579).2 u580)))))))))))
theorem g_x12_rowsFrom_91 {d : Nat} {B : Nat × Nat} {Q : zQ} {c : Nat × Nat × Nat} {I : Nat → Nat → Int} {g : Nat} {x1 x2 x3 x4 x5 x6 x7 x8 s0 s1 : Int}
    (t : zcl d 179 0 0 [zr 67, zi s1, zi s0, zi (zwr (x3 + 1)), zi x4, zi (zor x5 (zshl 1 x8)), zi (zwr ((zwr ((zwr (10 * x6)) + x8)) + 1))] (c, I, zRg g) (fun v h1 => zRn (zcl d) 179 B Q 116 [some (zr 67), some (zi x1), some (zi x2), some (zi x3), some (zi x4), some (zi x5), some (zi x6), some (zi x7), some (zi x8)] (zva v []) h1)) :
    zRn (zcl d) 179 B Q 91 [some (zr 67), some (zi x1), some (zi x2), some (zi x3), some (zi x4), some (zi x5), some (zi x6), some (zi x7), some (zi x8)] [zi s0, zi s1, zr 67] (c, I, zRg g) :=
  zgo [5, 57, 91, 116] 16 (Exists.intro 179 (And.intro rfl (Exists.intro 0 (Exists.intro 0 (And.intro (Or.inl rfl) (And.intro (Or.inl rfl) t))))))
theorem g_x12_rowsFrom_116 {d : Nat} {B : Nat × Nat} {Q : zQ} {c : Nat × Nat × Nat} {I : Nat → Nat → Int} {g : Nat} {x1 x2 x3 x4 x5 x6 x7 x8 : Int}
    (t : zRn (zcl d) 179 B Q 57 [some (zr 67), some (zi x1), some (zi x2), some (zi x3), some (zi x4), some (zi x5), some (zi x6), some (zi x7), some (zi (zwr (x8 + 1)))] [] (c, I, zRg g)) :
    zRn (zcl d) 179 B Q 116 [some (zr 67), some (zi x1), some (zi x2), some (zi x3), some (zi x4), some (zi x5), some (zi x6), some (zi x7), some (zi x8)] [] (c, I, zRg g) :=
  zgo [5, 57, 91, 116] 2 (t)
theorem g_x12_row_0 {d : Nat} {B : Nat × Nat} {Q : zQ} {c : Nat × Nat × Nat} {I : Nat → Nat → Int} {g : Nat} {x1 x2 x3 : Int}
    (t : zcl d 130 0 0 [zl x1, zl 0, zl 1023] (c, I, zRg g) (fun v h1 => zRn (zcl d) 180 B Q 9 [some (zr 67), some (zi x1), some (zi x2), some (zi x3)] (zva v []) h1)) :
    zRn (zcl d) 180 B Q 0 [some (zr 67), some (zi x1), some (zi x2), some (zi x3)] [] (c, I, zRg g) :=
  zgo [9, 21, 31, 62] 4 (Exists.intro 0 (Exists.intro 0 (And.intro (Or.inl rfl) (And.intro (Or.inl rfl) t))))
theorem g_x12_row_9 {d : Nat} {B : Nat × Nat} {Q : zQ} {c : Nat × Nat × Nat} {I : Nat → Nat → Int} {g : Nat} {x1 x2 x3 s0 : Int}
    (t : (s0 = 0 → (Q (some (zi (-2))) (c, I, zRg g))) ∧ (¬ (s0 = 0) → (zcl d 130 0 0 [zl x2, zl 1, zl 3] (c, I, zRg g) (fun v h1 => zRn (zcl d) 180 B Q 21 [some (zr 67), some (zi x1), some (zi x2), some (zi x3)] (zva v []) h1)))) :
    zRn (zcl d) 180 B Q 9 [some (zr 67), some (zi x1), some (zi x2), some (zi x3)] [zi s0] (c, I, zRg g) :=
  zgo [9, 21, 31, 62] 5 (And.intro (fun u581 => (t.1 u581)) (fun u581 => Exists.intro 0 (Exists.intro 0 (And.intro (Or.inl rfl) (And.intro (Or.inl rfl) (t.2 u581))))))
theorem g_x12_row_21 {d : Nat} {B : Nat × Nat} {Q : zQ} {c : Nat × Nat × Nat} {I : Nat → Nat → Int} {g : Nat} {x1 x2 x3 s0 : Int}
    (t : (s0 = 0 → (Q (some (zi (-2))) (c, I, zRg g))) ∧ (¬ (s0 = 0) → (zcl d 130 0 0 [zl x3, zl 0, zl 1] (c, I, zRg g) (fun v h1 => zRn (zcl d) 180 B Q 31 [some (zr 67), some (zi x1), some (zi x2), some (zi x3)] (zva v []) h1)))) :
    zRn (zcl d) 180 B Q 21 [some (zr 67), some (zi x1), some (zi x2), some (zi x3)] [zi s0] (c, I, zRg g) :=
  zgo [9, 21, 31, 62] 5 (And.intro (fun u582 => (t.1 u582)) (fun u582 => Exists.intro 0 (Exists.intro 0 (And.intro (Or.inl rfl) (And.intro (Or.inl rfl) (t.2 u582))))))
theorem g_x12_row_31 {d : Nat} {B : Nat × Nat} {Q : zQ} {c : Nat × Nat × Nat} {I : Nat → Nat → Int} {g : Nat} {x1 x2 x3 s0 : Int}
    (t : (s0 ≠ 0 → ((I 67 9 ≠ 0 → (zcl d 179 0 0 [zr 67, zi x1, zi x1, zi 0, zi x2, zi 0, zi 0] (c, (z2 I 67 32 100), zRg g) (fun v h1 => zRn (zcl d) 180 B Q 62 [some (zr 67), some (zi x1), some (zi x2), some (zi x3)] (zva v []) h1))) ∧ (¬ (I 67 9 ≠ 0) → (Q (some (zi (-1))) (c, I, zRg g))))) ∧ (¬ (s0 ≠ 0) → (Q (some (zi (-2))) (c, I, zRg g)))) :
    zRn (zcl d) 180 B Q 31 [some (zr 67), some (zi x1), some (zi x2), some (zi x3)] [zi s0] (c, I, zRg g) :=
  zgo [9, 21, 31, 62] 14 (And.intro (fun u583 => And.intro rfl (And.intro (fun u584 => And.intro rfl (Exists.intro 179 (And.intro rfl (Exists.intro 0 (Exists.intro 0 (And.intro (Or.inl rfl) (And.intro (Or.inl rfl) ((t.1 u583).1 u584)))))))) (fun u584 => ((t.1 u583).2 u584)))) (fun u583 => (t.2 u583)))
theorem g_x12_row_62 {d : Nat} {B : Nat × Nat} {Q : zQ} {c : Nat × Nat × Nat} {I : Nat → Nat → Int} {g : Nat} {x1 x2 x3 : Int}
    (t : (x3 ≠ 0 → (Q (some (zi (I 67 32))) (c, I, zRg g))) ∧ (¬ (x3 ≠ 0) → (Q (some (zi (I 67 31))) (c, I, zRg g)))) :
    zRn (zcl d) 180 B Q 62 [some (zr 67), some (zi x1), some (zi x2), some (zi x3)] [] (c, I, zRg g) :=
  zgo [9, 21, 31, 62] 5 (And.intro (fun u585 => And.intro rfl (t.1 u585)) (fun u585 => And.intro rfl (t.2 u585)))
theorem g_x12_learn_0 {d : Nat} {B : Nat × Nat} {Q : zQ} {c : Nat × Nat × Nat} {I : Nat → Nat → Int} {g : Nat} {x1 x2 : Int}
    (t : zcl d 130 0 0 [zl x1, zl 0, zl 1023] (c, I, zRg g) (fun v h1 => zRn (zcl d) 181 B Q 9 [some (zr 67), some (zi x1), some (zi x2), none, none] (zva v []) h1)) :
    zRn (zcl d) 181 B Q 0 [some (zr 67), some (zi x1), some (zi x2), none, none] [] (c, I, zRg g) :=
  zgo [9, 19, 30, 48, 52, 66, 105] 4 (Exists.intro 0 (Exists.intro 0 (And.intro (Or.inl rfl) (And.intro (Or.inl rfl) t))))
theorem g_x12_learn_9 {d : Nat} {B : Nat × Nat} {Q : zQ} {c : Nat × Nat × Nat} {I : Nat → Nat → Int} {g : Nat} {x1 x2 s0 : Int}
    (t : (s0 = 0 → (Q (some (zi (-2))) (c, I, zRg g))) ∧ (¬ (s0 = 0) → (zcl d 130 0 0 [zl x2, zl 0, zl 1] (c, I, zRg g) (fun v h1 => zRn (zcl d) 181 B Q 19 [some (zr 67), some (zi x1), some (zi x2), none, none] (zva v []) h1)))) :
    zRn (zcl d) 181 B Q 9 [some (zr 67), some (zi x1), some (zi x2), none, none] [zi s0] (c, I, zRg g) :=
  zgo [9, 19, 30, 48, 52, 66, 105] 5 (And.intro (fun u586 => (t.1 u586)) (fun u586 => Exists.intro 0 (Exists.intro 0 (And.intro (Or.inl rfl) (And.intro (Or.inl rfl) (t.2 u586))))))
theorem g_x12_learn_19 {d : Nat} {B : Nat × Nat} {Q : zQ} {c : Nat × Nat × Nat} {I : Nat → Nat → Int} {g : Nat} {x1 x2 s0 : Int}
    (t : (s0 ≠ 0 → (zRn (zcl d) 181 B Q 30 [some (zr 67), some (zi x1), some (zi x2), some (zi (-1)), some (zi 0)] [] (c, I, zRg g))) ∧ (¬ (s0 ≠ 0) → (Q (some (zi (-2))) (c, I, zRg g)))) :
    zRn (zcl d) 181 B Q 19 [some (zr 67), some (zi x1), some (zi x2), none, none] [zi s0] (c, I, zRg g) :=
  zgo [9, 19, 30, 48, 52, 66, 105] 5 (And.intro (fun u587 => (t.1 u587)) (fun u587 => (t.2 u587)))
theorem g_x12_learn_30 {d : Nat} {B : Nat × Nat} {Q : zQ} {c : Nat × Nat × Nat} {I : Nat → Nat → Int} {g : Nat} {x1 x2 x3 x4 : Int}
    (t : (1023 < x4 → ((x2 = 0 → (zRn (zcl d) 181 B Q 105 [some (zr 67), some (zi x1), some (zi x2), some (zi x3), some (zi x4)] [zi x3] (c, (z2 I 67 13 0), zRg g))) ∧ (¬ (x2 = 0) → ((x3 ≠ (-1) → (zcl d 161 0 0 [zi x3] (c, (z2 I 67 13 0), zRg g) (fun v h1 => zRn (zcl d) 181 B Q 105 [some (zr 67), some (zi x1), some (zi x2), some (zi x3), some (zi x4)] (zva v []) h1))) ∧ (¬ (x3 ≠ (-1)) → (zRn (zcl d) 181 B Q 105 [some (zr 67), some (zi x1), some (zi x2), some (zi x3), some (zi x4)] [zi x3] (c, (z2 I 67 13 0), zRg g))))))) ∧ (¬ (1023 < x4) → ((x3 = (-1) → (zcl d 169 0 0 [zr 67, zi x1] (c, (z2 I 67 13 x4), zRg g) (fun v h1 => zRn (zcl d) 181 B Q 66 [some (zr 67), some (zi x1), some (zi x2), some (zi x3), some (zi x4)] (zva v []) h1))) ∧ (¬ (x3 = (-1)) → (zcl d 161 0 0 [zi x4] (c, I, zRg g) (fun v h1 => zRn (zcl d) 181 B Q 48 [some (zr 67), some (zi x1), some (zi x2), some (zi x3), some (zi x4)] (zva v []) h1)))))) :
    zRn (zcl d) 181 B Q 30 [some (zr 67), some (zi x1), some (zi x2), some (zi x3), some (zi x4)] [] (c, I, zRg g) :=
  zgo [9, 19, 30, 48, 52, 66, 105] 13 (And.intro (fun u588 => And.intro rfl (And.intro (fun u589 => ((t.1 u588).1 u589)) (fun u589 => And.intro (fun u590 => Exists.intro 0 (Exists.intro 0 (And.intro (Or.inl rfl) (And.intro (Or.inl rfl) (((t.1 u588).2 u589).1 u590))))) (fun u590 => (((t.1 u588).2 u589).2 u590))))) (fun u588 => And.intro (fun u591 => And.intro rfl (Exists.intro 169 (And.intro rfl (Exists.intro 0 (Exists.intro 0 (And.intro (Or.inl rfl) (And.intro (Or.inl rfl) ((t.2 u588).1 u591)))))))) (fun u591 => Exists.intro 0 (Exists.intro 0 (And.intro (Or.inl rfl) (And.intro (Or.inl rfl) ((t.2 u588).2 u591)))))))
theorem g_x12_learn_48 {d : Nat} {B : Nat × Nat} {Q : zQ} {c : Nat × Nat × Nat} {I : Nat → Nat → Int} {g : Nat} {x1 x2 x3 x4 s0 : Int}
    (t : zcl d 161 0 0 [zi x3] (c, I, zRg g) (fun v h1 => zRn (zcl d) 181 B Q 52 [some (zr 67), some (zi x1), some (zi x2), some (zi x3), some (zi x4)] (zva v [zi s0]) h1)) :
    zRn (zcl d) 181 B Q 48 [some (zr 67), some (zi x1), some (zi x2), some (zi x3), some (zi x4)] [zi s0] (c, I, zRg g) :=
  zgo [9, 19, 30, 48, 52, 66, 105] 1 (Exists.intro 0 (Exists.intro 0 (And.intro (Or.inl rfl) (And.intro (Or.inl rfl) t))))
theorem g_x12_learn_52 {d : Nat} {B : Nat × Nat} {Q : zQ} {c : Nat × Nat × Nat} {I : Nat → Nat → Int} {g : Nat} {x1 x2 x3 x4 s0 s1 : Int}
    (t : (s0 ≤ s1 → (zRn (zcl d) 181 B Q 30 [some (zr 67), some (zi x1), some (zi x2), some (zi x3), some (zi (zwr (x4 + 1)))] [] (c, I, zRg g))) ∧ (¬ (s0 ≤ s1) → (zcl d 169 0 0 [zr 67, zi x1] (c, (z2 I 67 13 x4), zRg g) (fun v h1 => zRn (zcl d) 181 B Q 66 [some (zr 67), some (zi x1), some (zi x2), some (zi x3), some (zi x4)] (zva v []) h1)))) :
    zRn (zcl d) 181 B Q 52 [some (zr 67), some (zi x1), some (zi x2), some (zi x3), some (zi x4)] [zi s0, zi s1] (c, I, zRg g) :=
  zgo [9, 19, 30, 48, 52, 66, 105] 6 (And.intro (fun u593 => (t.1 u593)) (fun u593 => And.intro rfl (Exists.intro 169 (And.intro rfl (Exists.intro 0 (Exists.intro 0 (And.intro (Or.inl rfl) (And.intro (Or.inl rfl) (t.2 u593)))))))))
theorem g_x12_learn_66 {d : Nat} {B : Nat × Nat} {Q : zQ} {c : Nat × Nat × Nat} {I : Nat → Nat → Int} {g : Nat} {x1 x2 x3 x4 s0 : Int}
    (t : (s0 ≠ x1 → (zRn (zcl d) 181 B Q 30 [some (zr 67), some (zi x1), some (zi x2), some (zi x3), some (zi (zwr (x4 + 1)))] [] (c, I, zRg g))) ∧ (¬ (s0 ≠ x1) → (zRn (zcl d) 181 B Q 30 [some (zr 67), some (zi x1), some (zi x2), some (zi x4), some (zi (zwr (x4 + 1)))] [] (c, I, zRg g)))) :
    zRn (zcl d) 181 B Q 66 [some (zr 67), some (zi x1), some (zi x2), some (zi x3), some (zi x4)] [zi s0] (c, I, zRg g) :=
  zgo [9, 19, 30, 48, 52, 66, 105] 7 (And.intro (fun u592 => (t.1 u592)) (fun u592 => (t.2 u592)))
theorem g_x12_learn_105 {d : Nat} {B : Nat × Nat} {Q : zQ} {c : Nat × Nat × Nat} {I : Nat → Nat → Int} {g : Nat} {x1 x2 x3 x4 s0 : Int}
    (t : Q (some (zi s0)) (c, I, zRg g)) :
    zRn (zcl d) 181 B Q 105 [some (zr 67), some (zi x1), some (zi x2), some (zi x3), some (zi x4)] [zi s0] (c, I, zRg g) :=
  zgo [9, 19, 30, 48, 52, 66, 105] 0 (t)
theorem g_x12_from_0 {d : Nat} {B : Nat × Nat} {Q : zQ} {c : Nat × Nat × Nat} {I : Nat → Nat → Int} {g : Nat} {x1 x2 : Int}
    (t : zcl d 130 0 0 [zl x1, zl 0, zl 1023] (c, I, zRg g) (fun v h1 => zRn (zcl d) 182 B Q 9 [some (zr 67), some (zi x1), some (zi x2), none, none, none] (zva v []) h1)) :
    zRn (zcl d) 182 B Q 0 [some (zr 67), some (zi x1), some (zi x2), none, none, none] [] (c, I, zRg g) :=
  zgo [9, 19, 35, 46] 4 (Exists.intro 0 (Exists.intro 0 (And.intro (Or.inl rfl) (And.intro (Or.inl rfl) t))))
theorem g_x12_from_9 {d : Nat} {B : Nat × Nat} {Q : zQ} {c : Nat × Nat × Nat} {I : Nat → Nat → Int} {g : Nat} {x1 x2 s0 : Int}
    (t : (s0 = 0 → (Q (some (zi (-2))) (c, I, zRg g))) ∧ (¬ (s0 = 0) → (zcl d 130 0 0 [zl x2, zl 0, zl 1] (c, I, zRg g) (fun v h1 => zRn (zcl d) 182 B Q 19 [some (zr 67), some (zi x1), some (zi x2), none, none, none] (zva v []) h1)))) :
    zRn (zcl d) 182 B Q 9 [some (zr 67), some (zi x1), some (zi x2), none, none, none] [zi s0] (c, I, zRg g) :=
  zgo [9, 19, 35, 46] 5 (And.intro (fun u594 => (t.1 u594)) (fun u594 => Exists.intro 0 (Exists.intro 0 (And.intro (Or.inl rfl) (And.intro (Or.inl rfl) (t.2 u594))))))
theorem g_x12_from_19 {d : Nat} {B : Nat × Nat} {Q : zQ} {c : Nat × Nat × Nat} {I : Nat → Nat → Int} {g : Nat} {x1 x2 s0 : Int}
    (t : (s0 ≠ 0 → (zRn (zcl d) 182 B Q 35 [some (zr 67), some (zi x1), some (zi x2), some (zi 0), some (zi (-1)), some (zi 1023)] [] (c, I, zRg g))) ∧ (¬ (s0 ≠ 0) → (Q (some (zi (-2))) (c, I, zRg g)))) :
    zRn (zcl d) 182 B Q 19 [some (zr 67), some (zi x1), some (zi x2), none, none, none] [zi s0] (c, I, zRg g) :=
  zgo [9, 19, 35, 46] 7 (And.intro (fun u595 => (t.1 u595)) (fun u595 => (t.2 u595)))
theorem g_x12_from_35 {d : Nat} {B : Nat × Nat} {Q : zQ} {c : Nat × Nat × Nat} {I : Nat → Nat → Int} {g : Nat} {x1 x2 x3 x4 x5 : Int}
    (t : (x5 < 0 → ((x2 ≠ 0 → (Q (some (zi x4)) (c, I, zRg g))) ∧ (¬ (x2 ≠ 0) → (Q (some (zi x3)) (c, I, zRg g))))) ∧ (¬ (x5 < 0) → (zcl d 169 0 0 [zr 67, zi x5] (c, I, zRg g) (fun v h1 => zRn (zcl d) 182 B Q 46 [some (zr 67), some (zi x1), some (zi x2), some (zi x3), some (zi x4), some (zi x5)] (zva v []) h1)))) :
    zRn (zcl d) 182 B Q 35 [some (zr 67), some (zi x1), some (zi x2), some (zi x3), some (zi x4), some (zi x5)] [] (c, I, zRg g) :=
  zgo [9, 19, 35, 46] 6 (And.intro (fun u596 => And.intro (fun u597 => ((t.1 u596).1 u597)) (fun u597 => ((t.1 u596).2 u597))) (fun u596 => Exists.intro 169 (And.intro rfl (Exists.intro 0 (Exists.intro 0 (And.intro (Or.inl rfl) (And.intro (Or.inl rfl) (t.2 u596))))))))
theorem g_x12_from_46 {d : Nat} {B : Nat × Nat} {Q : zQ} {c : Nat × Nat × Nat} {I : Nat → Nat → Int} {g : Nat} {x1 x2 x3 x4 x5 s0 : Int}
    (t : (s0 ≠ x1 → (zRn (zcl d) 182 B Q 35 [some (zr 67), some (zi x1), some (zi x2), some (zi x3), some (zi x4), some (zi (zwr (x5 + (-1))))] [] (c, I, zRg g))) ∧ (¬ (s0 ≠ x1) → (zRn (zcl d) 182 B Q 35 [some (zr 67), some (zi x1), some (zi x2), some (zi (zwr (x3 + 1))), some (zi x5), some (zi (zwr (x5 + (-1))))] [] (c, I, zRg g)))) :
    zRn (zcl d) 182 B Q 46 [some (zr 67), some (zi x1), some (zi x2), some (zi x3), some (zi x4), some (zi x5)] [zi s0] (c, I, zRg g) :=
  zgo [9, 19, 35, 46] 7 (And.intro (fun u598 => (t.1 u598)) (fun u598 => (t.2 u598)))
theorem g_x12_lowest_0 {d : Nat} {B : Nat × Nat} {Q : zQ} {c : Nat × Nat × Nat} {I : Nat → Nat → Int} {g : Nat} {x0 x2 x4 : Int}
    (t : zRn (zcl d) 183 B Q 6 [some (zl x0), none, some (zl x2), none, some (zi x4), some (zl x0), none, some (zl x2), none, none, none] [] (c, I, zRg g)) :
    zRn (zcl d) 183 B Q 0 [some (zl x0), none, some (zl x2), none, some (zi x4), none, none, none, none, none, none] [] (c, I, zRg g) :=
  zgo [6] 4 (t)
theorem g_x12_lowest_6 {d : Nat} {B : Nat × Nat} {Q : zQ} {c : Nat × Nat × Nat} {I : Nat → Nat → Int} {g : Nat} {x0 x2 x4 x5 x7 : Int}
    (t : (zcmp x7 0 = 0 → ((x4 ≠ 0 → ((x5 ≠ 0) ∧ (Q (some (zl (zwl (Int.tdiv x2 x5)))) (c, I, zRg g)))) ∧ (¬ (x4 ≠ 0) → ((x5 ≠ 0) ∧ (Q (some (zl (zwl (Int.tdiv x0 x5)))) (c, I, zRg g)))))) ∧ (¬ (zcmp x7 0 = 0) → ((x7 ≠ 0) ∧ (zRn (zcl d) 183 B Q 6 [some (zl x0), none, some (zl x2), none, some (zi x4), some (zl x7), none, some (zl (zwl (Int.tmod x5 x7))), none, some (zl (zwl (Int.tmod x5 x7))), none] [] (c, I, zRg g))))) :
    zRn (zcl d) 183 B Q 6 [some (zl x0), none, some (zl x2), none, some (zi x4), some (zl x5), none, some (zl x7), none, none, none] [] (c, I, zRg g) :=
  zgo [6] 13 (And.intro (fun u599 => And.intro (fun u600 => And.intro ((t.1 u599).1 u600).1 (((t.1 u599).1 u600).2)) (fun u600 => And.intro ((t.1 u599).2 u600).1 (((t.1 u599).2 u600).2))) (fun u599 => And.intro (t.2 u599).1 ((t.2 u599).2)))
theorem g_x12_mean_0 {d : Nat} {B : Nat × Nat} {Q : zQ} {c : Nat × Nat × Nat} {I : Nat → Nat → Int} {g : Nat} {x1 : Int}
    (t : zcl d 130 0 0 [zl x1, zl 0, zl 1] (c, I, zRg g) (fun v h1 => zRn (zcl d) 184 B Q 7 [some (zr 67), some (zi x1), none, none] (zva v []) h1)) :
    zRn (zcl d) 184 B Q 0 [some (zr 67), some (zi x1), none, none] [] (c, I, zRg g) :=
  zgo [7, 25, 47, 66] 4 (Exists.intro 0 (Exists.intro 0 (And.intro (Or.inl rfl) (And.intro (Or.inl rfl) t))))
theorem g_x12_mean_7 {d : Nat} {B : Nat × Nat} {Q : zQ} {c : Nat × Nat × Nat} {I : Nat → Nat → Int} {g : Nat} {x1 s0 : Int}
    (t : (s0 = 0 → (Q (some (zl (-4611686018427387904))) (c, I, zRg g))) ∧ (¬ (s0 = 0) → ((I 67 9 ≠ 0 → (zRn (zcl d) 184 B Q 25 [some (zr 67), some (zi x1), some (zi 0), some (zi 0)] [] (c, I, zRg g))) ∧ (¬ (I 67 9 ≠ 0) → (Q (some (zl (-4611686018427387904))) (c, I, zRg g)))))) :
    zRn (zcl d) 184 B Q 7 [some (zr 67), some (zi x1), none, none] [zi s0] (c, I, zRg g) :=
  zgo [7, 25, 47, 66] 8 (And.intro (fun u601 => (t.1 u601)) (fun u601 => And.intro rfl (And.intro (fun u602 => ((t.2 u601).1 u602)) (fun u602 => ((t.2 u601).2 u602)))))
theorem g_x12_mean_25 {d : Nat} {B : Nat × Nat} {Q : zQ} {c : Nat × Nat × Nat} {I : Nat → Nat → Int} {g : Nat} {x1 x2 x3 : Int}
    (t : (I 67 9 ≤ x3 → (zcl d 183 0 0 [zl x2, zl (I 67 9), zi x1] (c, I, zRg g) (fun v h1 => zRn (zcl d) 184 B Q 66 [some (zr 67), some (zi x1), some (zi x2), some (zi x3)] (zva v []) h1))) ∧ (¬ (I 67 9 ≤ x3) → ((0 ≤ zwr ((zwr (5 * x3)) + 1) ∧ zwr ((zwr (5 * x3)) + 1) < 25) ∧ (zcl d 161 0 0 [zi (I 71 ((zwr ((zwr (5 * x3)) + 1)).toNat))] (c, I, zRg g) (fun v h1 => zRn (zcl d) 184 B Q 47 [some (zr 67), some (zi x1), some (zi x2), some (zi x3)] (zva v [zi x2]) h1))))) :
    zRn (zcl d) 184 B Q 25 [some (zr 67), some (zi x1), some (zi x2), some (zi x3)] [] (c, I, zRg g) :=
  zgo [7, 25, 47, 66] 13 (And.intro rfl (And.intro (fun u603 => And.intro rfl (Exists.intro 0 (Exists.intro 0 (And.intro (Or.inl rfl) (And.intro (Or.inl rfl) (t.1 u603)))))) (fun u603 => And.intro rfl (Exists.intro (some 71) (And.intro rfl (And.intro rfl (And.intro (t.2 u603).1 (Exists.intro 0 (Exists.intro 0 (And.intro (Or.inl rfl) (And.intro (Or.inl rfl) ((t.2 u603).2))))))))))))
theorem g_x12_mean_47 {d : Nat} {B : Nat × Nat} {Q : zQ} {c : Nat × Nat × Nat} {I : Nat → Nat → Int} {g : Nat} {x1 x2 x3 s0 s1 : Int}
    (t : zRn (zcl d) 184 B Q 25 [some (zr 67), some (zi x1), some (zi (zwr (s1 + s0))), some (zi (zwr (x3 + 1)))] [] (c, I, zRg g)) :
    zRn (zcl d) 184 B Q 47 [some (zr 67), some (zi x1), some (zi x2), some (zi x3)] [zi s0, zi s1] (c, I, zRg g) :=
  zgo [7, 25, 47, 66] 4 (t)
theorem g_x12_mean_66 {d : Nat} {B : Nat × Nat} {Q : zQ} {c : Nat × Nat × Nat} {I : Nat → Nat → Int} {g : Nat} {x1 x2 x3 s0 : Int}
    (t : Q (some (zl s0)) (c, I, zRg g)) :
    zRn (zcl d) 184 B Q 66 [some (zr 67), some (zi x1), some (zi x2), some (zi x3)] [zl s0] (c, I, zRg g) :=
  zgo [7, 25, 47, 66] 0 (t)
theorem g_x12_firstOther_0 {d : Nat} {B : Nat × Nat} {Q : zQ} {c : Nat × Nat × Nat} {I : Nat → Nat → Int} {g : Nat} {x1 x2 : Int}
    (t : zRn (zcl d) 185 B Q 2 [some (zr 67), some (zi x1), some (zi x2), some (zi 0)] [] (c, I, zRg g)) :
    zRn (zcl d) 185 B Q 0 [some (zr 67), some (zi x1), some (zi x2), none] [] (c, I, zRg g) :=
  zgo [2, 20] 2 (t)
theorem g_x12_firstOther_2 {d : Nat} {B : Nat × Nat} {Q : zQ} {c : Nat × Nat × Nat} {I : Nat → Nat → Int} {g : Nat} {x1 x2 x3 : Int}
    (t : (0 ≤ x1 ∧ x1 < 4) ∧ ((I 79 x1.toNat ≤ x3 → (Q (some (zi (-1))) (c, I, zRg g))) ∧ (¬ (I 79 x1.toNat ≤ x3) → (zcl d 165 0 0 [zr 67, zi x2, zi (zshl 1 x3)] (c, I, zRg g) (fun v h1 => zRn (zcl d) 185 B Q 20 [some (zr 67), some (zi x1), some (zi x2), some (zi x3)] (zva v []) h1))))) :
    zRn (zcl d) 185 B Q 2 [some (zr 67), some (zi x1), some (zi x2), some (zi x3)] [] (c, I, zRg g) :=
  zgo [2, 20] 11 (And.intro rfl (Exists.intro (some 79) (And.intro rfl (And.intro rfl (And.intro t.1 (And.intro (fun u604 => (t.2.1 u604)) (fun u604 => Exists.intro 165 (And.intro rfl (Exists.intro 0 (Exists.intro 0 (And.intro (Or.inl rfl) (And.intro (Or.inl rfl) (t.2.2 u604)))))))))))))
theorem g_x12_firstOther_20 {d : Nat} {B : Nat × Nat} {Q : zQ} {c : Nat × Nat × Nat} {I : Nat → Nat → Int} {g : Nat} {x1 x2 x3 s0 : Int}
    (t : (0 ≤ zwr ((zwr (40 * x1)) + x3) ∧ zwr ((zwr (40 * x1)) + x3) < 160) ∧ ((s0 = I 80 ((zwr ((zwr (40 * x1)) + x3)).toNat) → (zRn (zcl d) 185 B Q 2 [some (zr 67), some (zi x1), some (zi x2), some (zi (zwr (x3 + 1)))] [] (c, I, zRg g))) ∧ (¬ (s0 = I 80 ((zwr ((zwr (40 * x1)) + x3)).toNat)) → (Q (some (zi x3)) (c, I, zRg g))))) :
    zRn (zcl d) 185 B Q 20 [some (zr 67), some (zi x1), some (zi x2), some (zi x3)] [zi s0] (c, I, zRg g) :=
  zgo [2, 20] 11 (And.intro rfl (Exists.intro (some 80) (And.intro rfl (And.intro rfl (And.intro t.1 (And.intro (fun u605 => (t.2.1 u605)) (fun u605 => (t.2.2 u605))))))))
theorem g_x12_likeSet_0 {d : Nat} {B : Nat × Nat} {Q : zQ} {c : Nat × Nat × Nat} {I : Nat → Nat → Int} {g : Nat} {x1 : Int}
    (t : zRn (zcl d) 186 B Q 4 [some (zr 67), some (zi x1), some (zi 0), some (zi 0)] [] (c, I, zRg g)) :
    zRn (zcl d) 186 B Q 0 [some (zr 67), some (zi x1), none, none] [] (c, I, zRg g) :=
  zgo [4, 19] 4 (t)
theorem g_x12_likeSet_4 {d : Nat} {B : Nat × Nat} {Q : zQ} {c : Nat × Nat × Nat} {I : Nat → Nat → Int} {g : Nat} {x1 x2 x3 : Int}
    (t : (I 67 9 ≤ x3 → (Q (some (zi x2)) (c, I, zRg g))) ∧ (¬ (I 67 9 ≤ x3) → (zcl d 185 0 0 [zr 67, zi x1, zi x3] (c, I, zRg g) (fun v h1 => zRn (zcl d) 186 B Q 19 [some (zr 67), some (zi x1), some (zi x2), some (zi x3)] (zva v [zi x2]) h1)))) :
    zRn (zcl d) 186 B Q 4 [some (zr 67), some (zi x1), some (zi x2), some (zi x3)] [] (c, I, zRg g) :=
  zgo [4, 19] 8 (And.intro rfl (And.intro (fun u606 => (t.1 u606)) (fun u606 => Exists.intro 185 (And.intro rfl (Exists.intro 0 (Exists.intro 0 (And.intro (Or.inl rfl) (And.intro (Or.inl rfl) (t.2 u606)))))))))
theorem g_x12_likeSet_19 {d : Nat} {B : Nat × Nat} {Q : zQ} {c : Nat × Nat × Nat} {I : Nat → Nat → Int} {g : Nat} {x1 x2 x3 s0 s1 : Int}
    (t : (s0 ≠ (-1) → (zRn (zcl d) 186 B Q 4 [some (zr 67), some (zi x1), some (zi (zor s1 (zshl 0 x3))), some (zi (zwr (x3 + 1)))] [] (c, I, zRg g))) ∧ (¬ (s0 ≠ (-1)) → (zRn (zcl d) 186 B Q 4 [some (zr 67), some (zi x1), some (zi (zor s1 (zshl 1 x3))), some (zi (zwr (x3 + 1)))] [] (c, I, zRg g)))) :
    zRn (zcl d) 186 B Q 19 [some (zr 67), some (zi x1), some (zi x2), some (zi x3)] [zi s0, zi s1] (c, I, zRg g) :=
  zgo [4, 19] 10 (And.intro (fun u607 => (t.1 u607)) (fun u607 => (t.2 u607)))
theorem g_x12_tells_0 {d : Nat} {B : Nat × Nat} {Q : zQ} {c : Nat × Nat × Nat} {I : Nat → Nat → Int} {g : Nat} {x1 x2 x3 : Int}
    (t : zcl d 195 0 0 [zi x1] (c, I, zRg g) (fun v h1 => zRn (zcl d) 187 B Q 4 [some (zr 67), some (zi x1), some (zi x2), some (zi x3), none, none, none, none, none, none, none] (zva v []) h1)) :
    zRn (zcl d) 187 B Q 0 [some (zr 67), some (zi x1), some (zi x2), some (zi x3), none, none, none, none, none, none, none] [] (c, I, zRg g) :=
  zgo [4, 12, 24, 76, 84, 147, 215, 229, 235, 281] 1 (Exists.intro 0 (Exists.intro 0 (And.intro (Or.inl rfl) (And.intro (Or.inl rfl) t))))
theorem g_x12_tells_4 {d : Nat} {B : Nat × Nat} {Q : zQ} {c : Nat × Nat × Nat} {I : Nat → Nat → Int} {g : Nat} {x1 x2 x3 s0 : Int}
    (t : (s0 = 0 → (Q (some (zi (-2))) (c, I, zRg g))) ∧ (¬ (s0 = 0) → (zcl d 134 0 0 [zr 67, zi x2] (c, I, zRg g) (fun v h1 => zRn (zcl d) 187 B Q 12 [some (zr 67), some (zi x1), some (zi x2), some (zi x3), none, none, none, none, none, none, none] (zva v []) h1)))) :
    zRn (zcl d) 187 B Q 4 [some (zr 67), some (zi x1), some (zi x2), some (zi x3), none, none, none, none, none, none, none] [zi s0] (c, I, zRg g) :=
  zgo [4, 12, 24, 76, 84, 147, 215, 229, 235, 281] 3 (And.intro (fun u608 => (t.1 u608)) (fun u608 => Exists.intro 134 (And.intro rfl (Exists.intro 0 (Exists.intro 0 (And.intro (Or.inl rfl) (And.intro (Or.inl rfl) (t.2 u608))))))))
theorem g_x12_tells_12 {d : Nat} {B : Nat × Nat} {Q : zQ} {c : Nat × Nat × Nat} {I : Nat → Nat → Int} {g : Nat} {x1 x2 x3 s0 : Int}
    (t : (s0 = 0 → (Q (some (zi (-2))) (c, I, zRg g))) ∧ (¬ (s0 = 0) → (zcl d 130 0 0 [zl x3, zl 0, zl 8] (c, I, zRg g) (fun v h1 => zRn (zcl d) 187 B Q 24 [some (zr 67), some (zi x1), some (zi x2), some (zi x3), none, none, none, none, none, none, none] (zva v []) h1)))) :
    zRn (zcl d) 187 B Q 12 [some (zr 67), some (zi x1), some (zi x2), some (zi x3), none, none, none, none, none, none, none] [zi s0] (c, I, zRg g) :=
  zgo [4, 12, 24, 76, 84, 147, 215, 229, 235, 281] 5 (And.intro (fun u609 => (t.1 u609)) (fun u609 => Exists.intro 0 (Exists.intro 0 (And.intro (Or.inl rfl) (And.intro (Or.inl rfl) (t.2 u609))))))
theorem g_x12_tells_24 {d : Nat} {B : Nat × Nat} {Q : zQ} {c : Nat × Nat × Nat} {I : Nat → Nat → Int} {g : Nat} {x1 x2 x3 s0 : Int}
    (t : (s0 ≠ 0 → ((0 ≤ x1 ∧ x1 < 4) ∧ ((I 77 x1.toNat ≠ 0 → ((0 ≤ x1 ∧ x1 < 4) ∧ ((I 79 x1.toNat ≤ 10 → ((x3 = 0 → ((x3 ≠ 0 → (zcl d 186 0 0 [zr 67, zi x1] (c, I, zRg g) (fun v h1 => zRn (zcl d) 187 B Q 84 [some (zr 67), some (zi x1), some (zi x2), some (zi x3), none, none, none, none, none, none, none] (zva v []) h1))) ∧ (¬ (x3 ≠ 0) → (zcl d 185 0 0 [zr 67, zi x1, zi x2] (c, I, zRg g) (fun v h1 => zRn (zcl d) 187 B Q 76 [some (zr 67), some (zi x1), some (zi x2), some (zi x3), none, none, none, none, none, none, none] (zva v []) h1))))) ∧ (¬ (x3 = 0) → ((x3 ≠ 8 → ((x3 ≠ 1 → ((x3 ≠ 2 → ((5 ≤ x3 → ((7 ≤ x3 → (zRn (zcl d) 187 B Q 147 [some (zr 67), some (zi x1), some (zi x2), some (zi x3), some (zi 6), none, none, none, none, none, none] [zi (I 67 4)] (c, I, zRg g))) ∧ (¬ (7 ≤ x3) → (zcl d 140 0 0 [zr 67, zi x2, zi 2] (c, I, zRg g) (fun v h1 => zRn (zcl d) 187 B Q 147 [some (zr 67), some (zi x1), some (zi x2), some (zi x3), some (zi 2), none, none, none, none, none, none] (zva v []) h1))))) ∧ (¬ (5 ≤ x3) → (zcl d 140 0 0 [zr 67, zi x2, zi 3] (c, I, zRg g) (fun v h1 => zRn (zcl d) 187 B Q 147 [some (zr 67), some (zi x1), some (zi x2), some (zi x3), some (zi 3), none, none, none, none, none, none] (zva v []) h1))))) ∧ (¬ (x3 ≠ 2) → (zcl d 140 0 0 [zr 67, zi x2, zi 1] (c, I, zRg g) (fun v h1 => zRn (zcl d) 187 B Q 147 [some (zr 67), some (zi x1), some (zi x2), some (zi x3), some (zi 1), none, none, none, none, none, none] (zva v []) h1))))) ∧ (¬ (x3 ≠ 1) → (zcl d 140 0 0 [zr 67, zi x2, zi 5] (c, I, zRg g) (fun v h1 => zRn (zcl d) 187 B Q 147 [some (zr 67), some (zi x1), some (zi x2), some (zi x3), some (zi 5), none, none, none, none, none, none] (zva v []) h1))))) ∧ (¬ (x3 ≠ 8) → ((x3 ≠ 0 → (zcl d 186 0 0 [zr 67, zi x1] (c, I, zRg g) (fun v h1 => zRn (zcl d) 187 B Q 84 [some (zr 67), some (zi x1), some (zi x2), some (zi x3), none, none, none, none, none, none, none] (zva v []) h1))) ∧ (¬ (x3 ≠ 0) → (zcl d 185 0 0 [zr 67, zi x1, zi x2] (c, I, zRg g) (fun v h1 => zRn (zcl d) 187 B Q 76 [some (zr 67), some (zi x1), some (zi x2), some (zi x3), none, none, none, none, none, none, none] (zva v []) h1))))))))) ∧ (¬ (I 79 x1.toNat ≤ 10) → (Q (some (zi (-2))) (c, I, zRg g)))))) ∧ (¬ (I 77 x1.toNat ≠ 0) → (Q (some (zi (-11))) (c, I, zRg g)))))) ∧ (¬ (s0 ≠ 0) → (Q (some (zi (-2))) (c, I, zRg g)))) :
    zRn (zcl d) 187 B Q 24 [some (zr 67), some (zi x1), some (zi x2), some (zi x3), none, none, none, none, none, none, none] [zi s0] (c, I, zRg g) :=
  zgo [4, 12, 24, 76, 84, 147, 215, 229, 235, 281] 38 (And.intro (fun u610 => And.intro rfl (Exists.intro (some 77) (And.intro rfl (And.intro rfl (And.intro (t.1 u610).1 (And.intro (fun u611 => And.intro rfl (Exists.intro (some 79) (And.intro rfl (And.intro rfl (And.intro ((t.1 u610).2.1 u611).1 (And.intro (fun u612 => And.intro (fun u613 => And.intro (fun u614 => Exists.intro 186 (And.intro rfl (Exists.intro 0 (Exists.intro 0 (And.intro (Or.inl rfl) (And.intro (Or.inl rfl) (((((t.1 u610).2.1 u611).2.1 u612).1 u613).1 u614))))))) (fun u614 => Exists.intro 185 (And.intro rfl (Exists.intro 0 (Exists.intro 0 (And.intro (Or.inl rfl) (And.intro (Or.inl rfl) (((((t.1 u610).2.1 u611).2.1 u612).1 u613).2 u614)))))))) (fun u613 => And.intro (fun u615 => And.intro (fun u616 => And.intro (fun u617 => And.intro (fun u618 => And.intro (fun u619 => And.intro (fun n => absurd n (by decide)) (fun _ => And.intro rfl (((((((((t.1 u610).2.1 u611).2.1 u612).2 u613).1 u615).1 u616).1 u617).1 u618).1 u619))) (fun u619 => And.intro (fun _ => Exists.intro 140 (And.intro rfl (Exists.intro 0 (Exists.intro 0 (And.intro (Or.inl rfl) (And.intro (Or.inl rfl) (((((((((t.1 u610).2.1 u611).2.1 u612).2 u613).1 u615).1 u616).1 u617).1 u618).2 u619))))))) (fun n => absurd (by decide) n))) (fun u618 => And.intro (fun _ => Exists.intro 140 (And.intro rfl (Exists.intro 0 (Exists.intro 0 (And.intro (Or.inl rfl) (And.intro (Or.inl rfl) ((((((((t.1 u610).2.1 u611).2.1 u612).2 u613).1 u615).1 u616).1 u617).2 u618))))))) (fun n => absurd (by decide) n))) (fun u617 => And.intro (fun _ => Exists.intro 140 (And.intro rfl (Exists.intro 0 (Exists.intro 0 (And.intro (Or.inl rfl) (And.intro (Or.inl rfl) (((((((t.1 u610).2.1 u611).2.1 u612).2 u613).1 u615).1 u616).2 u617))))))) (fun n => absurd (by decide) n))) (fun u616 => And.intro (fun _ => Exists.intro 140 (And.intro rfl (Exists.intro 0 (Exists.intro 0 (And.intro (Or.inl rfl) (And.intro (Or.inl rfl) ((((((t.1 u610).2.1 u611).2.1 u612).2 u613).1 u615).2 u616))))))) (fun n => absurd (by decide) n))) (fun u615 => And.intro (fun u620 => Exists.intro 186 (And.intro rfl (Exists.intro 0 (Exists.intro 0 (And.intro (Or.inl rfl) (And.intro (Or.inl rfl) ((((((t.1 u610).2.1 u611).2.1 u612).2 u613).2 u615).1 u620))))))) (fun u620 => Exists.intro 185 (And.intro rfl (Exists.intro 0 (Exists.intro 0 (And.intro (Or.inl rfl) (And.intro (Or.inl rfl) ((((((t.1 u610).2.1 u611).2.1 u612).2 u613).2 u615).2 u620)))))))))) (fun u612 => (((t.1 u610).2.1 u611).2.2 u612)))))))) (fun u611 => ((t.1 u610).2.2 u611)))))))) (fun u610 => (t.2 u610)))
theorem g_x12_tells_76 {d : Nat} {B : Nat × Nat} {Q : zQ} {c : Nat × Nat × Nat} {I : Nat → Nat → Int} {g : Nat} {x1 x2 x3 s0 : Int}
    (t : zRn (zcl d) 187 B Q 84 [some (zr 67), some (zi x1), some (zi x2), some (zi x3), none, none, none, none, none, none, none] [zi s0] (c, I, zRg g)) :
    zRn (zcl d) 187 B Q 76 [some (zr 67), some (zi x1), some (zi x2), some (zi x3), none, none, none, none, none, none, none] [zi s0] (c, I, zRg g) :=
  zgo [4, 12, 24, 76, 84, 147, 215, 229, 235, 281] 1 (t)
theorem g_x12_tells_84 {d : Nat} {B : Nat × Nat} {Q : zQ} {c : Nat × Nat × Nat} {I : Nat → Nat → Int} {g : Nat} {x1 x2 x3 s0 : Int}
    (t : Q (some (zi s0)) (c, I, zRg g)) :
    zRn (zcl d) 187 B Q 84 [some (zr 67), some (zi x1), some (zi x2), some (zi x3), none, none, none, none, none, none, none] [zi s0] (c, I, zRg g) :=
  zgo [4, 12, 24, 76, 84, 147, 215, 229, 235, 281] 0 (t)
theorem g_x12_tells_147 {d : Nat} {B : Nat × Nat} {Q : zQ} {c : Nat × Nat × Nat} {I : Nat → Nat → Int} {g : Nat} {x1 x2 x3 x4 s0 : Int}
    (t : (x4 ≠ 6 → ((x4 ≠ 5 → ((x4 ≠ 1 → ((x4 ≠ 3 → (zRn (zcl d) 187 B Q 215 [some (zr 67), some (zi x1), some (zi x2), some (zi x3), some (zi x4), some (zi s0), some (zi 1023), some (zi 0), some (zi 0), some (zi (-1)), some (zi 1023)] [] (c, I, zRg g))) ∧ (¬ (x4 ≠ 3) → (zRn (zcl d) 187 B Q 215 [some (zr 67), some (zi x1), some (zi x2), some (zi x3), some (zi x4), some (zi s0), some (zi 99), some (zi 0), some (zi 0), some (zi (-1)), some (zi 99)] [] (c, I, zRg g))))) ∧ (¬ (x4 ≠ 1) → (zRn (zcl d) 187 B Q 215 [some (zr 67), some (zi x1), some (zi x2), some (zi x3), some (zi x4), some (zi s0), some (zi 9), some (zi 0), some (zi 0), some (zi (-1)), some (zi 9)] [] (c, I, zRg g))))) ∧ (¬ (x4 ≠ 5) → (zRn (zcl d) 187 B Q 215 [some (zr 67), some (zi x1), some (zi x2), some (zi x3), some (zi x4), some (zi s0), some (zi 5), some (zi 0), some (zi 0), some (zi (-1)), some (zi 5)] [] (c, I, zRg g))))) ∧ (¬ (x4 ≠ 6) → (zRn (zcl d) 187 B Q 215 [some (zr 67), some (zi x1), some (zi x2), some (zi x3), some (zi x4), some (zi s0), some (zi (zwr ((I 67 3) - 1))), some (zi 0), some (zi 0), some (zi (-1)), some (zi (zwr ((I 67 3) - 1)))] [] (c, I, zRg g)))) :
    zRn (zcl d) 187 B Q 147 [some (zr 67), some (zi x1), some (zi x2), some (zi x3), some (zi x4), none, none, none, none, none, none] [zi s0] (c, I, zRg g) :=
  zgo [4, 12, 24, 76, 84, 147, 215, 229, 235, 281] 24 (And.intro (fun u621 => And.intro (fun u622 => And.intro (fun u623 => And.intro (fun u624 => ((((t.1 u621).1 u622).1 u623).1 u624)) (fun u624 => ((((t.1 u621).1 u622).1 u623).2 u624))) (fun u623 => (((t.1 u621).1 u622).2 u623))) (fun u622 => ((t.1 u621).2 u622))) (fun u621 => And.intro rfl (t.2 u621)))
theorem g_x12_tells_215 {d : Nat} {B : Nat × Nat} {Q : zQ} {c : Nat × Nat × Nat} {I : Nat → Nat → Int} {g : Nat} {x1 x2 x3 x4 x5 x6 x7 x8 x9 x10 : Int}
    (t : (x10 < 0 → (zcl d 138 0 0 [zr 67, zi x4, zi x2, zi x5] (c, I, zRg g) (fun v h1 => zRn (zcl d) 187 B Q 281 [some (zr 67), some (zi x1), some (zi x2), some (zi x3), some (zi x4), some (zi x5), some (zi x6), some (zi x7), some (zi x8), some (zi x9), some (zi x10)] (zva v []) h1))) ∧ (¬ (x10 < 0) → (zcl d 138 0 0 [zr 67, zi x4, zi x2, zi x10] (c, I, zRg g) (fun v h1 => zRn (zcl d) 187 B Q 229 [some (zr 67), some (zi x1), some (zi x2), some (zi x3), some (zi x4), some (zi x5), some (zi x6), some (zi x7), some (zi x8), some (zi x9), some (zi x10)] (zva v []) h1)))) :
    zRn (zcl d) 187 B Q 215 [some (zr 67), some (zi x1), some (zi x2), some (zi x3), some (zi x4), some (zi x5), some (zi x6), some (zi x7), some (zi x8), some (zi x9), some (zi x10)] [] (c, I, zRg g) :=
  zgo [4, 12, 24, 76, 84, 147, 215, 229, 235, 281] 6 (And.intro (fun u625 => Exists.intro 138 (And.intro rfl (Exists.intro 0 (Exists.intro 0 (And.intro (Or.inl rfl) (And.intro (Or.inl rfl) (t.1 u625))))))) (fun u625 => Exists.intro 138 (And.intro rfl (Exists.intro 0 (Exists.intro 0 (And.intro (Or.inl rfl) (And.intro (Or.inl rfl) (t.2 u625))))))))
theorem g_x12_tells_229 {d : Nat} {B : Nat × Nat} {Q : zQ} {c : Nat × Nat × Nat} {I : Nat → Nat → Int} {g : Nat} {x1 x2 x3 x4 x5 x6 x7 x8 x9 x10 : Int}
    (t : zcl d 185 0 0 [zr 67, zi x1, zi x2] (c, I, zRg g) (fun v h1 => zRn (zcl d) 187 B Q 235 [some (zr 67), some (zi x1), some (zi x2), some (zi x3), some (zi x4), some (zi x5), some (zi x6), some (zi x7), some (zi x8), some (zi x9), some (zi x10)] (zva v []) h1)) :
    zRn (zcl d) 187 B Q 229 [some (zr 67), some (zi x1), some (zi x2), some (zi x3), some (zi x4), some (zi x5), some (zi x6), some (zi x7), some (zi x8), some (zi x9), some (zi x10)] [] (c, I, zRg g) :=
  zgo [4, 12, 24, 76, 84, 147, 215, 229, 235, 281] 3 (Exists.intro 185 (And.intro rfl (Exists.intro 0 (Exists.intro 0 (And.intro (Or.inl rfl) (And.intro (Or.inl rfl) t))))))
theorem g_x12_tells_235 {d : Nat} {B : Nat × Nat} {Q : zQ} {c : Nat × Nat × Nat} {I : Nat → Nat → Int} {g : Nat} {x1 x2 x3 x4 x5 x6 x7 x8 x9 x10 s0 : Int}
    (t : (s0 ≠ (-1) → (zRn (zcl d) 187 B Q 215 [some (zr 67), some (zi x1), some (zi x2), some (zi x3), some (zi x4), some (zi x5), some (zi x6), some (zi x7), some (zi x8), some (zi x9), some (zi (zwr (x10 + (-1))))] [] (c, I, zRg g))) ∧ (¬ (s0 ≠ (-1)) → ((10 ≤ x10 → (zRn (zcl d) 187 B Q 215 [some (zr 67), some (zi x1), some (zi x2), some (zi x3), some (zi x4), some (zi x5), some (zi x6), some (zi (zor x7 0)), some (zi (zwr (x8 + 1))), some (zi x10), some (zi (zwr (x10 + (-1))))] [] (c, I, zRg g))) ∧ (¬ (10 ≤ x10) → (zRn (zcl d) 187 B Q 215 [some (zr 67), some (zi x1), some (zi x2), some (zi x3), some (zi x4), some (zi x5), some (zi x6), some (zi (zor x7 (zshl 1 x10))), some (zi (zwr (x8 + 1))), some (zi x10), some (zi (zwr (x10 + (-1))))] [] (c, I, zRg g)))))) :
    zRn (zcl d) 187 B Q 235 [some (zr 67), some (zi x1), some (zi x2), some (zi x3), some (zi x4), some (zi x5), some (zi x6), some (zi x7), some (zi x8), some (zi x9), some (zi x10)] [zi s0] (c, I, zRg g) :=
  zgo [4, 12, 24, 76, 84, 147, 215, 229, 235, 281] 17 (And.intro (fun u630 => (t.1 u630)) (fun u630 => And.intro (fun u631 => ((t.2 u630).1 u631)) (fun u631 => ((t.2 u630).2 u631))))
theorem g_x12_tells_281 {d : Nat} {B : Nat × Nat} {Q : zQ} {c : Nat × Nat × Nat} {I : Nat → Nat → Int} {g : Nat} {x1 x2 x3 x4 x5 x6 x7 x8 x9 x10 : Int}
    (t : (x3 = 3 → (Q (some (zi x8)) (c, I, zRg g))) ∧ (¬ (x3 = 3) → ((x3 ≠ 5 → ((x3 = 4 → (Q (some (zi x9)) (c, I, zRg g))) ∧ (¬ (x3 = 4) → ((x3 ≠ 6 → (Q (some (zi x7)) (c, I, zRg g))) ∧ (¬ (x3 ≠ 6) → (Q (some (zi x9)) (c, I, zRg g))))))) ∧ (¬ (x3 ≠ 5) → (Q (some (zi x8)) (c, I, zRg g)))))) :
    zRn (zcl d) 187 B Q 281 [some (zr 67), some (zi x1), some (zi x2), some (zi x3), some (zi x4), some (zi x5), some (zi x6), some (zi x7), some (zi x8), some (zi x9), some (zi x10)] [] (c, I, zRg g) :=
  zgo [4, 12, 24, 76, 84, 147, 215, 229, 235, 281] 14 (And.intro (fun u626 => (t.1 u626)) (fun u626 => And.intro (fun u627 => And.intro (fun u628 => (((t.2 u626).1 u627).1 u628)) (fun u628 => And.intro (fun u629 => ((((t.2 u626).1 u627).2 u628).1 u629)) (fun u629 => ((((t.2 u626).1 u627).2 u628).2 u629)))) (fun u627 => ((t.2 u626).2 u627))))
theorem g_x12_film_0 {d : Nat} {B : Nat × Nat} {Q : zQ} {c : Nat × Nat × Nat} {I : Nat → Nat → Int} {g : Nat} {x1 x2 : Int}
    (t : zcl d 195 0 0 [zi x1] (c, I, zRg g) (fun v h1 => zRn (zcl d) 188 B Q 4 [some (zr 67), some (zi x1), some (zi x2), none, none, none] (zva v []) h1)) :
    zRn (zcl d) 188 B Q 0 [some (zr 67), some (zi x1), some (zi x2), none, none, none] [] (c, I, zRg g) :=
  zgo [4, 12, 26, 32, 48] 1 (Exists.intro 0 (Exists.intro 0 (And.intro (Or.inl rfl) (And.intro (Or.inl rfl) t))))
theorem g_x12_film_4 {d : Nat} {B : Nat × Nat} {Q : zQ} {c : Nat × Nat × Nat} {I : Nat → Nat → Int} {g : Nat} {x1 x2 s0 : Int}
    (t : (s0 = 0 → (Q (some (zi (-2))) (c, I, zRg g))) ∧ (¬ (s0 = 0) → (zcl d 134 0 0 [zr 67, zi x2] (c, I, zRg g) (fun v h1 => zRn (zcl d) 188 B Q 12 [some (zr 67), some (zi x1), some (zi x2), none, none, none] (zva v []) h1)))) :
    zRn (zcl d) 188 B Q 4 [some (zr 67), some (zi x1), some (zi x2), none, none, none] [zi s0] (c, I, zRg g) :=
  zgo [4, 12, 26, 32, 48] 3 (And.intro (fun u632 => (t.1 u632)) (fun u632 => Exists.intro 134 (And.intro rfl (Exists.intro 0 (Exists.intro 0 (And.intro (Or.inl rfl) (And.intro (Or.inl rfl) (t.2 u632))))))))
theorem g_x12_film_12 {d : Nat} {B : Nat × Nat} {Q : zQ} {c : Nat × Nat × Nat} {I : Nat → Nat → Int} {g : Nat} {x1 x2 s0 : Int}
    (t : (s0 ≠ 0 → (zcl d 196 0 0 [zr 67, zi x1, zi 1, zi 10] (c, I, zRg g) (fun v h1 => zRn (zcl d) 188 B Q 26 [some (zr 67), some (zi x1), some (zi x2), none, none, none] (zva v []) h1))) ∧ (¬ (s0 ≠ 0) → (Q (some (zi (-2))) (c, I, zRg g)))) :
    zRn (zcl d) 188 B Q 12 [some (zr 67), some (zi x1), some (zi x2), none, none, none] [zi s0] (c, I, zRg g) :=
  zgo [4, 12, 26, 32, 48] 5 (And.intro (fun u633 => Exists.intro 196 (And.intro rfl (Exists.intro 0 (Exists.intro 0 (And.intro (Or.inl rfl) (And.intro (Or.inl rfl) (t.1 u633))))))) (fun u633 => (t.2 u633)))
theorem g_x12_film_26 {d : Nat} {B : Nat × Nat} {Q : zQ} {c : Nat × Nat × Nat} {I : Nat → Nat → Int} {g : Nat} {x1 x2 s0 : Int}
    (t : zRn (zcl d) 188 B Q 32 [some (zr 67), some (zi x1), some (zi x2), some (zi 0), some (zi 0), none] [] (c, I, zRg g)) :
    zRn (zcl d) 188 B Q 26 [some (zr 67), some (zi x1), some (zi x2), none, none, none] [zi s0] (c, I, zRg g) :=
  zgo [4, 12, 26, 32, 48] 5 (t)
theorem g_x12_film_32 {d : Nat} {B : Nat × Nat} {Q : zQ} {c : Nat × Nat × Nat} {I : Nat → Nat → Int} {g : Nat} {x1 x2 x3 x4 : Int}
    (t : (10 ≤ x4 → (Q (some (zi x3)) (c, I, zRg g))) ∧ (¬ (10 ≤ x4) → (zcl d 165 0 0 [zr 67, zi x2, zi (zshl 1 x4)] (c, I, zRg g) (fun v h1 => zRn (zcl d) 188 B Q 48 [some (zr 67), some (zi x1), some (zi x2), some (zi x3), some (zi x4), none] (zva v []) h1)))) :
    zRn (zcl d) 188 B Q 32 [some (zr 67), some (zi x1), some (zi x2), some (zi x3), some (zi x4), none] [] (c, I, zRg g) :=
  zgo [4, 12, 26, 32, 48] 8 (And.intro (fun u634 => (t.1 u634)) (fun u634 => Exists.intro 165 (And.intro rfl (Exists.intro 0 (Exists.intro 0 (And.intro (Or.inl rfl) (And.intro (Or.inl rfl) (t.2 u634))))))))
theorem g_x12_film_48 {d : Nat} {B : Nat × Nat} {Q : zQ} {c : Nat × Nat × Nat} {I : Nat → Nat → Int} {g : Nat} {x1 x2 x3 x4 s0 : Int}
    (t : (0 ≤ zwr ((zwr (40 * x1)) + x4) ∧ zwr ((zwr (40 * x1)) + x4) < 160) ∧ ((s0 ≠ zshl 1 x4 → (zRn (zcl d) 188 B Q 32 [some (zr 67), some (zi x1), some (zi x2), some (zi (zwr (x3 + 0))), some (zi (zwr (x4 + 1))), some (zi s0)] [] (c, (z2 I 80 (zwr ((zwr (40 * x1)) + x4)).toNat s0), zRg g))) ∧ (¬ (s0 ≠ zshl 1 x4) → (zRn (zcl d) 188 B Q 32 [some (zr 67), some (zi x1), some (zi x2), some (zi (zwr (x3 + 1))), some (zi (zwr (x4 + 1))), some (zi s0)] [] (c, (z2 I 80 (zwr ((zwr (40 * x1)) + x4)).toNat s0), zRg g))))) :
    zRn (zcl d) 188 B Q 48 [some (zr 67), some (zi x1), some (zi x2), some (zi x3), some (zi x4), none] [zi s0] (c, I, zRg g) :=
  zgo [4, 12, 26, 32, 48] 22 (And.intro rfl (Exists.intro (some 80) (And.intro rfl (And.intro rfl (And.intro t.1 (And.intro (fun u635 => (t.2.1 u635)) (fun u635 => (t.2.2 u635))))))))
theorem g_x12_offDrawn_0 {d : Nat} {B : Nat × Nat} {Q : zQ} {c : Nat × Nat × Nat} {I : Nat → Nat → Int} {g : Nat} {x1 x2 : Int}
    (t : zRn (zcl d) 189 B Q 8 [some (zr 67), some (zi x1), some (zi x2), some (zi x1), some (zi 0), some (zi 0), none] [] (c, I, zRg g)) :
    zRn (zcl d) 189 B Q 0 [some (zr 67), some (zi x1), some (zi x2), none, none, none, none] [] (c, I, zRg g) :=
  zgo [8, 44, 47] 6 (t)
theorem g_x12_offDrawn_8 {d : Nat} {B : Nat × Nat} {Q : zQ} {c : Nat × Nat × Nat} {I : Nat → Nat → Int} {g : Nat} {x1 x2 x3 x4 x5 : Int}
    (t : (x2 ≤ x5 → (Q (some (zi x4)) (c, I, zRg g))) ∧ (¬ (x2 ≤ x5) → (zcl d 169 0 0 [zr 67, zi (zwr (Int.tmod (zushr (zwr ((zwr (x3 * 1103515245)) + 12345)) 9) 1024))] (c, I, zRg g) (fun v h1 => zRn (zcl d) 189 B Q 44 [some (zr 67), some (zi x1), some (zi x2), some (zi (zwr ((zwr (x3 * 1103515245)) + 12345))), some (zi x4), some (zi x5), some (zi (zwr (Int.tmod (zushr (zwr ((zwr (x3 * 1103515245)) + 12345)) 9) 1024)))] (zva v [zi (zwr (Int.tmod (zushr (zwr ((zwr (x3 * 1103515245)) + 12345)) 9) 1024)), zi x4]) h1)))) :
    zRn (zcl d) 189 B Q 8 [some (zr 67), some (zi x1), some (zi x2), some (zi x3), some (zi x4), some (zi x5), none] [] (c, I, zRg g) :=
  zgo [8, 44, 47] 19 (And.intro (fun u636 => (t.1 u636)) (fun u636 => And.intro (by decide) (Exists.intro 169 (And.intro rfl (Exists.intro 0 (Exists.intro 0 (And.intro (Or.inl rfl) (And.intro (Or.inl rfl) (t.2 u636)))))))))
theorem g_x12_offDrawn_44 {d : Nat} {B : Nat × Nat} {Q : zQ} {c : Nat × Nat × Nat} {I : Nat → Nat → Int} {g : Nat} {x1 x2 x3 x4 x5 x6 s0 s1 s2 : Int}
    (t : zcl d 170 0 0 [zi s1, zi s0] (c, I, zRg g) (fun v h1 => zRn (zcl d) 189 B Q 47 [some (zr 67), some (zi x1), some (zi x2), some (zi x3), some (zi x4), some (zi x5), some (zi x6)] (zva v [zi s2]) h1)) :
    zRn (zcl d) 189 B Q 44 [some (zr 67), some (zi x1), some (zi x2), some (zi x3), some (zi x4), some (zi x5), some (zi x6)] [zi s0, zi s1, zi s2] (c, I, zRg g) :=
  zgo [8, 44, 47] 0 (Exists.intro 0 (Exists.intro 0 (And.intro (Or.inl rfl) (And.intro (Or.inl rfl) t))))
theorem g_x12_offDrawn_47 {d : Nat} {B : Nat × Nat} {Q : zQ} {c : Nat × Nat × Nat} {I : Nat → Nat → Int} {g : Nat} {x1 x2 x3 x4 x5 x6 s0 s1 : Int}
    (t : zRn (zcl d) 189 B Q 8 [some (zr 67), some (zi x1), some (zi x2), some (zi x3), some (zi (zwr (s1 + s0))), some (zi (zwr (x5 + 1))), some (zi x6)] [] (c, I, zRg g)) :
    zRn (zcl d) 189 B Q 47 [some (zr 67), some (zi x1), some (zi x2), some (zi x3), some (zi x4), some (zi x5), some (zi x6)] [zi s0, zi s1] (c, I, zRg g) :=
  zgo [8, 44, 47] 4 (t)
theorem g_x12_drawn_0 {d : Nat} {B : Nat × Nat} {Q : zQ} {c : Nat × Nat × Nat} {I : Nat → Nat → Int} {g : Nat} {x1 x2 : Int}
    (t : zcl d 130 0 0 [zl x2, zl 0, zl 40] (c, I, zRg g) (fun v h1 => zRn (zcl d) 190 B Q 9 [some (zr 67), some (zi x1), some (zi x2)] (zva v []) h1)) :
    zRn (zcl d) 190 B Q 0 [some (zr 67), some (zi x1), some (zi x2)] [] (c, I, zRg g) :=
  zgo [9, 18] 4 (Exists.intro 0 (Exists.intro 0 (And.intro (Or.inl rfl) (And.intro (Or.inl rfl) t))))
theorem g_x12_drawn_9 {d : Nat} {B : Nat × Nat} {Q : zQ} {c : Nat × Nat × Nat} {I : Nat → Nat → Int} {g : Nat} {x1 x2 s0 : Int}
    (t : (s0 = 0 → (Q (some (zi (-2))) (c, I, zRg g))) ∧ (¬ (s0 = 0) → (zcl d 189 0 0 [zr 67, zi x1, zi x2] (c, I, zRg g) (fun v h1 => zRn (zcl d) 190 B Q 18 [some (zr 67), some (zi x1), some (zi x2)] (zva v []) h1)))) :
    zRn (zcl d) 190 B Q 9 [some (zr 67), some (zi x1), some (zi x2)] [zi s0] (c, I, zRg g) :=
  zgo [9, 18] 4 (And.intro (fun u637 => (t.1 u637)) (fun u637 => Exists.intro 189 (And.intro rfl (Exists.intro 0 (Exists.intro 0 (And.intro (Or.inl rfl) (And.intro (Or.inl rfl) (t.2 u637))))))))
theorem g_x12_drawn_18 {d : Nat} {B : Nat × Nat} {Q : zQ} {c : Nat × Nat × Nat} {I : Nat → Nat → Int} {g : Nat} {x1 x2 s0 : Int}
    (t : Q (some (zi s0)) (c, I, zRg g)) :
    zRn (zcl d) 190 B Q 18 [some (zr 67), some (zi x1), some (zi x2)] [zi s0] (c, I, zRg g) :=
  zgo [9, 18] 1 (t)
theorem g_x12_chance_0 {d : Nat} {B : Nat × Nat} {Q : zQ} {c : Nat × Nat × Nat} {I : Nat → Nat → Int} {g : Nat} {x1 x2 x3 x4 : Int}
    (t : zcl d 130 0 0 [zl x2, zl 1, zl 40] (c, I, zRg g) (fun v h1 => zRn (zcl d) 191 B Q 9 [some (zr 67), some (zi x1), some (zi x2), some (zi x3), some (zi x4), none, none, none] (zva v []) h1)) :
    zRn (zcl d) 191 B Q 0 [some (zr 67), some (zi x1), some (zi x2), some (zi x3), some (zi x4), none, none, none] [] (c, I, zRg g) :=
  zgo [9, 21, 32, 45, 62, 89] 4 (Exists.intro 0 (Exists.intro 0 (And.intro (Or.inl rfl) (And.intro (Or.inl rfl) t))))
theorem g_x12_chance_9 {d : Nat} {B : Nat × Nat} {Q : zQ} {c : Nat × Nat × Nat} {I : Nat → Nat → Int} {g : Nat} {x1 x2 x3 x4 s0 : Int}
    (t : (s0 = 0 → (Q (some (zl (-4611686018427387904))) (c, I, zRg g))) ∧ (¬ (s0 = 0) → (zcl d 130 0 0 [zl x3, zl 0, zl 10] (c, I, zRg g) (fun v h1 => zRn (zcl d) 191 B Q 21 [some (zr 67), some (zi x1), some (zi x2), some (zi x3), some (zi x4), none, none, none] (zva v []) h1)))) :
    zRn (zcl d) 191 B Q 9 [some (zr 67), some (zi x1), some (zi x2), some (zi x3), some (zi x4), none, none, none] [zi s0] (c, I, zRg g) :=
  zgo [9, 21, 32, 45, 62, 89] 5 (And.intro (fun u638 => (t.1 u638)) (fun u638 => Exists.intro 0 (Exists.intro 0 (And.intro (Or.inl rfl) (And.intro (Or.inl rfl) (t.2 u638))))))
theorem g_x12_chance_21 {d : Nat} {B : Nat × Nat} {Q : zQ} {c : Nat × Nat × Nat} {I : Nat → Nat → Int} {g : Nat} {x1 x2 x3 x4 s0 : Int}
    (t : (s0 = 0 → (Q (some (zl (-4611686018427387904))) (c, I, zRg g))) ∧ (¬ (s0 = 0) → (zcl d 130 0 0 [zl x4, zl 0, zl 1] (c, I, zRg g) (fun v h1 => zRn (zcl d) 191 B Q 32 [some (zr 67), some (zi x1), some (zi x2), some (zi x3), some (zi x4), none, none, none] (zva v []) h1)))) :
    zRn (zcl d) 191 B Q 21 [some (zr 67), some (zi x1), some (zi x2), some (zi x3), some (zi x4), none, none, none] [zi s0] (c, I, zRg g) :=
  zgo [9, 21, 32, 45, 62, 89] 5 (And.intro (fun u639 => (t.1 u639)) (fun u639 => Exists.intro 0 (Exists.intro 0 (And.intro (Or.inl rfl) (And.intro (Or.inl rfl) (t.2 u639))))))
theorem g_x12_chance_32 {d : Nat} {B : Nat × Nat} {Q : zQ} {c : Nat × Nat × Nat} {I : Nat → Nat → Int} {g : Nat} {x1 x2 x3 x4 s0 : Int}
    (t : (s0 ≠ 0 → (zRn (zcl d) 191 B Q 45 [some (zr 67), some (zi x1), some (zi x2), some (zi x3), some (zi x4), some (zl 0), none, some (zi 0)] [] (c, I, zRg g))) ∧ (¬ (s0 ≠ 0) → (Q (some (zl (-4611686018427387904))) (c, I, zRg g)))) :
    zRn (zcl d) 191 B Q 32 [some (zr 67), some (zi x1), some (zi x2), some (zi x3), some (zi x4), none, none, none] [zi s0] (c, I, zRg g) :=
  zgo [9, 21, 32, 45, 62, 89] 5 (And.intro (fun u640 => (t.1 u640)) (fun u640 => (t.2 u640)))
theorem g_x12_chance_45 {d : Nat} {B : Nat × Nat} {Q : zQ} {c : Nat × Nat × Nat} {I : Nat → Nat → Int} {g : Nat} {x1 x2 x3 x4 x5 x7 : Int}
    (t : (x2 ≤ x7 → (zcl d 183 0 0 [zl x5, zl x2, zi x4] (c, I, zRg g) (fun v h1 => zRn (zcl d) 191 B Q 89 [some (zr 67), some (zi x1), some (zi x2), some (zi x3), some (zi x4), some (zl x5), none, some (zi x7)] (zva v []) h1))) ∧ (¬ (x2 ≤ x7) → (zcl d 189 0 0 [zr 67, zi (zwr (x1 + x7)), zi 1] (c, I, zRg g) (fun v h1 => zRn (zcl d) 191 B Q 62 [some (zr 67), some (zi x1), some (zi x2), some (zi x3), some (zi x4), some (zl x5), none, some (zi x7)] (zva v [zl x5]) h1)))) :
    zRn (zcl d) 191 B Q 45 [some (zr 67), some (zi x1), some (zi x2), some (zi x3), some (zi x4), some (zl x5), none, some (zi x7)] [] (c, I, zRg g) :=
  zgo [9, 21, 32, 45, 62, 89] 9 (And.intro (fun u641 => Exists.intro 0 (Exists.intro 0 (And.intro (Or.inl rfl) (And.intro (Or.inl rfl) (t.1 u641))))) (fun u641 => Exists.intro 189 (And.intro rfl (Exists.intro 0 (Exists.intro 0 (And.intro (Or.inl rfl) (And.intro (Or.inl rfl) (t.2 u641))))))))
theorem g_x12_chance_62 {d : Nat} {B : Nat × Nat} {Q : zQ} {c : Nat × Nat × Nat} {I : Nat → Nat → Int} {g : Nat} {x1 x2 x3 x4 x5 x7 s0 s1 : Int}
    (t : (x3 < s0 → (zRn (zcl d) 191 B Q 45 [some (zr 67), some (zi x1), some (zi x2), some (zi x3), some (zi x4), some (zl (zwl (s1 + 0))), none, some (zi (zwr (x7 + 1)))] [] (c, I, zRg g))) ∧ (¬ (x3 < s0) → (zRn (zcl d) 191 B Q 45 [some (zr 67), some (zi x1), some (zi x2), some (zi x3), some (zi x4), some (zl (zwl (s1 + 1))), none, some (zi (zwr (x7 + 1)))] [] (c, I, zRg g)))) :
    zRn (zcl d) 191 B Q 62 [some (zr 67), some (zi x1), some (zi x2), some (zi x3), some (zi x4), some (zl x5), none, some (zi x7)] [zi s0, zl s1] (c, I, zRg g) :=
  zgo [9, 21, 32, 45, 62, 89] 8 (And.intro (fun u642 => (t.1 u642)) (fun u642 => (t.2 u642)))
theorem g_x12_chance_89 {d : Nat} {B : Nat × Nat} {Q : zQ} {c : Nat × Nat × Nat} {I : Nat → Nat → Int} {g : Nat} {x1 x2 x3 x4 x5 x7 s0 : Int}
    (t : Q (some (zl s0)) (c, I, zRg g)) :
    zRn (zcl d) 191 B Q 89 [some (zr 67), some (zi x1), some (zi x2), some (zi x3), some (zi x4), some (zl x5), none, some (zi x7)] [zl s0] (c, I, zRg g) :=
  zgo [9, 21, 32, 45, 62, 89] 0 (t)
theorem g_x12_image_0 {d : Nat} {B : Nat × Nat} {Q : zQ} {c : Nat × Nat × Nat} {I : Nat → Nat → Int} {g : Nat}
    (t : zRn (zcl d) 192 B Q 2 [some (zr 67), some (zi 0)] [] (c, I, zRg g)) :
    zRn (zcl d) 192 B Q 0 [some (zr 67), none] [] (c, I, zRg g) :=
  zgo [2, 28] 2 (t)
theorem g_x12_image_2 {d : Nat} {B : Nat × Nat} {Q : zQ} {c : Nat × Nat × Nat} {I : Nat → Nat → Int} {g : Nat} {x1 : Int}
    (t : (25 ≤ x1 → (zRn (zcl d) 192 B Q 28 [some (zr 67), some (zi 0)] [] (c, I, zRg g))) ∧ (¬ (25 ≤ x1) → ((0 ≤ x1 ∧ x1 < 25) ∧ ((0 ≤ x1 ∧ x1 < 25) ∧ (zRn (zcl d) 192 B Q 2 [some (zr 67), some (zi (zwr (x1 + 1)))] [] (c, (z2 I 75 x1.toNat (I 71 x1.toNat)), zRg g)))))) :
    zRn (zcl d) 192 B Q 2 [some (zr 67), some (zi x1)] [] (c, I, zRg g) :=
  zgo [2, 28] 13 (And.intro (fun u643 => (t.1 u643)) (fun u643 => And.intro rfl (Exists.intro (some 75) (And.intro rfl (And.intro rfl (Exists.intro (some 71) (And.intro rfl (And.intro rfl (And.intro (t.2 u643).1 (And.intro rfl (And.intro (t.2 u643).2.1 ((t.2 u643).2.2))))))))))))
theorem g_x12_image_28 {d : Nat} {B : Nat × Nat} {Q : zQ} {c : Nat × Nat × Nat} {I : Nat → Nat → Int} {g : Nat} {x1 : Int}
    (t : (8 ≤ x1 → (Q (some (zi (I 67 9))) (c, (z2 (z2 (z2 (z2 (z2 I 67 36 (I 67 9)) 67 37 (I 67 11)) 67 38 (I 67 12)) 67 39 (I 67 7)) 67 40 (I 67 4)), zRg g))) ∧ (¬ (8 ≤ x1) → ((0 ≤ x1 ∧ x1 < 8) ∧ ((0 ≤ x1 ∧ x1 < 8) ∧ (zRn (zcl d) 192 B Q 28 [some (zr 67), some (zi (zwr (x1 + 1)))] [] (c, (z2 I 76 x1.toNat (I 72 x1.toNat)), zRg g)))))) :
    zRn (zcl d) 192 B Q 28 [some (zr 67), some (zi x1)] [] (c, I, zRg g) :=
  zgo [2, 28] 25 (And.intro (fun u644 => And.intro rfl (And.intro rfl (And.intro rfl (And.intro rfl (And.intro rfl (And.intro rfl (And.intro rfl (And.intro rfl (And.intro rfl (And.intro rfl (And.intro rfl (t.1 u644)))))))))))) (fun u644 => And.intro rfl (Exists.intro (some 76) (And.intro rfl (And.intro rfl (Exists.intro (some 72) (And.intro rfl (And.intro rfl (And.intro (t.2 u644).1 (And.intro rfl (And.intro (t.2 u644).2.1 ((t.2 u644).2.2))))))))))))
theorem g_x12_back_0 {d : Nat} {B : Nat × Nat} {Q : zQ} {c : Nat × Nat × Nat} {I : Nat → Nat → Int} {g : Nat}
    (t : (I 67 36 ≠ (-1) → (zRn (zcl d) 193 B Q 13 [some (zr 67), some (zi 0)] [] (c, I, zRg g))) ∧ (¬ (I 67 36 ≠ (-1)) → (Q (some (zi (-3))) (c, I, zRg g)))) :
    zRn (zcl d) 193 B Q 0 [some (zr 67), none] [] (c, I, zRg g) :=
  zgo [13, 39] 6 (And.intro rfl (And.intro (fun u645 => (t.1 u645)) (fun u645 => (t.2 u645))))
theorem g_x12_back_13 {d : Nat} {B : Nat × Nat} {Q : zQ} {c : Nat × Nat × Nat} {I : Nat → Nat → Int} {g : Nat} {x1 : Int}
    (t : (25 ≤ x1 → (zRn (zcl d) 193 B Q 39 [some (zr 67), some (zi 0)] [] (c, I, zRg g))) ∧ (¬ (25 ≤ x1) → ((0 ≤ x1 ∧ x1 < 25) ∧ ((0 ≤ x1 ∧ x1 < 25) ∧ (zRn (zcl d) 193 B Q 13 [some (zr 67), some (zi (zwr (x1 + 1)))] [] (c, (z2 I 71 x1.toNat (I 75 x1.toNat)), zRg g)))))) :
    zRn (zcl d) 193 B Q 13 [some (zr 67), some (zi x1)] [] (c, I, zRg g) :=
  zgo [13, 39] 13 (And.intro (fun u646 => (t.1 u646)) (fun u646 => And.intro rfl (Exists.intro (some 71) (And.intro rfl (And.intro rfl (Exists.intro (some 75) (And.intro rfl (And.intro rfl (And.intro (t.2 u646).1 (And.intro rfl (And.intro (t.2 u646).2.1 ((t.2 u646).2.2))))))))))))
theorem g_x12_back_39 {d : Nat} {B : Nat × Nat} {Q : zQ} {c : Nat × Nat × Nat} {I : Nat → Nat → Int} {g : Nat} {x1 : Int}
    (t : (8 ≤ x1 → (Q (some (zi (I 67 36))) (c, (z2 (z2 (z2 (z2 (z2 I 67 9 (I 67 36)) 67 11 (I 67 37)) 67 12 (I 67 38)) 67 7 (I 67 39)) 67 4 (I 67 40)), zRg g))) ∧ (¬ (8 ≤ x1) → ((0 ≤ x1 ∧ x1 < 8) ∧ ((0 ≤ x1 ∧ x1 < 8) ∧ (zRn (zcl d) 193 B Q 39 [some (zr 67), some (zi (zwr (x1 + 1)))] [] (c, (z2 I 72 x1.toNat (I 76 x1.toNat)), zRg g)))))) :
    zRn (zcl d) 193 B Q 39 [some (zr 67), some (zi x1)] [] (c, I, zRg g) :=
  zgo [13, 39] 25 (And.intro (fun u647 => And.intro rfl (And.intro rfl (And.intro rfl (And.intro rfl (And.intro rfl (And.intro rfl (And.intro rfl (And.intro rfl (And.intro rfl (And.intro rfl (And.intro rfl (t.1 u647)))))))))))) (fun u647 => And.intro rfl (Exists.intro (some 72) (And.intro rfl (And.intro rfl (Exists.intro (some 76) (And.intro rfl (And.intro rfl (And.intro (t.2 u647).1 (And.intro rfl (And.intro (t.2 u647).2.1 ((t.2 u647).2.2))))))))))))
theorem g_x12_count_0 {d : Nat} {B : Nat × Nat} {Q : zQ} {c : Nat × Nat × Nat} {I : Nat → Nat → Int} {g : Nat} {x1 : Int}
    (t : zcl d 130 0 0 [zl x1, zl 0, zl 5] (c, I, zRg g) (fun v h1 => zRn (zcl d) 194 B Q 9 [some (zr 67), some (zi x1)] (zva v []) h1)) :
    zRn (zcl d) 194 B Q 0 [some (zr 67), some (zi x1)] [] (c, I, zRg g) :=
  zgo [9] 4 (Exists.intro 0 (Exists.intro 0 (And.intro (Or.inl rfl) (And.intro (Or.inl rfl) t))))
theorem g_x12_count_9 {d : Nat} {B : Nat × Nat} {Q : zQ} {c : Nat × Nat × Nat} {I : Nat → Nat → Int} {g : Nat} {x1 s0 : Int}
    (t : (s0 ≠ 0 → ((x1 ≠ 0 → ((x1 ≠ 1 → ((x1 ≠ 2 → ((x1 ≠ 3 → ((x1 ≠ 4 → (Q (some (zi (I 67 4))) (c, I, zRg g))) ∧ (¬ (x1 ≠ 4) → (Q (some (zi (I 67 6))) (c, I, zRg g))))) ∧ (¬ (x1 ≠ 3) → (Q (some (zi (I 67 3))) (c, I, zRg g))))) ∧ (¬ (x1 ≠ 2) → (Q (some (zi (I 67 7))) (c, I, zRg g))))) ∧ (¬ (x1 ≠ 1) → (Q (some (zi (I 67 11))) (c, I, zRg g))))) ∧ (¬ (x1 ≠ 0) → (Q (some (zi (I 67 9))) (c, I, zRg g))))) ∧ (¬ (s0 ≠ 0) → (Q (some (zi (-2))) (c, I, zRg g)))) :
    zRn (zcl d) 194 B Q 9 [some (zr 67), some (zi x1)] [zi s0] (c, I, zRg g) :=
  zgo [9] 18 (And.intro (fun u648 => And.intro (fun u649 => And.intro (fun u650 => And.intro (fun u651 => And.intro (fun u652 => And.intro (fun u653 => And.intro rfl ((((((t.1 u648).1 u649).1 u650).1 u651).1 u652).1 u653)) (fun u653 => And.intro rfl ((((((t.1 u648).1 u649).1 u650).1 u651).1 u652).2 u653))) (fun u652 => And.intro rfl (((((t.1 u648).1 u649).1 u650).1 u651).2 u652))) (fun u651 => And.intro rfl ((((t.1 u648).1 u649).1 u650).2 u651))) (fun u650 => And.intro rfl (((t.1 u648).1 u649).2 u650))) (fun u649 => And.intro rfl ((t.1 u648).2 u649))) (fun u648 => (t.2 u648)))
theorem g_x12_isSheet_0 {d : Nat} {B : Nat × Nat} {Q : zQ} {c : Nat × Nat × Nat} {I : Nat → Nat → Int} {g : Nat} {x0 : Int}
    (t : zcl d 130 0 0 [zl x0, zl 0, zl 3] (c, I, zRg g) (fun v h1 => zRn (zcl d) 195 B Q 9 [some (zi x0)] (zva v []) h1)) :
    zRn (zcl d) 195 B Q 0 [some (zi x0)] [] (c, I, zRg g) :=
  zgo [9] 4 (Exists.intro 0 (Exists.intro 0 (And.intro (Or.inl rfl) (And.intro (Or.inl rfl) t))))
theorem g_x12_isSheet_9 {d : Nat} {B : Nat × Nat} {Q : zQ} {c : Nat × Nat × Nat} {I : Nat → Nat → Int} {g : Nat} {x0 s0 : Int}
    (t : Q (some (zi s0)) (c, I, zRg g)) :
    zRn (zcl d) 195 B Q 9 [some (zi x0)] [zi s0] (c, I, zRg g) :=
  zgo [9] 0 (t)
theorem g_x12_sheet_0 {d : Nat} {B : Nat × Nat} {Q : zQ} {c : Nat × Nat × Nat} {I : Nat → Nat → Int} {g : Nat} {x1 x2 x3 : Int}
    (t : zcl d 195 0 0 [zi x1] (c, I, zRg g) (fun v h1 => zRn (zcl d) 196 B Q 4 [some (zr 67), some (zi x1), some (zi x2), some (zi x3), none] (zva v []) h1)) :
    zRn (zcl d) 196 B Q 0 [some (zr 67), some (zi x1), some (zi x2), some (zi x3), none] [] (c, I, zRg g) :=
  zgo [4, 18, 77] 1 (Exists.intro 0 (Exists.intro 0 (And.intro (Or.inl rfl) (And.intro (Or.inl rfl) t))))
theorem g_x12_sheet_4 {d : Nat} {B : Nat × Nat} {Q : zQ} {c : Nat × Nat × Nat} {I : Nat → Nat → Int} {g : Nat} {x1 x2 x3 s0 : Int}
    (t : (s0 = 0 → (Q (some (zi (-2))) (c, I, zRg g))) ∧ (¬ (s0 = 0) → (zcl d 130 0 0 [zl x2, zl (-1), zl 2] (c, I, zRg g) (fun v h1 => zRn (zcl d) 196 B Q 18 [some (zr 67), some (zi x1), some (zi x2), some (zi x3), none] (zva v []) h1)))) :
    zRn (zcl d) 196 B Q 4 [some (zr 67), some (zi x1), some (zi x2), some (zi x3), none] [zi s0] (c, I, zRg g) :=
  zgo [4, 18, 77] 5 (And.intro (fun u654 => (t.1 u654)) (fun u654 => Exists.intro 0 (Exists.intro 0 (And.intro (Or.inl rfl) (And.intro (Or.inl rfl) (t.2 u654))))))
theorem g_x12_sheet_18 {d : Nat} {B : Nat × Nat} {Q : zQ} {c : Nat × Nat × Nat} {I : Nat → Nat → Int} {g : Nat} {x1 x2 x3 s0 : Int}
    (t : (s0 = 0 → (Q (some (zi (-2))) (c, I, zRg g))) ∧ (¬ (s0 = 0) → ((x2 < 0 → ((x2 < 0 → ((x2 < 0 → ((0 ≤ x1 ∧ x1 < 4) ∧ ((0 ≤ x1 ∧ x1 < 4) ∧ ((0 ≤ x1 ∧ x1 < 4) ∧ (zRn (zcl d) 196 B Q 77 [some (zr 67), some (zi x1), some (zi x2), some (zi x3), some (zi 0)] [] (c, (z2 (z2 (z2 I 77 x1.toNat 0) 78 x1.toNat x2) 79 x1.toNat x3), zRg g)))))) ∧ (¬ (x2 < 0) → ((0 ≤ x1 ∧ x1 < 4) ∧ ((0 ≤ x1 ∧ x1 < 4) ∧ ((0 ≤ x1 ∧ x1 < 4) ∧ (zRn (zcl d) 196 B Q 77 [some (zr 67), some (zi x1), some (zi x2), some (zi x3), some (zi 0)] [] (c, (z2 (z2 (z2 I 77 x1.toNat 1) 78 x1.toNat x2) 79 x1.toNat x3), zRg g)))))))) ∧ (¬ (x2 < 0) → ((0 ≤ x3 → ((x2 < 0 → ((0 ≤ x1 ∧ x1 < 4) ∧ ((0 ≤ x1 ∧ x1 < 4) ∧ ((0 ≤ x1 ∧ x1 < 4) ∧ (zRn (zcl d) 196 B Q 77 [some (zr 67), some (zi x1), some (zi x2), some (zi x3), some (zi 0)] [] (c, (z2 (z2 (z2 I 77 x1.toNat 0) 78 x1.toNat x2) 79 x1.toNat x3), zRg g)))))) ∧ (¬ (x2 < 0) → ((0 ≤ x1 ∧ x1 < 4) ∧ ((0 ≤ x1 ∧ x1 < 4) ∧ ((0 ≤ x1 ∧ x1 < 4) ∧ (zRn (zcl d) 196 B Q 77 [some (zr 67), some (zi x1), some (zi x2), some (zi x3), some (zi 0)] [] (c, (z2 (z2 (z2 I 77 x1.toNat 1) 78 x1.toNat x2) 79 x1.toNat x3), zRg g)))))))) ∧ (¬ (0 ≤ x3) → (Q (some (zi (-14))) (c, I, zRg g))))))) ∧ (¬ (x2 < 0) → ((x3 ≤ 40 → ((x2 < 0 → ((x2 < 0 → ((0 ≤ x1 ∧ x1 < 4) ∧ ((0 ≤ x1 ∧ x1 < 4) ∧ ((0 ≤ x1 ∧ x1 < 4) ∧ (zRn (zcl d) 196 B Q 77 [some (zr 67), some (zi x1), some (zi x2), some (zi x3), some (zi 0)] [] (c, (z2 (z2 (z2 I 77 x1.toNat 0) 78 x1.toNat x2) 79 x1.toNat x3), zRg g)))))) ∧ (¬ (x2 < 0) → ((0 ≤ x1 ∧ x1 < 4) ∧ ((0 ≤ x1 ∧ x1 < 4) ∧ ((0 ≤ x1 ∧ x1 < 4) ∧ (zRn (zcl d) 196 B Q 77 [some (zr 67), some (zi x1), some (zi x2), some (zi x3), some (zi 0)] [] (c, (z2 (z2 (z2 I 77 x1.toNat 1) 78 x1.toNat x2) 79 x1.toNat x3), zRg g)))))))) ∧ (¬ (x2 < 0) → ((0 ≤ x3 → ((x2 < 0 → ((0 ≤ x1 ∧ x1 < 4) ∧ ((0 ≤ x1 ∧ x1 < 4) ∧ ((0 ≤ x1 ∧ x1 < 4) ∧ (zRn (zcl d) 196 B Q 77 [some (zr 67), some (zi x1), some (zi x2), some (zi x3), some (zi 0)] [] (c, (z2 (z2 (z2 I 77 x1.toNat 0) 78 x1.toNat x2) 79 x1.toNat x3), zRg g)))))) ∧ (¬ (x2 < 0) → ((0 ≤ x1 ∧ x1 < 4) ∧ ((0 ≤ x1 ∧ x1 < 4) ∧ ((0 ≤ x1 ∧ x1 < 4) ∧ (zRn (zcl d) 196 B Q 77 [some (zr 67), some (zi x1), some (zi x2), some (zi x3), some (zi 0)] [] (c, (z2 (z2 (z2 I 77 x1.toNat 1) 78 x1.toNat x2) 79 x1.toNat x3), zRg g)))))))) ∧ (¬ (0 ≤ x3) → (Q (some (zi (-14))) (c, I, zRg g))))))) ∧ (¬ (x3 ≤ 40) → (Q (some (zi (-2))) (c, I, zRg g)))))))) :
    zRn (zcl d) 196 B Q 18 [some (zr 67), some (zi x1), some (zi x2), some (zi x3), none] [zi s0] (c, I, zRg g) :=
  zgo [4, 18, 77] 30 (And.intro (fun u655 => (t.1 u655)) (fun u655 => And.intro (fun u656 => And.intro (fun u657 => And.intro rfl (Exists.intro (some 77) (And.intro rfl (And.intro (fun u658 => And.intro rfl (And.intro ((((t.2 u655).1 u656).1 u657).1 u658).1 (And.intro (Or.inl rfl) (And.intro rfl (Exists.intro (some 78) (And.intro rfl (And.intro rfl (And.intro ((((t.2 u655).1 u656).1 u657).1 u658).2.1 (And.intro rfl (Exists.intro (some 79) (And.intro rfl (And.intro rfl (And.intro ((((t.2 u655).1 u656).1 u657).1 u658).2.2.1 (((((t.2 u655).1 u656).1 u657).1 u658).2.2.2)))))))))))))) (fun u658 => And.intro rfl (And.intro ((((t.2 u655).1 u656).1 u657).2 u658).1 (And.intro (Or.inr rfl) (And.intro rfl (Exists.intro (some 78) (And.intro rfl (And.intro rfl (And.intro ((((t.2 u655).1 u656).1 u657).2 u658).2.1 (And.intro rfl (Exists.intro (some 79) (And.intro rfl (And.intro rfl (And.intro ((((t.2 u655).1 u656).1 u657).2 u658).2.2.1 (((((t.2 u655).1 u656).1 u657).2 u658).2.2.2)))))))))))))))))) (fun u657 => And.intro (fun u659 => And.intro rfl (Exists.intro (some 77) (And.intro rfl (And.intro (fun u660 => And.intro rfl (And.intro (((((t.2 u655).1 u656).2 u657).1 u659).1 u660).1 (And.intro (Or.inl rfl) (And.intro rfl (Exists.intro (some 78) (And.intro rfl (And.intro rfl (And.intro (((((t.2 u655).1 u656).2 u657).1 u659).1 u660).2.1 (And.intro rfl (Exists.intro (some 79) (And.intro rfl (And.intro rfl (And.intro (((((t.2 u655).1 u656).2 u657).1 u659).1 u660).2.2.1 ((((((t.2 u655).1 u656).2 u657).1 u659).1 u660).2.2.2)))))))))))))) (fun u660 => And.intro rfl (And.intro (((((t.2 u655).1 u656).2 u657).1 u659).2 u660).1 (And.intro (Or.inr rfl) (And.intro rfl (Exists.intro (some 78) (And.intro rfl (And.intro rfl (And.intro (((((t.2 u655).1 u656).2 u657).1 u659).2 u660).2.1 (And.intro rfl (Exists.intro (some 79) (And.intro rfl (And.intro rfl (And.intro (((((t.2 u655).1 u656).2 u657).1 u659).2 u660).2.2.1 ((((((t.2 u655).1 u656).2 u657).1 u659).2 u660).2.2.2)))))))))))))))))) (fun u659 => ((((t.2 u655).1 u656).2 u657).2 u659)))) (fun u656 => And.intro (fun u661 => And.intro (fun u662 => And.intro rfl (Exists.intro (some 77) (And.intro rfl (And.intro (fun u663 => And.intro rfl (And.intro (((((t.2 u655).2 u656).1 u661).1 u662).1 u663).1 (And.intro (Or.inl rfl) (And.intro rfl (Exists.intro (some 78) (And.intro rfl (And.intro rfl (And.intro (((((t.2 u655).2 u656).1 u661).1 u662).1 u663).2.1 (And.intro rfl (Exists.intro (some 79) (And.intro rfl (And.intro rfl (And.intro (((((t.2 u655).2 u656).1 u661).1 u662).1 u663).2.2.1 ((((((t.2 u655).2 u656).1 u661).1 u662).1 u663).2.2.2)))))))))))))) (fun u663 => And.intro rfl (And.intro (((((t.2 u655).2 u656).1 u661).1 u662).2 u663).1 (And.intro (Or.inr rfl) (And.intro rfl (Exists.intro (some 78) (And.intro rfl (And.intro rfl (And.intro (((((t.2 u655).2 u656).1 u661).1 u662).2 u663).2.1 (And.intro rfl (Exists.intro (some 79) (And.intro rfl (And.intro rfl (And.intro (((((t.2 u655).2 u656).1 u661).1 u662).2 u663).2.2.1 ((((((t.2 u655).2 u656).1 u661).1 u662).2 u663).2.2.2)))))))))))))))))) (fun u662 => And.intro (fun u664 => And.intro rfl (Exists.intro (some 77) (And.intro rfl (And.intro (fun u665 => And.intro rfl (And.intro ((((((t.2 u655).2 u656).1 u661).2 u662).1 u664).1 u665).1 (And.intro (Or.inl rfl) (And.intro rfl (Exists.intro (some 78) (And.intro rfl (And.intro rfl (And.intro ((((((t.2 u655).2 u656).1 u661).2 u662).1 u664).1 u665).2.1 (And.intro rfl (Exists.intro (some 79) (And.intro rfl (And.intro rfl (And.intro ((((((t.2 u655).2 u656).1 u661).2 u662).1 u664).1 u665).2.2.1 (((((((t.2 u655).2 u656).1 u661).2 u662).1 u664).1 u665).2.2.2)))))))))))))) (fun u665 => And.intro rfl (And.intro ((((((t.2 u655).2 u656).1 u661).2 u662).1 u664).2 u665).1 (And.intro (Or.inr rfl) (And.intro rfl (Exists.intro (some 78) (And.intro rfl (And.intro rfl (And.intro ((((((t.2 u655).2 u656).1 u661).2 u662).1 u664).2 u665).2.1 (And.intro rfl (Exists.intro (some 79) (And.intro rfl (And.intro rfl (And.intro ((((((t.2 u655).2 u656).1 u661).2 u662).1 u664).2 u665).2.2.1 (((((((t.2 u655).2 u656).1 u661).2 u662).1 u664).2 u665).2.2.2)))))))))))))))))) (fun u664 => (((((t.2 u655).2 u656).1 u661).2 u662).2 u664)))) (fun u661 => (((t.2 u655).2 u656).2 u661)))))
theorem g_x12_sheet_77 {d : Nat} {B : Nat × Nat} {Q : zQ} {c : Nat × Nat × Nat} {I : Nat → Nat → Int} {g : Nat} {x1 x2 x3 x4 : Int}
    (t : (x3 ≤ x4 → (Q (some (zi 1)) (c, I, zRg g))) ∧ (¬ (x3 ≤ x4) → ((x2 < 0 → (Q (some (zi 1)) (c, I, zRg g))) ∧ (¬ (x2 < 0) → ((0 ≤ zwr ((zwr (40 * x1)) + x4) ∧ zwr ((zwr (40 * x1)) + x4) < 160) ∧ (zRn (zcl d) 196 B Q 77 [some (zr 67), some (zi x1), some (zi x2), some (zi x3), some (zi (zwr (x4 + 1)))] [] (c, (z2 I 80 (zwr ((zwr (40 * x1)) + x4)).toNat 0), zRg g))))))) :
    zRn (zcl d) 196 B Q 77 [some (zr 67), some (zi x1), some (zi x2), some (zi x3), some (zi x4)] [] (c, I, zRg g) :=
  zgo [4, 18, 77] 16 (And.intro (fun u666 => (t.1 u666)) (fun u666 => And.intro (fun u667 => ((t.2 u666).1 u667)) (fun u667 => And.intro rfl (Exists.intro (some 80) (And.intro rfl (And.intro rfl (And.intro ((t.2 u666).2 u667).1 (((t.2 u666).2 u667).2))))))))
theorem g_x12_cell_0 {d : Nat} {B : Nat × Nat} {Q : zQ} {c : Nat × Nat × Nat} {I : Nat → Nat → Int} {g : Nat} {x1 x2 x3 : Int}
    (t : zcl d 195 0 0 [zi x1] (c, I, zRg g) (fun v h1 => zRn (zcl d) 197 B Q 4 [some (zr 67), some (zi x1), some (zi x2), some (zi x3)] (zva v []) h1)) :
    zRn (zcl d) 197 B Q 0 [some (zr 67), some (zi x1), some (zi x2), some (zi x3)] [] (c, I, zRg g) :=
  zgo [4, 37] 1 (Exists.intro 0 (Exists.intro 0 (And.intro (Or.inl rfl) (And.intro (Or.inl rfl) t))))
theorem g_x12_cell_4 {d : Nat} {B : Nat × Nat} {Q : zQ} {c : Nat × Nat × Nat} {I : Nat → Nat → Int} {g : Nat} {x1 x2 x3 s0 : Int}
    (t : (s0 ≠ 0 → ((0 ≤ x1 ∧ x1 < 4) ∧ ((I 77 x1.toNat ≠ 0 → ((0 ≤ x1 ∧ x1 < 4) ∧ (zcl d 130 0 0 [zl x2, zl 0, zl (zwr ((I 79 x1.toNat) - 1))] (c, I, zRg g) (fun v h1 => zRn (zcl d) 197 B Q 37 [some (zr 67), some (zi x1), some (zi x2), some (zi x3)] (zva v []) h1)))) ∧ (¬ (I 77 x1.toNat ≠ 0) → (Q (some (zi (-11))) (c, I, zRg g)))))) ∧ (¬ (s0 ≠ 0) → (Q (some (zi (-2))) (c, I, zRg g)))) :
    zRn (zcl d) 197 B Q 4 [some (zr 67), some (zi x1), some (zi x2), some (zi x3)] [zi s0] (c, I, zRg g) :=
  zgo [4, 37] 16 (And.intro (fun u668 => And.intro rfl (Exists.intro (some 77) (And.intro rfl (And.intro rfl (And.intro (t.1 u668).1 (And.intro (fun u669 => And.intro rfl (Exists.intro (some 79) (And.intro rfl (And.intro rfl (And.intro ((t.1 u668).2.1 u669).1 (Exists.intro 0 (Exists.intro 0 (And.intro (Or.inl rfl) (And.intro (Or.inl rfl) (((t.1 u668).2.1 u669).2)))))))))) (fun u669 => ((t.1 u668).2.2 u669)))))))) (fun u668 => (t.2 u668)))
theorem g_x12_cell_37 {d : Nat} {B : Nat × Nat} {Q : zQ} {c : Nat × Nat × Nat} {I : Nat → Nat → Int} {g : Nat} {x1 x2 x3 s0 : Int}
    (t : (s0 ≠ 0 → ((0 ≤ x1 ∧ x1 < 4) ∧ ((I 78 x1.toNat ≠ 0 → ((0 ≤ x1 ∧ x1 < 4) ∧ ((I 78 x1.toNat ≠ 1 → ((0 ≤ zwr ((zwr (40 * x1)) + x2) ∧ zwr ((zwr (40 * x1)) + x2) < 160) ∧ (Q (some (zi 1)) (c, (z2 I 80 (zwr ((zwr (40 * x1)) + x2)).toNat x3), zRg g)))) ∧ (¬ (I 78 x1.toNat ≠ 1) → ((0 ≤ zwr ((zwr (40 * x1)) + x2) ∧ zwr ((zwr (40 * x1)) + x2) < 160) ∧ (Q (some (zi 1)) (c, (z2 I 80 (zwr ((zwr (40 * x1)) + x2)).toNat (zi2s x3)), zRg g))))))) ∧ (¬ (I 78 x1.toNat ≠ 0) → ((0 ≤ zwr ((zwr (40 * x1)) + x2) ∧ zwr ((zwr (40 * x1)) + x2) < 160) ∧ (Q (some (zi 1)) (c, (z2 I 80 (zwr ((zwr (40 * x1)) + x2)).toNat (zi2b x3)), zRg g))))))) ∧ (¬ (s0 ≠ 0) → (Q (some (zi (-12))) (c, I, zRg g)))) :
    zRn (zcl d) 197 B Q 37 [some (zr 67), some (zi x1), some (zi x2), some (zi x3)] [zi s0] (c, I, zRg g) :=
  zgo [4, 37] 24 (And.intro (fun u670 => And.intro rfl (Exists.intro (some 80) (And.intro rfl (And.intro rfl (Exists.intro (some 78) (And.intro rfl (And.intro rfl (And.intro (t.1 u670).1 (And.intro (fun u671 => And.intro rfl (Exists.intro (some 78) (And.intro rfl (And.intro rfl (And.intro ((t.1 u670).2.1 u671).1 (And.intro (fun u672 => And.intro rfl (And.intro (((t.1 u670).2.1 u671).2.1 u672).1 ((((t.1 u670).2.1 u671).2.1 u672).2))) (fun u672 => And.intro rfl (And.intro (((t.1 u670).2.1 u671).2.2 u672).1 ((((t.1 u670).2.1 u671).2.2 u672).2))))))))) (fun u671 => And.intro rfl (And.intro ((t.1 u670).2.2 u671).1 (((t.1 u670).2.2 u671).2)))))))))))) (fun u670 => (t.2 u670)))
theorem g_x12_copy_0 {d : Nat} {B : Nat × Nat} {Q : zQ} {c : Nat × Nat × Nat} {I : Nat → Nat → Int} {g : Nat} {x1 x2 x3 x4 x5 : Int}
    (t : zcl d 195 0 0 [zi x1] (c, I, zRg g) (fun v h1 => zRn (zcl d) 198 B Q 4 [some (zr 67), some (zi x1), some (zi x2), some (zi x3), some (zi x4), some (zi x5), none, none, none] (zva v []) h1)) :
    zRn (zcl d) 198 B Q 0 [some (zr 67), some (zi x1), some (zi x2), some (zi x3), some (zi x4), some (zi x5), none, none, none] [] (c, I, zRg g) :=
  zgo [4, 11, 121] 1 (Exists.intro 0 (Exists.intro 0 (And.intro (Or.inl rfl) (And.intro (Or.inl rfl) t))))
theorem g_x12_copy_4 {d : Nat} {B : Nat × Nat} {Q : zQ} {c : Nat × Nat × Nat} {I : Nat → Nat → Int} {g : Nat} {x1 x2 x3 x4 x5 s0 : Int}
    (t : (s0 = 0 → (Q (some (zi (-2))) (c, I, zRg g))) ∧ (¬ (s0 = 0) → (zcl d 195 0 0 [zi x3] (c, I, zRg g) (fun v h1 => zRn (zcl d) 198 B Q 11 [some (zr 67), some (zi x1), some (zi x2), some (zi x3), some (zi x4), some (zi x5), none, none, none] (zva v []) h1)))) :
    zRn (zcl d) 198 B Q 4 [some (zr 67), some (zi x1), some (zi x2), some (zi x3), some (zi x4), some (zi x5), none, none, none] [zi s0] (c, I, zRg g) :=
  zgo [4, 11, 121] 2 (And.intro (fun u673 => (t.1 u673)) (fun u673 => Exists.intro 0 (Exists.intro 0 (And.intro (Or.inl rfl) (And.intro (Or.inl rfl) (t.2 u673))))))
theorem g_x12_copy_11 {d : Nat} {B : Nat × Nat} {Q : zQ} {c : Nat × Nat × Nat} {I : Nat → Nat → Int} {g : Nat} {x1 x2 x3 x4 x5 s0 : Int}
    (t : (s0 ≠ 0 → ((0 ≤ x1 ∧ x1 < 4) ∧ ((I 77 x1.toNat = 0 → (Q (some (zi (-11))) (c, I, zRg g))) ∧ (¬ (I 77 x1.toNat = 0) → ((0 ≤ x3 ∧ x3 < 4) ∧ ((I 77 x3.toNat ≠ 0 → ((0 ≤ x1 ∧ x1 < 4) ∧ ((0 ≤ x3 ∧ x3 < 4) ∧ ((I 78 x1.toNat = I 78 x3.toNat → ((x5 < 0 → (Q (some (zi (-12))) (c, I, zRg g))) ∧ (¬ (x5 < 0) → ((x2 < 0 → (Q (some (zi (-12))) (c, I, zRg g))) ∧ (¬ (x2 < 0) → ((x4 < 0 → (Q (some (zi (-12))) (c, I, zRg g))) ∧ (¬ (x4 < 0) → ((0 ≤ x1 ∧ x1 < 4) ∧ ((zwr ((I 79 x1.toNat) - x5) < x2 → (Q (some (zi (-12))) (c, I, zRg g))) ∧ (¬ (zwr ((I 79 x1.toNat) - x5) < x2) → ((0 ≤ x3 ∧ x3 < 4) ∧ ((x4 ≤ zwr ((I 79 x3.toNat) - x5) → ((x1 ≠ x3 → (zRn (zcl d) 198 B Q 121 [some (zr 67), some (zi x1), some (zi x2), some (zi x3), some (zi x4), some (zi x5), some (zi 0), some (zi 0), none] [] (c, I, zRg g))) ∧ (¬ (x1 ≠ x3) → ((x4 ≤ x2 → (zRn (zcl d) 198 B Q 121 [some (zr 67), some (zi x1), some (zi x2), some (zi x3), some (zi x4), some (zi x5), some (zi 0), some (zi 0), none] [] (c, I, zRg g))) ∧ (¬ (x4 ≤ x2) → (zRn (zcl d) 198 B Q 121 [some (zr 67), some (zi x1), some (zi x2), some (zi x3), some (zi x4), some (zi x5), some (zi 1), some (zi 0), none] [] (c, I, zRg g))))))) ∧ (¬ (x4 ≤ zwr ((I 79 x3.toNat) - x5)) → (Q (some (zi (-12))) (c, I, zRg g))))))))))))))) ∧ (¬ (I 78 x1.toNat = I 78 x3.toNat) → (Q (some (zi (-13))) (c, I, zRg g))))))) ∧ (¬ (I 77 x3.toNat ≠ 0) → (Q (some (zi (-11))) (c, I, zRg g))))))))) ∧ (¬ (s0 ≠ 0) → (Q (some (zi (-2))) (c, I, zRg g)))) :
    zRn (zcl d) 198 B Q 11 [some (zr 67), some (zi x1), some (zi x2), some (zi x3), some (zi x4), some (zi x5), none, none, none] [zi s0] (c, I, zRg g) :=
  zgo [4, 11, 121] 53 (And.intro (fun u674 => And.intro rfl (Exists.intro (some 77) (And.intro rfl (And.intro rfl (And.intro (t.1 u674).1 (And.intro (fun u675 => ((t.1 u674).2.1 u675)) (fun u675 => And.intro rfl (Exists.intro (some 77) (And.intro rfl (And.intro rfl (And.intro ((t.1 u674).2.2 u675).1 (And.intro (fun u676 => And.intro rfl (Exists.intro (some 78) (And.intro rfl (And.intro rfl (And.intro (((t.1 u674).2.2 u675).2.1 u676).1 (And.intro rfl (Exists.intro (some 78) (And.intro rfl (And.intro rfl (And.intro (((t.1 u674).2.2 u675).2.1 u676).2.1 (And.intro (fun u677 => And.intro (fun u678 => (((((t.1 u674).2.2 u675).2.1 u676).2.2.1 u677).1 u678)) (fun u678 => And.intro (fun u679 => ((((((t.1 u674).2.2 u675).2.1 u676).2.2.1 u677).2 u678).1 u679)) (fun u679 => And.intro (fun u680 => (((((((t.1 u674).2.2 u675).2.1 u676).2.2.1 u677).2 u678).2 u679).1 u680)) (fun u680 => And.intro rfl (Exists.intro (some 79) (And.intro rfl (And.intro rfl (And.intro (((((((t.1 u674).2.2 u675).2.1 u676).2.2.1 u677).2 u678).2 u679).2 u680).1 (And.intro (fun u681 => ((((((((t.1 u674).2.2 u675).2.1 u676).2.2.1 u677).2 u678).2 u679).2 u680).2.1 u681)) (fun u681 => And.intro rfl (Exists.intro (some 79) (And.intro rfl (And.intro rfl (And.intro ((((((((t.1 u674).2.2 u675).2.1 u676).2.2.1 u677).2 u678).2 u679).2 u680).2.2 u681).1 (And.intro (fun u682 => And.intro (fun u683 => ((((((((((t.1 u674).2.2 u675).2.1 u676).2.2.1 u677).2 u678).2 u679).2 u680).2.2 u681).2.1 u682).1 u683)) (fun u683 => And.intro (fun u684 => (((((((((((t.1 u674).2.2 u675).2.1 u676).2.2.1 u677).2 u678).2 u679).2 u680).2.2 u681).2.1 u682).2 u683).1 u684)) (fun u684 => (((((((((((t.1 u674).2.2 u675).2.1 u676).2.2.1 u677).2 u678).2 u679).2 u680).2.2 u681).2.1 u682).2 u683).2 u684)))) (fun u682 => (((((((((t.1 u674).2.2 u675).2.1 u676).2.2.1 u677).2 u678).2 u679).2 u680).2.2 u681).2.2 u682))))))))))))))))) (fun u677 => ((((t.1 u674).2.2 u675).2.1 u676).2.2.2 u677))))))))))))) (fun u676 => (((t.1 u674).2.2 u675).2.2 u676)))))))))))))) (fun u674 => (t.2 u674)))
theorem g_x12_copy_121 {d : Nat} {B : Nat × Nat} {Q : zQ} {c : Nat × Nat × Nat} {I : Nat → Nat → Int} {g : Nat} {x1 x2 x3 x4 x5 x6 x7 : Int}
    (t : (x5 ≤ x7 → (Q (some (zi x5)) (c, I, zRg g))) ∧ (¬ (x5 ≤ x7) → ((x6 = 0 → ((0 ≤ zwr ((zwr ((zwr (40 * x1)) + x2)) + x7) ∧ zwr ((zwr ((zwr (40 * x1)) + x2)) + x7) < 160) ∧ ((0 ≤ zwr ((zwr ((zwr (40 * x3)) + x4)) + x7) ∧ zwr ((zwr ((zwr (40 * x3)) + x4)) + x7) < 160) ∧ (zRn (zcl d) 198 B Q 121 [some (zr 67), some (zi x1), some (zi x2), some (zi x3), some (zi x4), some (zi x5), some (zi x6), some (zi (zwr (x7 + 1))), some (zi x7)] [] (c, (z2 I 80 (zwr ((zwr ((zwr (40 * x3)) + x4)) + x7)).toNat (I 80 ((zwr ((zwr ((zwr (40 * x1)) + x2)) + x7)).toNat))), zRg g))))) ∧ (¬ (x6 = 0) → ((0 ≤ zwr ((zwr ((zwr (40 * x1)) + x2)) + (zwr ((zwr (x5 - 1)) - x7))) ∧ zwr ((zwr ((zwr (40 * x1)) + x2)) + (zwr ((zwr (x5 - 1)) - x7))) < 160) ∧ ((0 ≤ zwr ((zwr ((zwr (40 * x3)) + x4)) + (zwr ((zwr (x5 - 1)) - x7))) ∧ zwr ((zwr ((zwr (40 * x3)) + x4)) + (zwr ((zwr (x5 - 1)) - x7))) < 160) ∧ (zRn (zcl d) 198 B Q 121 [some (zr 67), some (zi x1), some (zi x2), some (zi x3), some (zi x4), some (zi x5), some (zi x6), some (zi (zwr (x7 + 1))), some (zi (zwr ((zwr (x5 - 1)) - x7)))] [] (c, (z2 I 80 (zwr ((zwr ((zwr (40 * x3)) + x4)) + (zwr ((zwr (x5 - 1)) - x7)))).toNat (I 80 ((zwr ((zwr ((zwr (40 * x1)) + x2)) + (zwr ((zwr (x5 - 1)) - x7)))).toNat))), zRg g)))))))) :
    zRn (zcl d) 198 B Q 121 [some (zr 67), some (zi x1), some (zi x2), some (zi x3), some (zi x4), some (zi x5), some (zi x6), some (zi x7), none] [] (c, I, zRg g) :=
  zgo [4, 11, 121] 34 (And.intro (fun u685 => (t.1 u685)) (fun u685 => And.intro (fun u686 => And.intro rfl (Exists.intro (some 80) (And.intro rfl (And.intro rfl (Exists.intro (some 80) (And.intro rfl (And.intro rfl (And.intro ((t.2 u685).1 u686).1 (And.intro rfl (And.intro ((t.2 u685).1 u686).2.1 (((t.2 u685).1 u686).2.2))))))))))) (fun u686 => And.intro rfl (Exists.intro (some 80) (And.intro rfl (And.intro rfl (Exists.intro (some 80) (And.intro rfl (And.intro rfl (And.intro ((t.2 u685).2 u686).1 (And.intro rfl (And.intro ((t.2 u685).2 u686).2.1 (((t.2 u685).2 u686).2.2)))))))))))))
theorem g_x12_crew_0 {d : Nat} {B : Nat × Nat} {Q : zQ} {c : Nat × Nat × Nat} {I : Nat → Nat → Int} {g : Nat} {x1 x2 x3 x4 : Int}
    (t : zcl d 195 0 0 [zi x1] (c, I, zRg g) (fun v h1 => zRn (zcl d) 199 B Q 4 [some (zr 67), some (zi x1), some (zi x2), some (zi x3), some (zi x4), none, none, none] (zva v []) h1)) :
    zRn (zcl d) 199 B Q 0 [some (zr 67), some (zi x1), some (zi x2), some (zi x3), some (zi x4), none, none, none] [] (c, I, zRg g) :=
  zgo [4, 16, 29, 75, 159] 1 (Exists.intro 0 (Exists.intro 0 (And.intro (Or.inl rfl) (And.intro (Or.inl rfl) t))))
theorem g_x12_crew_4 {d : Nat} {B : Nat × Nat} {Q : zQ} {c : Nat × Nat × Nat} {I : Nat → Nat → Int} {g : Nat} {x1 x2 x3 x4 s0 : Int}
    (t : (s0 = 0 → (Q (some (zi (-2))) (c, I, zRg g))) ∧ (¬ (s0 = 0) → (zcl d 130 0 0 [zl x2, zl 0, zl 2] (c, I, zRg g) (fun v h1 => zRn (zcl d) 199 B Q 16 [some (zr 67), some (zi x1), some (zi x2), some (zi x3), some (zi x4), none, none, none] (zva v []) h1)))) :
    zRn (zcl d) 199 B Q 4 [some (zr 67), some (zi x1), some (zi x2), some (zi x3), some (zi x4), none, none, none] [zi s0] (c, I, zRg g) :=
  zgo [4, 16, 29, 75, 159] 5 (And.intro (fun u687 => (t.1 u687)) (fun u687 => Exists.intro 0 (Exists.intro 0 (And.intro (Or.inl rfl) (And.intro (Or.inl rfl) (t.2 u687))))))
theorem g_x12_crew_16 {d : Nat} {B : Nat × Nat} {Q : zQ} {c : Nat × Nat × Nat} {I : Nat → Nat → Int} {g : Nat} {x1 x2 x3 x4 s0 : Int}
    (t : (s0 = 0 → (Q (some (zi (-2))) (c, I, zRg g))) ∧ (¬ (s0 = 0) → (zcl d 130 0 0 [zl x4, zl 0, zl 5] (c, I, zRg g) (fun v h1 => zRn (zcl d) 199 B Q 29 [some (zr 67), some (zi x1), some (zi x2), some (zi x3), some (zi x4), none, none, none] (zva v []) h1)))) :
    zRn (zcl d) 199 B Q 16 [some (zr 67), some (zi x1), some (zi x2), some (zi x3), some (zi x4), none, none, none] [zi s0] (c, I, zRg g) :=
  zgo [4, 16, 29, 75, 159] 5 (And.intro (fun u688 => (t.1 u688)) (fun u688 => Exists.intro 0 (Exists.intro 0 (And.intro (Or.inl rfl) (And.intro (Or.inl rfl) (t.2 u688))))))
theorem g_x12_crew_29 {d : Nat} {B : Nat × Nat} {Q : zQ} {c : Nat × Nat × Nat} {I : Nat → Nat → Int} {g : Nat} {x1 x2 x3 x4 s0 : Int}
    (t : (s0 ≠ 0 → ((0 ≤ x1 ∧ x1 < 4) ∧ ((I 77 x1.toNat = 0 → ((0 ≤ x1 ∧ x1 < 4) ∧ ((I 77 x1.toNat ≠ 0 → (zRn (zcl d) 199 B Q 75 [some (zr 67), some (zi x1), some (zi x2), some (zi x3), some (zi x4), some (zi 0), some (zi 0), none] [] (c, I, zRg g))) ∧ (¬ (I 77 x1.toNat ≠ 0) → (Q (some (zi (-11))) (c, I, zRg g)))))) ∧ (¬ (I 77 x1.toNat = 0) → ((0 ≤ x1 ∧ x1 < 4) ∧ ((I 78 x1.toNat = x2 → ((0 ≤ x1 ∧ x1 < 4) ∧ ((I 77 x1.toNat ≠ 0 → (zRn (zcl d) 199 B Q 75 [some (zr 67), some (zi x1), some (zi x2), some (zi x3), some (zi x4), some (zi 0), some (zi 0), none] [] (c, I, zRg g))) ∧ (¬ (I 77 x1.toNat ≠ 0) → (Q (some (zi (-11))) (c, I, zRg g)))))) ∧ (¬ (I 78 x1.toNat = x2) → (Q (some (zi (-13))) (c, I, zRg g))))))))) ∧ (¬ (s0 ≠ 0) → (Q (some (zi (-2))) (c, I, zRg g)))) :
    zRn (zcl d) 199 B Q 29 [some (zr 67), some (zi x1), some (zi x2), some (zi x3), some (zi x4), none, none, none] [zi s0] (c, I, zRg g) :=
  zgo [4, 16, 29, 75, 159] 21 (And.intro (fun u689 => And.intro rfl (Exists.intro (some 77) (And.intro rfl (And.intro rfl (And.intro (t.1 u689).1 (And.intro (fun u690 => And.intro rfl (Exists.intro (some 77) (And.intro rfl (And.intro rfl (And.intro ((t.1 u689).2.1 u690).1 (And.intro (fun u691 => (((t.1 u689).2.1 u690).2.1 u691)) (fun u691 => (((t.1 u689).2.1 u690).2.2 u691)))))))) (fun u690 => And.intro rfl (Exists.intro (some 78) (And.intro rfl (And.intro rfl (And.intro ((t.1 u689).2.2 u690).1 (And.intro (fun u692 => And.intro rfl (Exists.intro (some 77) (And.intro rfl (And.intro rfl (And.intro (((t.1 u689).2.2 u690).2.1 u692).1 (And.intro (fun u693 => ((((t.1 u689).2.2 u690).2.1 u692).2.1 u693)) (fun u693 => ((((t.1 u689).2.2 u690).2.1 u692).2.2 u693)))))))) (fun u692 => (((t.1 u689).2.2 u690).2.2 u692)))))))))))))) (fun u689 => (t.2 u689)))
theorem g_x12_crew_75 {d : Nat} {B : Nat × Nat} {Q : zQ} {c : Nat × Nat × Nat} {I : Nat → Nat → Int} {g : Nat} {x1 x2 x3 x4 x5 x6 : Int}
    (t : (x4 ≤ x6 → (Q (some (zi x5)) (c, I, zRg g))) ∧ (¬ (x4 ≤ x6) → ((x3 < 0 → (Q (some (zi (-12))) (c, I, zRg g))) ∧ (¬ (x3 < 0) → ((0 ≤ x1 ∧ x1 < 4) ∧ ((x3 ≤ zwr ((zwr ((I 79 x1.toNat) - (zwr (4 * x6)))) - 4) → ((0 ≤ zwr ((zwr ((zwr (40 * x1)) + x3)) + (zwr (4 * x6))) ∧ zwr ((zwr ((zwr (40 * x1)) + x3)) + (zwr (4 * x6))) < 160) ∧ ((0 ≤ zwr ((zwr ((zwr ((zwr (40 * x1)) + x3)) + (zwr (4 * x6)))) + 1) ∧ zwr ((zwr ((zwr ((zwr (40 * x1)) + x3)) + (zwr (4 * x6)))) + 1) < 160) ∧ ((0 ≤ zwr ((zwr ((zwr ((zwr (40 * x1)) + x3)) + (zwr (4 * x6)))) + 2) ∧ zwr ((zwr ((zwr ((zwr (40 * x1)) + x3)) + (zwr (4 * x6)))) + 2) < 160) ∧ ((0 ≤ zwr ((zwr ((zwr ((zwr (40 * x1)) + x3)) + (zwr (4 * x6)))) + 3) ∧ zwr ((zwr ((zwr ((zwr (40 * x1)) + x3)) + (zwr (4 * x6)))) + 3) < 160) ∧ (zcl d 139 0 0 [zr 67, zi (I 80 ((zwr ((zwr ((zwr (40 * x1)) + x3)) + (zwr (4 * x6)))).toNat)), zi (I 80 ((zwr ((zwr ((zwr ((zwr (40 * x1)) + x3)) + (zwr (4 * x6)))) + 1)).toNat)), zi (I 80 ((zwr ((zwr ((zwr ((zwr (40 * x1)) + x3)) + (zwr (4 * x6)))) + 2)).toNat)), zi (I 80 ((zwr ((zwr ((zwr ((zwr (40 * x1)) + x3)) + (zwr (4 * x6)))) + 3)).toNat))] (c, I, zRg g) (fun v h1 => zRn (zcl d) 199 B Q 159 [some (zr 67), some (zi x1), some (zi x2), some (zi x3), some (zi x4), some (zi x5), some (zi x6), some (zi (zwr ((zwr ((zwr (40 * x1)) + x3)) + (zwr (4 * x6)))))] (zva v [zi x5]) h1))))))) ∧ (¬ (x3 ≤ zwr ((zwr ((I 79 x1.toNat) - (zwr (4 * x6)))) - 4)) → (Q (some (zi (-12))) (c, I, zRg g))))))))) :
    zRn (zcl d) 199 B Q 75 [some (zr 67), some (zi x1), some (zi x2), some (zi x3), some (zi x4), some (zi x5), some (zi x6), none] [] (c, I, zRg g) :=
  zgo [4, 16, 29, 75, 159] 51 (And.intro (fun u694 => (t.1 u694)) (fun u694 => And.intro (fun u695 => ((t.2 u694).1 u695)) (fun u695 => And.intro rfl (Exists.intro (some 79) (And.intro rfl (And.intro rfl (And.intro ((t.2 u694).2 u695).1 (And.intro (fun u696 => And.intro rfl (Exists.intro (some 80) (And.intro rfl (And.intro rfl (And.intro (((t.2 u694).2 u695).2.1 u696).1 (And.intro rfl (Exists.intro (some 80) (And.intro rfl (And.intro rfl (And.intro (((t.2 u694).2 u695).2.1 u696).2.1 (And.intro rfl (Exists.intro (some 80) (And.intro rfl (And.intro rfl (And.intro (((t.2 u694).2 u695).2.1 u696).2.2.1 (And.intro rfl (Exists.intro (some 80) (And.intro rfl (And.intro rfl (And.intro (((t.2 u694).2 u695).2.1 u696).2.2.2.1 (Exists.intro 139 (And.intro rfl (Exists.intro 0 (Exists.intro 0 (And.intro (Or.inl rfl) (And.intro (Or.inl rfl) ((((t.2 u694).2 u695).2.1 u696).2.2.2.2))))))))))))))))))))))))))) (fun u696 => (((t.2 u694).2 u695).2.2 u696))))))))))
theorem g_x12_crew_159 {d : Nat} {B : Nat × Nat} {Q : zQ} {c : Nat × Nat × Nat} {I : Nat → Nat → Int} {g : Nat} {x1 x2 x3 x4 x5 x6 x7 s0 s1 : Int}
    (t : (s0 < 0 → (zRn (zcl d) 199 B Q 75 [some (zr 67), some (zi x1), some (zi x2), some (zi x3), some (zi x4), some (zi (zwr (s1 + 0))), some (zi (zwr (x6 + 1))), some (zi x7)] [] (c, I, zRg g))) ∧ (¬ (s0 < 0) → (zRn (zcl d) 199 B Q 75 [some (zr 67), some (zi x1), some (zi x2), some (zi x3), some (zi x4), some (zi (zwr (s1 + 1))), some (zi (zwr (x6 + 1))), some (zi x7)] [] (c, I, zRg g)))) :
    zRn (zcl d) 199 B Q 159 [some (zr 67), some (zi x1), some (zi x2), some (zi x3), some (zi x4), some (zi x5), some (zi x6), some (zi x7)] [zi s0, zi s1] (c, I, zRg g) :=
  zgo [4, 16, 29, 75, 159] 7 (And.intro (fun u697 => (t.1 u697)) (fun u697 => (t.2 u697)))
theorem g_x12_above_0 {d : Nat} {B : Nat × Nat} {Q : zQ} {c : Nat × Nat × Nat} {I : Nat → Nat → Int} {g : Nat} {x0 : Int}
    (t : (x0 ≠ 0 → ((x0 ≠ 3 → ((x0 ≠ 4 → (Q (some (zi 0)) (c, I, zRg g))) ∧ (¬ (x0 ≠ 4) → (Q (some (zi 2)) (c, I, zRg g))))) ∧ (¬ (x0 ≠ 3) → (Q (some (zi 1)) (c, I, zRg g))))) ∧ (¬ (x0 ≠ 0) → (Q (some (zi (-1))) (c, I, zRg g)))) :
    zRn (zcl d) 200 B Q 0 [some (zi x0)] [] (c, I, zRg g) :=
  zgo [] 10 (And.intro (fun u698 => And.intro (fun u699 => And.intro (fun u700 => (((t.1 u698).1 u699).1 u700)) (fun u700 => (((t.1 u698).1 u699).2 u700))) (fun u699 => ((t.1 u698).2 u699))) (fun u698 => (t.2 u698)))
theorem g_x12_taken_0 {d : Nat} {B : Nat × Nat} {Q : zQ} {c : Nat × Nat × Nat} {I : Nat → Nat → Int} {g : Nat} {x1 x2 : Int}
    (t : zcl d 130 0 0 [zl x2, zl 0, zl 5] (c, I, zRg g) (fun v h1 => zRn (zcl d) 201 B Q 9 [some (zr 67), some (zi x1), some (zi x2), none] (zva v []) h1)) :
    zRn (zcl d) 201 B Q 0 [some (zr 67), some (zi x1), some (zi x2), none] [] (c, I, zRg g) :=
  zgo [9, 20, 37, 51] 4 (Exists.intro 0 (Exists.intro 0 (And.intro (Or.inl rfl) (And.intro (Or.inl rfl) t))))
theorem g_x12_taken_9 {d : Nat} {B : Nat × Nat} {Q : zQ} {c : Nat × Nat × Nat} {I : Nat → Nat → Int} {g : Nat} {x1 x2 s0 : Int}
    (t : (s0 ≠ 0 → (zcl d 134 0 0 [zr 67, zi x1] (c, I, zRg g) (fun v h1 => zRn (zcl d) 201 B Q 20 [some (zr 67), some (zi x1), some (zi x2), none] (zva v []) h1))) ∧ (¬ (s0 ≠ 0) → (Q (some (zi (-2))) (c, I, zRg g)))) :
    zRn (zcl d) 201 B Q 9 [some (zr 67), some (zi x1), some (zi x2), none] [zi s0] (c, I, zRg g) :=
  zgo [9, 20, 37, 51] 3 (And.intro (fun u701 => Exists.intro 134 (And.intro rfl (Exists.intro 0 (Exists.intro 0 (And.intro (Or.inl rfl) (And.intro (Or.inl rfl) (t.1 u701))))))) (fun u701 => (t.2 u701)))
theorem g_x12_taken_20 {d : Nat} {B : Nat × Nat} {Q : zQ} {c : Nat × Nat × Nat} {I : Nat → Nat → Int} {g : Nat} {x1 x2 s0 : Int}
    (t : (s0 ≠ 0 → ((0 ≤ zwr ((zwr (5 * x1)) + 4) ∧ zwr ((zwr (5 * x1)) + 4) < 25) ∧ (zRn (zcl d) 201 B Q 37 [some (zr 67), some (zi x1), some (zi x2), some (zi (I 71 ((zwr ((zwr (5 * x1)) + 4)).toNat)))] [] (c, I, zRg g)))) ∧ (¬ (s0 ≠ 0) → (Q (some (zi (-11))) (c, I, zRg g)))) :
    zRn (zcl d) 201 B Q 20 [some (zr 67), some (zi x1), some (zi x2), none] [zi s0] (c, I, zRg g) :=
  zgo [9, 20, 37, 51] 10 (And.intro (fun u702 => And.intro rfl (Exists.intro (some 71) (And.intro rfl (And.intro rfl (And.intro (t.1 u702).1 ((t.1 u702).2)))))) (fun u702 => (t.2 u702)))
theorem g_x12_taken_37 {d : Nat} {B : Nat × Nat} {Q : zQ} {c : Nat × Nat × Nat} {I : Nat → Nat → Int} {g : Nat} {x1 x2 x3 : Int}
    (t : (x3 = (-1) → ((x3 ≠ x2 → (Q (some (zi (-13))) (c, I, zRg g))) ∧ (¬ (x3 ≠ x2) → ((0 ≤ zwr (5 * x1) ∧ zwr (5 * x1) < 25) ∧ (Q (some (zi (I 71 ((zwr (5 * x1)).toNat)))) (c, I, zRg g)))))) ∧ (¬ (x3 = (-1)) → ((x3 = x2 → ((x3 ≠ x2 → (Q (some (zi (-13))) (c, I, zRg g))) ∧ (¬ (x3 ≠ x2) → ((0 ≤ zwr (5 * x1) ∧ zwr (5 * x1) < 25) ∧ (Q (some (zi (I 71 ((zwr (5 * x1)).toNat)))) (c, I, zRg g)))))) ∧ (¬ (x3 = x2) → (zcl d 200 0 0 [zi x3] (c, I, zRg g) (fun v h1 => zRn (zcl d) 201 B Q 51 [some (zr 67), some (zi x1), some (zi x2), some (zi x3)] (zva v []) h1)))))) :
    zRn (zcl d) 201 B Q 37 [some (zr 67), some (zi x1), some (zi x2), some (zi x3)] [] (c, I, zRg g) :=
  zgo [9, 20, 37, 51] 16 (And.intro (fun u703 => And.intro (fun u704 => ((t.1 u703).1 u704)) (fun u704 => And.intro rfl (Exists.intro (some 71) (And.intro rfl (And.intro rfl (And.intro ((t.1 u703).2 u704).1 (((t.1 u703).2 u704).2))))))) (fun u703 => And.intro (fun u705 => And.intro (fun u706 => (((t.2 u703).1 u705).1 u706)) (fun u706 => And.intro rfl (Exists.intro (some 71) (And.intro rfl (And.intro rfl (And.intro (((t.2 u703).1 u705).2 u706).1 ((((t.2 u703).1 u705).2 u706).2))))))) (fun u705 => Exists.intro 0 (Exists.intro 0 (And.intro (Or.inl rfl) (And.intro (Or.inl rfl) ((t.2 u703).2 u705)))))))
theorem g_x12_taken_51 {d : Nat} {B : Nat × Nat} {Q : zQ} {c : Nat × Nat × Nat} {I : Nat → Nat → Int} {g : Nat} {x1 x2 x3 s0 : Int}
    (t : zRn (zcl d) 201 B Q 37 [some (zr 67), some (zi x1), some (zi x2), some (zi s0)] [] (c, I, zRg g)) :
    zRn (zcl d) 201 B Q 51 [some (zr 67), some (zi x1), some (zi x2), some (zi x3)] [zi s0] (c, I, zRg g) :=
  zgo [9, 20, 37, 51] 2 (t)
