/-! rules of the stretches of the class, written by wip/whole/seg.py -/
theorem g_x0_isThere_0 {d : Nat} {B : Nat × Nat} {Q : zQ} {c : Nat × Nat × Nat} {I : Nat → Nat → Int} {g : Nat} {x1 : Int} {a0 : Nat}
    (t : (x1 < 0 → (Q (some (zi 0)) (c, I, zRg g))) ∧ (¬ (x1 < 0) → (((zSh a0).1 = 0) ∧ ((I a0 2 ≤ x1 → (Q (some (zi 0)) (c, I, zRg g))) ∧ (¬ (I a0 2 ≤ x1) → (Q (some (zi 1)) (c, I, zRg g))))))) :
    zRn (zcl d) 1 B Q 0 [some (zr a0), some (zi x1)] [] (c, I, zRg g) :=
  zgo [] 8 (And.intro (fun u1 => And.intro (Or.inl rfl) (t.1 u1)) (fun u1 => And.intro (t.2 u1).1 (And.intro (fun u2 => And.intro (Or.inl rfl) ((t.2 u1).2.1 u2)) (fun u2 => And.intro (Or.inr rfl) ((t.2 u1).2.2 u2)))))
theorem g_x0_takeFirst_0 {d : Nat} {B : Nat × Nat} {Q : zQ} {c : Nat × Nat × Nat} {I : Nat → Nat → Int} {g : Nat} {a0 y1 : Nat}
    (t : ((zSh a0).1 = 0) ∧ ((zRg g a0 1 = some y1) ∧ (((zSh y1).1 = 100) ∧ ((0 ≤ (0 : Int) ∧ (0 : Int) < ((zSh y1).2 : Nat)) ∧ (zRn (zcl d) 2 B Q 9 [some (zr a0), some (zi (I y1 0)), some (zi 1)] [] (c, I, zRg g)))))) :
    zRn (zcl d) 2 B Q 0 [some (zr a0), none, none] [] (c, I, zRg g) :=
  zgo [9] 7 (And.intro t.1 (Exists.intro (some y1) (And.intro t.2.1 (And.intro t.2.2.1 (And.intro t.2.2.2.1 t.2.2.2.2)))))
theorem g_x0_takeFirst_9 {d : Nat} {B : Nat × Nat} {Q : zQ} {c : Nat × Nat × Nat} {I : Nat → Nat → Int} {g : Nat} {x1 x2 : Int} {a0 y1 y2 : Nat}
    (t : ((zSh a0).1 = 0) ∧ ((I a0 3 ≤ x2 → (((zSh a0).1 = 0) ∧ (((zSh a0).1 = 0) ∧ (Q (some (zi x1)) (c, (z2 I a0 3 (zwr ((I a0 3) - 1))), zRg g))))) ∧ (¬ (I a0 3 ≤ x2) → (((zSh a0).1 = 0) ∧ ((zRg g a0 1 = some y1) ∧ (((zSh a0).1 = 0) ∧ ((zRg g a0 1 = some y2) ∧ (((zSh y2).1 = 100) ∧ ((0 ≤ x2 ∧ x2 < ((zSh y2).2 : Nat)) ∧ (((zSh y1).1 = 100) ∧ ((0 ≤ zwr (x2 - 1) ∧ zwr (x2 - 1) < ((zSh y1).2 : Nat)) ∧ (zRn (zcl d) 2 B Q 9 [some (zr a0), some (zi x1), some (zi (zwr (x2 + 1)))] [] (c, (z2 I y1 (zwr (x2 - 1)).toNat (I y2 x2.toNat)), zRg g))))))))))))) :
    zRn (zcl d) 2 B Q 9 [some (zr a0), some (zi x1), some (zi x2)] [] (c, I, zRg g) :=
  zgo [9] 16 (And.intro t.1 (And.intro (fun u3 => And.intro (t.2.1 u3).1 (And.intro (t.2.1 u3).2.1 ((t.2.1 u3).2.2))) (fun u3 => And.intro (t.2.2 u3).1 (Exists.intro (some y1) (And.intro (t.2.2 u3).2.1 (And.intro (t.2.2 u3).2.2.1 (Exists.intro (some y2) (And.intro (t.2.2 u3).2.2.2.1 (And.intro (t.2.2 u3).2.2.2.2.1 (And.intro (t.2.2 u3).2.2.2.2.2.1 (And.intro (t.2.2 u3).2.2.2.2.2.2.1 (And.intro (t.2.2 u3).2.2.2.2.2.2.2.1 ((t.2.2 u3).2.2.2.2.2.2.2.2)))))))))))))
theorem g_x0_become_0 {d : Nat} {B : Nat × Nat} {Q : zQ} {c : Nat × Nat × Nat} {I : Nat → Nat → Int} {g : Nat} {a0 a1 : Nat}
    (t : ((zSh a1).1 = 0) ∧ (((zSh a0).1 = 0) ∧ (((zSh a1).1 = 0) ∧ (((zSh a0).1 = 0) ∧ (((zSh a1).1 = 0) ∧ (((zSh a0).1 = 0) ∧ (((zSh a1).1 = 0) ∧ (((zSh a0).1 = 0) ∧ (((zSh a1).1 = 0) ∧ (((zSh a0).1 = 0) ∧ (zRn (zcl d) 3 B Q 42 [some (zr a0), some (zr a1), some (zi 0)] [] (c, (z2 (z2 (z2 (z2 (z2 I a0 2 (I a1 2)) a0 3 ((z2 I a0 2 (I a1 2)) a1 3)) a0 4 ((z2 (z2 I a0 2 (I a1 2)) a0 3 ((z2 I a0 2 (I a1 2)) a1 3)) a1 4)) a0 5 ((z2 (z2 (z2 I a0 2 (I a1 2)) a0 3 ((z2 I a0 2 (I a1 2)) a1 3)) a0 4 ((z2 (z2 I a0 2 (I a1 2)) a0 3 ((z2 I a0 2 (I a1 2)) a1 3)) a1 4)) a1 5)) a0 6 ((z2 (z2 (z2 (z2 I a0 2 (I a1 2)) a0 3 ((z2 I a0 2 (I a1 2)) a1 3)) a0 4 ((z2 (z2 I a0 2 (I a1 2)) a0 3 ((z2 I a0 2 (I a1 2)) a1 3)) a1 4)) a0 5 ((z2 (z2 (z2 I a0 2 (I a1 2)) a0 3 ((z2 I a0 2 (I a1 2)) a1 3)) a0 4 ((z2 (z2 I a0 2 (I a1 2)) a0 3 ((z2 I a0 2 (I a1 2)) a1 3)) a1 4)) a1 5)) a1 6)), zRg g)))))))))))) :
    zRn (zcl d) 3 B Q 0 [some (zr a0), some (zr a1), none] [] (c, I, zRg g) :=
  zgo [42, 65, 73] 22 (And.intro t.1 (And.intro t.2.1 (And.intro t.2.2.1 (And.intro t.2.2.2.1 (And.intro t.2.2.2.2.1 (And.intro t.2.2.2.2.2.1 (And.intro t.2.2.2.2.2.2.1 (And.intro t.2.2.2.2.2.2.2.1 (And.intro t.2.2.2.2.2.2.2.2.1 (And.intro t.2.2.2.2.2.2.2.2.2.1 t.2.2.2.2.2.2.2.2.2.2))))))))))
theorem g_x0_become_42 {d : Nat} {B : Nat × Nat} {Q : zQ} {c : Nat × Nat × Nat} {I : Nat → Nat → Int} {g : Nat} {x2 : Int} {a0 a1 y1 y2 y3 y4 : Nat}
    (t : ((zSh a0).1 = 0) ∧ ((I a0 2 ≤ x2 → (zRn (zcl d) 3 B Q 73 [some (zr a0), some (zr a1), some (zi 0)] [] (c, I, zRg g))) ∧ (¬ (I a0 2 ≤ x2) → (((zSh a0).1 = 0) ∧ ((zRg g a0 0 = some y1) ∧ ((102 ≤ (zSh y1).1 ∧ (zSh y1).1 ≤ 105) ∧ ((0 ≤ x2 ∧ x2 < ((zSh y1).2 : Nat)) ∧ ((zRg g y1 x2.toNat = some y2) ∧ (((zSh a1).1 = 0) ∧ ((zRg g a1 0 = some y3) ∧ ((102 ≤ (zSh y3).1 ∧ (zSh y3).1 ≤ 105) ∧ ((0 ≤ x2 ∧ x2 < ((zSh y3).2 : Nat)) ∧ ((zRg g y3 x2.toNat = some y4) ∧ ((zsel ((zSh y2).1 : Nat) [(5, 29)] = some 29) ∧ (zcl d 29 0 0 [zr y2, zr y4] (c, I, zRg g) (fun v h1 => zRn (zcl d) 3 B Q 65 [some (zr a0), some (zr a1), some (zi x2)] (zva v []) h1)))))))))))))))) :
    zRn (zcl d) 3 B Q 42 [some (zr a0), some (zr a1), some (zi x2)] [] (c, I, zRg g) :=
  zgo [42, 65, 73] 12 (And.intro t.1 (And.intro (fun u4 => (t.2.1 u4)) (fun u4 => And.intro (t.2.2 u4).1 (Exists.intro (some y1) (And.intro (t.2.2 u4).2.1 (And.intro (t.2.2 u4).2.2.1 (And.intro (t.2.2 u4).2.2.2.1 (Exists.intro (some y2) (And.intro (t.2.2 u4).2.2.2.2.1 (And.intro (t.2.2 u4).2.2.2.2.2.1 (Exists.intro (some y3) (And.intro (t.2.2 u4).2.2.2.2.2.2.1 (And.intro (t.2.2 u4).2.2.2.2.2.2.2.1 (And.intro (t.2.2 u4).2.2.2.2.2.2.2.2.1 (Exists.intro (some y4) (And.intro (t.2.2 u4).2.2.2.2.2.2.2.2.2.1 (Exists.intro 29 (And.intro (t.2.2 u4).2.2.2.2.2.2.2.2.2.2.1 (And.intro (Nat.le_of_ble_eq_true rfl) (Exists.intro 0 (Exists.intro 0 (And.intro (Or.inl rfl) (And.intro (Or.inl rfl) ((t.2.2 u4).2.2.2.2.2.2.2.2.2.2.2))))))))))))))))))))))))
theorem g_x0_become_65 {d : Nat} {B : Nat × Nat} {Q : zQ} {c : Nat × Nat × Nat} {I : Nat → Nat → Int} {g : Nat} {x2 : Int} {a0 a1 : Nat}
    (t : zRn (zcl d) 3 B Q 42 [some (zr a0), some (zr a1), some (zi (zwr (x2 + 1)))] [] (c, I, zRg g)) :
    zRn (zcl d) 3 B Q 65 [some (zr a0), some (zr a1), some (zi x2)] [] (c, I, zRg g) :=
  zgo [42, 65, 73] 2 (t)
theorem g_x0_become_73 {d : Nat} {B : Nat × Nat} {Q : zQ} {c : Nat × Nat × Nat} {I : Nat → Nat → Int} {g : Nat} {x2 : Int} {a0 a1 y1 y2 : Nat}
    (t : ((zSh a0).1 = 0) ∧ ((I a0 3 ≤ x2 → (Q none (c, I, zRg g))) ∧ (¬ (I a0 3 ≤ x2) → (((zSh a0).1 = 0) ∧ ((zRg g a0 1 = some y1) ∧ (((zSh a1).1 = 0) ∧ ((zRg g a1 1 = some y2) ∧ (((zSh y2).1 = 100) ∧ ((0 ≤ x2 ∧ x2 < ((zSh y2).2 : Nat)) ∧ (((zSh y1).1 = 100) ∧ ((0 ≤ x2 ∧ x2 < ((zSh y1).2 : Nat)) ∧ (zRn (zcl d) 3 B Q 73 [some (zr a0), some (zr a1), some (zi (zwr (x2 + 1)))] [] (c, (z2 I y1 x2.toNat (I y2 x2.toNat)), zRg g))))))))))))) :
    zRn (zcl d) 3 B Q 73 [some (zr a0), some (zr a1), some (zi x2)] [] (c, I, zRg g) :=
  zgo [42, 65, 73] 14 (And.intro t.1 (And.intro (fun u5 => (t.2.1 u5)) (fun u5 => And.intro (t.2.2 u5).1 (Exists.intro (some y1) (And.intro (t.2.2 u5).2.1 (And.intro (t.2.2 u5).2.2.1 (Exists.intro (some y2) (And.intro (t.2.2 u5).2.2.2.1 (And.intro (t.2.2 u5).2.2.2.2.1 (And.intro (t.2.2 u5).2.2.2.2.2.1 (And.intro (t.2.2 u5).2.2.2.2.2.2.1 (And.intro (t.2.2 u5).2.2.2.2.2.2.2.1 ((t.2.2 u5).2.2.2.2.2.2.2.2)))))))))))))
theorem g_x11_isSheet_0 {d : Nat} {B : Nat × Nat} {Q : zQ} {c : Nat × Nat × Nat} {I : Nat → Nat → Int} {g : Nat} {x0 : Int}
    (t : (x0 < 0 → (Q (some (zi 0)) (c, I, zRg g))) ∧ (¬ (x0 < 0) → ((4 ≤ x0 → (Q (some (zi 0)) (c, I, zRg g))) ∧ (¬ (4 ≤ x0) → (Q (some (zi 1)) (c, I, zRg g)))))) :
    zRn (zcl d) 129 B Q 0 [some (zi x0)] [] (c, I, zRg g) :=
  zgo [] 7 (And.intro (fun u6 => And.intro (Or.inl rfl) (t.1 u6)) (fun u6 => And.intro (fun u7 => And.intro (Or.inl rfl) ((t.2 u6).1 u7)) (fun u7 => And.intro (Or.inr rfl) ((t.2 u6).2 u7))))
theorem g_x1_keptOf_0 {d : Nat} {B : Nat × Nat} {Q : zQ} {c : Nat × Nat × Nat} {I : Nat → Nat → Int} {g : Nat} {x1 x2 : Int} {a0 : Nat}
    (t : ((zSh a0).1 < 13) ∧ (zcl d 66 0 0 [zr a0, zi x1, zi x2] (c, I, zRg g) (fun v h1 => zRn (zcl d) 6 B Q 6 [some (zr a0), some (zi x1), some (zi x2)] (zva v []) h1))) :
    zRn (zcl d) 6 B Q 0 [some (zr a0), some (zi x1), some (zi x2)] [] (c, I, zRg g) :=
  zgo [6] 3 (And.intro t.1 (And.intro (Nat.le_of_ble_eq_true rfl) (Exists.intro 0 (Exists.intro 0 (And.intro (Or.inl rfl) (And.intro (Or.inl rfl) t.2))))))
theorem g_x1_keptOf_6 {d : Nat} {B : Nat × Nat} {Q : zQ} {c : Nat × Nat × Nat} {I : Nat → Nat → Int} {g : Nat} {x1 x2 s0 : Int} {a0 : Nat}
    (t : Q (some (zi (zwr (s0 * 2)))) (c, I, zRg g)) :
    zRn (zcl d) 6 B Q 6 [some (zr a0), some (zi x1), some (zi x2)] [zi s0] (c, I, zRg g) :=
  zgo [6] 2 (t)
theorem g_x1_wordsFor_0 {d : Nat} {B : Nat × Nat} {Q : zQ} {c : Nat × Nat × Nat} {I : Nat → Nat → Int} {g : Nat} {x2 x3 : Int} {a0 a1 : Nat}
    (t : ((zSh a0).1 < 13) ∧ (zcl d 67 0 0 [zr a0, zr a1, zi x2, zi x3] (c, I, zRg g) (fun v h1 => zRn (zcl d) 7 B Q 7 [some (zr a0), some (zr a1), some (zi x2), some (zi x3), none] (zva v []) h1))) :
    zRn (zcl d) 7 B Q 0 [some (zr a0), some (zr a1), some (zi x2), some (zi x3), none] [] (c, I, zRg g) :=
  zgo [7] 4 (And.intro t.1 (And.intro (Nat.le_of_ble_eq_true rfl) (Exists.intro 0 (Exists.intro 0 (And.intro (Or.inl rfl) (And.intro (Or.inl rfl) t.2))))))
theorem g_x1_wordsFor_7 {d : Nat} {B : Nat × Nat} {Q : zQ} {c : Nat × Nat × Nat} {I : Nat → Nat → Int} {g : Nat} {x2 x3 s0 : Int} {a0 a1 : Nat} {o4 : Option zV}
    (t : Q (some (zi (zor s0 (zand (zshl s0 1) x2)))) (c, I, zRg g)) :
    zRn (zcl d) 7 B Q 7 [some (zr a0), some (zr a1), some (zi x2), some (zi x3), o4] [zi s0] (c, I, zRg g) :=
  zgo [7] 8 (t)
theorem g_x1_wearies_0 {d : Nat} {B : Nat × Nat} {Q : zQ} {c : Nat × Nat × Nat} {I : Nat → Nat → Int} {g : Nat} {x1 : Int} {a0 a2 : Nat}
    (t : ((zSh a0).1 < 13) ∧ (zcl d 68 0 0 [zr a0, zi x1, zr a2] (c, I, zRg g) (fun v h1 => zRn (zcl d) 8 B Q 6 [some (zr a0), some (zi x1), some (zr a2)] (zva v []) h1))) :
    zRn (zcl d) 8 B Q 0 [some (zr a0), some (zi x1), some (zr a2)] [] (c, I, zRg g) :=
  zgo [6] 3 (And.intro t.1 (And.intro (Nat.le_of_ble_eq_true rfl) (Exists.intro 0 (Exists.intro 0 (And.intro (Or.inl rfl) (And.intro (Or.inl rfl) t.2))))))
theorem g_x1_wearies_6 {d : Nat} {B : Nat × Nat} {Q : zQ} {c : Nat × Nat × Nat} {I : Nat → Nat → Int} {g : Nat} {x1 s0 : Int} {a0 a2 : Nat}
    (t : Q (some (zi (zwr (s0 + 1)))) (c, I, zRg g)) :
    zRn (zcl d) 8 B Q 6 [some (zr a0), some (zi x1), some (zr a2)] [zi s0] (c, I, zRg g) :=
  zgo [6] 2 (t)
theorem g_x1_takesIn_0 {d : Nat} {B : Nat × Nat} {Q : zQ} {c : Nat × Nat × Nat} {I : Nat → Nat → Int} {g : Nat} {x1 x2 : Int} {a0 : Nat}
    (t : (x1 ≠ 0 → (Q (some (zi 1)) (c, I, zRg g))) ∧ (¬ (x1 ≠ 0) → (zcl d 202 0 0 [zi x2] (c, I, zRg g) (fun v h1 => zRn (zcl d) 9 B Q 8 [some (zr a0), some (zi x1), some (zi x2)] (zva v []) h1)))) :
    zRn (zcl d) 9 B Q 0 [some (zr a0), some (zi x1), some (zi x2)] [] (c, I, zRg g) :=
  zgo [8] 4 (And.intro (fun u8 => And.intro (Or.inr rfl) (t.1 u8)) (fun u8 => And.intro rfl (And.intro (Nat.le_of_ble_eq_true rfl) (Exists.intro 0 (Exists.intro 0 (And.intro (Or.inl rfl) (And.intro (Or.inl rfl) (t.2 u8))))))))
theorem g_x1_takesIn_8 {d : Nat} {B : Nat × Nat} {Q : zQ} {c : Nat × Nat × Nat} {I : Nat → Nat → Int} {g : Nat} {x1 x2 s0 : Int} {a0 : Nat}
    (t : (s0 ≠ 1 → (Q (some (zi 0)) (c, I, zRg g))) ∧ (¬ (s0 ≠ 1) → (Q (some (zi 1)) (c, I, zRg g)))) :
    zRn (zcl d) 9 B Q 8 [some (zr a0), some (zi x1), some (zi x2)] [zi s0] (c, I, zRg g) :=
  zgo [8] 4 (And.intro (fun u9 => And.intro (Or.inl rfl) (t.1 u9)) (fun u9 => And.intro (Or.inr rfl) (t.2 u9)))
theorem g_x2_keptOf_0 {d : Nat} {B : Nat × Nat} {Q : zQ} {c : Nat × Nat × Nat} {I : Nat → Nat → Int} {g : Nat} {x1 x2 : Int} {a0 : Nat}
    (t : ((zSh a0).1 < 13) ∧ (zcl d 66 0 0 [zr a0, zi x1, zi x2] (c, I, zRg g) (fun v h1 => zRn (zcl d) 12 B Q 6 [some (zr a0), some (zi x1), some (zi x2)] (zva v []) h1))) :
    zRn (zcl d) 12 B Q 0 [some (zr a0), some (zi x1), some (zi x2)] [] (c, I, zRg g) :=
  zgo [6] 3 (And.intro t.1 (And.intro (Nat.le_of_ble_eq_true rfl) (Exists.intro 0 (Exists.intro 0 (And.intro (Or.inl rfl) (And.intro (Or.inl rfl) t.2))))))
theorem g_x2_keptOf_6 {d : Nat} {B : Nat × Nat} {Q : zQ} {c : Nat × Nat × Nat} {I : Nat → Nat → Int} {g : Nat} {x1 x2 s0 : Int} {a0 : Nat}
    (t : Q (some (zi (zwr (s0 + 1)))) (c, I, zRg g)) :
    zRn (zcl d) 12 B Q 6 [some (zr a0), some (zi x1), some (zi x2)] [zi s0] (c, I, zRg g) :=
  zgo [6] 2 (t)
theorem g_x2_wordsFor_0 {d : Nat} {B : Nat × Nat} {Q : zQ} {c : Nat × Nat × Nat} {I : Nat → Nat → Int} {g : Nat} {x2 x3 : Int} {a0 a1 : Nat}
    (t : ((zSh a0).1 < 13) ∧ (zcl d 67 0 0 [zr a0, zr a1, zi x2, zi x3] (c, I, zRg g) (fun v h1 => zRn (zcl d) 13 B Q 7 [some (zr a0), some (zr a1), some (zi x2), some (zi x3)] (zva v []) h1))) :
    zRn (zcl d) 13 B Q 0 [some (zr a0), some (zr a1), some (zi x2), some (zi x3)] [] (c, I, zRg g) :=
  zgo [7] 4 (And.intro t.1 (And.intro (Nat.le_of_ble_eq_true rfl) (Exists.intro 0 (Exists.intro 0 (And.intro (Or.inl rfl) (And.intro (Or.inl rfl) t.2))))))
theorem g_x2_wordsFor_7 {d : Nat} {B : Nat × Nat} {Q : zQ} {c : Nat × Nat × Nat} {I : Nat → Nat → Int} {g : Nat} {x2 x3 s0 : Int} {a0 a1 : Nat}
    (t : ((zSh a1).1 = 5) ∧ (Q (some (zi (zor s0 (zshl 1 (I a1 1))))) (c, I, zRg g))) :
    zRn (zcl d) 13 B Q 7 [some (zr a0), some (zr a1), some (zi x2), some (zi x3)] [zi s0] (c, I, zRg g) :=
  zgo [7] 5 (And.intro t.1 t.2)
theorem g_x2_wearies_0 {d : Nat} {B : Nat × Nat} {Q : zQ} {c : Nat × Nat × Nat} {I : Nat → Nat → Int} {g : Nat} {x1 : Int} {a0 a2 : Nat}
    (t : Q (some (zi 0)) (c, I, zRg g)) :
    zRn (zcl d) 14 B Q 0 [some (zr a0), some (zi x1), some (zr a2)] [] (c, I, zRg g) :=
  zgo [] 1 (t)
theorem g_x2_takesIn_0 {d : Nat} {B : Nat × Nat} {Q : zQ} {c : Nat × Nat × Nat} {I : Nat → Nat → Int} {g : Nat} {x1 x2 : Int} {a0 : Nat}
    (t : Q (some (zi 0)) (c, I, zRg g)) :
    zRn (zcl d) 15 B Q 0 [some (zr a0), some (zi x1), some (zi x2)] [] (c, I, zRg g) :=
  zgo [] 1 (And.intro (Or.inl rfl) t)
theorem g_x3_wordsFor_0 {d : Nat} {B : Nat × Nat} {Q : zQ} {c : Nat × Nat × Nat} {I : Nat → Nat → Int} {g : Nat} {x2 x3 : Int} {a0 a1 : Nat}
    (t : ((zSh a0).1 < 13) ∧ (zcl d 13 0 0 [zr a0, zr a1, zi x2, zi x3] (c, I, zRg g) (fun v h1 => zRn (zcl d) 18 B Q 7 [some (zr a0), some (zr a1), some (zi x2), some (zi x3)] (zva v []) h1))) :
    zRn (zcl d) 18 B Q 0 [some (zr a0), some (zr a1), some (zi x2), some (zi x3)] [] (c, I, zRg g) :=
  zgo [7] 4 (And.intro t.1 (And.intro (Nat.le_of_ble_eq_true rfl) (Exists.intro 0 (Exists.intro 0 (And.intro (Or.inl rfl) (And.intro (Or.inl rfl) t.2))))))
theorem g_x3_wordsFor_7 {d : Nat} {B : Nat × Nat} {Q : zQ} {c : Nat × Nat × Nat} {I : Nat → Nat → Int} {g : Nat} {x2 x3 s0 : Int} {a0 a1 : Nat}
    (t : ((zSh a1).1 = 5) ∧ (Q (some (zi (zxor s0 (zshl 1 (zwr (9 - (I a1 1))))))) (c, I, zRg g))) :
    zRn (zcl d) 18 B Q 7 [some (zr a0), some (zr a1), some (zi x2), some (zi x3)] [zi s0] (c, I, zRg g) :=
  zgo [7] 7 (And.intro t.1 t.2)
theorem g_x3_wearies_0 {d : Nat} {B : Nat × Nat} {Q : zQ} {c : Nat × Nat × Nat} {I : Nat → Nat → Int} {g : Nat} {x1 : Int} {a0 a2 : Nat}
    (t : ((zSh a2).1 = 5) ∧ (Q (some (zi (I a2 1))) (c, I, zRg g))) :
    zRn (zcl d) 19 B Q 0 [some (zr a0), some (zi x1), some (zr a2)] [] (c, I, zRg g) :=
  zgo [] 2 (And.intro t.1 t.2)
theorem g_x3_takesIn_0 {d : Nat} {B : Nat × Nat} {Q : zQ} {c : Nat × Nat × Nat} {I : Nat → Nat → Int} {g : Nat} {x1 x2 : Int} {a0 : Nat}
    (t : (x1 = 0 ∨ x1 = 1) ∧ (Q (some (zi x1)) (c, I, zRg g))) :
    zRn (zcl d) 20 B Q 0 [some (zr a0), some (zi x1), some (zi x2)] [] (c, I, zRg g) :=
  zgo [] 1 (And.intro t.1 t.2)
theorem g_x4_keptOf_0 {d : Nat} {B : Nat × Nat} {Q : zQ} {c : Nat × Nat × Nat} {I : Nat → Nat → Int} {g : Nat} {x1 x2 : Int} {a0 : Nat}
    (t : (zwr (Int.tmod x2 4) ≠ 0 → (((zSh a0).1 < 13) ∧ (zcl d 6 0 0 [zr a0, zi x1, zi x2] (c, I, zRg g) (fun v h1 => zRn (zcl d) 23 B Q 17 [some (zr a0), some (zi x1), some (zi x2)] (zva v []) h1)))) ∧ (¬ (zwr (Int.tmod x2 4) ≠ 0) → (zRn (zcl d) 23 B Q 17 [some (zr a0), some (zi x1), some (zi x2)] [zi 10] (c, I, zRg g)))) :
    zRn (zcl d) 23 B Q 0 [some (zr a0), some (zi x1), some (zi x2)] [] (c, I, zRg g) :=
  zgo [17] 7 (And.intro (by decide) (And.intro (fun u10 => And.intro (t.1 u10).1 (And.intro (Nat.le_of_ble_eq_true rfl) (Exists.intro 0 (Exists.intro 0 (And.intro (Or.inl rfl) (And.intro (Or.inl rfl) ((t.1 u10).2))))))) (fun u10 => (t.2 u10))))
theorem g_x4_keptOf_17 {d : Nat} {B : Nat × Nat} {Q : zQ} {c : Nat × Nat × Nat} {I : Nat → Nat → Int} {g : Nat} {x1 x2 s0 : Int} {a0 : Nat}
    (t : Q (some (zi s0)) (c, I, zRg g)) :
    zRn (zcl d) 23 B Q 17 [some (zr a0), some (zi x1), some (zi x2)] [zi s0] (c, I, zRg g) :=
  zgo [17] 0 (t)
theorem g_x4_wordsFor_0 {d : Nat} {B : Nat × Nat} {Q : zQ} {c : Nat × Nat × Nat} {I : Nat → Nat → Int} {g : Nat} {x2 x3 : Int} {a0 a1 : Nat}
    (t : ((zSh a0).1 < 13) ∧ (zcl d 7 0 0 [zr a0, zr a1, zi x2, zi x3] (c, I, zRg g) (fun v h1 => zRn (zcl d) 24 B Q 7 [some (zr a0), some (zr a1), some (zi x2), some (zi x3), none] (zva v []) h1))) :
    zRn (zcl d) 24 B Q 0 [some (zr a0), some (zr a1), some (zi x2), some (zi x3), none] [] (c, I, zRg g) :=
  zgo [7, 29] 4 (And.intro t.1 (And.intro (Nat.le_of_ble_eq_true rfl) (Exists.intro 0 (Exists.intro 0 (And.intro (Or.inl rfl) (And.intro (Or.inl rfl) t.2))))))
theorem g_x4_wordsFor_7 {d : Nat} {B : Nat × Nat} {Q : zQ} {c : Nat × Nat × Nat} {I : Nat → Nat → Int} {g : Nat} {x2 x3 s0 : Int} {a0 a1 : Nat} {o4 : Option zV}
    (t : (s0 ≠ 0 → (((zSh a1).1 = 5) ∧ (zcl d 102 0 0 [zi s0] (c, I, zRg g) (fun v h1 => zRn (zcl d) 24 B Q 29 [some (zr a0), some (zr a1), some (zi x2), some (zi x3), some (zi s0)] (zva v [zi (I a1 2), zi s0]) h1)))) ∧ (¬ (s0 ≠ 0) → (Q (some (zi 0)) (c, I, zRg g)))) :
    zRn (zcl d) 24 B Q 7 [some (zr a0), some (zr a1), some (zi x2), some (zi x3), o4] [zi s0] (c, I, zRg g) :=
  zgo [7, 29] 7 (And.intro (fun u11 => And.intro (t.1 u11).1 (And.intro rfl (And.intro (Nat.le_of_ble_eq_true rfl) (Exists.intro 0 (Exists.intro 0 (And.intro (Or.inl rfl) (And.intro (Or.inl rfl) ((t.1 u11).2)))))))) (fun u11 => (t.2 u11)))
theorem g_x4_wordsFor_29 {d : Nat} {B : Nat × Nat} {Q : zQ} {c : Nat × Nat × Nat} {I : Nat → Nat → Int} {g : Nat} {x2 x3 x4 s0 s1 s2 : Int} {a0 a1 : Nat}
    (t : Q (some (zi (zor s2 (zand s1 (zwr (s0 - 1)))))) (c, I, zRg g)) :
    zRn (zcl d) 24 B Q 29 [some (zr a0), some (zr a1), some (zi x2), some (zi x3), some (zi x4)] [zi s0, zi s1, zi s2] (c, I, zRg g) :=
  zgo [7, 29] 4 (t)
theorem g_x4_wearies_0 {d : Nat} {B : Nat × Nat} {Q : zQ} {c : Nat × Nat × Nat} {I : Nat → Nat → Int} {g : Nat} {x1 : Int} {a0 a2 : Nat}
    (t : ((zSh a0).1 < 13) ∧ (zcl d 8 0 0 [zr a0, zi x1, zr a2] (c, I, zRg g) (fun v h1 => zRn (zcl d) 25 B Q 6 [some (zr a0), some (zi x1), some (zr a2)] (zva v []) h1))) :
    zRn (zcl d) 25 B Q 0 [some (zr a0), some (zi x1), some (zr a2)] [] (c, I, zRg g) :=
  zgo [6] 3 (And.intro t.1 (And.intro (Nat.le_of_ble_eq_true rfl) (Exists.intro 0 (Exists.intro 0 (And.intro (Or.inl rfl) (And.intro (Or.inl rfl) t.2))))))
theorem g_x4_wearies_6 {d : Nat} {B : Nat × Nat} {Q : zQ} {c : Nat × Nat × Nat} {I : Nat → Nat → Int} {g : Nat} {x1 s0 : Int} {a0 a2 : Nat}
    (t : Q (some (zi (zwr (Int.tdiv s0 2)))) (c, I, zRg g)) :
    zRn (zcl d) 25 B Q 6 [some (zr a0), some (zi x1), some (zr a2)] [zi s0] (c, I, zRg g) :=
  zgo [6] 2 (And.intro (by decide) t)
theorem g_x5_worth_0 {d : Nat} {B : Nat × Nat} {Q : zQ} {c : Nat × Nat × Nat} {I : Nat → Nat → Int} {g : Nat} {x1 : Int} {a0 : Nat}
    (t : (x1 = 1 → (((zSh a0).1 = 5) ∧ (Q (some (zi (I a0 1))) (c, I, zRg g)))) ∧ (¬ (x1 = 1) → ((x1 = 2 → (((zSh a0).1 = 5) ∧ (Q (some (zi (I a0 2))) (c, I, zRg g)))) ∧ (¬ (x1 = 2) → ((x1 = 3 → (((zSh a0).1 = 5) ∧ (Q (some (zi (I a0 3))) (c, I, zRg g)))) ∧ (¬ (x1 = 3) → ((x1 = 4 → (((zSh a0).1 = 5) ∧ (Q (some (zi (I a0 4))) (c, I, zRg g)))) ∧ (¬ (x1 = 4) → (((zSh a0).1 = 5) ∧ (Q (some (zi (I a0 0))) (c, I, zRg g))))))))))) :
    zRn (zcl d) 27 B Q 0 [some (zr a0), some (zi x1)] [] (c, I, zRg g) :=
  zgo [] 4 (And.intro (fun u12 => And.intro (t.1 u12).1 ((t.1 u12).2)) (fun u12 => And.intro (fun u13 => And.intro ((t.2 u12).1 u13).1 (((t.2 u12).1 u13).2)) (fun u13 => And.intro (fun u14 => And.intro (((t.2 u12).2 u13).1 u14).1 ((((t.2 u12).2 u13).1 u14).2)) (fun u14 => And.intro (fun u15 => And.intro ((((t.2 u12).2 u13).2 u14).1 u15).1 (((((t.2 u12).2 u13).2 u14).1 u15).2)) (fun u15 => And.intro ((((t.2 u12).2 u13).2 u14).2 u15).1 (((((t.2 u12).2 u13).2 u14).2 u15).2))))))
theorem g_x5_become_0 {d : Nat} {B : Nat × Nat} {Q : zQ} {c : Nat × Nat × Nat} {I : Nat → Nat → Int} {g : Nat} {x1 x2 : Int} {a0 : Nat}
    (t : (x1 = 1 → (((zSh a0).1 = 5) ∧ (Q none (c, (z2 I a0 1 x2), zRg g)))) ∧ (¬ (x1 = 1) → ((x1 = 2 → (((zSh a0).1 = 5) ∧ (Q none (c, (z2 I a0 2 x2), zRg g)))) ∧ (¬ (x1 = 2) → ((x1 = 3 → (((zSh a0).1 = 5) ∧ (Q none (c, (z2 I a0 3 x2), zRg g)))) ∧ (¬ (x1 = 3) → ((x1 = 4 → (((zSh a0).1 = 5) ∧ (Q none (c, (z2 I a0 4 x2), zRg g)))) ∧ (¬ (x1 = 4) → (((zSh a0).1 = 5) ∧ (Q none (c, (z2 I a0 0 x2), zRg g))))))))))) :
    zRn (zcl d) 28 B Q 0 [some (zr a0), some (zi x1), some (zi x2)] [] (c, I, zRg g) :=
  zgo [] 6 (And.intro (fun u16 => And.intro (t.1 u16).1 ((t.1 u16).2)) (fun u16 => And.intro (fun u17 => And.intro ((t.2 u16).1 u17).1 (((t.2 u16).1 u17).2)) (fun u17 => And.intro (fun u18 => And.intro (((t.2 u16).2 u17).1 u18).1 ((((t.2 u16).2 u17).1 u18).2)) (fun u18 => And.intro (fun u19 => And.intro ((((t.2 u16).2 u17).2 u18).1 u19).1 (((((t.2 u16).2 u17).2 u18).1 u19).2)) (fun u19 => And.intro ((((t.2 u16).2 u17).2 u18).2 u19).1 (((((t.2 u16).2 u17).2 u18).2 u19).2))))))
theorem g_x5_become__0 {d : Nat} {B : Nat × Nat} {Q : zQ} {c : Nat × Nat × Nat} {I : Nat → Nat → Int} {g : Nat} {a0 a1 : Nat}
    (t : ((zSh a1).1 = 5) ∧ (((zSh a0).1 = 5) ∧ (((zSh a1).1 = 5) ∧ (((zSh a0).1 = 5) ∧ (((zSh a1).1 = 5) ∧ (((zSh a0).1 = 5) ∧ (((zSh a1).1 = 5) ∧ (((zSh a0).1 = 5) ∧ (((zSh a1).1 = 5) ∧ (((zSh a0).1 = 5) ∧ (Q none (c, (z2 (z2 (z2 (z2 (z2 I a0 0 (I a1 0)) a0 1 ((z2 I a0 0 (I a1 0)) a1 1)) a0 2 ((z2 (z2 I a0 0 (I a1 0)) a0 1 ((z2 I a0 0 (I a1 0)) a1 1)) a1 2)) a0 3 ((z2 (z2 (z2 I a0 0 (I a1 0)) a0 1 ((z2 I a0 0 (I a1 0)) a1 1)) a0 2 ((z2 (z2 I a0 0 (I a1 0)) a0 1 ((z2 I a0 0 (I a1 0)) a1 1)) a1 2)) a1 3)) a0 4 ((z2 (z2 (z2 (z2 I a0 0 (I a1 0)) a0 1 ((z2 I a0 0 (I a1 0)) a1 1)) a0 2 ((z2 (z2 I a0 0 (I a1 0)) a0 1 ((z2 I a0 0 (I a1 0)) a1 1)) a1 2)) a0 3 ((z2 (z2 (z2 I a0 0 (I a1 0)) a0 1 ((z2 I a0 0 (I a1 0)) a1 1)) a0 2 ((z2 (z2 I a0 0 (I a1 0)) a0 1 ((z2 I a0 0 (I a1 0)) a1 1)) a1 2)) a1 3)) a1 4)), zRg g)))))))))))) :
    zRn (zcl d) 29 B Q 0 [some (zr a0), some (zr a1)] [] (c, I, zRg g) :=
  zgo [] 20 (And.intro t.1 (And.intro t.2.1 (And.intro t.2.2.1 (And.intro t.2.2.2.1 (And.intro t.2.2.2.2.1 (And.intro t.2.2.2.2.2.1 (And.intro t.2.2.2.2.2.2.1 (And.intro t.2.2.2.2.2.2.2.1 (And.intro t.2.2.2.2.2.2.2.2.1 (And.intro t.2.2.2.2.2.2.2.2.2.1 t.2.2.2.2.2.2.2.2.2.2))))))))))
theorem g_x6_keptOf_0 {d : Nat} {B : Nat × Nat} {Q : zQ} {c : Nat × Nat × Nat} {I : Nat → Nat → Int} {g : Nat} {x1 x2 : Int} {a0 : Nat}
    (t : ((zSh a0).1 < 13) ∧ (zcl d 66 0 0 [zr a0, zi x1, zi x2] (c, I, zRg g) (fun v h1 => zRn (zcl d) 32 B Q 6 [some (zr a0), some (zi x1), some (zi x2)] (zva v []) h1))) :
    zRn (zcl d) 32 B Q 0 [some (zr a0), some (zi x1), some (zi x2)] [] (c, I, zRg g) :=
  zgo [6] 3 (And.intro t.1 (And.intro (Nat.le_of_ble_eq_true rfl) (Exists.intro 0 (Exists.intro 0 (And.intro (Or.inl rfl) (And.intro (Or.inl rfl) t.2))))))
theorem g_x6_keptOf_6 {d : Nat} {B : Nat × Nat} {Q : zQ} {c : Nat × Nat × Nat} {I : Nat → Nat → Int} {g : Nat} {x1 x2 s0 : Int} {a0 : Nat}
    (t : Q (some (zi (zwr (Int.tdiv s0 2)))) (c, I, zRg g)) :
    zRn (zcl d) 32 B Q 6 [some (zr a0), some (zi x1), some (zi x2)] [zi s0] (c, I, zRg g) :=
  zgo [6] 2 (And.intro (by decide) t)
theorem g_x6_wordsFor_0 {d : Nat} {B : Nat × Nat} {Q : zQ} {c : Nat × Nat × Nat} {I : Nat → Nat → Int} {g : Nat} {x2 x3 : Int} {a0 a1 : Nat}
    (t : ((zSh a0).1 < 13) ∧ (zcl d 67 0 0 [zr a0, zr a1, zi x2, zi x3] (c, I, zRg g) (fun v h1 => zRn (zcl d) 33 B Q 7 [some (zr a0), some (zr a1), some (zi x2), some (zi x3)] (zva v []) h1))) :
    zRn (zcl d) 33 B Q 0 [some (zr a0), some (zr a1), some (zi x2), some (zi x3)] [] (c, I, zRg g) :=
  zgo [7] 4 (And.intro t.1 (And.intro (Nat.le_of_ble_eq_true rfl) (Exists.intro 0 (Exists.intro 0 (And.intro (Or.inl rfl) (And.intro (Or.inl rfl) t.2))))))
theorem g_x6_wordsFor_7 {d : Nat} {B : Nat × Nat} {Q : zQ} {c : Nat × Nat × Nat} {I : Nat → Nat → Int} {g : Nat} {x2 x3 s0 : Int} {a0 a1 : Nat}
    (t : Q (some (zi (zand s0 31))) (c, I, zRg g)) :
    zRn (zcl d) 33 B Q 7 [some (zr a0), some (zr a1), some (zi x2), some (zi x3)] [zi s0] (c, I, zRg g) :=
  zgo [7] 2 (t)
theorem g_x6_wearies_0 {d : Nat} {B : Nat × Nat} {Q : zQ} {c : Nat × Nat × Nat} {I : Nat → Nat → Int} {g : Nat} {x1 : Int} {a0 a2 : Nat}
    (t : ((zSh a2).1 = 5) ∧ ((zwr (Int.tmod (I a2 4) 2) ≠ 0 → (Q (some (zi 0)) (c, I, zRg g))) ∧ (¬ (zwr (Int.tmod (I a2 4) 2) ≠ 0) → (((zSh a0).1 < 13) ∧ (zcl d 68 0 0 [zr a0, zi x1, zr a2] (c, I, zRg g) (fun v h1 => zRn (zcl d) 34 B Q 15 [some (zr a0), some (zi x1), some (zr a2)] (zva v []) h1)))))) :
    zRn (zcl d) 34 B Q 0 [some (zr a0), some (zi x1), some (zr a2)] [] (c, I, zRg g) :=
  zgo [15] 8 (And.intro t.1 (And.intro (by decide) (And.intro (fun u20 => (t.2.1 u20)) (fun u20 => And.intro (t.2.2 u20).1 (And.intro (Nat.le_of_ble_eq_true rfl) (Exists.intro 0 (Exists.intro 0 (And.intro (Or.inl rfl) (And.intro (Or.inl rfl) ((t.2.2 u20).2))))))))))
theorem g_x6_wearies_15 {d : Nat} {B : Nat × Nat} {Q : zQ} {c : Nat × Nat × Nat} {I : Nat → Nat → Int} {g : Nat} {x1 s0 : Int} {a0 a2 : Nat}
    (t : Q (some (zi s0)) (c, I, zRg g)) :
    zRn (zcl d) 34 B Q 15 [some (zr a0), some (zi x1), some (zr a2)] [zi s0] (c, I, zRg g) :=
  zgo [15] 1 (t)
theorem g_x6_takesIn_0 {d : Nat} {B : Nat × Nat} {Q : zQ} {c : Nat × Nat × Nat} {I : Nat → Nat → Int} {g : Nat} {x1 x2 : Int} {a0 : Nat}
    (t : Q (some (zi 0)) (c, I, zRg g)) :
    zRn (zcl d) 35 B Q 0 [some (zr a0), some (zi x1), some (zi x2)] [] (c, I, zRg g) :=
  zgo [] 1 (And.intro (Or.inl rfl) t)
theorem g_x7_put_0 {d : Nat} {B : Nat × Nat} {Q : zQ} {c : Nat × Nat × Nat} {I : Nat → Nat → Int} {g : Nat} {x1 : Int}
    (t : (I 62 1 < 160 → ((0 ≤ I 62 1 ∧ I 62 1 < 160) ∧ (Q (some (zi 1)) (c, (z2 (z2 I 63 (I 62 1).toNat x1) 62 1 (zwr (((z2 I 63 (I 62 1).toNat x1) 62 1) + 1))), zRg g)))) ∧ (¬ (I 62 1 < 160) → (Q (some (zi 0)) (c, I, zRg g)))) :
    zRn (zcl d) 37 B Q 0 [some (zr 62), some (zi x1)] [] (c, I, zRg g) :=
  zgo [] 17 (And.intro rfl (And.intro (fun u21 => And.intro rfl (Exists.intro (some 63) (And.intro rfl (And.intro rfl (And.intro rfl (And.intro (t.1 u21).1 (And.intro rfl (And.intro rfl (And.intro (Or.inr rfl) ((t.1 u21).2)))))))))) (fun u21 => And.intro (Or.inl rfl) (t.2 u21))))
theorem g_x7_readPart_0 {d : Nat} {B : Nat × Nat} {Q : zQ} {c : Nat × Nat × Nat} {I : Nat → Nat → Int} {g : Nat} {x1 x2 : Int}
    (t : zcl d 47 0 0 [zr 62, zi x1] (c, I, zRg g) (fun v h1 => zRn (zcl d) 39 B Q 5 [some (zr 62), some (zi x1), some (zi x2)] (zva v []) h1)) :
    zRn (zcl d) 39 B Q 0 [some (zr 62), some (zi x1), some (zi x2)] [] (c, I, zRg g) :=
  zgo [5, 10, 16] 2 (Exists.intro 47 (And.intro rfl (And.intro (Nat.le_of_ble_eq_true rfl) (Exists.intro 0 (Exists.intro 0 (And.intro (Or.inl rfl) (And.intro (Or.inl rfl) t)))))))
theorem g_x7_readPart_5 {d : Nat} {B : Nat × Nat} {Q : zQ} {c : Nat × Nat × Nat} {I : Nat → Nat → Int} {g : Nat} {x1 x2 : Int}
    (t : zcl d 40 0 0 [zr 62, zi 0] (c, I, zRg g) (fun v h1 => zRn (zcl d) 39 B Q 10 [some (zr 62), some (zi x1), some (zi x2)] (zva v []) h1)) :
    zRn (zcl d) 39 B Q 5 [some (zr 62), some (zi x1), some (zi x2)] [] (c, I, zRg g) :=
  zgo [5, 10, 16] 2 (Exists.intro 40 (And.intro rfl (And.intro (Nat.le_of_ble_eq_true rfl) (Exists.intro 0 (Exists.intro 0 (And.intro (Or.inl rfl) (And.intro (Or.inl rfl) t)))))))
theorem g_x7_readPart_10 {d : Nat} {B : Nat × Nat} {Q : zQ} {c : Nat × Nat × Nat} {I : Nat → Nat → Int} {g : Nat} {x1 x2 : Int}
    (t : zcl d 47 0 0 [zr 62, zi 59] (c, I, zRg g) (fun v h1 => zRn (zcl d) 39 B Q 16 [some (zr 62), some (zi x1), some (zi x2)] (zva v []) h1)) :
    zRn (zcl d) 39 B Q 10 [some (zr 62), some (zi x1), some (zi x2)] [] (c, I, zRg g) :=
  zgo [5, 10, 16] 2 (Exists.intro 47 (And.intro rfl (And.intro (Nat.le_of_ble_eq_true rfl) (Exists.intro 0 (Exists.intro 0 (And.intro (Or.inl rfl) (And.intro (Or.inl rfl) t)))))))
theorem g_x7_readPart_16 {d : Nat} {B : Nat × Nat} {Q : zQ} {c : Nat × Nat × Nat} {I : Nat → Nat → Int} {g : Nat} {x1 x2 : Int} {y1 : Nat}
    (t : (x2 < 0 → (Q none (c, I, zRg g))) ∧ (¬ (x2 < 0) → ((3 ≤ x2 → (Q none (c, I, zRg g))) ∧ (¬ (3 ≤ x2) → (((zSh g).1 = 10) ∧ ((zRg g g 1 = some y1) ∧ (((zSh g).1 = 10) ∧ (((zSh y1).1 = 100) ∧ ((0 ≤ x2 ∧ x2 < ((zSh y1).2 : Nat)) ∧ (Q none (c, (z2 I y1 x2.toNat (I g 2)), zRg g))))))))))) :
    zRn (zcl d) 39 B Q 16 [some (zr 62), some (zi x1), some (zi x2)] [] (c, I, zRg g) :=
  zgo [5, 10, 16] 13 (And.intro (fun u22 => (t.1 u22)) (fun u22 => And.intro (fun u23 => ((t.2 u22).1 u23)) (fun u23 => And.intro rfl (Exists.intro (some g) (And.intro rfl (And.intro ((t.2 u22).2 u23).1 (Exists.intro (some y1) (And.intro ((t.2 u22).2 u23).2.1 (And.intro rfl (Exists.intro (some g) (And.intro rfl (And.intro ((t.2 u22).2 u23).2.2.1 (And.intro ((t.2 u22).2 u23).2.2.2.1 (And.intro ((t.2 u22).2 u23).2.2.2.2.1 (((t.2 u22).2 u23).2.2.2.2.2)))))))))))))))
theorem g_x7_readOrs_0 {d : Nat} {B : Nat × Nat} {Q : zQ} {c : Nat × Nat × Nat} {I : Nat → Nat → Int} {g : Nat} {x1 : Int}
    (t : zcl d 41 0 0 [zr 62, zi x1] (c, I, zRg g) (fun v h1 => zRn (zcl d) 40 B Q 5 [some (zr 62), some (zi x1), none] (zva v []) h1)) :
    zRn (zcl d) 40 B Q 0 [some (zr 62), some (zi x1), none] [] (c, I, zRg g) :=
  zgo [5, 7, 27, 32, 41] 2 (Exists.intro 41 (And.intro rfl (And.intro (Nat.le_of_ble_eq_true rfl) (Exists.intro 0 (Exists.intro 0 (And.intro (Or.inl rfl) (And.intro (Or.inl rfl) t)))))))
theorem g_x7_readOrs_5 {d : Nat} {B : Nat × Nat} {Q : zQ} {c : Nat × Nat × Nat} {I : Nat → Nat → Int} {g : Nat} {x1 : Int} {o2 : Option zV}
    (t : zRn (zcl d) 40 B Q 7 [some (zr 62), some (zi x1), some (zi 0)] [] (c, I, zRg g)) :
    zRn (zcl d) 40 B Q 5 [some (zr 62), some (zi x1), o2] [] (c, I, zRg g) :=
  zgo [5, 7, 27, 32, 41] 2 (t)
theorem g_x7_readOrs_7 {d : Nat} {B : Nat × Nat} {Q : zQ} {c : Nat × Nat × Nat} {I : Nat → Nat → Int} {g : Nat} {x1 x2 : Int}
    (t : (160 ≤ x2 → (Q none (c, I, zRg g))) ∧ (¬ (160 ≤ x2) → ((I 62 7 ≠ (-8) → (Q none (c, I, zRg g))) ∧ (¬ (I 62 7 ≠ (-8)) → (zcl d 49 0 0 [zr 62] (c, I, zRg g) (fun v h1 => zRn (zcl d) 40 B Q 27 [some (zr 62), some (zi x1), some (zi x2)] (zva v []) h1)))))) :
    zRn (zcl d) 40 B Q 7 [some (zr 62), some (zi x1), some (zi x2)] [] (c, I, zRg g) :=
  zgo [5, 7, 27, 32, 41] 8 (And.intro (fun u24 => (t.1 u24)) (fun u24 => And.intro rfl (And.intro (fun u25 => ((t.2 u24).1 u25)) (fun u25 => Exists.intro 49 (And.intro rfl (And.intro (Nat.le_of_ble_eq_true rfl) (Exists.intro 0 (Exists.intro 0 (And.intro (Or.inl rfl) (And.intro (Or.inl rfl) ((t.2 u24).2 u25)))))))))))
theorem g_x7_readOrs_27 {d : Nat} {B : Nat × Nat} {Q : zQ} {c : Nat × Nat × Nat} {I : Nat → Nat → Int} {g : Nat} {x1 x2 : Int}
    (t : zcl d 41 0 0 [zr 62, zi x1] (c, I, zRg g) (fun v h1 => zRn (zcl d) 40 B Q 32 [some (zr 62), some (zi x1), some (zi x2)] (zva v []) h1)) :
    zRn (zcl d) 40 B Q 27 [some (zr 62), some (zi x1), some (zi x2)] [] (c, I, zRg g) :=
  zgo [5, 7, 27, 32, 41] 2 (Exists.intro 41 (And.intro rfl (And.intro (Nat.le_of_ble_eq_true rfl) (Exists.intro 0 (Exists.intro 0 (And.intro (Or.inl rfl) (And.intro (Or.inl rfl) t)))))))
theorem g_x7_readOrs_32 {d : Nat} {B : Nat × Nat} {Q : zQ} {c : Nat × Nat × Nat} {I : Nat → Nat → Int} {g : Nat} {x1 x2 : Int}
    (t : (zsel ((zSh g).1 : Nat) [(10, 71)] = some 71) ∧ (zcl d 71 0 0 [zr g, zi (-21)] (c, I, zRg g) (fun v h1 => zRn (zcl d) 40 B Q 41 [some (zr 62), some (zi x1), some (zi x2)] (zva v []) h1))) :
    zRn (zcl d) 40 B Q 32 [some (zr 62), some (zi x1), some (zi x2)] [] (c, I, zRg g) :=
  zgo [5, 7, 27, 32, 41] 3 (And.intro rfl (Exists.intro (some g) (And.intro rfl (Exists.intro 71 (And.intro t.1 (And.intro (Nat.le_of_ble_eq_true rfl) (Exists.intro 0 (Exists.intro 0 (And.intro (Or.inl rfl) (And.intro (Or.inl rfl) t.2))))))))))
theorem g_x7_readOrs_41 {d : Nat} {B : Nat × Nat} {Q : zQ} {c : Nat × Nat × Nat} {I : Nat → Nat → Int} {g : Nat} {x1 x2 : Int}
    (t : zRn (zcl d) 40 B Q 7 [some (zr 62), some (zi x1), some (zi (zwr (x2 + 1)))] [] (c, I, zRg g)) :
    zRn (zcl d) 40 B Q 41 [some (zr 62), some (zi x1), some (zi x2)] [] (c, I, zRg g) :=
  zgo [5, 7, 27, 32, 41] 2 (t)
theorem g_x7_readAnds_0 {d : Nat} {B : Nat × Nat} {Q : zQ} {c : Nat × Nat × Nat} {I : Nat → Nat → Int} {g : Nat} {x1 : Int}
    (t : zcl d 42 0 0 [zr 62, zi x1] (c, I, zRg g) (fun v h1 => zRn (zcl d) 41 B Q 5 [some (zr 62), some (zi x1), none] (zva v []) h1)) :
    zRn (zcl d) 41 B Q 0 [some (zr 62), some (zi x1), none] [] (c, I, zRg g) :=
  zgo [5, 7, 27, 32, 41] 2 (Exists.intro 42 (And.intro rfl (And.intro (Nat.le_of_ble_eq_true rfl) (Exists.intro 0 (Exists.intro 0 (And.intro (Or.inl rfl) (And.intro (Or.inl rfl) t)))))))
theorem g_x7_readAnds_5 {d : Nat} {B : Nat × Nat} {Q : zQ} {c : Nat × Nat × Nat} {I : Nat → Nat → Int} {g : Nat} {x1 : Int} {o2 : Option zV}
    (t : zRn (zcl d) 41 B Q 7 [some (zr 62), some (zi x1), some (zi 0)] [] (c, I, zRg g)) :
    zRn (zcl d) 41 B Q 5 [some (zr 62), some (zi x1), o2] [] (c, I, zRg g) :=
  zgo [5, 7, 27, 32, 41] 2 (t)
theorem g_x7_readAnds_7 {d : Nat} {B : Nat × Nat} {Q : zQ} {c : Nat × Nat × Nat} {I : Nat → Nat → Int} {g : Nat} {x1 x2 : Int}
    (t : (160 ≤ x2 → (Q none (c, I, zRg g))) ∧ (¬ (160 ≤ x2) → ((I 62 7 ≠ (-9) → (Q none (c, I, zRg g))) ∧ (¬ (I 62 7 ≠ (-9)) → (zcl d 49 0 0 [zr 62] (c, I, zRg g) (fun v h1 => zRn (zcl d) 41 B Q 27 [some (zr 62), some (zi x1), some (zi x2)] (zva v []) h1)))))) :
    zRn (zcl d) 41 B Q 7 [some (zr 62), some (zi x1), some (zi x2)] [] (c, I, zRg g) :=
  zgo [5, 7, 27, 32, 41] 8 (And.intro (fun u26 => (t.1 u26)) (fun u26 => And.intro rfl (And.intro (fun u27 => ((t.2 u26).1 u27)) (fun u27 => Exists.intro 49 (And.intro rfl (And.intro (Nat.le_of_ble_eq_true rfl) (Exists.intro 0 (Exists.intro 0 (And.intro (Or.inl rfl) (And.intro (Or.inl rfl) ((t.2 u26).2 u27)))))))))))
theorem g_x7_readAnds_27 {d : Nat} {B : Nat × Nat} {Q : zQ} {c : Nat × Nat × Nat} {I : Nat → Nat → Int} {g : Nat} {x1 x2 : Int}
    (t : zcl d 42 0 0 [zr 62, zi x1] (c, I, zRg g) (fun v h1 => zRn (zcl d) 41 B Q 32 [some (zr 62), some (zi x1), some (zi x2)] (zva v []) h1)) :
    zRn (zcl d) 41 B Q 27 [some (zr 62), some (zi x1), some (zi x2)] [] (c, I, zRg g) :=
  zgo [5, 7, 27, 32, 41] 2 (Exists.intro 42 (And.intro rfl (And.intro (Nat.le_of_ble_eq_true rfl) (Exists.intro 0 (Exists.intro 0 (And.intro (Or.inl rfl) (And.intro (Or.inl rfl) t)))))))
theorem g_x7_readAnds_32 {d : Nat} {B : Nat × Nat} {Q : zQ} {c : Nat × Nat × Nat} {I : Nat → Nat → Int} {g : Nat} {x1 x2 : Int}
    (t : (zsel ((zSh g).1 : Nat) [(10, 71)] = some 71) ∧ (zcl d 71 0 0 [zr g, zi (-22)] (c, I, zRg g) (fun v h1 => zRn (zcl d) 41 B Q 41 [some (zr 62), some (zi x1), some (zi x2)] (zva v []) h1))) :
    zRn (zcl d) 41 B Q 32 [some (zr 62), some (zi x1), some (zi x2)] [] (c, I, zRg g) :=
  zgo [5, 7, 27, 32, 41] 3 (And.intro rfl (Exists.intro (some g) (And.intro rfl (Exists.intro 71 (And.intro t.1 (And.intro (Nat.le_of_ble_eq_true rfl) (Exists.intro 0 (Exists.intro 0 (And.intro (Or.inl rfl) (And.intro (Or.inl rfl) t.2))))))))))
theorem g_x7_readAnds_41 {d : Nat} {B : Nat × Nat} {Q : zQ} {c : Nat × Nat × Nat} {I : Nat → Nat → Int} {g : Nat} {x1 x2 : Int}
    (t : zRn (zcl d) 41 B Q 7 [some (zr 62), some (zi x1), some (zi (zwr (x2 + 1)))] [] (c, I, zRg g)) :
    zRn (zcl d) 41 B Q 41 [some (zr 62), some (zi x1), some (zi x2)] [] (c, I, zRg g) :=
  zgo [5, 7, 27, 32, 41] 2 (t)
theorem g_x7_readNot_0 {d : Nat} {B : Nat × Nat} {Q : zQ} {c : Nat × Nat × Nat} {I : Nat → Nat → Int} {g : Nat} {x1 : Int}
    (t : (I 62 7 ≠ (-10) → (zcl d 43 0 0 [zr 62, zi x1] (c, I, zRg g) (fun v h1 => zRn (zcl d) 42 B Q 40 [some (zr 62), some (zi x1), none] (zva v []) h1))) ∧ (¬ (I 62 7 ≠ (-10)) → (zcl d 46 0 0 [zr 62, zi x1] (c, I, zRg g) (fun v h1 => zRn (zcl d) 42 B Q 14 [some (zr 62), some (zi x1), none] (zva v []) h1)))) :
    zRn (zcl d) 42 B Q 0 [some (zr 62), some (zi x1), none] [] (c, I, zRg g) :=
  zgo [14, 25, 34, 40, 79, 84, 92] 6 (And.intro rfl (And.intro (fun u28 => Exists.intro 43 (And.intro rfl (And.intro (Nat.le_of_ble_eq_true rfl) (Exists.intro 0 (Exists.intro 0 (And.intro (Or.inl rfl) (And.intro (Or.inl rfl) (t.1 u28)))))))) (fun u28 => Exists.intro 46 (And.intro rfl (And.intro (Nat.le_of_ble_eq_true rfl) (Exists.intro 0 (Exists.intro 0 (And.intro (Or.inl rfl) (And.intro (Or.inl rfl) (t.2 u28))))))))))
theorem g_x7_readNot_14 {d : Nat} {B : Nat × Nat} {Q : zQ} {c : Nat × Nat × Nat} {I : Nat → Nat → Int} {g : Nat} {x1 s0 : Int} {o2 : Option zV}
    (t : (s0 ≠ 0 → (zcl d 42 0 0 [zr 62, zi (zwr (x1 + 1))] (c, I, zRg g) (fun v h1 => zRn (zcl d) 42 B Q 25 [some (zr 62), some (zi x1), o2] (zva v []) h1))) ∧ (¬ (s0 ≠ 0) → (Q none (c, I, zRg g)))) :
    zRn (zcl d) 42 B Q 14 [some (zr 62), some (zi x1), o2] [zi s0] (c, I, zRg g) :=
  zgo [14, 25, 34, 40, 79, 84, 92] 5 (And.intro (fun u33 => Exists.intro 42 (And.intro rfl (And.intro (Nat.le_of_ble_eq_true rfl) (Exists.intro 0 (Exists.intro 0 (And.intro (Or.inl rfl) (And.intro (Or.inl rfl) (t.1 u33)))))))) (fun u33 => (t.2 u33)))
theorem g_x7_readNot_25 {d : Nat} {B : Nat × Nat} {Q : zQ} {c : Nat × Nat × Nat} {I : Nat → Nat → Int} {g : Nat} {x1 : Int} {o2 : Option zV}
    (t : (zsel ((zSh g).1 : Nat) [(10, 71)] = some 71) ∧ (zcl d 71 0 0 [zr g, zi (-11)] (c, I, zRg g) (fun v h1 => zRn (zcl d) 42 B Q 34 [some (zr 62), some (zi x1), o2] (zva v []) h1))) :
    zRn (zcl d) 42 B Q 25 [some (zr 62), some (zi x1), o2] [] (c, I, zRg g) :=
  zgo [14, 25, 34, 40, 79, 84, 92] 3 (And.intro rfl (Exists.intro (some g) (And.intro rfl (Exists.intro 71 (And.intro t.1 (And.intro (Nat.le_of_ble_eq_true rfl) (Exists.intro 0 (Exists.intro 0 (And.intro (Or.inl rfl) (And.intro (Or.inl rfl) t.2))))))))))
theorem g_x7_readNot_34 {d : Nat} {B : Nat × Nat} {Q : zQ} {c : Nat × Nat × Nat} {I : Nat → Nat → Int} {g : Nat} {x1 : Int} {o2 : Option zV}
    (t : Q none (c, I, zRg g)) :
    zRn (zcl d) 42 B Q 34 [some (zr 62), some (zi x1), o2] [] (c, I, zRg g) :=
  zgo [14, 25, 34, 40, 79, 84, 92] 0 (t)
theorem g_x7_readNot_40 {d : Nat} {B : Nat × Nat} {Q : zQ} {c : Nat × Nat × Nat} {I : Nat → Nat → Int} {g : Nat} {x1 : Int} {o2 : Option zV}
    (t : (I 62 7 = 60 → ((I 62 7 ≠ 60 → (zcl d 49 0 0 [zr 62] (c, I, zRg g) (fun v h1 => zRn (zcl d) 42 B Q 79 [some (zr 62), some (zi x1), some (zi (-24))] (zva v []) h1))) ∧ (¬ (I 62 7 ≠ 60) → (zcl d 49 0 0 [zr 62] (c, I, zRg g) (fun v h1 => zRn (zcl d) 42 B Q 79 [some (zr 62), some (zi x1), some (zi (-23))] (zva v []) h1))))) ∧ (¬ (I 62 7 = 60) → ((I 62 7 ≠ 61 → (zRn (zcl d) 42 B Q 92 [some (zr 62), some (zi x1), o2] [] (c, I, zRg g))) ∧ (¬ (I 62 7 ≠ 61) → ((I 62 7 ≠ 60 → (zcl d 49 0 0 [zr 62] (c, I, zRg g) (fun v h1 => zRn (zcl d) 42 B Q 79 [some (zr 62), some (zi x1), some (zi (-24))] (zva v []) h1))) ∧ (¬ (I 62 7 ≠ 60) → (zcl d 49 0 0 [zr 62] (c, I, zRg g) (fun v h1 => zRn (zcl d) 42 B Q 79 [some (zr 62), some (zi x1), some (zi (-23))] (zva v []) h1)))))))) :
    zRn (zcl d) 42 B Q 40 [some (zr 62), some (zi x1), o2] [] (c, I, zRg g) :=
  zgo [14, 25, 34, 40, 79, 84, 92] 16 (And.intro rfl (And.intro (fun u29 => And.intro rfl (And.intro (fun u30 => Exists.intro 49 (And.intro rfl (And.intro (Nat.le_of_ble_eq_true rfl) (Exists.intro 0 (Exists.intro 0 (And.intro (Or.inl rfl) (And.intro (Or.inl rfl) ((t.1 u29).1 u30)))))))) (fun u30 => Exists.intro 49 (And.intro rfl (And.intro (Nat.le_of_ble_eq_true rfl) (Exists.intro 0 (Exists.intro 0 (And.intro (Or.inl rfl) (And.intro (Or.inl rfl) ((t.1 u29).2 u30)))))))))) (fun u29 => And.intro rfl (And.intro (fun u31 => ((t.2 u29).1 u31)) (fun u31 => And.intro rfl (And.intro (fun u32 => Exists.intro 49 (And.intro rfl (And.intro (Nat.le_of_ble_eq_true rfl) (Exists.intro 0 (Exists.intro 0 (And.intro (Or.inl rfl) (And.intro (Or.inl rfl) (((t.2 u29).2 u31).1 u32)))))))) (fun u32 => Exists.intro 49 (And.intro rfl (And.intro (Nat.le_of_ble_eq_true rfl) (Exists.intro 0 (Exists.intro 0 (And.intro (Or.inl rfl) (And.intro (Or.inl rfl) (((t.2 u29).2 u31).2 u32))))))))))))))
theorem g_x7_readNot_79 {d : Nat} {B : Nat × Nat} {Q : zQ} {c : Nat × Nat × Nat} {I : Nat → Nat → Int} {g : Nat} {x1 x2 : Int}
    (t : zcl d 43 0 0 [zr 62, zi x1] (c, I, zRg g) (fun v h1 => zRn (zcl d) 42 B Q 84 [some (zr 62), some (zi x1), some (zi x2)] (zva v []) h1)) :
    zRn (zcl d) 42 B Q 79 [some (zr 62), some (zi x1), some (zi x2)] [] (c, I, zRg g) :=
  zgo [14, 25, 34, 40, 79, 84, 92] 2 (Exists.intro 43 (And.intro rfl (And.intro (Nat.le_of_ble_eq_true rfl) (Exists.intro 0 (Exists.intro 0 (And.intro (Or.inl rfl) (And.intro (Or.inl rfl) t)))))))
theorem g_x7_readNot_84 {d : Nat} {B : Nat × Nat} {Q : zQ} {c : Nat × Nat × Nat} {I : Nat → Nat → Int} {g : Nat} {x1 x2 : Int}
    (t : (zsel ((zSh g).1 : Nat) [(10, 71)] = some 71) ∧ (zcl d 71 0 0 [zr g, zi x2] (c, I, zRg g) (fun v h1 => zRn (zcl d) 42 B Q 92 [some (zr 62), some (zi x1), some (zi x2)] (zva v []) h1))) :
    zRn (zcl d) 42 B Q 84 [some (zr 62), some (zi x1), some (zi x2)] [] (c, I, zRg g) :=
  zgo [14, 25, 34, 40, 79, 84, 92] 3 (And.intro rfl (Exists.intro (some g) (And.intro rfl (Exists.intro 71 (And.intro t.1 (And.intro (Nat.le_of_ble_eq_true rfl) (Exists.intro 0 (Exists.intro 0 (And.intro (Or.inl rfl) (And.intro (Or.inl rfl) t.2))))))))))
theorem g_x7_readNot_92 {d : Nat} {B : Nat × Nat} {Q : zQ} {c : Nat × Nat × Nat} {I : Nat → Nat → Int} {g : Nat} {x1 : Int} {o2 : Option zV}
    (t : Q none (c, I, zRg g)) :
    zRn (zcl d) 42 B Q 92 [some (zr 62), some (zi x1), o2] [] (c, I, zRg g) :=
  zgo [14, 25, 34, 40, 79, 84, 92] 0 (t)
theorem g_x7_readSum_0 {d : Nat} {B : Nat × Nat} {Q : zQ} {c : Nat × Nat × Nat} {I : Nat → Nat → Int} {g : Nat} {x1 : Int}
    (t : zcl d 44 0 0 [zr 62, zi x1] (c, I, zRg g) (fun v h1 => zRn (zcl d) 43 B Q 5 [some (zr 62), some (zi x1), none, none] (zva v []) h1)) :
    zRn (zcl d) 43 B Q 0 [some (zr 62), some (zi x1), none, none] [] (c, I, zRg g) :=
  zgo [5, 7, 53, 58, 66] 2 (Exists.intro 44 (And.intro rfl (And.intro (Nat.le_of_ble_eq_true rfl) (Exists.intro 0 (Exists.intro 0 (And.intro (Or.inl rfl) (And.intro (Or.inl rfl) t)))))))
theorem g_x7_readSum_5 {d : Nat} {B : Nat × Nat} {Q : zQ} {c : Nat × Nat × Nat} {I : Nat → Nat → Int} {g : Nat} {x1 : Int} {o2 o3 : Option zV}
    (t : zRn (zcl d) 43 B Q 7 [some (zr 62), some (zi x1), some (zi 0), o3] [] (c, I, zRg g)) :
    zRn (zcl d) 43 B Q 5 [some (zr 62), some (zi x1), o2, o3] [] (c, I, zRg g) :=
  zgo [5, 7, 53, 58, 66] 2 (t)
theorem g_x7_readSum_7 {d : Nat} {B : Nat × Nat} {Q : zQ} {c : Nat × Nat × Nat} {I : Nat → Nat → Int} {g : Nat} {x1 x2 : Int} {o3 : Option zV}
    (t : (160 ≤ x2 → (Q none (c, I, zRg g))) ∧ (¬ (160 ≤ x2) → ((I 62 7 = 43 → ((I 62 7 ≠ 43 → (zcl d 49 0 0 [zr 62] (c, I, zRg g) (fun v h1 => zRn (zcl d) 43 B Q 53 [some (zr 62), some (zi x1), some (zi x2), some (zi (-26))] (zva v []) h1))) ∧ (¬ (I 62 7 ≠ 43) → (zcl d 49 0 0 [zr 62] (c, I, zRg g) (fun v h1 => zRn (zcl d) 43 B Q 53 [some (zr 62), some (zi x1), some (zi x2), some (zi (-25))] (zva v []) h1))))) ∧ (¬ (I 62 7 = 43) → ((I 62 7 ≠ 45 → (Q none (c, I, zRg g))) ∧ (¬ (I 62 7 ≠ 45) → ((I 62 7 ≠ 43 → (zcl d 49 0 0 [zr 62] (c, I, zRg g) (fun v h1 => zRn (zcl d) 43 B Q 53 [some (zr 62), some (zi x1), some (zi x2), some (zi (-26))] (zva v []) h1))) ∧ (¬ (I 62 7 ≠ 43) → (zcl d 49 0 0 [zr 62] (c, I, zRg g) (fun v h1 => zRn (zcl d) 43 B Q 53 [some (zr 62), some (zi x1), some (zi x2), some (zi (-25))] (zva v []) h1)))))))))) :
    zRn (zcl d) 43 B Q 7 [some (zr 62), some (zi x1), some (zi x2), o3] [] (c, I, zRg g) :=
  zgo [5, 7, 53, 58, 66] 19 (And.intro (fun u34 => (t.1 u34)) (fun u34 => And.intro rfl (And.intro (fun u35 => And.intro rfl (And.intro (fun u36 => Exists.intro 49 (And.intro rfl (And.intro (Nat.le_of_ble_eq_true rfl) (Exists.intro 0 (Exists.intro 0 (And.intro (Or.inl rfl) (And.intro (Or.inl rfl) (((t.2 u34).1 u35).1 u36)))))))) (fun u36 => Exists.intro 49 (And.intro rfl (And.intro (Nat.le_of_ble_eq_true rfl) (Exists.intro 0 (Exists.intro 0 (And.intro (Or.inl rfl) (And.intro (Or.inl rfl) (((t.2 u34).1 u35).2 u36)))))))))) (fun u35 => And.intro rfl (And.intro (fun u37 => (((t.2 u34).2 u35).1 u37)) (fun u37 => And.intro rfl (And.intro (fun u38 => Exists.intro 49 (And.intro rfl (And.intro (Nat.le_of_ble_eq_true rfl) (Exists.intro 0 (Exists.intro 0 (And.intro (Or.inl rfl) (And.intro (Or.inl rfl) ((((t.2 u34).2 u35).2 u37).1 u38)))))))) (fun u38 => Exists.intro 49 (And.intro rfl (And.intro (Nat.le_of_ble_eq_true rfl) (Exists.intro 0 (Exists.intro 0 (And.intro (Or.inl rfl) (And.intro (Or.inl rfl) ((((t.2 u34).2 u35).2 u37).2 u38)))))))))))))))
theorem g_x7_readSum_53 {d : Nat} {B : Nat × Nat} {Q : zQ} {c : Nat × Nat × Nat} {I : Nat → Nat → Int} {g : Nat} {x1 x2 x3 : Int}
    (t : zcl d 44 0 0 [zr 62, zi x1] (c, I, zRg g) (fun v h1 => zRn (zcl d) 43 B Q 58 [some (zr 62), some (zi x1), some (zi x2), some (zi x3)] (zva v []) h1)) :
    zRn (zcl d) 43 B Q 53 [some (zr 62), some (zi x1), some (zi x2), some (zi x3)] [] (c, I, zRg g) :=
  zgo [5, 7, 53, 58, 66] 2 (Exists.intro 44 (And.intro rfl (And.intro (Nat.le_of_ble_eq_true rfl) (Exists.intro 0 (Exists.intro 0 (And.intro (Or.inl rfl) (And.intro (Or.inl rfl) t)))))))
theorem g_x7_readSum_58 {d : Nat} {B : Nat × Nat} {Q : zQ} {c : Nat × Nat × Nat} {I : Nat → Nat → Int} {g : Nat} {x1 x2 x3 : Int}
    (t : (zsel ((zSh g).1 : Nat) [(10, 71)] = some 71) ∧ (zcl d 71 0 0 [zr g, zi x3] (c, I, zRg g) (fun v h1 => zRn (zcl d) 43 B Q 66 [some (zr 62), some (zi x1), some (zi x2), some (zi x3)] (zva v []) h1))) :
    zRn (zcl d) 43 B Q 58 [some (zr 62), some (zi x1), some (zi x2), some (zi x3)] [] (c, I, zRg g) :=
  zgo [5, 7, 53, 58, 66] 3 (And.intro rfl (Exists.intro (some g) (And.intro rfl (Exists.intro 71 (And.intro t.1 (And.intro (Nat.le_of_ble_eq_true rfl) (Exists.intro 0 (Exists.intro 0 (And.intro (Or.inl rfl) (And.intro (Or.inl rfl) t.2))))))))))
theorem g_x7_readSum_66 {d : Nat} {B : Nat × Nat} {Q : zQ} {c : Nat × Nat × Nat} {I : Nat → Nat → Int} {g : Nat} {x1 x2 x3 : Int}
    (t : zRn (zcl d) 43 B Q 7 [some (zr 62), some (zi x1), some (zi (zwr (x2 + 1))), some (zi x3)] [] (c, I, zRg g)) :
    zRn (zcl d) 43 B Q 66 [some (zr 62), some (zi x1), some (zi x2), some (zi x3)] [] (c, I, zRg g) :=
  zgo [5, 7, 53, 58, 66] 2 (t)
theorem g_x7_readTerm_0 {d : Nat} {B : Nat × Nat} {Q : zQ} {c : Nat × Nat × Nat} {I : Nat → Nat → Int} {g : Nat} {x1 : Int}
    (t : zcl d 45 0 0 [zr 62, zi x1] (c, I, zRg g) (fun v h1 => zRn (zcl d) 44 B Q 5 [some (zr 62), some (zi x1), none] (zva v []) h1)) :
    zRn (zcl d) 44 B Q 0 [some (zr 62), some (zi x1), none] [] (c, I, zRg g) :=
  zgo [5, 7, 27, 32, 41] 2 (Exists.intro 45 (And.intro rfl (And.intro (Nat.le_of_ble_eq_true rfl) (Exists.intro 0 (Exists.intro 0 (And.intro (Or.inl rfl) (And.intro (Or.inl rfl) t)))))))
theorem g_x7_readTerm_5 {d : Nat} {B : Nat × Nat} {Q : zQ} {c : Nat × Nat × Nat} {I : Nat → Nat → Int} {g : Nat} {x1 : Int} {o2 : Option zV}
    (t : zRn (zcl d) 44 B Q 7 [some (zr 62), some (zi x1), some (zi 0)] [] (c, I, zRg g)) :
    zRn (zcl d) 44 B Q 5 [some (zr 62), some (zi x1), o2] [] (c, I, zRg g) :=
  zgo [5, 7, 27, 32, 41] 2 (t)
theorem g_x7_readTerm_7 {d : Nat} {B : Nat × Nat} {Q : zQ} {c : Nat × Nat × Nat} {I : Nat → Nat → Int} {g : Nat} {x1 x2 : Int}
    (t : (160 ≤ x2 → (Q none (c, I, zRg g))) ∧ (¬ (160 ≤ x2) → ((I 62 7 ≠ 42 → (Q none (c, I, zRg g))) ∧ (¬ (I 62 7 ≠ 42) → (zcl d 49 0 0 [zr 62] (c, I, zRg g) (fun v h1 => zRn (zcl d) 44 B Q 27 [some (zr 62), some (zi x1), some (zi x2)] (zva v []) h1)))))) :
    zRn (zcl d) 44 B Q 7 [some (zr 62), some (zi x1), some (zi x2)] [] (c, I, zRg g) :=
  zgo [5, 7, 27, 32, 41] 8 (And.intro (fun u39 => (t.1 u39)) (fun u39 => And.intro rfl (And.intro (fun u40 => ((t.2 u39).1 u40)) (fun u40 => Exists.intro 49 (And.intro rfl (And.intro (Nat.le_of_ble_eq_true rfl) (Exists.intro 0 (Exists.intro 0 (And.intro (Or.inl rfl) (And.intro (Or.inl rfl) ((t.2 u39).2 u40)))))))))))
theorem g_x7_readTerm_27 {d : Nat} {B : Nat × Nat} {Q : zQ} {c : Nat × Nat × Nat} {I : Nat → Nat → Int} {g : Nat} {x1 x2 : Int}
    (t : zcl d 45 0 0 [zr 62, zi x1] (c, I, zRg g) (fun v h1 => zRn (zcl d) 44 B Q 32 [some (zr 62), some (zi x1), some (zi x2)] (zva v []) h1)) :
    zRn (zcl d) 44 B Q 27 [some (zr 62), some (zi x1), some (zi x2)] [] (c, I, zRg g) :=
  zgo [5, 7, 27, 32, 41] 2 (Exists.intro 45 (And.intro rfl (And.intro (Nat.le_of_ble_eq_true rfl) (Exists.intro 0 (Exists.intro 0 (And.intro (Or.inl rfl) (And.intro (Or.inl rfl) t)))))))
theorem g_x7_readTerm_32 {d : Nat} {B : Nat × Nat} {Q : zQ} {c : Nat × Nat × Nat} {I : Nat → Nat → Int} {g : Nat} {x1 x2 : Int}
    (t : (zsel ((zSh g).1 : Nat) [(10, 71)] = some 71) ∧ (zcl d 71 0 0 [zr g, zi (-27)] (c, I, zRg g) (fun v h1 => zRn (zcl d) 44 B Q 41 [some (zr 62), some (zi x1), some (zi x2)] (zva v []) h1))) :
    zRn (zcl d) 44 B Q 32 [some (zr 62), some (zi x1), some (zi x2)] [] (c, I, zRg g) :=
  zgo [5, 7, 27, 32, 41] 3 (And.intro rfl (Exists.intro (some g) (And.intro rfl (Exists.intro 71 (And.intro t.1 (And.intro (Nat.le_of_ble_eq_true rfl) (Exists.intro 0 (Exists.intro 0 (And.intro (Or.inl rfl) (And.intro (Or.inl rfl) t.2))))))))))
theorem g_x7_readTerm_41 {d : Nat} {B : Nat × Nat} {Q : zQ} {c : Nat × Nat × Nat} {I : Nat → Nat → Int} {g : Nat} {x1 x2 : Int}
    (t : zRn (zcl d) 44 B Q 7 [some (zr 62), some (zi x1), some (zi (zwr (x2 + 1)))] [] (c, I, zRg g)) :
    zRn (zcl d) 44 B Q 41 [some (zr 62), some (zi x1), some (zi x2)] [] (c, I, zRg g) :=
  zgo [5, 7, 27, 32, 41] 2 (t)
theorem g_x7_readOne_0 {d : Nat} {B : Nat × Nat} {Q : zQ} {c : Nat × Nat × Nat} {I : Nat → Nat → Int} {g : Nat} {x1 : Int}
    (t : (I 62 7 = (-3) → ((0 ≤ I 62 6 ∧ I 62 6 < 161) ∧ ((zsel ((zSh g).1 : Nat) [(10, 71)] = some 71) ∧ (zcl d 71 0 0 [zr g, zi (I 65 ((I 62 6).toNat))] (c, I, zRg g) (fun v h1 => zRn (zcl d) 45 B Q 34 [some (zr 62), some (zi x1)] (zva v []) h1))))) ∧ (¬ (I 62 7 = (-3)) → ((I 62 7 ≠ (-4) → ((I 62 7 ≠ 45 → ((I 62 7 ≠ 40 → (zcl d 48 0 0 [zr 62] (c, I, zRg g) (fun v h1 => zRn (zcl d) 45 B Q 116 [some (zr 62), some (zi x1)] (zva v []) h1))) ∧ (¬ (I 62 7 ≠ 40) → (zcl d 46 0 0 [zr 62, zi x1] (c, I, zRg g) (fun v h1 => zRn (zcl d) 45 B Q 92 [some (zr 62), some (zi x1)] (zva v []) h1))))) ∧ (¬ (I 62 7 ≠ 45) → (zcl d 46 0 0 [zr 62, zi x1] (c, I, zRg g) (fun v h1 => zRn (zcl d) 45 B Q 55 [some (zr 62), some (zi x1)] (zva v []) h1))))) ∧ (¬ (I 62 7 ≠ (-4)) → ((0 ≤ I 62 6 ∧ I 62 6 < 161) ∧ ((zsel ((zSh g).1 : Nat) [(10, 71)] = some 71) ∧ (zcl d 71 0 0 [zr g, zi (I 65 ((I 62 6).toNat))] (c, I, zRg g) (fun v h1 => zRn (zcl d) 45 B Q 34 [some (zr 62), some (zi x1)] (zva v []) h1)))))))) :
    zRn (zcl d) 45 B Q 0 [some (zr 62), some (zi x1)] [] (c, I, zRg g) :=
  zgo [34, 38, 55, 66, 75, 92, 103, 109, 116] 18 (And.intro rfl (And.intro (fun u41 => And.intro rfl (Exists.intro (some g) (And.intro rfl (And.intro rfl (Exists.intro (some 65) (And.intro rfl (And.intro rfl (And.intro rfl (And.intro (t.1 u41).1 (Exists.intro 71 (And.intro (t.1 u41).2.1 (And.intro (Nat.le_of_ble_eq_true rfl) (Exists.intro 0 (Exists.intro 0 (And.intro (Or.inl rfl) (And.intro (Or.inl rfl) ((t.1 u41).2.2))))))))))))))))) (fun u41 => And.intro rfl (And.intro (fun u42 => And.intro rfl (And.intro (fun u43 => And.intro rfl (And.intro (fun u44 => Exists.intro 48 (And.intro rfl (And.intro (Nat.le_of_ble_eq_true rfl) (Exists.intro 0 (Exists.intro 0 (And.intro (Or.inl rfl) (And.intro (Or.inl rfl) ((((t.2 u41).1 u42).1 u43).1 u44)))))))) (fun u44 => Exists.intro 46 (And.intro rfl (And.intro (Nat.le_of_ble_eq_true rfl) (Exists.intro 0 (Exists.intro 0 (And.intro (Or.inl rfl) (And.intro (Or.inl rfl) ((((t.2 u41).1 u42).1 u43).2 u44)))))))))) (fun u43 => Exists.intro 46 (And.intro rfl (And.intro (Nat.le_of_ble_eq_true rfl) (Exists.intro 0 (Exists.intro 0 (And.intro (Or.inl rfl) (And.intro (Or.inl rfl) (((t.2 u41).1 u42).2 u43)))))))))) (fun u42 => And.intro rfl (Exists.intro (some g) (And.intro rfl (And.intro rfl (Exists.intro (some 65) (And.intro rfl (And.intro rfl (And.intro rfl (And.intro ((t.2 u41).2 u42).1 (Exists.intro 71 (And.intro ((t.2 u41).2 u42).2.1 (And.intro (Nat.le_of_ble_eq_true rfl) (Exists.intro 0 (Exists.intro 0 (And.intro (Or.inl rfl) (And.intro (Or.inl rfl) (((t.2 u41).2 u42).2.2)))))))))))))))))))))
theorem g_x7_readOne_34 {d : Nat} {B : Nat × Nat} {Q : zQ} {c : Nat × Nat × Nat} {I : Nat → Nat → Int} {g : Nat} {x1 : Int}
    (t : zcl d 49 0 0 [zr 62] (c, I, zRg g) (fun v h1 => zRn (zcl d) 45 B Q 38 [some (zr 62), some (zi x1)] (zva v []) h1)) :
    zRn (zcl d) 45 B Q 34 [some (zr 62), some (zi x1)] [] (c, I, zRg g) :=
  zgo [34, 38, 55, 66, 75, 92, 103, 109, 116] 1 (Exists.intro 49 (And.intro rfl (And.intro (Nat.le_of_ble_eq_true rfl) (Exists.intro 0 (Exists.intro 0 (And.intro (Or.inl rfl) (And.intro (Or.inl rfl) t)))))))
theorem g_x7_readOne_38 {d : Nat} {B : Nat × Nat} {Q : zQ} {c : Nat × Nat × Nat} {I : Nat → Nat → Int} {g : Nat} {x1 : Int}
    (t : zRn (zcl d) 45 B Q 116 [some (zr 62), some (zi x1)] [] (c, I, zRg g)) :
    zRn (zcl d) 45 B Q 38 [some (zr 62), some (zi x1)] [] (c, I, zRg g) :=
  zgo [34, 38, 55, 66, 75, 92, 103, 109, 116] 1 (t)
theorem g_x7_readOne_55 {d : Nat} {B : Nat × Nat} {Q : zQ} {c : Nat × Nat × Nat} {I : Nat → Nat → Int} {g : Nat} {x1 s0 : Int}
    (t : (s0 ≠ 0 → (zcl d 45 0 0 [zr 62, zi (zwr (x1 + 1))] (c, I, zRg g) (fun v h1 => zRn (zcl d) 45 B Q 66 [some (zr 62), some (zi x1)] (zva v []) h1))) ∧ (¬ (s0 ≠ 0) → (Q none (c, I, zRg g)))) :
    zRn (zcl d) 45 B Q 55 [some (zr 62), some (zi x1)] [zi s0] (c, I, zRg g) :=
  zgo [34, 38, 55, 66, 75, 92, 103, 109, 116] 5 (And.intro (fun u46 => Exists.intro 45 (And.intro rfl (And.intro (Nat.le_of_ble_eq_true rfl) (Exists.intro 0 (Exists.intro 0 (And.intro (Or.inl rfl) (And.intro (Or.inl rfl) (t.1 u46)))))))) (fun u46 => (t.2 u46)))
theorem g_x7_readOne_66 {d : Nat} {B : Nat × Nat} {Q : zQ} {c : Nat × Nat × Nat} {I : Nat → Nat → Int} {g : Nat} {x1 : Int}
    (t : (zsel ((zSh g).1 : Nat) [(10, 71)] = some 71) ∧ (zcl d 71 0 0 [zr g, zi (-12)] (c, I, zRg g) (fun v h1 => zRn (zcl d) 45 B Q 75 [some (zr 62), some (zi x1)] (zva v []) h1))) :
    zRn (zcl d) 45 B Q 66 [some (zr 62), some (zi x1)] [] (c, I, zRg g) :=
  zgo [34, 38, 55, 66, 75, 92, 103, 109, 116] 3 (And.intro rfl (Exists.intro (some g) (And.intro rfl (Exists.intro 71 (And.intro t.1 (And.intro (Nat.le_of_ble_eq_true rfl) (Exists.intro 0 (Exists.intro 0 (And.intro (Or.inl rfl) (And.intro (Or.inl rfl) t.2))))))))))
theorem g_x7_readOne_75 {d : Nat} {B : Nat × Nat} {Q : zQ} {c : Nat × Nat × Nat} {I : Nat → Nat → Int} {g : Nat} {x1 : Int}
    (t : zRn (zcl d) 45 B Q 116 [some (zr 62), some (zi x1)] [] (c, I, zRg g)) :
    zRn (zcl d) 45 B Q 75 [some (zr 62), some (zi x1)] [] (c, I, zRg g) :=
  zgo [34, 38, 55, 66, 75, 92, 103, 109, 116] 1 (t)
theorem g_x7_readOne_92 {d : Nat} {B : Nat × Nat} {Q : zQ} {c : Nat × Nat × Nat} {I : Nat → Nat → Int} {g : Nat} {x1 s0 : Int}
    (t : (s0 ≠ 0 → (zcl d 40 0 0 [zr 62, zi (zwr (x1 + 1))] (c, I, zRg g) (fun v h1 => zRn (zcl d) 45 B Q 103 [some (zr 62), some (zi x1)] (zva v []) h1))) ∧ (¬ (s0 ≠ 0) → (Q none (c, I, zRg g)))) :
    zRn (zcl d) 45 B Q 92 [some (zr 62), some (zi x1)] [zi s0] (c, I, zRg g) :=
  zgo [34, 38, 55, 66, 75, 92, 103, 109, 116] 5 (And.intro (fun u45 => Exists.intro 40 (And.intro rfl (And.intro (Nat.le_of_ble_eq_true rfl) (Exists.intro 0 (Exists.intro 0 (And.intro (Or.inl rfl) (And.intro (Or.inl rfl) (t.1 u45)))))))) (fun u45 => (t.2 u45)))
theorem g_x7_readOne_103 {d : Nat} {B : Nat × Nat} {Q : zQ} {c : Nat × Nat × Nat} {I : Nat → Nat → Int} {g : Nat} {x1 : Int}
    (t : zcl d 47 0 0 [zr 62, zi 41] (c, I, zRg g) (fun v h1 => zRn (zcl d) 45 B Q 109 [some (zr 62), some (zi x1)] (zva v []) h1)) :
    zRn (zcl d) 45 B Q 103 [some (zr 62), some (zi x1)] [] (c, I, zRg g) :=
  zgo [34, 38, 55, 66, 75, 92, 103, 109, 116] 2 (Exists.intro 47 (And.intro rfl (And.intro (Nat.le_of_ble_eq_true rfl) (Exists.intro 0 (Exists.intro 0 (And.intro (Or.inl rfl) (And.intro (Or.inl rfl) t)))))))
theorem g_x7_readOne_109 {d : Nat} {B : Nat × Nat} {Q : zQ} {c : Nat × Nat × Nat} {I : Nat → Nat → Int} {g : Nat} {x1 : Int}
    (t : zRn (zcl d) 45 B Q 116 [some (zr 62), some (zi x1)] [] (c, I, zRg g)) :
    zRn (zcl d) 45 B Q 109 [some (zr 62), some (zi x1)] [] (c, I, zRg g) :=
  zgo [34, 38, 55, 66, 75, 92, 103, 109, 116] 1 (t)
theorem g_x7_readOne_116 {d : Nat} {B : Nat × Nat} {Q : zQ} {c : Nat × Nat × Nat} {I : Nat → Nat → Int} {g : Nat} {x1 : Int}
    (t : Q none (c, I, zRg g)) :
    zRn (zcl d) 45 B Q 116 [some (zr 62), some (zi x1)] [] (c, I, zRg g) :=
  zgo [34, 38, 55, 66, 75, 92, 103, 109, 116] 0 (t)
theorem g_x7_opens_0 {d : Nat} {B : Nat × Nat} {Q : zQ} {c : Nat × Nat × Nat} {I : Nat → Nat → Int} {g : Nat} {x1 : Int}
    (t : (x1 < 5 → (zcl d 49 0 0 [zr 62] (c, I, zRg g) (fun v h1 => zRn (zcl d) 46 B Q 15 [some (zr 62), some (zi x1)] (zva v []) h1))) ∧ (¬ (x1 < 5) → (zcl d 48 0 0 [zr 62] (c, I, zRg g) (fun v h1 => zRn (zcl d) 46 B Q 9 [some (zr 62), some (zi x1)] (zva v []) h1)))) :
    zRn (zcl d) 46 B Q 0 [some (zr 62), some (zi x1)] [] (c, I, zRg g) :=
  zgo [9, 15] 4 (And.intro (fun u47 => Exists.intro 49 (And.intro rfl (And.intro (Nat.le_of_ble_eq_true rfl) (Exists.intro 0 (Exists.intro 0 (And.intro (Or.inl rfl) (And.intro (Or.inl rfl) (t.1 u47)))))))) (fun u47 => Exists.intro 48 (And.intro rfl (And.intro (Nat.le_of_ble_eq_true rfl) (Exists.intro 0 (Exists.intro 0 (And.intro (Or.inl rfl) (And.intro (Or.inl rfl) (t.2 u47)))))))))
theorem g_x7_opens_9 {d : Nat} {B : Nat × Nat} {Q : zQ} {c : Nat × Nat × Nat} {I : Nat → Nat → Int} {g : Nat} {x1 : Int}
    (t : Q (some (zi 0)) (c, I, zRg g)) :
    zRn (zcl d) 46 B Q 9 [some (zr 62), some (zi x1)] [] (c, I, zRg g) :=
  zgo [9, 15] 1 (And.intro (Or.inl rfl) t)
theorem g_x7_opens_15 {d : Nat} {B : Nat × Nat} {Q : zQ} {c : Nat × Nat × Nat} {I : Nat → Nat → Int} {g : Nat} {x1 : Int}
    (t : Q (some (zi 1)) (c, I, zRg g)) :
    zRn (zcl d) 46 B Q 15 [some (zr 62), some (zi x1)] [] (c, I, zRg g) :=
  zgo [9, 15] 1 (And.intro (Or.inr rfl) t)
theorem g_x7_expect_0 {d : Nat} {B : Nat × Nat} {Q : zQ} {c : Nat × Nat × Nat} {I : Nat → Nat → Int} {g : Nat} {x1 : Int}
    (t : (I 62 7 ≠ x1 → (zcl d 48 0 0 [zr 62] (c, I, zRg g) (fun v h1 => zRn (zcl d) 47 B Q 19 [some (zr 62), some (zi x1)] (zva v []) h1))) ∧ (¬ (I 62 7 ≠ x1) → (zcl d 49 0 0 [zr 62] (c, I, zRg g) (fun v h1 => zRn (zcl d) 47 B Q 12 [some (zr 62), some (zi x1)] (zva v []) h1)))) :
    zRn (zcl d) 47 B Q 0 [some (zr 62), some (zi x1)] [] (c, I, zRg g) :=
  zgo [12, 19] 5 (And.intro rfl (And.intro (fun u48 => Exists.intro 48 (And.intro rfl (And.intro (Nat.le_of_ble_eq_true rfl) (Exists.intro 0 (Exists.intro 0 (And.intro (Or.inl rfl) (And.intro (Or.inl rfl) (t.1 u48)))))))) (fun u48 => Exists.intro 49 (And.intro rfl (And.intro (Nat.le_of_ble_eq_true rfl) (Exists.intro 0 (Exists.intro 0 (And.intro (Or.inl rfl) (And.intro (Or.inl rfl) (t.2 u48))))))))))
theorem g_x7_expect_12 {d : Nat} {B : Nat × Nat} {Q : zQ} {c : Nat × Nat × Nat} {I : Nat → Nat → Int} {g : Nat} {x1 : Int}
    (t : zRn (zcl d) 47 B Q 19 [some (zr 62), some (zi x1)] [] (c, I, zRg g)) :
    zRn (zcl d) 47 B Q 12 [some (zr 62), some (zi x1)] [] (c, I, zRg g) :=
  zgo [12, 19] 1 (t)
theorem g_x7_expect_19 {d : Nat} {B : Nat × Nat} {Q : zQ} {c : Nat × Nat × Nat} {I : Nat → Nat → Int} {g : Nat} {x1 : Int}
    (t : Q none (c, I, zRg g)) :
    zRn (zcl d) 47 B Q 19 [some (zr 62), some (zi x1)] [] (c, I, zRg g) :=
  zgo [12, 19] 0 (t)
theorem g_x7_fail_0 {d : Nat} {B : Nat × Nat} {Q : zQ} {c : Nat × Nat × Nat} {I : Nat → Nat → Int} {g : Nat}
    (t : (I 62 8 ≠ (-1) → (Q none (c, (z2 I 62 7 (-2)), zRg g))) ∧ (¬ (I 62 8 ≠ (-1)) → ((0 ≤ I 62 6 ∧ I 62 6 < 161) ∧ (Q none (c, (z2 (z2 I 62 8 (I 66 ((I 62 6).toNat))) 62 7 (-2)), zRg g))))) :
    zRn (zcl d) 48 B Q 0 [some (zr 62)] [] (c, I, zRg g) :=
  zgo [] 14 (And.intro rfl (And.intro (fun u49 => And.intro rfl (t.1 u49)) (fun u49 => And.intro rfl (Exists.intro (some 66) (And.intro rfl (And.intro rfl (And.intro rfl (And.intro (t.2 u49).1 (And.intro rfl (And.intro rfl ((t.2 u49).2)))))))))))
theorem g_x7_advance_0 {d : Nat} {B : Nat × Nat} {Q : zQ} {c : Nat × Nat × Nat} {I : Nat → Nat → Int} {g : Nat}
    (t : (I 62 8 ≠ (-1) → (Q none (c, I, zRg g))) ∧ (¬ (I 62 8 ≠ (-1)) → ((zwr ((I 62 6) + 1) < I 62 5 → ((0 ≤ (zwr ((I 62 6) + 1)) ∧ (zwr ((I 62 6) + 1)) < 161) ∧ (Q none (c, (z2 (z2 I 62 6 (zwr ((I 62 6) + 1))) 62 7 ((z2 I 62 6 (zwr ((I 62 6) + 1))) 64 ((zwr ((I 62 6) + 1)).toNat))), zRg g)))) ∧ (¬ (zwr ((I 62 6) + 1) < I 62 5) → (Q none (c, I, zRg g)))))) :
    zRn (zcl d) 49 B Q 0 [some (zr 62)] [] (c, I, zRg g) :=
  zgo [] 24 (And.intro rfl (And.intro (fun u50 => (t.1 u50)) (fun u50 => And.intro rfl (And.intro rfl (And.intro (fun u51 => And.intro rfl (And.intro rfl (And.intro rfl (Exists.intro (some 64) (And.intro rfl (And.intro rfl (And.intro rfl (And.intro ((t.2 u50).1 u51).1 (And.intro rfl (((t.2 u50).1 u51).2)))))))))) (fun u51 => ((t.2 u50).2 u51)))))))
theorem g_x7_split_0 {d : Nat} {B : Nat × Nat} {Q : zQ} {c : Nat × Nat × Nat} {I : Nat → Nat → Int} {g : Nat}
    (t : zRn (zcl d) 50 B Q 7 [some (zr 62), some (zi 0), none] [] (c, (z2 I 62 5 0), zRg g)) :
    zRn (zcl d) 50 B Q 0 [some (zr 62), none, none] [] (c, I, zRg g) :=
  zgo [7, 61, 78] 5 (And.intro rfl t)
theorem g_x7_split_7 {d : Nat} {B : Nat × Nat} {Q : zQ} {c : Nat × Nat × Nat} {I : Nat → Nat → Int} {g : Nat} {x1 : Int} {o2 : Option zV}
    (t : (I 62 1 ≤ x1 → (zcl d 51 0 0 [zr 62, zi (-1), zi 0, zi (I 62 1)] (c, I, zRg g) (fun v h1 => zRn (zcl d) 50 B Q 78 [some (zr 62), some (zi x1), o2] (zva v []) h1))) ∧ (¬ (I 62 1 ≤ x1) → ((0 ≤ x1 ∧ x1 < 160) ∧ ((I 63 x1.toNat = 32 → (zRn (zcl d) 50 B Q 7 [some (zr 62), some (zi (zwr (x1 + 1))), some (zi 1)] [] (c, I, zRg g))) ∧ (¬ (I 63 x1.toNat = 32) → ((0 ≤ x1 ∧ x1 < 160) ∧ ((I 63 x1.toNat ≠ 10 → (zcl d 52 0 0 [zr 62, zi x1] (c, I, zRg g) (fun v h1 => zRn (zcl d) 50 B Q 61 [some (zr 62), some (zi x1), some (zi 0)] (zva v [zi (zwr (x1 + 1))]) h1))) ∧ (¬ (I 63 x1.toNat ≠ 10) → (zRn (zcl d) 50 B Q 7 [some (zr 62), some (zi (zwr (x1 + 1))), some (zi 1)] [] (c, I, zRg g)))))))))) :
    zRn (zcl d) 50 B Q 7 [some (zr 62), some (zi x1), o2] [] (c, I, zRg g) :=
  zgo [7, 61, 78] 27 (And.intro rfl (And.intro (fun u52 => And.intro rfl (Exists.intro 51 (And.intro rfl (And.intro (Nat.le_of_ble_eq_true rfl) (Exists.intro 0 (Exists.intro 0 (And.intro (Or.inl rfl) (And.intro (Or.inl rfl) (t.1 u52))))))))) (fun u52 => And.intro rfl (Exists.intro (some 63) (And.intro rfl (And.intro rfl (And.intro (t.2 u52).1 (And.intro (fun u53 => And.intro (fun n => absurd n (by decide)) (fun _ => ((t.2 u52).2.1 u53))) (fun u53 => And.intro rfl (Exists.intro (some 63) (And.intro rfl (And.intro rfl (And.intro ((t.2 u52).2.2 u53).1 (And.intro (fun u54 => And.intro (fun _ => Exists.intro 52 (And.intro rfl (And.intro (Nat.le_of_ble_eq_true rfl) (Exists.intro 0 (Exists.intro 0 (And.intro (Or.inl rfl) (And.intro (Or.inl rfl) (((t.2 u52).2.2 u53).2.1 u54)))))))) (fun n => absurd (by decide) n)) (fun u54 => And.intro (fun n => absurd n (by decide)) (fun _ => (((t.2 u52).2.2 u53).2.2 u54)))))))))))))))))
theorem g_x7_split_61 {d : Nat} {B : Nat × Nat} {Q : zQ} {c : Nat × Nat × Nat} {I : Nat → Nat → Int} {g : Nat} {x1 x2 s0 s1 : Int}
    (t : zRn (zcl d) 50 B Q 7 [some (zr 62), some (zi (zmx s1 s0)), some (zi x2)] [] (c, I, zRg g)) :
    zRn (zcl d) 50 B Q 61 [some (zr 62), some (zi x1), some (zi x2)] [zi s0, zi s1] (c, I, zRg g) :=
  zgo [7, 61, 78] 3 (And.intro (Nat.le_of_ble_eq_true rfl) t)
theorem g_x7_split_78 {d : Nat} {B : Nat × Nat} {Q : zQ} {c : Nat × Nat × Nat} {I : Nat → Nat → Int} {g : Nat} {x1 : Int} {o2 : Option zV}
    (t : Q none (c, I, zRg g)) :
    zRn (zcl d) 50 B Q 78 [some (zr 62), some (zi x1), o2] [] (c, I, zRg g) :=
  zgo [7, 61, 78] 0 (t)
theorem g_x7_addToken_0 {d : Nat} {B : Nat × Nat} {Q : zQ} {c : Nat × Nat × Nat} {I : Nat → Nat → Int} {g : Nat} {x1 x2 x3 : Int}
    (t : (I 62 5 < 161 → ((0 ≤ I 62 5 ∧ I 62 5 < 161) ∧ ((0 ≤ (z2 I 64 (I 62 5).toNat x1) 62 5 ∧ (z2 I 64 (I 62 5).toNat x1) 62 5 < 161) ∧ ((0 ≤ (z2 (z2 I 64 (I 62 5).toNat x1) 65 ((z2 I 64 (I 62 5).toNat x1) 62 5).toNat x2) 62 5 ∧ (z2 (z2 I 64 (I 62 5).toNat x1) 65 ((z2 I 64 (I 62 5).toNat x1) 62 5).toNat x2) 62 5 < 161) ∧ (Q none (c, (z2 (z2 (z2 (z2 I 64 (I 62 5).toNat x1) 65 ((z2 I 64 (I 62 5).toNat x1) 62 5).toNat x2) 66 ((z2 (z2 I 64 (I 62 5).toNat x1) 65 ((z2 I 64 (I 62 5).toNat x1) 62 5).toNat x2) 62 5).toNat x3) 62 5 (zwr (((z2 (z2 (z2 I 64 (I 62 5).toNat x1) 65 ((z2 I 64 (I 62 5).toNat x1) 62 5).toNat x2) 66 ((z2 (z2 I 64 (I 62 5).toNat x1) 65 ((z2 I 64 (I 62 5).toNat x1) 62 5).toNat x2) 62 5).toNat x3) 62 5) + 1))), zRg g)))))) ∧ (¬ (I 62 5 < 161) → (Q none (c, I, zRg g)))) :
    zRn (zcl d) 51 B Q 0 [some (zr 62), some (zi x1), some (zi x2), some (zi x3)] [] (c, I, zRg g) :=
  zgo [] 30 (And.intro rfl (And.intro rfl (Exists.intro (some 64) (And.intro rfl (And.intro (by decide) (And.intro (fun u55 => And.intro rfl (Exists.intro (some 64) (And.intro rfl (And.intro rfl (And.intro rfl (And.intro (t.1 u55).1 (And.intro rfl (Exists.intro (some 65) (And.intro rfl (And.intro rfl (And.intro rfl (And.intro (t.1 u55).2.1 (And.intro rfl (Exists.intro (some 66) (And.intro rfl (And.intro rfl (And.intro rfl (And.intro (t.1 u55).2.2.1 (And.intro rfl (And.intro rfl ((t.1 u55).2.2.2))))))))))))))))))))) (fun u55 => (t.2 u55))))))))
theorem g_x7_splitOff_0 {d : Nat} {B : Nat × Nat} {Q : zQ} {c : Nat × Nat × Nat} {I : Nat → Nat → Int} {g : Nat} {x1 : Int}
    (t : (0 ≤ x1 ∧ x1 < 160) ∧ ((I 63 x1.toNat < 97 → ((I 63 x1.toNat < 48 → (zcl d 55 0 0 [zi (I 63 x1.toNat)] (c, I, zRg g) (fun v h1 => zRn (zcl d) 52 B Q 48 [some (zr 62), some (zi x1), some (zi (I 63 x1.toNat))] (zva v [zr 62]) h1))) ∧ (¬ (I 63 x1.toNat < 48) → ((57 < I 63 x1.toNat → (zcl d 55 0 0 [zi (I 63 x1.toNat)] (c, I, zRg g) (fun v h1 => zRn (zcl d) 52 B Q 48 [some (zr 62), some (zi x1), some (zi (I 63 x1.toNat))] (zva v [zr 62]) h1))) ∧ (¬ (57 < I 63 x1.toNat) → (zcl d 54 0 0 [zr 62, zi x1] (c, I, zRg g) (fun v h1 => zRn (zcl d) 52 B Q 42 [some (zr 62), some (zi x1), some (zi (I 63 x1.toNat))] (zva v []) h1))))))) ∧ (¬ (I 63 x1.toNat < 97) → ((122 < I 63 x1.toNat → ((I 63 x1.toNat < 48 → (zcl d 55 0 0 [zi (I 63 x1.toNat)] (c, I, zRg g) (fun v h1 => zRn (zcl d) 52 B Q 48 [some (zr 62), some (zi x1), some (zi (I 63 x1.toNat))] (zva v [zr 62]) h1))) ∧ (¬ (I 63 x1.toNat < 48) → ((57 < I 63 x1.toNat → (zcl d 55 0 0 [zi (I 63 x1.toNat)] (c, I, zRg g) (fun v h1 => zRn (zcl d) 52 B Q 48 [some (zr 62), some (zi x1), some (zi (I 63 x1.toNat))] (zva v [zr 62]) h1))) ∧ (¬ (57 < I 63 x1.toNat) → (zcl d 54 0 0 [zr 62, zi x1] (c, I, zRg g) (fun v h1 => zRn (zcl d) 52 B Q 42 [some (zr 62), some (zi x1), some (zi (I 63 x1.toNat))] (zva v []) h1))))))) ∧ (¬ (122 < I 63 x1.toNat) → (zcl d 53 0 0 [zr 62, zi x1] (c, I, zRg g) (fun v h1 => zRn (zcl d) 52 B Q 24 [some (zr 62), some (zi x1), some (zi (I 63 x1.toNat))] (zva v []) h1))))))) :
    zRn (zcl d) 52 B Q 0 [some (zr 62), some (zi x1), none] [] (c, I, zRg g) :=
  zgo [24, 42, 48, 62] 19 (And.intro rfl (Exists.intro (some 63) (And.intro rfl (And.intro rfl (And.intro t.1 (And.intro (fun u56 => And.intro (fun u57 => And.intro rfl (And.intro (Nat.le_of_ble_eq_true rfl) (Exists.intro 0 (Exists.intro 0 (And.intro (Or.inl rfl) (And.intro (Or.inl rfl) ((t.2.1 u56).1 u57))))))) (fun u57 => And.intro (fun u58 => And.intro rfl (And.intro (Nat.le_of_ble_eq_true rfl) (Exists.intro 0 (Exists.intro 0 (And.intro (Or.inl rfl) (And.intro (Or.inl rfl) (((t.2.1 u56).2 u57).1 u58))))))) (fun u58 => Exists.intro 54 (And.intro rfl (And.intro (Nat.le_of_ble_eq_true rfl) (Exists.intro 0 (Exists.intro 0 (And.intro (Or.inl rfl) (And.intro (Or.inl rfl) (((t.2.1 u56).2 u57).2 u58)))))))))) (fun u56 => And.intro (fun u59 => And.intro (fun u60 => And.intro rfl (And.intro (Nat.le_of_ble_eq_true rfl) (Exists.intro 0 (Exists.intro 0 (And.intro (Or.inl rfl) (And.intro (Or.inl rfl) (((t.2.2 u56).1 u59).1 u60))))))) (fun u60 => And.intro (fun u61 => And.intro rfl (And.intro (Nat.le_of_ble_eq_true rfl) (Exists.intro 0 (Exists.intro 0 (And.intro (Or.inl rfl) (And.intro (Or.inl rfl) ((((t.2.2 u56).1 u59).2 u60).1 u61))))))) (fun u61 => Exists.intro 54 (And.intro rfl (And.intro (Nat.le_of_ble_eq_true rfl) (Exists.intro 0 (Exists.intro 0 (And.intro (Or.inl rfl) (And.intro (Or.inl rfl) ((((t.2.2 u56).1 u59).2 u60).2 u61)))))))))) (fun u59 => Exists.intro 53 (And.intro rfl (And.intro (Nat.le_of_ble_eq_true rfl) (Exists.intro 0 (Exists.intro 0 (And.intro (Or.inl rfl) (And.intro (Or.inl rfl) ((t.2.2 u56).2 u59)))))))))))))))
theorem g_x7_splitOff_24 {d : Nat} {B : Nat × Nat} {Q : zQ} {c : Nat × Nat × Nat} {I : Nat → Nat → Int} {g : Nat} {x1 x2 s0 : Int}
    (t : Q (some (zi s0)) (c, I, zRg g)) :
    zRn (zcl d) 52 B Q 24 [some (zr 62), some (zi x1), some (zi x2)] [zi s0] (c, I, zRg g) :=
  zgo [24, 42, 48, 62] 0 (t)
theorem g_x7_splitOff_42 {d : Nat} {B : Nat × Nat} {Q : zQ} {c : Nat × Nat × Nat} {I : Nat → Nat → Int} {g : Nat} {x1 x2 s0 : Int}
    (t : Q (some (zi s0)) (c, I, zRg g)) :
    zRn (zcl d) 52 B Q 42 [some (zr 62), some (zi x1), some (zi x2)] [zi s0] (c, I, zRg g) :=
  zgo [24, 42, 48, 62] 0 (t)
theorem g_x7_splitOff_48 {d : Nat} {B : Nat × Nat} {Q : zQ} {c : Nat × Nat × Nat} {I : Nat → Nat → Int} {g : Nat} {x1 x2 s0 : Int}
    (t : (s0 = 0 → (zcl d 51 0 0 [zr 62, zi (-2), zi 0, zi x1] (c, I, zRg g) (fun v h1 => zRn (zcl d) 52 B Q 62 [some (zr 62), some (zi x1), some (zi x2)] (zva v []) h1))) ∧ (¬ (s0 = 0) → (zcl d 51 0 0 [zr 62, zi x2, zi 0, zi x1] (c, I, zRg g) (fun v h1 => zRn (zcl d) 52 B Q 62 [some (zr 62), some (zi x1), some (zi x2)] (zva v []) h1)))) :
    zRn (zcl d) 52 B Q 48 [some (zr 62), some (zi x1), some (zi x2)] [zi s0, zr 62] (c, I, zRg g) :=
  zgo [24, 42, 48, 62] 5 (And.intro (fun u62 => Exists.intro 51 (And.intro rfl (And.intro (Nat.le_of_ble_eq_true rfl) (Exists.intro 0 (Exists.intro 0 (And.intro (Or.inl rfl) (And.intro (Or.inl rfl) (t.1 u62)))))))) (fun u62 => Exists.intro 51 (And.intro rfl (And.intro (Nat.le_of_ble_eq_true rfl) (Exists.intro 0 (Exists.intro 0 (And.intro (Or.inl rfl) (And.intro (Or.inl rfl) (t.2 u62)))))))))
theorem g_x7_splitOff_62 {d : Nat} {B : Nat × Nat} {Q : zQ} {c : Nat × Nat × Nat} {I : Nat → Nat → Int} {g : Nat} {x1 x2 : Int}
    (t : Q (some (zi (zwr (x1 + 1)))) (c, I, zRg g)) :
    zRn (zcl d) 52 B Q 62 [some (zr 62), some (zi x1), some (zi x2)] [] (c, I, zRg g) :=
  zgo [24, 42, 48, 62] 3 (t)
theorem g_x7_splitWord_0 {d : Nat} {B : Nat × Nat} {Q : zQ} {c : Nat × Nat × Nat} {I : Nat → Nat → Int} {g : Nat} {x1 : Int}
    (t : zRn (zcl d) 53 B Q 2 [some (zr 62), some (zi x1), some (zi x1), none] [] (c, I, zRg g)) :
    zRn (zcl d) 53 B Q 0 [some (zr 62), some (zi x1), none, none] [] (c, I, zRg g) :=
  zgo [2, 44, 61, 66] 2 (t)
theorem g_x7_splitWord_2 {d : Nat} {B : Nat × Nat} {Q : zQ} {c : Nat × Nat × Nat} {I : Nat → Nat → Int} {g : Nat} {x1 x2 : Int} {o3 : Option zV}
    (t : (I 62 1 ≤ x2 → (zcl d 56 0 0 [zr 62, zi x1, zi x2] (c, I, zRg g) (fun v h1 => zRn (zcl d) 53 B Q 44 [some (zr 62), some (zi x1), some (zi x2), o3] (zva v []) h1))) ∧ (¬ (I 62 1 ≤ x2) → ((0 ≤ x2 ∧ x2 < 160) ∧ ((I 63 x2.toNat < 97 → (zcl d 56 0 0 [zr 62, zi x1, zi x2] (c, I, zRg g) (fun v h1 => zRn (zcl d) 53 B Q 44 [some (zr 62), some (zi x1), some (zi x2), o3] (zva v []) h1))) ∧ (¬ (I 63 x2.toNat < 97) → ((0 ≤ x2 ∧ x2 < 160) ∧ ((122 < I 63 x2.toNat → (zcl d 56 0 0 [zr 62, zi x1, zi x2] (c, I, zRg g) (fun v h1 => zRn (zcl d) 53 B Q 44 [some (zr 62), some (zi x1), some (zi x2), o3] (zva v []) h1))) ∧ (¬ (122 < I 63 x2.toNat) → (zRn (zcl d) 53 B Q 2 [some (zr 62), some (zi x1), some (zi (zwr (x2 + 1))), o3] [] (c, I, zRg g)))))))))) :
    zRn (zcl d) 53 B Q 2 [some (zr 62), some (zi x1), some (zi x2), o3] [] (c, I, zRg g) :=
  zgo [2, 44, 61, 66] 19 (And.intro rfl (And.intro (fun u63 => Exists.intro 56 (And.intro rfl (And.intro (Nat.le_of_ble_eq_true rfl) (Exists.intro 0 (Exists.intro 0 (And.intro (Or.inl rfl) (And.intro (Or.inl rfl) (t.1 u63)))))))) (fun u63 => And.intro rfl (Exists.intro (some 63) (And.intro rfl (And.intro rfl (And.intro (t.2 u63).1 (And.intro (fun u64 => Exists.intro 56 (And.intro rfl (And.intro (Nat.le_of_ble_eq_true rfl) (Exists.intro 0 (Exists.intro 0 (And.intro (Or.inl rfl) (And.intro (Or.inl rfl) ((t.2 u63).2.1 u64)))))))) (fun u64 => And.intro rfl (Exists.intro (some 63) (And.intro rfl (And.intro rfl (And.intro ((t.2 u63).2.2 u64).1 (And.intro (fun u65 => Exists.intro 56 (And.intro rfl (And.intro (Nat.le_of_ble_eq_true rfl) (Exists.intro 0 (Exists.intro 0 (And.intro (Or.inl rfl) (And.intro (Or.inl rfl) (((t.2 u63).2.2 u64).2.1 u65)))))))) (fun u65 => (((t.2 u63).2.2 u64).2.2 u65))))))))))))))))
theorem g_x7_splitWord_44 {d : Nat} {B : Nat × Nat} {Q : zQ} {c : Nat × Nat × Nat} {I : Nat → Nat → Int} {g : Nat} {x1 x2 s0 : Int} {o3 : Option zV}
    (t : (s0 = 0 → (zcl d 57 0 0 [zr 62, zi x1, zi x2] (c, I, zRg g) (fun v h1 => zRn (zcl d) 53 B Q 61 [some (zr 62), some (zi x1), some (zi x2), some (zi s0)] (zva v [zr 62]) h1))) ∧ (¬ (s0 = 0) → (zRn (zcl d) 53 B Q 61 [some (zr 62), some (zi x1), some (zi x2), some (zi s0)] [zi (-4), zr 62] (c, I, zRg g)))) :
    zRn (zcl d) 53 B Q 44 [some (zr 62), some (zi x1), some (zi x2), o3] [zi s0] (c, I, zRg g) :=
  zgo [2, 44, 61, 66] 7 (And.intro (fun u66 => Exists.intro 57 (And.intro rfl (And.intro (Nat.le_of_ble_eq_true rfl) (Exists.intro 0 (Exists.intro 0 (And.intro (Or.inl rfl) (And.intro (Or.inl rfl) (t.1 u66)))))))) (fun u66 => (t.2 u66)))
theorem g_x7_splitWord_61 {d : Nat} {B : Nat × Nat} {Q : zQ} {c : Nat × Nat × Nat} {I : Nat → Nat → Int} {g : Nat} {x1 x2 x3 s0 : Int}
    (t : zcl d 51 0 0 [zr 62, zi s0, zi x3, zi x1] (c, I, zRg g) (fun v h1 => zRn (zcl d) 53 B Q 66 [some (zr 62), some (zi x1), some (zi x2), some (zi x3)] (zva v []) h1)) :
    zRn (zcl d) 53 B Q 61 [some (zr 62), some (zi x1), some (zi x2), some (zi x3)] [zi s0, zr 62] (c, I, zRg g) :=
  zgo [2, 44, 61, 66] 2 (Exists.intro 51 (And.intro rfl (And.intro (Nat.le_of_ble_eq_true rfl) (Exists.intro 0 (Exists.intro 0 (And.intro (Or.inl rfl) (And.intro (Or.inl rfl) t)))))))
theorem g_x7_splitWord_66 {d : Nat} {B : Nat × Nat} {Q : zQ} {c : Nat × Nat × Nat} {I : Nat → Nat → Int} {g : Nat} {x1 x2 x3 : Int}
    (t : Q (some (zi x2)) (c, I, zRg g)) :
    zRn (zcl d) 53 B Q 66 [some (zr 62), some (zi x1), some (zi x2), some (zi x3)] [] (c, I, zRg g) :=
  zgo [2, 44, 61, 66] 1 (t)
theorem g_x7_splitNumber_0 {d : Nat} {B : Nat × Nat} {Q : zQ} {c : Nat × Nat × Nat} {I : Nat → Nat → Int} {g : Nat} {x1 : Int}
    (t : zRn (zcl d) 54 B Q 4 [some (zr 62), some (zi x1), some (zi x1), some (zi 0)] [] (c, I, zRg g)) :
    zRn (zcl d) 54 B Q 0 [some (zr 62), some (zi x1), none, none] [] (c, I, zRg g) :=
  zgo [4, 75] 4 (t)
theorem g_x7_splitNumber_4 {d : Nat} {B : Nat × Nat} {Q : zQ} {c : Nat × Nat × Nat} {I : Nat → Nat → Int} {g : Nat} {x1 x2 x3 : Int}
    (t : (I 62 1 ≤ x2 → ((4 < zwr (x2 - x1) → (zcl d 51 0 0 [zr 62, zi (-2), zi x3, zi x1] (c, I, zRg g) (fun v h1 => zRn (zcl d) 54 B Q 75 [some (zr 62), some (zi x1), some (zi x2), some (zi x3)] (zva v []) h1))) ∧ (¬ (4 < zwr (x2 - x1)) → (zcl d 51 0 0 [zr 62, zi (-3), zi x3, zi x1] (c, I, zRg g) (fun v h1 => zRn (zcl d) 54 B Q 75 [some (zr 62), some (zi x1), some (zi x2), some (zi x3)] (zva v []) h1))))) ∧ (¬ (I 62 1 ≤ x2) → ((0 ≤ x2 ∧ x2 < 160) ∧ ((I 63 x2.toNat < 48 → ((4 < zwr (x2 - x1) → (zcl d 51 0 0 [zr 62, zi (-2), zi x3, zi x1] (c, I, zRg g) (fun v h1 => zRn (zcl d) 54 B Q 75 [some (zr 62), some (zi x1), some (zi x2), some (zi x3)] (zva v []) h1))) ∧ (¬ (4 < zwr (x2 - x1)) → (zcl d 51 0 0 [zr 62, zi (-3), zi x3, zi x1] (c, I, zRg g) (fun v h1 => zRn (zcl d) 54 B Q 75 [some (zr 62), some (zi x1), some (zi x2), some (zi x3)] (zva v []) h1))))) ∧ (¬ (I 63 x2.toNat < 48) → ((0 ≤ x2 ∧ x2 < 160) ∧ ((57 < I 63 x2.toNat → ((4 < zwr (x2 - x1) → (zcl d 51 0 0 [zr 62, zi (-2), zi x3, zi x1] (c, I, zRg g) (fun v h1 => zRn (zcl d) 54 B Q 75 [some (zr 62), some (zi x1), some (zi x2), some (zi x3)] (zva v []) h1))) ∧ (¬ (4 < zwr (x2 - x1)) → (zcl d 51 0 0 [zr 62, zi (-3), zi x3, zi x1] (c, I, zRg g) (fun v h1 => zRn (zcl d) 54 B Q 75 [some (zr 62), some (zi x1), some (zi x2), some (zi x3)] (zva v []) h1))))) ∧ (¬ (57 < I 63 x2.toNat) → ((0 ≤ x2 ∧ x2 < 160) ∧ (zRn (zcl d) 54 B Q 4 [some (zr 62), some (zi x1), some (zi (zwr (x2 + 1))), some (zi (zwr ((zwr ((zwr (x3 * 10)) + (I 63 x2.toNat))) - 48)))] [] (c, I, zRg g))))))))))) :
    zRn (zcl d) 54 B Q 4 [some (zr 62), some (zi x1), some (zi x2), some (zi x3)] [] (c, I, zRg g) :=
  zgo [4, 75] 29 (And.intro rfl (And.intro (fun u67 => And.intro (fun u68 => Exists.intro 51 (And.intro rfl (And.intro (Nat.le_of_ble_eq_true rfl) (Exists.intro 0 (Exists.intro 0 (And.intro (Or.inl rfl) (And.intro (Or.inl rfl) ((t.1 u67).1 u68)))))))) (fun u68 => Exists.intro 51 (And.intro rfl (And.intro (Nat.le_of_ble_eq_true rfl) (Exists.intro 0 (Exists.intro 0 (And.intro (Or.inl rfl) (And.intro (Or.inl rfl) ((t.1 u67).2 u68))))))))) (fun u67 => And.intro rfl (Exists.intro (some 63) (And.intro rfl (And.intro rfl (And.intro (t.2 u67).1 (And.intro (fun u69 => And.intro (fun u70 => Exists.intro 51 (And.intro rfl (And.intro (Nat.le_of_ble_eq_true rfl) (Exists.intro 0 (Exists.intro 0 (And.intro (Or.inl rfl) (And.intro (Or.inl rfl) (((t.2 u67).2.1 u69).1 u70)))))))) (fun u70 => Exists.intro 51 (And.intro rfl (And.intro (Nat.le_of_ble_eq_true rfl) (Exists.intro 0 (Exists.intro 0 (And.intro (Or.inl rfl) (And.intro (Or.inl rfl) (((t.2 u67).2.1 u69).2 u70))))))))) (fun u69 => And.intro rfl (Exists.intro (some 63) (And.intro rfl (And.intro rfl (And.intro ((t.2 u67).2.2 u69).1 (And.intro (fun u71 => And.intro (fun u72 => Exists.intro 51 (And.intro rfl (And.intro (Nat.le_of_ble_eq_true rfl) (Exists.intro 0 (Exists.intro 0 (And.intro (Or.inl rfl) (And.intro (Or.inl rfl) ((((t.2 u67).2.2 u69).2.1 u71).1 u72)))))))) (fun u72 => Exists.intro 51 (And.intro rfl (And.intro (Nat.le_of_ble_eq_true rfl) (Exists.intro 0 (Exists.intro 0 (And.intro (Or.inl rfl) (And.intro (Or.inl rfl) ((((t.2 u67).2.2 u69).2.1 u71).2 u72))))))))) (fun u71 => And.intro rfl (Exists.intro (some 63) (And.intro rfl (And.intro rfl (And.intro (((t.2 u67).2.2 u69).2.2 u71).1 ((((t.2 u67).2.2 u69).2.2 u71).2))))))))))))))))))))
theorem g_x7_splitNumber_75 {d : Nat} {B : Nat × Nat} {Q : zQ} {c : Nat × Nat × Nat} {I : Nat → Nat → Int} {g : Nat} {x1 x2 x3 : Int}
    (t : Q (some (zi x2)) (c, I, zRg g)) :
    zRn (zcl d) 54 B Q 75 [some (zr 62), some (zi x1), some (zi x2), some (zi x3)] [] (c, I, zRg g) :=
  zgo [4, 75] 1 (t)
theorem g_x7_isSign_0 {d : Nat} {B : Nat × Nat} {Q : zQ} {c : Nat × Nat × Nat} {I : Nat → Nat → Int} {g : Nat} {x0 : Int}
    (t : (x0 = 40 → (Q (some (zi 1)) (c, I, zRg g))) ∧ (¬ (x0 = 40) → ((x0 = 41 → (Q (some (zi 1)) (c, I, zRg g))) ∧ (¬ (x0 = 41) → ((x0 = 42 → (Q (some (zi 1)) (c, I, zRg g))) ∧ (¬ (x0 = 42) → ((x0 = 43 → (Q (some (zi 1)) (c, I, zRg g))) ∧ (¬ (x0 = 43) → ((x0 = 44 → (Q (some (zi 0)) (c, I, zRg g))) ∧ (¬ (x0 = 44) → ((x0 = 45 → (Q (some (zi 1)) (c, I, zRg g))) ∧ (¬ (x0 = 45) → ((x0 = 46 → (Q (some (zi 0)) (c, I, zRg g))) ∧ (¬ (x0 = 46) → ((x0 = 47 → (Q (some (zi 0)) (c, I, zRg g))) ∧ (¬ (x0 = 47) → ((x0 = 48 → (Q (some (zi 0)) (c, I, zRg g))) ∧ (¬ (x0 = 48) → ((x0 = 49 → (Q (some (zi 0)) (c, I, zRg g))) ∧ (¬ (x0 = 49) → ((x0 = 50 → (Q (some (zi 0)) (c, I, zRg g))) ∧ (¬ (x0 = 50) → ((x0 = 51 → (Q (some (zi 0)) (c, I, zRg g))) ∧ (¬ (x0 = 51) → ((x0 = 52 → (Q (some (zi 0)) (c, I, zRg g))) ∧ (¬ (x0 = 52) → ((x0 = 53 → (Q (some (zi 0)) (c, I, zRg g))) ∧ (¬ (x0 = 53) → ((x0 = 54 → (Q (some (zi 0)) (c, I, zRg g))) ∧ (¬ (x0 = 54) → ((x0 = 55 → (Q (some (zi 0)) (c, I, zRg g))) ∧ (¬ (x0 = 55) → ((x0 = 56 → (Q (some (zi 0)) (c, I, zRg g))) ∧ (¬ (x0 = 56) → ((x0 = 57 → (Q (some (zi 0)) (c, I, zRg g))) ∧ (¬ (x0 = 57) → ((x0 = 58 → (Q (some (zi 0)) (c, I, zRg g))) ∧ (¬ (x0 = 58) → ((x0 = 59 → (Q (some (zi 1)) (c, I, zRg g))) ∧ (¬ (x0 = 59) → ((x0 = 60 → (Q (some (zi 1)) (c, I, zRg g))) ∧ (¬ (x0 = 60) → ((x0 = 61 → (Q (some (zi 1)) (c, I, zRg g))) ∧ (¬ (x0 = 61) → (Q (some (zi 0)) (c, I, zRg g)))))))))))))))))))))))))))))))))))))))))))))) :
    zRn (zcl d) 55 B Q 0 [some (zi x0)] [] (c, I, zRg g) :=
  zgo [] 3 (And.intro (fun u73 => And.intro (Or.inr rfl) (t.1 u73)) (fun u73 => And.intro (fun u74 => And.intro (Or.inr rfl) ((t.2 u73).1 u74)) (fun u74 => And.intro (fun u75 => And.intro (Or.inr rfl) (((t.2 u73).2 u74).1 u75)) (fun u75 => And.intro (fun u76 => And.intro (Or.inr rfl) ((((t.2 u73).2 u74).2 u75).1 u76)) (fun u76 => And.intro (fun u77 => And.intro (Or.inl rfl) (((((t.2 u73).2 u74).2 u75).2 u76).1 u77)) (fun u77 => And.intro (fun u78 => And.intro (Or.inr rfl) ((((((t.2 u73).2 u74).2 u75).2 u76).2 u77).1 u78)) (fun u78 => And.intro (fun u79 => And.intro (Or.inl rfl) (((((((t.2 u73).2 u74).2 u75).2 u76).2 u77).2 u78).1 u79)) (fun u79 => And.intro (fun u80 => And.intro (Or.inl rfl) ((((((((t.2 u73).2 u74).2 u75).2 u76).2 u77).2 u78).2 u79).1 u80)) (fun u80 => And.intro (fun u81 => And.intro (Or.inl rfl) (((((((((t.2 u73).2 u74).2 u75).2 u76).2 u77).2 u78).2 u79).2 u80).1 u81)) (fun u81 => And.intro (fun u82 => And.intro (Or.inl rfl) ((((((((((t.2 u73).2 u74).2 u75).2 u76).2 u77).2 u78).2 u79).2 u80).2 u81).1 u82)) (fun u82 => And.intro (fun u83 => And.intro (Or.inl rfl) (((((((((((t.2 u73).2 u74).2 u75).2 u76).2 u77).2 u78).2 u79).2 u80).2 u81).2 u82).1 u83)) (fun u83 => And.intro (fun u84 => And.intro (Or.inl rfl) ((((((((((((t.2 u73).2 u74).2 u75).2 u76).2 u77).2 u78).2 u79).2 u80).2 u81).2 u82).2 u83).1 u84)) (fun u84 => And.intro (fun u85 => And.intro (Or.inl rfl) (((((((((((((t.2 u73).2 u74).2 u75).2 u76).2 u77).2 u78).2 u79).2 u80).2 u81).2 u82).2 u83).2 u84).1 u85)) (fun u85 => And.intro (fun u86 => And.intro (Or.inl rfl) ((((((((((((((t.2 u73).2 u74).2 u75).2 u76).2 u77).2 u78).2 u79).2 u80).2 u81).2 u82).2 u83).2 u84).2 u85).1 u86)) (fun u86 => And.intro (fun u87 => And.intro (Or.inl rfl) (((((((((((((((t.2 u73).2 u74).2 u75).2 u76).2 u77).2 u78).2 u79).2 u80).2 u81).2 u82).2 u83).2 u84).2 u85).2 u86).1 u87)) (fun u87 => And.intro (fun u88 => And.intro (Or.inl rfl) ((((((((((((((((t.2 u73).2 u74).2 u75).2 u76).2 u77).2 u78).2 u79).2 u80).2 u81).2 u82).2 u83).2 u84).2 u85).2 u86).2 u87).1 u88)) (fun u88 => And.intro (fun u89 => And.intro (Or.inl rfl) (((((((((((((((((t.2 u73).2 u74).2 u75).2 u76).2 u77).2 u78).2 u79).2 u80).2 u81).2 u82).2 u83).2 u84).2 u85).2 u86).2 u87).2 u88).1 u89)) (fun u89 => And.intro (fun u90 => And.intro (Or.inl rfl) ((((((((((((((((((t.2 u73).2 u74).2 u75).2 u76).2 u77).2 u78).2 u79).2 u80).2 u81).2 u82).2 u83).2 u84).2 u85).2 u86).2 u87).2 u88).2 u89).1 u90)) (fun u90 => And.intro (fun u91 => And.intro (Or.inl rfl) (((((((((((((((((((t.2 u73).2 u74).2 u75).2 u76).2 u77).2 u78).2 u79).2 u80).2 u81).2 u82).2 u83).2 u84).2 u85).2 u86).2 u87).2 u88).2 u89).2 u90).1 u91)) (fun u91 => And.intro (fun u92 => And.intro (Or.inr rfl) ((((((((((((((((((((t.2 u73).2 u74).2 u75).2 u76).2 u77).2 u78).2 u79).2 u80).2 u81).2 u82).2 u83).2 u84).2 u85).2 u86).2 u87).2 u88).2 u89).2 u90).2 u91).1 u92)) (fun u92 => And.intro (fun u93 => And.intro (Or.inr rfl) (((((((((((((((((((((t.2 u73).2 u74).2 u75).2 u76).2 u77).2 u78).2 u79).2 u80).2 u81).2 u82).2 u83).2 u84).2 u85).2 u86).2 u87).2 u88).2 u89).2 u90).2 u91).2 u92).1 u93)) (fun u93 => And.intro (fun u94 => And.intro (Or.inr rfl) ((((((((((((((((((((((t.2 u73).2 u74).2 u75).2 u76).2 u77).2 u78).2 u79).2 u80).2 u81).2 u82).2 u83).2 u84).2 u85).2 u86).2 u87).2 u88).2 u89).2 u90).2 u91).2 u92).2 u93).1 u94)) (fun u94 => And.intro (Or.inl rfl) ((((((((((((((((((((((t.2 u73).2 u74).2 u75).2 u76).2 u77).2 u78).2 u79).2 u80).2 u81).2 u82).2 u83).2 u84).2 u85).2 u86).2 u87).2 u88).2 u89).2 u90).2 u91).2 u92).2 u93).2 u94))))))))))))))))))))))))
theorem g_x7_nameCode_0 {d : Nat} {B : Nat × Nat} {Q : zQ} {c : Nat × Nat × Nat} {I : Nat → Nat → Int} {g : Nat} {x1 x2 : Int}
    (t : zcl d 58 0 0 [zr 62, zr 1001, zi x1, zi x2] (c, I, zRg g) (fun v h1 => zRn (zcl d) 56 B Q 8 [some (zr 62), some (zi x1), some (zi x2)] (zva v []) h1)) :
    zRn (zcl d) 56 B Q 0 [some (zr 62), some (zi x1), some (zi x2)] [] (c, I, zRg g) :=
  zgo [8, 21, 35, 49, 63, 77] 4 (Exists.intro 58 (And.intro rfl (And.intro (Nat.le_of_ble_eq_true rfl) (Exists.intro 0 (Exists.intro 0 (And.intro (Or.inl rfl) (And.intro (Or.inl rfl) t)))))))
theorem g_x7_nameCode_8 {d : Nat} {B : Nat × Nat} {Q : zQ} {c : Nat × Nat × Nat} {I : Nat → Nat → Int} {g : Nat} {x1 x2 s0 : Int}
    (t : (s0 = 0 → (zcl d 58 0 0 [zr 62, zr 1002, zi x1, zi x2] (c, I, zRg g) (fun v h1 => zRn (zcl d) 56 B Q 21 [some (zr 62), some (zi x1), some (zi x2)] (zva v []) h1))) ∧ (¬ (s0 = 0) → (Q (some (zi (-1))) (c, I, zRg g)))) :
    zRn (zcl d) 56 B Q 8 [some (zr 62), some (zi x1), some (zi x2)] [zi s0] (c, I, zRg g) :=
  zgo [8, 21, 35, 49, 63, 77] 5 (And.intro (fun u95 => Exists.intro 58 (And.intro rfl (And.intro (Nat.le_of_ble_eq_true rfl) (Exists.intro 0 (Exists.intro 0 (And.intro (Or.inl rfl) (And.intro (Or.inl rfl) (t.1 u95)))))))) (fun u95 => (t.2 u95)))
theorem g_x7_nameCode_21 {d : Nat} {B : Nat × Nat} {Q : zQ} {c : Nat × Nat × Nat} {I : Nat → Nat → Int} {g : Nat} {x1 x2 s0 : Int}
    (t : (s0 = 0 → (zcl d 58 0 0 [zr 62, zr 1003, zi x1, zi x2] (c, I, zRg g) (fun v h1 => zRn (zcl d) 56 B Q 35 [some (zr 62), some (zi x1), some (zi x2)] (zva v []) h1))) ∧ (¬ (s0 = 0) → (Q (some (zi (-2))) (c, I, zRg g)))) :
    zRn (zcl d) 56 B Q 21 [some (zr 62), some (zi x1), some (zi x2)] [zi s0] (c, I, zRg g) :=
  zgo [8, 21, 35, 49, 63, 77] 5 (And.intro (fun u96 => Exists.intro 58 (And.intro rfl (And.intro (Nat.le_of_ble_eq_true rfl) (Exists.intro 0 (Exists.intro 0 (And.intro (Or.inl rfl) (And.intro (Or.inl rfl) (t.1 u96)))))))) (fun u96 => (t.2 u96)))
theorem g_x7_nameCode_35 {d : Nat} {B : Nat × Nat} {Q : zQ} {c : Nat × Nat × Nat} {I : Nat → Nat → Int} {g : Nat} {x1 x2 s0 : Int}
    (t : (s0 = 0 → (zcl d 58 0 0 [zr 62, zr 1004, zi x1, zi x2] (c, I, zRg g) (fun v h1 => zRn (zcl d) 56 B Q 49 [some (zr 62), some (zi x1), some (zi x2)] (zva v []) h1))) ∧ (¬ (s0 = 0) → (Q (some (zi (-3))) (c, I, zRg g)))) :
    zRn (zcl d) 56 B Q 35 [some (zr 62), some (zi x1), some (zi x2)] [zi s0] (c, I, zRg g) :=
  zgo [8, 21, 35, 49, 63, 77] 5 (And.intro (fun u97 => Exists.intro 58 (And.intro rfl (And.intro (Nat.le_of_ble_eq_true rfl) (Exists.intro 0 (Exists.intro 0 (And.intro (Or.inl rfl) (And.intro (Or.inl rfl) (t.1 u97)))))))) (fun u97 => (t.2 u97)))
theorem g_x7_nameCode_49 {d : Nat} {B : Nat × Nat} {Q : zQ} {c : Nat × Nat × Nat} {I : Nat → Nat → Int} {g : Nat} {x1 x2 s0 : Int}
    (t : (s0 = 0 → (zcl d 58 0 0 [zr 62, zr 1005, zi x1, zi x2] (c, I, zRg g) (fun v h1 => zRn (zcl d) 56 B Q 63 [some (zr 62), some (zi x1), some (zi x2)] (zva v []) h1))) ∧ (¬ (s0 = 0) → (Q (some (zi (-4))) (c, I, zRg g)))) :
    zRn (zcl d) 56 B Q 49 [some (zr 62), some (zi x1), some (zi x2)] [zi s0] (c, I, zRg g) :=
  zgo [8, 21, 35, 49, 63, 77] 5 (And.intro (fun u98 => Exists.intro 58 (And.intro rfl (And.intro (Nat.le_of_ble_eq_true rfl) (Exists.intro 0 (Exists.intro 0 (And.intro (Or.inl rfl) (And.intro (Or.inl rfl) (t.1 u98)))))))) (fun u98 => (t.2 u98)))
theorem g_x7_nameCode_63 {d : Nat} {B : Nat × Nat} {Q : zQ} {c : Nat × Nat × Nat} {I : Nat → Nat → Int} {g : Nat} {x1 x2 s0 : Int}
    (t : (s0 = 0 → (zcl d 58 0 0 [zr 62, zr 1006, zi x1, zi x2] (c, I, zRg g) (fun v h1 => zRn (zcl d) 56 B Q 77 [some (zr 62), some (zi x1), some (zi x2)] (zva v []) h1))) ∧ (¬ (s0 = 0) → (Q (some (zi (-5))) (c, I, zRg g)))) :
    zRn (zcl d) 56 B Q 63 [some (zr 62), some (zi x1), some (zi x2)] [zi s0] (c, I, zRg g) :=
  zgo [8, 21, 35, 49, 63, 77] 5 (And.intro (fun u99 => Exists.intro 58 (And.intro rfl (And.intro (Nat.le_of_ble_eq_true rfl) (Exists.intro 0 (Exists.intro 0 (And.intro (Or.inl rfl) (And.intro (Or.inl rfl) (t.1 u99)))))))) (fun u99 => (t.2 u99)))
theorem g_x7_nameCode_77 {d : Nat} {B : Nat × Nat} {Q : zQ} {c : Nat × Nat × Nat} {I : Nat → Nat → Int} {g : Nat} {x1 x2 s0 : Int}
    (t : (s0 = 0 → (Q (some (zi 0)) (c, I, zRg g))) ∧ (¬ (s0 = 0) → (Q (some (zi (-6))) (c, I, zRg g)))) :
    zRn (zcl d) 56 B Q 77 [some (zr 62), some (zi x1), some (zi x2)] [zi s0] (c, I, zRg g) :=
  zgo [8, 21, 35, 49, 63, 77] 2 (And.intro (fun u100 => (t.1 u100)) (fun u100 => (t.2 u100)))
theorem g_x7_keyToken_0 {d : Nat} {B : Nat × Nat} {Q : zQ} {c : Nat × Nat × Nat} {I : Nat → Nat → Int} {g : Nat} {x1 x2 : Int}
    (t : zcl d 58 0 0 [zr 62, zr 1007, zi x1, zi x2] (c, I, zRg g) (fun v h1 => zRn (zcl d) 57 B Q 8 [some (zr 62), some (zi x1), some (zi x2)] (zva v []) h1)) :
    zRn (zcl d) 57 B Q 0 [some (zr 62), some (zi x1), some (zi x2)] [] (c, I, zRg g) :=
  zgo [8, 22, 36, 50, 64, 78] 4 (Exists.intro 58 (And.intro rfl (And.intro (Nat.le_of_ble_eq_true rfl) (Exists.intro 0 (Exists.intro 0 (And.intro (Or.inl rfl) (And.intro (Or.inl rfl) t)))))))
theorem g_x7_keyToken_8 {d : Nat} {B : Nat × Nat} {Q : zQ} {c : Nat × Nat × Nat} {I : Nat → Nat → Int} {g : Nat} {x1 x2 s0 : Int}
    (t : (s0 = 0 → (zcl d 58 0 0 [zr 62, zr 1008, zi x1, zi x2] (c, I, zRg g) (fun v h1 => zRn (zcl d) 57 B Q 22 [some (zr 62), some (zi x1), some (zi x2)] (zva v []) h1))) ∧ (¬ (s0 = 0) → (Q (some (zi (-5))) (c, I, zRg g)))) :
    zRn (zcl d) 57 B Q 8 [some (zr 62), some (zi x1), some (zi x2)] [zi s0] (c, I, zRg g) :=
  zgo [8, 22, 36, 50, 64, 78] 5 (And.intro (fun u101 => Exists.intro 58 (And.intro rfl (And.intro (Nat.le_of_ble_eq_true rfl) (Exists.intro 0 (Exists.intro 0 (And.intro (Or.inl rfl) (And.intro (Or.inl rfl) (t.1 u101)))))))) (fun u101 => (t.2 u101)))
theorem g_x7_keyToken_22 {d : Nat} {B : Nat × Nat} {Q : zQ} {c : Nat × Nat × Nat} {I : Nat → Nat → Int} {g : Nat} {x1 x2 s0 : Int}
    (t : (s0 = 0 → (zcl d 58 0 0 [zr 62, zr 1009, zi x1, zi x2] (c, I, zRg g) (fun v h1 => zRn (zcl d) 57 B Q 36 [some (zr 62), some (zi x1), some (zi x2)] (zva v []) h1))) ∧ (¬ (s0 = 0) → (Q (some (zi (-6))) (c, I, zRg g)))) :
    zRn (zcl d) 57 B Q 22 [some (zr 62), some (zi x1), some (zi x2)] [zi s0] (c, I, zRg g) :=
  zgo [8, 22, 36, 50, 64, 78] 5 (And.intro (fun u102 => Exists.intro 58 (And.intro rfl (And.intro (Nat.le_of_ble_eq_true rfl) (Exists.intro 0 (Exists.intro 0 (And.intro (Or.inl rfl) (And.intro (Or.inl rfl) (t.1 u102)))))))) (fun u102 => (t.2 u102)))
theorem g_x7_keyToken_36 {d : Nat} {B : Nat × Nat} {Q : zQ} {c : Nat × Nat × Nat} {I : Nat → Nat → Int} {g : Nat} {x1 x2 s0 : Int}
    (t : (s0 = 0 → (zcl d 58 0 0 [zr 62, zr 1010, zi x1, zi x2] (c, I, zRg g) (fun v h1 => zRn (zcl d) 57 B Q 50 [some (zr 62), some (zi x1), some (zi x2)] (zva v []) h1))) ∧ (¬ (s0 = 0) → (Q (some (zi (-7))) (c, I, zRg g)))) :
    zRn (zcl d) 57 B Q 36 [some (zr 62), some (zi x1), some (zi x2)] [zi s0] (c, I, zRg g) :=
  zgo [8, 22, 36, 50, 64, 78] 5 (And.intro (fun u103 => Exists.intro 58 (And.intro rfl (And.intro (Nat.le_of_ble_eq_true rfl) (Exists.intro 0 (Exists.intro 0 (And.intro (Or.inl rfl) (And.intro (Or.inl rfl) (t.1 u103)))))))) (fun u103 => (t.2 u103)))
theorem g_x7_keyToken_50 {d : Nat} {B : Nat × Nat} {Q : zQ} {c : Nat × Nat × Nat} {I : Nat → Nat → Int} {g : Nat} {x1 x2 s0 : Int}
    (t : (s0 = 0 → (zcl d 58 0 0 [zr 62, zr 1011, zi x1, zi x2] (c, I, zRg g) (fun v h1 => zRn (zcl d) 57 B Q 64 [some (zr 62), some (zi x1), some (zi x2)] (zva v []) h1))) ∧ (¬ (s0 = 0) → (Q (some (zi (-8))) (c, I, zRg g)))) :
    zRn (zcl d) 57 B Q 50 [some (zr 62), some (zi x1), some (zi x2)] [zi s0] (c, I, zRg g) :=
  zgo [8, 22, 36, 50, 64, 78] 5 (And.intro (fun u104 => Exists.intro 58 (And.intro rfl (And.intro (Nat.le_of_ble_eq_true rfl) (Exists.intro 0 (Exists.intro 0 (And.intro (Or.inl rfl) (And.intro (Or.inl rfl) (t.1 u104)))))))) (fun u104 => (t.2 u104)))
theorem g_x7_keyToken_64 {d : Nat} {B : Nat × Nat} {Q : zQ} {c : Nat × Nat × Nat} {I : Nat → Nat → Int} {g : Nat} {x1 x2 s0 : Int}
    (t : (s0 = 0 → (zcl d 58 0 0 [zr 62, zr 1012, zi x1, zi x2] (c, I, zRg g) (fun v h1 => zRn (zcl d) 57 B Q 78 [some (zr 62), some (zi x1), some (zi x2)] (zva v []) h1))) ∧ (¬ (s0 = 0) → (Q (some (zi (-9))) (c, I, zRg g)))) :
    zRn (zcl d) 57 B Q 64 [some (zr 62), some (zi x1), some (zi x2)] [zi s0] (c, I, zRg g) :=
  zgo [8, 22, 36, 50, 64, 78] 5 (And.intro (fun u105 => Exists.intro 58 (And.intro rfl (And.intro (Nat.le_of_ble_eq_true rfl) (Exists.intro 0 (Exists.intro 0 (And.intro (Or.inl rfl) (And.intro (Or.inl rfl) (t.1 u105)))))))) (fun u105 => (t.2 u105)))
theorem g_x7_keyToken_78 {d : Nat} {B : Nat × Nat} {Q : zQ} {c : Nat × Nat × Nat} {I : Nat → Nat → Int} {g : Nat} {x1 x2 s0 : Int}
    (t : (s0 = 0 → (Q (some (zi (-2))) (c, I, zRg g))) ∧ (¬ (s0 = 0) → (Q (some (zi (-10))) (c, I, zRg g)))) :
    zRn (zcl d) 57 B Q 78 [some (zr 62), some (zi x1), some (zi x2)] [zi s0] (c, I, zRg g) :=
  zgo [8, 22, 36, 50, 64, 78] 2 (And.intro (fun u106 => (t.1 u106)) (fun u106 => (t.2 u106)))
theorem g_x7_isWord_0 {d : Nat} {B : Nat × Nat} {Q : zQ} {c : Nat × Nat × Nat} {I : Nat → Nat → Int} {g : Nat} {x2 x3 : Int} {a1 : Nat}
    (t : (x2 < 0 → (Q (some (zi 0)) (c, I, zRg g))) ∧ (¬ (x2 < 0) → ((I 62 1 < x3 → (Q (some (zi 0)) (c, I, zRg g))) ∧ (¬ (I 62 1 < x3) → ((1000 ≤ a1 ∧ a1 < 1013) ∧ ((zwr (x3 - x2) = (zvsLen a1 : Nat) → (zRn (zcl d) 58 B Q 27 [some (zr 62), some (zr a1), some (zi x2), some (zi x3), some (zi 0)] [] (c, I, zRg g))) ∧ (¬ (zwr (x3 - x2) = (zvsLen a1 : Nat)) → (Q (some (zi 0)) (c, I, zRg g))))))))) :
    zRn (zcl d) 58 B Q 0 [some (zr 62), some (zr a1), some (zi x2), some (zi x3), none] [] (c, I, zRg g) :=
  zgo [27] 14 (And.intro (fun u107 => And.intro (Or.inl rfl) (t.1 u107)) (fun u107 => And.intro rfl (And.intro (fun u108 => And.intro (Or.inl rfl) ((t.2 u107).1 u108)) (fun u108 => And.intro (Nat.le_of_ble_eq_true rfl) (And.intro ((t.2 u107).2 u108).1 (And.intro (fun u109 => (((t.2 u107).2 u108).2.1 u109)) (fun u109 => And.intro (Or.inl rfl) (((t.2 u107).2 u108).2.2 u109))))))))
theorem g_x7_isWord_27 {d : Nat} {B : Nat × Nat} {Q : zQ} {c : Nat × Nat × Nat} {I : Nat → Nat → Int} {g : Nat} {x2 x3 x4 : Int} {a1 : Nat}
    (t : (1000 ≤ a1 ∧ a1 < 1013) ∧ (((zvsLen a1 : Nat) ≤ x4 → (Q (some (zi 1)) (c, I, zRg g))) ∧ (¬ ((zvsLen a1 : Nat) ≤ x4) → ((0 ≤ zwr (x2 + x4) ∧ zwr (x2 + x4) < 160) ∧ ((1000 ≤ a1 ∧ a1 < 1013) ∧ ((0 ≤ x4 ∧ x4 < (zvsLen a1 : Nat)) ∧ ((I 63 ((zwr (x2 + x4)).toNat) = zvsAt a1 x4.toNat → (zRn (zcl d) 58 B Q 27 [some (zr 62), some (zr a1), some (zi x2), some (zi x3), some (zi (zwr (x4 + 1)))] [] (c, I, zRg g))) ∧ (¬ (I 63 ((zwr (x2 + x4)).toNat) = zvsAt a1 x4.toNat) → (Q (some (zi 0)) (c, I, zRg g)))))))))) :
    zRn (zcl d) 58 B Q 27 [some (zr 62), some (zr a1), some (zi x2), some (zi x3), some (zi x4)] [] (c, I, zRg g) :=
  zgo [27] 16 (And.intro (Nat.le_of_ble_eq_true rfl) (And.intro t.1 (And.intro (fun u110 => And.intro (Or.inr rfl) (t.2.1 u110)) (fun u110 => And.intro rfl (Exists.intro (some 63) (And.intro rfl (And.intro rfl (And.intro (t.2.2 u110).1 (And.intro (Nat.le_of_ble_eq_true rfl) (And.intro (t.2.2 u110).2.1 (And.intro (t.2.2 u110).2.2.1 (And.intro (fun u111 => ((t.2.2 u110).2.2.2.1 u111)) (fun u111 => And.intro (Or.inl rfl) ((t.2.2 u110).2.2.2.2 u111))))))))))))))
theorem g_x8_isMissing_0 {d : Nat} {B : Nat × Nat} {Q : zQ} {c : Nat × Nat × Nat} {I : Nat → Nat → Int} {g : Nat} {a0 : Nat}
    (t : ((zSh a0).1 = 8) ∧ ((I a0 1 ≠ (-1) → (Q (some (zi 0)) (c, I, zRg g))) ∧ (¬ (I a0 1 ≠ (-1)) → (Q (some (zi 1)) (c, I, zRg g))))) :
    zRn (zcl d) 60 B Q 0 [some (zr a0)] [] (c, I, zRg g) :=
  zgo [] 6 (And.intro t.1 (And.intro (fun u112 => And.intro (Or.inl rfl) (t.2.1 u112)) (fun u112 => And.intro (Or.inr rfl) (t.2.2 u112))))
theorem g_x8_has_0 {d : Nat} {B : Nat × Nat} {Q : zQ} {c : Nat × Nat × Nat} {I : Nat → Nat → Int} {g : Nat} {x1 x2 : Int} {a0 : Nat}
    (t : (x1 < 0 → (Q (some (zi 0)) (c, I, zRg g))) ∧ (¬ (x1 < 0) → ((x2 < 0 → (Q (some (zi 0)) (c, I, zRg g))) ∧ (¬ (x2 < 0) → (((zSh a0).1 = 8) ∧ ((I a0 2 < x1 → (Q (some (zi 0)) (c, I, zRg g))) ∧ (¬ (I a0 2 < x1) → (((zSh a0).1 = 8) ∧ ((zwr ((I a0 2) - x1) < x2 → (Q (some (zi 0)) (c, I, zRg g))) ∧ (¬ (zwr ((I a0 2) - x1) < x2) → (Q (some (zi 1)) (c, I, zRg g)))))))))))) :
    zRn (zcl d) 61 B Q 0 [some (zr a0), some (zi x1), some (zi x2)] [] (c, I, zRg g) :=
  zgo [] 16 (And.intro (fun u113 => And.intro (Or.inl rfl) (t.1 u113)) (fun u113 => And.intro (fun u114 => And.intro (Or.inl rfl) ((t.2 u113).1 u114)) (fun u114 => And.intro ((t.2 u113).2 u114).1 (And.intro (fun u115 => And.intro (Or.inl rfl) (((t.2 u113).2 u114).2.1 u115)) (fun u115 => And.intro (((t.2 u113).2 u114).2.2 u115).1 (And.intro (fun u116 => And.intro (Or.inl rfl) ((((t.2 u113).2 u114).2.2 u115).2.1 u116)) (fun u116 => And.intro (Or.inr rfl) ((((t.2 u113).2 u114).2.2 u115).2.2 u116))))))))
theorem g_x8_become_0 {d : Nat} {B : Nat × Nat} {Q : zQ} {c : Nat × Nat × Nat} {I : Nat → Nat → Int} {g : Nat} {x1 x2 : Int} {a0 : Nat}
    (t : ((zSh a0).1 = 8) ∧ (zcl d 103 0 0 [zi x2, zi 40] (c, (z2 I a0 1 x1), zRg g) (fun v h1 => zRn (zcl d) 62 B Q 12 [some (zr a0), some (zi x1), some (zi x2), none] (zva v [zr a0]) h1))) :
    zRn (zcl d) 62 B Q 0 [some (zr a0), some (zi x1), some (zi x2), none] [] (c, I, zRg g) :=
  zgo [12, 17] 6 (And.intro t.1 (And.intro rfl (And.intro (Nat.le_of_ble_eq_true rfl) (Exists.intro 0 (Exists.intro 0 (And.intro (Or.inl rfl) (And.intro (Or.inl rfl) t.2)))))))
theorem g_x8_become_12 {d : Nat} {B : Nat × Nat} {Q : zQ} {c : Nat × Nat × Nat} {I : Nat → Nat → Int} {g : Nat} {x1 x2 s0 : Int} {a0 b1 : Nat} {o3 : Option zV}
    (t : ((zSh b1).1 = 8) ∧ (zRn (zcl d) 62 B Q 17 [some (zr a0), some (zi x1), some (zi x2), some (zi 0)] [] (c, (z2 I b1 2 s0), zRg g))) :
    zRn (zcl d) 62 B Q 12 [some (zr a0), some (zi x1), some (zi x2), o3] [zi s0, zr b1] (c, I, zRg g) :=
  zgo [12, 17] 3 (And.intro t.1 t.2)
theorem g_x8_become_17 {d : Nat} {B : Nat × Nat} {Q : zQ} {c : Nat × Nat × Nat} {I : Nat → Nat → Int} {g : Nat} {x1 x2 x3 : Int} {a0 y1 : Nat}
    (t : ((zSh a0).1 = 8) ∧ ((I a0 2 ≤ x3 → (Q none (c, I, zRg g))) ∧ (¬ (I a0 2 ≤ x3) → (((zSh a0).1 = 8) ∧ ((zRg g a0 0 = some y1) ∧ (((zSh y1).1 = 100) ∧ ((0 ≤ x3 ∧ x3 < ((zSh y1).2 : Nat)) ∧ (zRn (zcl d) 62 B Q 17 [some (zr a0), some (zi x1), some (zi x2), some (zi (zwr (x3 + 1)))] [] (c, (z2 I y1 x3.toNat 0), zRg g))))))))) :
    zRn (zcl d) 62 B Q 17 [some (zr a0), some (zi x1), some (zi x2), some (zi x3)] [] (c, I, zRg g) :=
  zgo [12, 17] 11 (And.intro t.1 (And.intro (fun u117 => (t.2.1 u117)) (fun u117 => And.intro (t.2.2 u117).1 (Exists.intro (some y1) (And.intro (t.2.2 u117).2.1 (And.intro (t.2.2 u117).2.2.1 (And.intro (t.2.2 u117).2.2.2.1 ((t.2.2 u117).2.2.2.2))))))))
theorem g_x8_put_0 {d : Nat} {B : Nat × Nat} {Q : zQ} {c : Nat × Nat × Nat} {I : Nat → Nat → Int} {g : Nat} {x1 x2 : Int} {a0 y1 y2 y3 : Nat}
    (t : ((zSh a0).1 = 8) ∧ ((I a0 1 = 0 → (((zSh a0).1 = 8) ∧ ((zRg g a0 0 = some y1) ∧ (((zSh y1).1 = 100) ∧ ((0 ≤ x1 ∧ x1 < ((zSh y1).2 : Nat)) ∧ (Q none (c, (z2 I y1 x1.toNat (zi2b x2)), zRg g))))))) ∧ (¬ (I a0 1 = 0) → ((I a0 1 = 1 → (((zSh a0).1 = 8) ∧ ((zRg g a0 0 = some y2) ∧ (((zSh y2).1 = 100) ∧ ((0 ≤ x1 ∧ x1 < ((zSh y2).2 : Nat)) ∧ (Q none (c, (z2 I y2 x1.toNat (zi2s x2)), zRg g))))))) ∧ (¬ (I a0 1 = 1) → (((zSh a0).1 = 8) ∧ ((zRg g a0 0 = some y3) ∧ (((zSh y3).1 = 100) ∧ ((0 ≤ x1 ∧ x1 < ((zSh y3).2 : Nat)) ∧ (Q none (c, (z2 I y3 x1.toNat x2), zRg g))))))))))) :
    zRn (zcl d) 63 B Q 0 [some (zr a0), some (zi x1), some (zi x2)] [] (c, I, zRg g) :=
  zgo [] 10 (And.intro t.1 (And.intro (fun u118 => And.intro (t.2.1 u118).1 (Exists.intro (some y1) (And.intro (t.2.1 u118).2.1 (And.intro (t.2.1 u118).2.2.1 (And.intro (t.2.1 u118).2.2.2.1 ((t.2.1 u118).2.2.2.2)))))) (fun u118 => And.intro (fun u119 => And.intro ((t.2.2 u118).1 u119).1 (Exists.intro (some y2) (And.intro ((t.2.2 u118).1 u119).2.1 (And.intro ((t.2.2 u118).1 u119).2.2.1 (And.intro ((t.2.2 u118).1 u119).2.2.2.1 (((t.2.2 u118).1 u119).2.2.2.2)))))) (fun u119 => And.intro ((t.2.2 u118).2 u119).1 (Exists.intro (some y3) (And.intro ((t.2.2 u118).2 u119).2.1 (And.intro ((t.2.2 u118).2 u119).2.2.1 (And.intro ((t.2.2 u118).2 u119).2.2.2.1 (((t.2.2 u118).2 u119).2.2.2.2)))))))))
theorem g_x9_keptOf_0 {d : Nat} {B : Nat × Nat} {Q : zQ} {c : Nat × Nat × Nat} {I : Nat → Nat → Int} {g : Nat} {x1 x2 : Int} {a0 : Nat}
    (t : Q (some (zi x1)) (c, I, zRg g)) :
    zRn (zcl d) 66 B Q 0 [some (zr a0), some (zi x1), some (zi x2)] [] (c, I, zRg g) :=
  zgo [] 1 (t)
theorem g_x9_wordsFor_0 {d : Nat} {B : Nat × Nat} {Q : zQ} {c : Nat × Nat × Nat} {I : Nat → Nat → Int} {g : Nat} {x2 x3 : Int} {a0 a1 : Nat}
    (t : ((zSh a1).1 = 5) ∧ (zRn (zcl d) 67 B Q 14 [some (zr a0), some (zr a1), some (zi x2), some (zi x3), some (zi (zand x2 (I a1 2))), some (zi 0), some (zi 0), none] [] (c, I, zRg g))) :
    zRn (zcl d) 67 B Q 0 [some (zr a0), some (zr a1), some (zi x2), some (zi x3), none, none, none, none] [] (c, I, zRg g) :=
  zgo [14, 30] 9 (And.intro t.1 t.2)
theorem g_x9_wordsFor_14 {d : Nat} {B : Nat × Nat} {Q : zQ} {c : Nat × Nat × Nat} {I : Nat → Nat → Int} {g : Nat} {x2 x3 x4 x5 x6 : Int} {a0 a1 : Nat} {o7 : Option zV}
    (t : (x3 ≤ x6 → (Q (some (zi x5)) (c, I, zRg g))) ∧ (¬ (x3 ≤ x6) → ((x4 = 0 → (Q (some (zi x5)) (c, I, zRg g))) ∧ (¬ (x4 = 0) → (zcl d 102 0 0 [zi x4] (c, I, zRg g) (fun v h1 => zRn (zcl d) 67 B Q 30 [some (zr a0), some (zr a1), some (zi x2), some (zi x3), some (zi x4), some (zi x5), some (zi x6), o7] (zva v []) h1)))))) :
    zRn (zcl d) 67 B Q 14 [some (zr a0), some (zr a1), some (zi x2), some (zi x3), some (zi x4), some (zi x5), some (zi x6), o7] [] (c, I, zRg g) :=
  zgo [14, 30] 6 (And.intro (fun u120 => (t.1 u120)) (fun u120 => And.intro (fun u121 => ((t.2 u120).1 u121)) (fun u121 => And.intro rfl (And.intro (Nat.le_of_ble_eq_true rfl) (Exists.intro 0 (Exists.intro 0 (And.intro (Or.inl rfl) (And.intro (Or.inl rfl) ((t.2 u120).2 u121)))))))))
theorem g_x9_wordsFor_30 {d : Nat} {B : Nat × Nat} {Q : zQ} {c : Nat × Nat × Nat} {I : Nat → Nat → Int} {g : Nat} {x2 x3 x4 x5 x6 s0 : Int} {a0 a1 : Nat} {o7 : Option zV}
    (t : zRn (zcl d) 67 B Q 14 [some (zr a0), some (zr a1), some (zi x2), some (zi x3), some (zi (zand x4 (zxor s0 (-1)))), some (zi (zor x5 s0)), some (zi (zwr (x6 + 1))), some (zi s0)] [] (c, I, zRg g)) :
    zRn (zcl d) 67 B Q 30 [some (zr a0), some (zr a1), some (zi x2), some (zi x3), some (zi x4), some (zi x5), some (zi x6), o7] [zi s0] (c, I, zRg g) :=
  zgo [14, 30] 13 (t)
theorem g_x9_wearies_0 {d : Nat} {B : Nat × Nat} {Q : zQ} {c : Nat × Nat × Nat} {I : Nat → Nat → Int} {g : Nat} {x1 : Int} {a0 a2 : Nat}
    (t : Q (some (zi x1)) (c, I, zRg g)) :
    zRn (zcl d) 68 B Q 0 [some (zr a0), some (zi x1), some (zr a2)] [] (c, I, zRg g) :=
  zgo [] 1 (t)
theorem g_x9_takesIn_0 {d : Nat} {B : Nat × Nat} {Q : zQ} {c : Nat × Nat × Nat} {I : Nat → Nat → Int} {g : Nat} {x1 x2 : Int} {a0 : Nat}
    (t : (x1 = 0 ∨ x1 = 1) ∧ (Q (some (zi x1)) (c, I, zRg g))) :
    zRn (zcl d) 69 B Q 0 [some (zr a0), some (zi x1), some (zi x2)] [] (c, I, zRg g) :=
  zgo [] 1 (And.intro t.1 t.2)
theorem g_x10_add_0 {d : Nat} {B : Nat × Nat} {Q : zQ} {c : Nat × Nat × Nat} {I : Nat → Nat → Int} {g : Nat} {x1 : Int} {a0 y1 : Nat}
    (t : ((zSh a0).1 = 10) ∧ ((160 ≤ I a0 2 → (Q none (c, I, zRg g))) ∧ (¬ (160 ≤ I a0 2) → (((zSh a0).1 = 10) ∧ ((zRg g a0 0 = some y1) ∧ (((zSh a0).1 = 10) ∧ (((zSh y1).1 = 100) ∧ ((0 ≤ I a0 2 ∧ I a0 2 < ((zSh y1).2 : Nat)) ∧ (((zSh a0).1 = 10) ∧ (((zSh a0).1 = 10) ∧ (Q none (c, (z2 (z2 I y1 (I a0 2).toNat x1) a0 2 (zwr (((z2 I y1 (I a0 2).toNat x1) a0 2) + 1))), zRg g)))))))))))) :
    zRn (zcl d) 71 B Q 0 [some (zr a0), some (zi x1)] [] (c, I, zRg g) :=
  zgo [] 16 (And.intro t.1 (And.intro (fun u122 => (t.2.1 u122)) (fun u122 => And.intro (t.2.2 u122).1 (Exists.intro (some y1) (And.intro (t.2.2 u122).2.1 (And.intro (t.2.2 u122).2.2.1 (And.intro (t.2.2 u122).2.2.2.1 (And.intro (t.2.2 u122).2.2.2.2.1 (And.intro (t.2.2 u122).2.2.2.2.2.1 (And.intro (t.2.2 u122).2.2.2.2.2.2.1 ((t.2.2 u122).2.2.2.2.2.2.2)))))))))))
theorem g_x10_worth_0 {d : Nat} {B : Nat × Nat} {Q : zQ} {c : Nat × Nat × Nat} {I : Nat → Nat → Int} {g : Nat} {x1 x3 x4 : Int} {a0 a2 a5 y1 : Nat}
    (t : (x1 < 0 → (Q (some (zi 0)) (c, I, zRg g))) ∧ (¬ (x1 < 0) → ((x1 < 3 → ((x1 ≠ 0 → (((zSh a0).1 = 10) ∧ ((zRg g a0 1 = some y1) ∧ (((zSh y1).1 = 100) ∧ ((0 ≤ zwr (x1 - 1) ∧ zwr (x1 - 1) < ((zSh y1).2 : Nat)) ∧ (zRn (zcl d) 72 B Q 32 [some (zr a0), some (zi x1), some (zr a2), some (zi x3), some (zi x4), some (zr a5), some (zi 0), some (zi (I y1 ((zwr (x1 - 1)).toNat))), none] [] (c, I, zRg g))))))) ∧ (¬ (x1 ≠ 0) → (zRn (zcl d) 72 B Q 32 [some (zr a0), some (zi x1), some (zr a2), some (zi x3), some (zi x4), some (zr a5), some (zi 0), some (zi 0), none] [] (c, I, zRg g))))) ∧ (¬ (x1 < 3) → (Q (some (zi 0)) (c, I, zRg g)))))) :
    zRn (zcl d) 72 B Q 0 [some (zr a0), some (zi x1), some (zr a2), some (zi x3), some (zi x4), some (zr a5), none, none, none] [] (c, I, zRg g) :=
  zgo [32, 92, 132, 170, 194] 16 (And.intro (fun u123 => (t.1 u123)) (fun u123 => And.intro (fun u124 => And.intro (fun u125 => And.intro (((t.2 u123).1 u124).1 u125).1 (Exists.intro (some y1) (And.intro (((t.2 u123).1 u124).1 u125).2.1 (And.intro (((t.2 u123).1 u124).1 u125).2.2.1 (And.intro (((t.2 u123).1 u124).1 u125).2.2.2.1 ((((t.2 u123).1 u124).1 u125).2.2.2.2)))))) (fun u125 => (((t.2 u123).1 u124).2 u125))) (fun u124 => ((t.2 u123).2 u124))))
theorem g_x10_worth_32 {d : Nat} {B : Nat × Nat} {Q : zQ} {c : Nat × Nat × Nat} {I : Nat → Nat → Int} {g : Nat} {x1 x3 x4 x6 x7 : Int} {a0 a2 a5 y1 y3 : Nat} {o8 : Option zV}
    (t : ((zSh a0).1 = 10) ∧ ((zRg g a0 1 = some y1) ∧ (((zSh y1).1 = 100) ∧ ((0 ≤ x1 ∧ x1 < ((zSh y1).2 : Nat)) ∧ ((I y1 x1.toNat ≤ x7 → ((x6 ≤ 0 → (Q (some (zi 0)) (c, I, zRg g))) ∧ (¬ (x6 ≤ 0) → (((zSh a5).1 = 100) ∧ ((0 ≤ zwr (x6 - 1) ∧ zwr (x6 - 1) < ((zSh a5).2 : Nat)) ∧ (zcl d 103 0 0 [zi (I a5 ((zwr (x6 - 1)).toNat)), zi 99] (c, I, zRg g) (fun v h1 => zRn (zcl d) 72 B Q 194 [some (zr a0), some (zi x1), some (zr a2), some (zi x3), some (zi x4), some (zr a5), some (zi x6), some (zi x7), o8] (zva v []) h1))))))) ∧ (¬ (I y1 x1.toNat ≤ x7) → (((zSh a0).1 = 10) ∧ ((zRg g a0 0 = some y3) ∧ (((zSh y3).1 = 100) ∧ ((0 ≤ x7 ∧ x7 < ((zSh y3).2 : Nat)) ∧ ((I y3 x7.toNat < (-6) → ((I y3 x7.toNat < (-12) → ((2 ≤ x6 → (((zSh a5).1 = 100) ∧ ((0 ≤ zwr ((zwr (x6 + (-1))) - 1) ∧ zwr ((zwr (x6 + (-1))) - 1) < ((zSh a5).2 : Nat)) ∧ (((zSh a5).1 = 100) ∧ ((0 ≤ zwr (x6 + (-1)) ∧ zwr (x6 + (-1)) < ((zSh a5).2 : Nat)) ∧ (zcl d 75 0 0 [zi (I y3 x7.toNat), zi (I a5 ((zwr ((zwr (x6 + (-1))) - 1)).toNat)), zi (I a5 ((zwr (x6 + (-1))).toNat))] (c, I, zRg g) (fun v h1 => zRn (zcl d) 72 B Q 170 [some (zr a0), some (zi x1), some (zr a2), some (zi x3), some (zi x4), some (zr a5), some (zi (zwr (x6 + (-1)))), some (zi x7), some (zi (I y3 x7.toNat))] (zva v [zi (zwr ((zwr (x6 + (-1))) - 1)), zr a5]) h1))))))) ∧ (¬ (2 ≤ x6) → (Q (some (zi 0)) (c, I, zRg g))))) ∧ (¬ (I y3 x7.toNat < (-12)) → ((1 ≤ x6 → (((zSh a5).1 = 100) ∧ ((0 ≤ zwr (x6 - 1) ∧ zwr (x6 - 1) < ((zSh a5).2 : Nat)) ∧ (zcl d 74 0 0 [zi (I y3 x7.toNat), zi (I a5 ((zwr (x6 - 1)).toNat))] (c, I, zRg g) (fun v h1 => zRn (zcl d) 72 B Q 132 [some (zr a0), some (zi x1), some (zr a2), some (zi x3), some (zi x4), some (zr a5), some (zi x6), some (zi x7), some (zi (I y3 x7.toNat))] (zva v [zi (zwr (x6 - 1)), zr a5]) h1))))) ∧ (¬ (1 ≤ x6) → (Q (some (zi 0)) (c, I, zRg g))))))) ∧ (¬ (I y3 x7.toNat < (-6)) → ((100 ≤ (zSh a5).1 ∧ (zSh a5).1 ≤ 105) ∧ ((x6 < ((zSh a5).2 : Nat) → ((I y3 x7.toNat < 0 → (zcl d 73 0 0 [zi (I y3 x7.toNat), zr a2, zi x3, zi x4] (c, I, zRg g) (fun v h1 => zRn (zcl d) 72 B Q 92 [some (zr a0), some (zi x1), some (zr a2), some (zi x3), some (zi x4), some (zr a5), some (zi x6), some (zi x7), some (zi (I y3 x7.toNat))] (zva v [zi x6, zr a5]) h1))) ∧ (¬ (I y3 x7.toNat < 0) → (zRn (zcl d) 72 B Q 92 [some (zr a0), some (zi x1), some (zr a2), some (zi x3), some (zi x4), some (zr a5), some (zi x6), some (zi x7), some (zi (I y3 x7.toNat))] [zi (I y3 x7.toNat), zi x6, zr a5] (c, I, zRg g))))) ∧ (¬ (x6 < ((zSh a5).2 : Nat)) → (Q (some (zi 0)) (c, I, zRg g))))))))))))))))) :
    zRn (zcl d) 72 B Q 32 [some (zr a0), some (zi x1), some (zr a2), some (zi x3), some (zi x4), some (zr a5), some (zi x6), some (zi x7), o8] [] (c, I, zRg g) :=
  zgo [32, 92, 132, 170, 194] 34 (And.intro t.1 (Exists.intro (some y1) (And.intro t.2.1 (And.intro t.2.2.1 (And.intro t.2.2.2.1 (And.intro (fun u126 => And.intro (fun u127 => ((t.2.2.2.2.1 u126).1 u127)) (fun u127 => And.intro ((t.2.2.2.2.1 u126).2 u127).1 (And.intro ((t.2.2.2.2.1 u126).2 u127).2.1 (And.intro rfl (And.intro (Nat.le_of_ble_eq_true rfl) (Exists.intro 0 (Exists.intro 0 (And.intro (Or.inl rfl) (And.intro (Or.inl rfl) (((t.2.2.2.2.1 u126).2 u127).2.2)))))))))) (fun u126 => And.intro (t.2.2.2.2.2 u126).1 (Exists.intro (some y3) (And.intro (t.2.2.2.2.2 u126).2.1 (And.intro (t.2.2.2.2.2 u126).2.2.1 (And.intro (t.2.2.2.2.2 u126).2.2.2.1 (And.intro (fun u128 => And.intro (fun u129 => And.intro (fun u130 => And.intro ((((t.2.2.2.2.2 u126).2.2.2.2.1 u128).1 u129).1 u130).1 (And.intro ((((t.2.2.2.2.2 u126).2.2.2.2.1 u128).1 u129).1 u130).2.1 (And.intro ((((t.2.2.2.2.2 u126).2.2.2.2.1 u128).1 u129).1 u130).2.2.1 (And.intro ((((t.2.2.2.2.2 u126).2.2.2.2.1 u128).1 u129).1 u130).2.2.2.1 (And.intro rfl (And.intro (Nat.le_of_ble_eq_true rfl) (Exists.intro 0 (Exists.intro 0 (And.intro (Or.inl rfl) (And.intro (Or.inl rfl) (((((t.2.2.2.2.2 u126).2.2.2.2.1 u128).1 u129).1 u130).2.2.2.2))))))))))) (fun u130 => ((((t.2.2.2.2.2 u126).2.2.2.2.1 u128).1 u129).2 u130))) (fun u129 => And.intro (fun u131 => And.intro ((((t.2.2.2.2.2 u126).2.2.2.2.1 u128).2 u129).1 u131).1 (And.intro ((((t.2.2.2.2.2 u126).2.2.2.2.1 u128).2 u129).1 u131).2.1 (And.intro rfl (And.intro (Nat.le_of_ble_eq_true rfl) (Exists.intro 0 (Exists.intro 0 (And.intro (Or.inl rfl) (And.intro (Or.inl rfl) (((((t.2.2.2.2.2 u126).2.2.2.2.1 u128).2 u129).1 u131).2.2))))))))) (fun u131 => ((((t.2.2.2.2.2 u126).2.2.2.2.1 u128).2 u129).2 u131)))) (fun u128 => And.intro ((t.2.2.2.2.2 u126).2.2.2.2.2 u128).1 (And.intro (fun u132 => And.intro (fun u133 => And.intro rfl (And.intro (Nat.le_of_ble_eq_true rfl) (Exists.intro 0 (Exists.intro 0 (And.intro (Or.inl rfl) (And.intro (Or.inl rfl) ((((t.2.2.2.2.2 u126).2.2.2.2.2 u128).2.1 u132).1 u133))))))) (fun u133 => ((((t.2.2.2.2.2 u126).2.2.2.2.2 u128).2.1 u132).2 u133))) (fun u132 => (((t.2.2.2.2.2 u126).2.2.2.2.2 u128).2.2 u132))))))))))))))))
theorem g_x10_worth_92 {d : Nat} {B : Nat × Nat} {Q : zQ} {c : Nat × Nat × Nat} {I : Nat → Nat → Int} {g : Nat} {x1 x3 x4 x6 x7 x8 s0 s1 : Int} {a0 a2 a5 b2 : Nat}
    (t : ((zSh b2).1 = 100) ∧ ((0 ≤ s1 ∧ s1 < ((zSh b2).2 : Nat)) ∧ (zRn (zcl d) 72 B Q 32 [some (zr a0), some (zi x1), some (zr a2), some (zi x3), some (zi x4), some (zr a5), some (zi (zwr (x6 + 1))), some (zi (zwr (x7 + 1))), some (zi x8)] [] (c, (z2 I b2 s1.toNat s0), zRg g)))) :
    zRn (zcl d) 72 B Q 92 [some (zr a0), some (zi x1), some (zr a2), some (zi x3), some (zi x4), some (zr a5), some (zi x6), some (zi x7), some (zi x8)] [zi s0, zi s1, zr b2] (c, I, zRg g) :=
  zgo [32, 92, 132, 170, 194] 5 (And.intro t.1 (And.intro t.2.1 t.2.2))
theorem g_x10_worth_132 {d : Nat} {B : Nat × Nat} {Q : zQ} {c : Nat × Nat × Nat} {I : Nat → Nat → Int} {g : Nat} {x1 x3 x4 x6 x7 x8 s0 s1 : Int} {a0 a2 a5 b2 : Nat}
    (t : ((zSh b2).1 = 100) ∧ ((0 ≤ s1 ∧ s1 < ((zSh b2).2 : Nat)) ∧ (zRn (zcl d) 72 B Q 32 [some (zr a0), some (zi x1), some (zr a2), some (zi x3), some (zi x4), some (zr a5), some (zi x6), some (zi (zwr (x7 + 1))), some (zi x8)] [] (c, (z2 I b2 s1.toNat s0), zRg g)))) :
    zRn (zcl d) 72 B Q 132 [some (zr a0), some (zi x1), some (zr a2), some (zi x3), some (zi x4), some (zr a5), some (zi x6), some (zi x7), some (zi x8)] [zi s0, zi s1, zr b2] (c, I, zRg g) :=
  zgo [32, 92, 132, 170, 194] 4 (And.intro t.1 (And.intro t.2.1 t.2.2))
theorem g_x10_worth_170 {d : Nat} {B : Nat × Nat} {Q : zQ} {c : Nat × Nat × Nat} {I : Nat → Nat → Int} {g : Nat} {x1 x3 x4 x6 x7 x8 s0 s1 : Int} {a0 a2 a5 b2 : Nat}
    (t : ((zSh b2).1 = 100) ∧ ((0 ≤ s1 ∧ s1 < ((zSh b2).2 : Nat)) ∧ (zRn (zcl d) 72 B Q 32 [some (zr a0), some (zi x1), some (zr a2), some (zi x3), some (zi x4), some (zr a5), some (zi x6), some (zi (zwr (x7 + 1))), some (zi x8)] [] (c, (z2 I b2 s1.toNat s0), zRg g)))) :
    zRn (zcl d) 72 B Q 170 [some (zr a0), some (zi x1), some (zr a2), some (zi x3), some (zi x4), some (zr a5), some (zi x6), some (zi x7), some (zi x8)] [zi s0, zi s1, zr b2] (c, I, zRg g) :=
  zgo [32, 92, 132, 170, 194] 3 (And.intro t.1 (And.intro t.2.1 t.2.2))
theorem g_x10_worth_194 {d : Nat} {B : Nat × Nat} {Q : zQ} {c : Nat × Nat × Nat} {I : Nat → Nat → Int} {g : Nat} {x1 x3 x4 x6 x7 s0 : Int} {a0 a2 a5 : Nat} {o8 : Option zV}
    (t : Q (some (zi s0)) (c, I, zRg g)) :
    zRn (zcl d) 72 B Q 194 [some (zr a0), some (zi x1), some (zr a2), some (zi x3), some (zi x4), some (zr a5), some (zi x6), some (zi x7), o8] [zi s0] (c, I, zRg g) :=
  zgo [32, 92, 132, 170, 194] 1 (t)
theorem g_x10_named_0 {d : Nat} {B : Nat × Nat} {Q : zQ} {c : Nat × Nat × Nat} {I : Nat → Nat → Int} {g : Nat} {x0 x2 x3 : Int} {a1 : Nat}
    (t : (x0 = (-5) → (zcl d 202 0 0 [zi x2] (c, I, zRg g) (fun v h1 => zRn (zcl d) 73 B Q 60 [some (zi x0), some (zr a1), some (zi x2), some (zi x3)] (zva v []) h1))) ∧ (¬ (x0 = (-5)) → ((x0 = (-4) → (Q (some (zi x3)) (c, I, zRg g))) ∧ (¬ (x0 = (-4)) → ((x0 = (-3) → (((zSh a1).1 = 5) ∧ (Q (some (zi (I a1 1))) (c, I, zRg g)))) ∧ (¬ (x0 = (-3)) → ((x0 = (-2) → (((zSh a1).1 = 5) ∧ (Q (some (zi (I a1 3))) (c, I, zRg g)))) ∧ (¬ (x0 = (-2)) → ((x0 = (-1) → (((zSh a1).1 = 5) ∧ (zcl d 202 0 0 [zi (I a1 2)] (c, I, zRg g) (fun v h1 => zRn (zcl d) 73 B Q 43 [some (zi x0), some (zr a1), some (zi x2), some (zi x3)] (zva v []) h1)))) ∧ (¬ (x0 = (-1)) → (((zSh a1).1 = 5) ∧ (Q (some (zi (I a1 4))) (c, I, zRg g))))))))))))) :
    zRn (zcl d) 73 B Q 0 [some (zi x0), some (zr a1), some (zi x2), some (zi x3)] [] (c, I, zRg g) :=
  zgo [43, 60] 4 (And.intro (fun u134 => And.intro rfl (And.intro (Nat.le_of_ble_eq_true rfl) (Exists.intro 0 (Exists.intro 0 (And.intro (Or.inl rfl) (And.intro (Or.inl rfl) (t.1 u134))))))) (fun u134 => And.intro (fun u135 => ((t.2 u134).1 u135)) (fun u135 => And.intro (fun u136 => And.intro (((t.2 u134).2 u135).1 u136).1 ((((t.2 u134).2 u135).1 u136).2)) (fun u136 => And.intro (fun u137 => And.intro ((((t.2 u134).2 u135).2 u136).1 u137).1 (((((t.2 u134).2 u135).2 u136).1 u137).2)) (fun u137 => And.intro (fun u138 => And.intro (((((t.2 u134).2 u135).2 u136).2 u137).1 u138).1 (And.intro rfl (And.intro (Nat.le_of_ble_eq_true rfl) (Exists.intro 0 (Exists.intro 0 (And.intro (Or.inl rfl) (And.intro (Or.inl rfl) ((((((t.2 u134).2 u135).2 u136).2 u137).1 u138).2)))))))) (fun u138 => And.intro (((((t.2 u134).2 u135).2 u136).2 u137).2 u138).1 ((((((t.2 u134).2 u135).2 u136).2 u137).2 u138).2)))))))
theorem g_x10_named_43 {d : Nat} {B : Nat × Nat} {Q : zQ} {c : Nat × Nat × Nat} {I : Nat → Nat → Int} {g : Nat} {x0 x2 x3 s0 : Int} {a1 : Nat}
    (t : Q (some (zi s0)) (c, I, zRg g)) :
    zRn (zcl d) 73 B Q 43 [some (zi x0), some (zr a1), some (zi x2), some (zi x3)] [zi s0] (c, I, zRg g) :=
  zgo [43, 60] 0 (t)
theorem g_x10_named_60 {d : Nat} {B : Nat × Nat} {Q : zQ} {c : Nat × Nat × Nat} {I : Nat → Nat → Int} {g : Nat} {x0 x2 x3 s0 : Int} {a1 : Nat}
    (t : Q (some (zi s0)) (c, I, zRg g)) :
    zRn (zcl d) 73 B Q 60 [some (zi x0), some (zr a1), some (zi x2), some (zi x3)] [zi s0] (c, I, zRg g) :=
  zgo [43, 60] 0 (t)
theorem g_x10_ofOne_0 {d : Nat} {B : Nat × Nat} {Q : zQ} {c : Nat × Nat × Nat} {I : Nat → Nat → Int} {g : Nat} {x0 x1 : Int}
    (t : (x0 ≠ (-11) → (Q (some (zi (zwr (-x1)))) (c, I, zRg g))) ∧ (¬ (x0 ≠ (-11)) → ((x1 ≠ 0 → (Q (some (zi 0)) (c, I, zRg g))) ∧ (¬ (x1 ≠ 0) → (Q (some (zi 1)) (c, I, zRg g)))))) :
    zRn (zcl d) 74 B Q 0 [some (zi x0), some (zi x1)] [] (c, I, zRg g) :=
  zgo [] 7 (And.intro (fun u139 => (t.1 u139)) (fun u139 => And.intro (fun u140 => ((t.2 u139).1 u140)) (fun u140 => ((t.2 u139).2 u140))))
theorem g_x10_ofTwo_0 {d : Nat} {B : Nat × Nat} {Q : zQ} {c : Nat × Nat × Nat} {I : Nat → Nat → Int} {g : Nat} {x0 x1 x2 : Int}
    (t : (x0 = (-26) → (Q (some (zi (zwr (x1 - x2)))) (c, I, zRg g))) ∧ (¬ (x0 = (-26)) → ((x0 = (-25) → (Q (some (zi (zwr (x1 + x2)))) (c, I, zRg g))) ∧ (¬ (x0 = (-25)) → ((x0 = (-24) → ((x1 ≠ x2 → (Q (some (zi 0)) (c, I, zRg g))) ∧ (¬ (x1 ≠ x2) → (Q (some (zi 1)) (c, I, zRg g))))) ∧ (¬ (x0 = (-24)) → ((x0 = (-23) → ((x2 ≤ x1 → (Q (some (zi 0)) (c, I, zRg g))) ∧ (¬ (x2 ≤ x1) → (Q (some (zi 1)) (c, I, zRg g))))) ∧ (¬ (x0 = (-23)) → ((x0 = (-22) → ((x1 = 0 → (Q (some (zi 0)) (c, I, zRg g))) ∧ (¬ (x1 = 0) → ((x2 = 0 → (Q (some (zi 0)) (c, I, zRg g))) ∧ (¬ (x2 = 0) → (Q (some (zi 1)) (c, I, zRg g))))))) ∧ (¬ (x0 = (-22)) → ((x0 = (-21) → ((x1 ≠ 0 → (Q (some (zi 1)) (c, I, zRg g))) ∧ (¬ (x1 ≠ 0) → ((x2 = 0 → (Q (some (zi 0)) (c, I, zRg g))) ∧ (¬ (x2 = 0) → (Q (some (zi 1)) (c, I, zRg g))))))) ∧ (¬ (x0 = (-21)) → (Q (some (zi (zwr (x1 * x2)))) (c, I, zRg g)))))))))))))) :
    zRn (zcl d) 75 B Q 0 [some (zi x0), some (zi x1), some (zi x2)] [] (c, I, zRg g) :=
  zgo [] 8 (And.intro (fun u141 => (t.1 u141)) (fun u141 => And.intro (fun u142 => ((t.2 u141).1 u142)) (fun u142 => And.intro (fun u143 => And.intro (fun u144 => ((((t.2 u141).2 u142).1 u143).1 u144)) (fun u144 => ((((t.2 u141).2 u142).1 u143).2 u144))) (fun u143 => And.intro (fun u145 => And.intro (fun u146 => (((((t.2 u141).2 u142).2 u143).1 u145).1 u146)) (fun u146 => (((((t.2 u141).2 u142).2 u143).1 u145).2 u146))) (fun u145 => And.intro (fun u147 => And.intro (fun u148 => ((((((t.2 u141).2 u142).2 u143).2 u145).1 u147).1 u148)) (fun u148 => And.intro (fun u149 => (((((((t.2 u141).2 u142).2 u143).2 u145).1 u147).2 u148).1 u149)) (fun u149 => (((((((t.2 u141).2 u142).2 u143).2 u145).1 u147).2 u148).2 u149)))) (fun u147 => And.intro (fun u150 => And.intro (fun u151 => (((((((t.2 u141).2 u142).2 u143).2 u145).2 u147).1 u150).1 u151)) (fun u151 => And.intro (fun u152 => ((((((((t.2 u141).2 u142).2 u143).2 u145).2 u147).1 u150).2 u151).1 u152)) (fun u152 => ((((((((t.2 u141).2 u142).2 u143).2 u145).2 u147).1 u150).2 u151).2 u152)))) (fun u150 => ((((((t.2 u141).2 u142).2 u143).2 u145).2 u147).2 u150))))))))
theorem g_x11_set_0 {d : Nat} {B : Nat × Nat} {Q : zQ} {c : Nat × Nat × Nat} {I : Nat → Nat → Int} {g : Nat} {x1 x2 x3 : Int}
    (t : (x1 < 0 → (Q (some (zi (-2))) (c, I, zRg g))) ∧ (¬ (x1 < 0) → ((x1 ≤ 4 → ((x1 = 0 → ((x3 < 0 → (Q (some (zi (-2))) (c, I, zRg g))) ∧ (¬ (x3 < 0) → (zcl d 82 0 0 [zi x1] (c, I, zRg g) (fun v h1 => zRn (zcl d) 77 B Q 39 [some (zr 0), some (zi x1), some (zi x2), some (zi x3), none, none] (zva v [zi x3]) h1))))) ∧ (¬ (x1 = 0) → (zcl d 1 0 0 [zr 2, zi x2] (c, I, zRg g) (fun v h1 => zRn (zcl d) 77 B Q 24 [some (zr 0), some (zi x1), some (zi x2), some (zi x3), none, none] (zva v []) h1))))) ∧ (¬ (x1 ≤ 4) → (Q (some (zi (-2))) (c, I, zRg g)))))) :
    zRn (zcl d) 77 B Q 0 [some (zr 0), some (zi x1), some (zi x2), some (zi x3), none, none] [] (c, I, zRg g) :=
  zgo [24, 39, 86, 95] 11 (And.intro (fun u153 => (t.1 u153)) (fun u153 => And.intro (fun u154 => And.intro (fun u155 => And.intro (fun u156 => ((((t.2 u153).1 u154).1 u155).1 u156)) (fun u156 => And.intro rfl (And.intro (Nat.le_of_ble_eq_true rfl) (Exists.intro 0 (Exists.intro 0 (And.intro (Or.inl rfl) (And.intro (Or.inl rfl) ((((t.2 u153).1 u154).1 u155).2 u156)))))))) (fun u155 => And.intro rfl (Exists.intro (some 2) (And.intro rfl (Exists.intro 1 (And.intro rfl (And.intro (Nat.le_of_ble_eq_true rfl) (Exists.intro 0 (Exists.intro 0 (And.intro (Or.inl rfl) (And.intro (Or.inl rfl) (((t.2 u153).1 u154).2 u155)))))))))))) (fun u154 => ((t.2 u153).2 u154))))
theorem g_x11_set_24 {d : Nat} {B : Nat × Nat} {Q : zQ} {c : Nat × Nat × Nat} {I : Nat → Nat → Int} {g : Nat} {x1 x2 x3 s0 : Int} {o4 o5 : Option zV}
    (t : (s0 ≠ 0 → ((x3 < 0 → (Q (some (zi (-2))) (c, I, zRg g))) ∧ (¬ (x3 < 0) → (zcl d 82 0 0 [zi x1] (c, I, zRg g) (fun v h1 => zRn (zcl d) 77 B Q 39 [some (zr 0), some (zi x1), some (zi x2), some (zi x3), o4, o5] (zva v [zi x3]) h1))))) ∧ (¬ (s0 ≠ 0) → (Q (some (zi (-2))) (c, I, zRg g)))) :
    zRn (zcl d) 77 B Q 24 [some (zr 0), some (zi x1), some (zi x2), some (zi x3), o4, o5] [zi s0] (c, I, zRg g) :=
  zgo [24, 39, 86, 95] 5 (And.intro (fun u159 => And.intro (fun u160 => ((t.1 u159).1 u160)) (fun u160 => And.intro rfl (And.intro (Nat.le_of_ble_eq_true rfl) (Exists.intro 0 (Exists.intro 0 (And.intro (Or.inl rfl) (And.intro (Or.inl rfl) ((t.1 u159).2 u160)))))))) (fun u159 => (t.2 u159)))
theorem g_x11_set_39 {d : Nat} {B : Nat × Nat} {Q : zQ} {c : Nat × Nat × Nat} {I : Nat → Nat → Int} {g : Nat} {x1 x2 x3 s0 s1 : Int} {y1 : Nat} {o4 o5 : Option zV}
    (t : (s1 ≤ s0 → ((x1 ≠ 0 → ((0 ≤ x2 ∧ x2 < 5) ∧ ((zRg g 3 x2.toNat = some y1) ∧ ((zsel ((zSh y1).1 : Nat) [(5, 27)] = some 27) ∧ (zcl d 27 0 0 [zr y1, zi x1] (c, I, zRg g) (fun v h1 => zRn (zcl d) 77 B Q 86 [some (zr 0), some (zi x1), some (zi x2), some (zi x3), some (zr y1), o5] (zva v []) h1)))))) ∧ (¬ (x1 ≠ 0) → (Q (some (zi (I 2 4))) (c, (z2 I 2 4 x3), zRg g))))) ∧ (¬ (s1 ≤ s0) → (Q (some (zi (-2))) (c, I, zRg g)))) :
    zRn (zcl d) 77 B Q 39 [some (zr 0), some (zi x1), some (zi x2), some (zi x3), o4, o5] [zi s0, zi s1] (c, I, zRg g) :=
  zgo [24, 39, 86, 95] 12 (And.intro (fun u157 => And.intro (fun u158 => And.intro rfl (Exists.intro (some 2) (And.intro rfl (And.intro rfl (Exists.intro (some 3) (And.intro rfl (And.intro (by decide) (And.intro ((t.1 u157).1 u158).1 (Exists.intro (some y1) (And.intro ((t.1 u157).1 u158).2.1 (Exists.intro 27 (And.intro ((t.1 u157).1 u158).2.2.1 (And.intro (Nat.le_of_ble_eq_true rfl) (Exists.intro 0 (Exists.intro 0 (And.intro (Or.inl rfl) (And.intro (Or.inl rfl) (((t.1 u157).1 u158).2.2.2)))))))))))))))))) (fun u158 => And.intro rfl (Exists.intro (some 2) (And.intro rfl (And.intro rfl (And.intro rfl (Exists.intro (some 2) (And.intro rfl (And.intro rfl ((t.1 u157).2 u158)))))))))) (fun u157 => (t.2 u157)))
theorem g_x11_set_86 {d : Nat} {B : Nat × Nat} {Q : zQ} {c : Nat × Nat × Nat} {I : Nat → Nat → Int} {g : Nat} {x1 x2 x3 s0 : Int} {a4 : Nat} {o5 : Option zV}
    (t : (zsel ((zSh a4).1 : Nat) [(5, 28)] = some 28) ∧ (zcl d 28 0 0 [zr a4, zi x1, zi x3] (c, I, zRg g) (fun v h1 => zRn (zcl d) 77 B Q 95 [some (zr 0), some (zi x1), some (zi x2), some (zi x3), some (zr a4), some (zi s0)] (zva v []) h1))) :
    zRn (zcl d) 77 B Q 86 [some (zr 0), some (zi x1), some (zi x2), some (zi x3), some (zr a4), o5] [zi s0] (c, I, zRg g) :=
  zgo [24, 39, 86, 95] 4 (Exists.intro 28 (And.intro t.1 (And.intro (Nat.le_of_ble_eq_true rfl) (Exists.intro 0 (Exists.intro 0 (And.intro (Or.inl rfl) (And.intro (Or.inl rfl) t.2)))))))
theorem g_x11_set_95 {d : Nat} {B : Nat × Nat} {Q : zQ} {c : Nat × Nat × Nat} {I : Nat → Nat → Int} {g : Nat} {x1 x2 x3 x5 : Int} {a4 : Nat}
    (t : Q (some (zi x5)) (c, I, zRg g)) :
    zRn (zcl d) 77 B Q 95 [some (zr 0), some (zi x1), some (zi x2), some (zi x3), some (zr a4), some (zi x5)] [] (c, I, zRg g) :=
  zgo [24, 39, 86, 95] 1 (t)
theorem g_x11_person_0 {d : Nat} {B : Nat × Nat} {Q : zQ} {c : Nat × Nat × Nat} {I : Nat → Nat → Int} {g : Nat} {x1 x2 x3 x4 : Int}
    (t : (x1 < 0 → (Q (some (zi (-2))) (c, I, zRg g))) ∧ (¬ (x1 < 0) → ((6 ≤ x1 → (Q (some (zi (-2))) (c, I, zRg g))) ∧ (¬ (6 ≤ x1) → ((x2 < 0 → (Q (some (zi (-2))) (c, I, zRg g))) ∧ (¬ (x2 < 0) → ((x2 ≤ 9 → (zcl d 83 0 0 [zi x3] (c, I, zRg g) (fun v h1 => zRn (zcl d) 78 B Q 27 [some (zr 0), some (zi x1), some (zi x2), some (zi x3), some (zi x4), none] (zva v []) h1))) ∧ (¬ (x2 ≤ 9) → (Q (some (zi (-2))) (c, I, zRg g)))))))))) :
    zRn (zcl d) 78 B Q 0 [some (zr 0), some (zi x1), some (zi x2), some (zi x3), some (zi x4), none] [] (c, I, zRg g) :=
  zgo [27] 11 (And.intro (fun u161 => (t.1 u161)) (fun u161 => And.intro (fun u162 => ((t.2 u161).1 u162)) (fun u162 => And.intro (fun u163 => (((t.2 u161).2 u162).1 u163)) (fun u163 => And.intro (fun u164 => And.intro rfl (And.intro (Nat.le_of_ble_eq_true rfl) (Exists.intro 0 (Exists.intro 0 (And.intro (Or.inl rfl) (And.intro (Or.inl rfl) ((((t.2 u161).2 u162).2 u163).1 u164))))))) (fun u164 => ((((t.2 u161).2 u162).2 u163).2 u164))))))
theorem g_x11_person_27 {d : Nat} {B : Nat × Nat} {Q : zQ} {c : Nat × Nat × Nat} {I : Nat → Nat → Int} {g : Nat} {x1 x2 x3 x4 s0 : Int} {y1 : Nat} {o5 : Option zV}
    (t : (s0 = 0 → (Q (some (zi (-2))) (c, I, zRg g))) ∧ (¬ (s0 = 0) → ((x4 < 0 → (Q (some (zi (-2))) (c, I, zRg g))) ∧ (¬ (x4 < 0) → ((x4 ≤ 99 → ((I 2 2 < 5 → ((0 ≤ I 2 2 ∧ I 2 2 < 5) ∧ ((zRg g 3 (I 2 2).toNat = some y1) ∧ (((zSh y1).1 = 5) ∧ (((zSh y1).1 = 5) ∧ (((zSh y1).1 = 5) ∧ (((zSh y1).1 = 5) ∧ (((zSh y1).1 = 5) ∧ (Q (some (zi (zwr ((zwr (((z2 (z2 (z2 (z2 (z2 I y1 0 x1) y1 1 x2) y1 2 x3) y1 3 x4) y1 4 0) 2 2) + 1)) - 1)))) (c, (z2 (z2 (z2 (z2 (z2 (z2 I y1 0 x1) y1 1 x2) y1 2 x3) y1 3 x4) y1 4 0) 2 2 (zwr (((z2 (z2 (z2 (z2 (z2 I y1 0 x1) y1 1 x2) y1 2 x3) y1 3 x4) y1 4 0) 2 2) + 1))), zRg g)))))))))) ∧ (¬ (I 2 2 < 5) → (Q (some (zi (-4))) (c, I, zRg g))))) ∧ (¬ (x4 ≤ 99) → (Q (some (zi (-2))) (c, I, zRg g)))))))) :
    zRn (zcl d) 78 B Q 27 [some (zr 0), some (zi x1), some (zi x2), some (zi x3), some (zi x4), o5] [zi s0] (c, I, zRg g) :=
  zgo [27] 46 (And.intro (fun u165 => (t.1 u165)) (fun u165 => And.intro (fun u166 => ((t.2 u165).1 u166)) (fun u166 => And.intro (fun u167 => And.intro rfl (Exists.intro (some 2) (And.intro rfl (And.intro rfl (And.intro (fun u168 => And.intro rfl (Exists.intro (some 2) (And.intro rfl (And.intro rfl (Exists.intro (some 3) (And.intro rfl (And.intro rfl (Exists.intro (some 2) (And.intro rfl (And.intro rfl (And.intro (by decide) (And.intro ((((t.2 u165).2 u166).1 u167).1 u168).1 (Exists.intro (some y1) (And.intro ((((t.2 u165).2 u166).1 u167).1 u168).2.1 (And.intro ((((t.2 u165).2 u166).1 u167).1 u168).2.2.1 (And.intro ((((t.2 u165).2 u166).1 u167).1 u168).2.2.2.1 (And.intro ((((t.2 u165).2 u166).1 u167).1 u168).2.2.2.2.1 (And.intro ((((t.2 u165).2 u166).1 u167).1 u168).2.2.2.2.2.1 (And.intro ((((t.2 u165).2 u166).1 u167).1 u168).2.2.2.2.2.2.1 (And.intro rfl (Exists.intro (some 2) (And.intro rfl (And.intro rfl (And.intro rfl (And.intro rfl (Exists.intro (some 2) (And.intro rfl (And.intro rfl (((((t.2 u165).2 u166).1 u167).1 u168).2.2.2.2.2.2.2))))))))))))))))))))))))))))) (fun u168 => ((((t.2 u165).2 u166).1 u167).2 u168))))))) (fun u167 => (((t.2 u165).2 u166).2 u167)))))
theorem g_x11_told_0 {d : Nat} {B : Nat × Nat} {Q : zQ} {c : Nat × Nat × Nat} {I : Nat → Nat → Int} {g : Nat} {x1 x2 : Int}
    (t : (x2 = 0 → (Q (some (zi (I 2 4))) (c, I, zRg g))) ∧ (¬ (x2 = 0) → ((x2 = 1 → (zcl d 1 0 0 [zr 2, zi x1] (c, I, zRg g) (fun v h1 => zRn (zcl d) 79 B Q 68 [some (zr 0), some (zi x1), some (zi x2)] (zva v []) h1))) ∧ (¬ (x2 = 1) → ((x2 = 2 → (zcl d 1 0 0 [zr 2, zi x1] (c, I, zRg g) (fun v h1 => zRn (zcl d) 79 B Q 68 [some (zr 0), some (zi x1), some (zi x2)] (zva v []) h1))) ∧ (¬ (x2 = 2) → ((x2 = 3 → (zcl d 1 0 0 [zr 2, zi x1] (c, I, zRg g) (fun v h1 => zRn (zcl d) 79 B Q 68 [some (zr 0), some (zi x1), some (zi x2)] (zva v []) h1))) ∧ (¬ (x2 = 3) → ((x2 = 4 → (zcl d 1 0 0 [zr 2, zi x1] (c, I, zRg g) (fun v h1 => zRn (zcl d) 79 B Q 68 [some (zr 0), some (zi x1), some (zi x2)] (zva v []) h1))) ∧ (¬ (x2 = 4) → ((x2 = 5 → (zcl d 1 0 0 [zr 2, zi x1] (c, I, zRg g) (fun v h1 => zRn (zcl d) 79 B Q 68 [some (zr 0), some (zi x1), some (zi x2)] (zva v []) h1))) ∧ (¬ (x2 = 5) → ((x2 = 6 → ((x1 < 0 → (Q (some (zi (-1000))) (c, I, zRg g))) ∧ (¬ (x1 < 0) → ((I 2 3 ≤ x1 → (Q (some (zi (-1000))) (c, I, zRg g))) ∧ (¬ (I 2 3 ≤ x1) → ((0 ≤ x1 ∧ x1 < 8) ∧ (Q (some (zi (I 4 x1.toNat))) (c, I, zRg g)))))))) ∧ (¬ (x2 = 6) → ((x2 = 7 → (Q (some (zi (I 2 3))) (c, I, zRg g))) ∧ (¬ (x2 = 7) → ((x2 = 8 → (Q (some (zi (I 2 5))) (c, I, zRg g))) ∧ (¬ (x2 = 8) → (Q (some (zi (-1000))) (c, I, zRg g)))))))))))))))))))) :
    zRn (zcl d) 79 B Q 0 [some (zr 0), some (zi x1), some (zi x2)] [] (c, I, zRg g) :=
  zgo [68, 84] 15 (And.intro (fun u169 => And.intro rfl (Exists.intro (some 2) (And.intro rfl (And.intro rfl (t.1 u169))))) (fun u169 => And.intro (fun u170 => And.intro rfl (Exists.intro (some 2) (And.intro rfl (Exists.intro 1 (And.intro rfl (And.intro (Nat.le_of_ble_eq_true rfl) (Exists.intro 0 (Exists.intro 0 (And.intro (Or.inl rfl) (And.intro (Or.inl rfl) ((t.2 u169).1 u170))))))))))) (fun u170 => And.intro (fun u171 => And.intro rfl (Exists.intro (some 2) (And.intro rfl (Exists.intro 1 (And.intro rfl (And.intro (Nat.le_of_ble_eq_true rfl) (Exists.intro 0 (Exists.intro 0 (And.intro (Or.inl rfl) (And.intro (Or.inl rfl) (((t.2 u169).2 u170).1 u171))))))))))) (fun u171 => And.intro (fun u172 => And.intro rfl (Exists.intro (some 2) (And.intro rfl (Exists.intro 1 (And.intro rfl (And.intro (Nat.le_of_ble_eq_true rfl) (Exists.intro 0 (Exists.intro 0 (And.intro (Or.inl rfl) (And.intro (Or.inl rfl) ((((t.2 u169).2 u170).2 u171).1 u172))))))))))) (fun u172 => And.intro (fun u173 => And.intro rfl (Exists.intro (some 2) (And.intro rfl (Exists.intro 1 (And.intro rfl (And.intro (Nat.le_of_ble_eq_true rfl) (Exists.intro 0 (Exists.intro 0 (And.intro (Or.inl rfl) (And.intro (Or.inl rfl) (((((t.2 u169).2 u170).2 u171).2 u172).1 u173))))))))))) (fun u173 => And.intro (fun u174 => And.intro rfl (Exists.intro (some 2) (And.intro rfl (Exists.intro 1 (And.intro rfl (And.intro (Nat.le_of_ble_eq_true rfl) (Exists.intro 0 (Exists.intro 0 (And.intro (Or.inl rfl) (And.intro (Or.inl rfl) ((((((t.2 u169).2 u170).2 u171).2 u172).2 u173).1 u174))))))))))) (fun u174 => And.intro (fun u175 => And.intro (fun u176 => ((((((((t.2 u169).2 u170).2 u171).2 u172).2 u173).2 u174).1 u175).1 u176)) (fun u176 => And.intro rfl (Exists.intro (some 2) (And.intro rfl (And.intro rfl (And.intro (fun u177 => (((((((((t.2 u169).2 u170).2 u171).2 u172).2 u173).2 u174).1 u175).2 u176).1 u177)) (fun u177 => And.intro rfl (Exists.intro (some 2) (And.intro rfl (And.intro rfl (Exists.intro (some 4) (And.intro rfl (And.intro rfl (And.intro (((((((((t.2 u169).2 u170).2 u171).2 u172).2 u173).2 u174).1 u175).2 u176).2 u177).1 ((((((((((t.2 u169).2 u170).2 u171).2 u172).2 u173).2 u174).1 u175).2 u176).2 u177).2))))))))))))))) (fun u175 => And.intro (fun u178 => And.intro rfl (Exists.intro (some 2) (And.intro rfl (And.intro rfl ((((((((t.2 u169).2 u170).2 u171).2 u172).2 u173).2 u174).2 u175).1 u178))))) (fun u178 => And.intro (fun u179 => And.intro rfl (Exists.intro (some 2) (And.intro rfl (And.intro rfl (((((((((t.2 u169).2 u170).2 u171).2 u172).2 u173).2 u174).2 u175).2 u178).1 u179))))) (fun u179 => (((((((((t.2 u169).2 u170).2 u171).2 u172).2 u173).2 u174).2 u175).2 u178).2 u179)))))))))))
theorem g_x11_told_68 {d : Nat} {B : Nat × Nat} {Q : zQ} {c : Nat × Nat × Nat} {I : Nat → Nat → Int} {g : Nat} {x1 x2 s0 : Int} {y1 : Nat}
    (t : (s0 = 0 → (Q (some (zi (-1000))) (c, I, zRg g))) ∧ (¬ (s0 = 0) → ((0 ≤ x1 ∧ x1 < 5) ∧ ((zRg g 3 x1.toNat = some y1) ∧ ((zsel ((zSh y1).1 : Nat) [(5, 27)] = some 27) ∧ (zcl d 27 0 0 [zr y1, zi x2] (c, I, zRg g) (fun v h1 => zRn (zcl d) 79 B Q 84 [some (zr 0), some (zi x1), some (zi x2)] (zva v []) h1))))))) :
    zRn (zcl d) 79 B Q 68 [some (zr 0), some (zi x1), some (zi x2)] [zi s0] (c, I, zRg g) :=
  zgo [68, 84] 7 (And.intro (fun u180 => (t.1 u180)) (fun u180 => And.intro rfl (Exists.intro (some 2) (And.intro rfl (And.intro rfl (Exists.intro (some 3) (And.intro rfl (And.intro (by decide) (And.intro (t.2 u180).1 (Exists.intro (some y1) (And.intro (t.2 u180).2.1 (Exists.intro 27 (And.intro (t.2 u180).2.2.1 (And.intro (Nat.le_of_ble_eq_true rfl) (Exists.intro 0 (Exists.intro 0 (And.intro (Or.inl rfl) (And.intro (Or.inl rfl) ((t.2 u180).2.2.2)))))))))))))))))))
theorem g_x11_told_84 {d : Nat} {B : Nat × Nat} {Q : zQ} {c : Nat × Nat × Nat} {I : Nat → Nat → Int} {g : Nat} {x1 x2 s0 : Int}
    (t : Q (some (zi s0)) (c, I, zRg g)) :
    zRn (zcl d) 79 B Q 84 [some (zr 0), some (zi x1), some (zi x2)] [zi s0] (c, I, zRg g) :=
  zgo [68, 84] 1 (t)
theorem g_x11_brings_0 {d : Nat} {B : Nat × Nat} {Q : zQ} {c : Nat × Nat × Nat} {I : Nat → Nat → Int} {g : Nat} {x1 : Int}
    (t : (x1 < 1 → (Q (some (zi (-2))) (c, I, zRg g))) ∧ (¬ (x1 < 1) → ((x1 < 1024 → ((I 2 3 < 8 → ((0 ≤ I 2 3 ∧ I 2 3 < 8) ∧ (Q (some (zi (zwr (((z2 I 4 (I 2 3).toNat x1) 2 3) + 1)))) (c, (z2 (z2 I 4 (I 2 3).toNat x1) 2 3 (zwr (((z2 I 4 (I 2 3).toNat x1) 2 3) + 1))), zRg g)))) ∧ (¬ (I 2 3 < 8) → (Q (some (zi (-4))) (c, I, zRg g))))) ∧ (¬ (x1 < 1024) → (Q (some (zi (-2))) (c, I, zRg g)))))) :
    zRn (zcl d) 80 B Q 0 [some (zr 0), some (zi x1)] [] (c, I, zRg g) :=
  zgo [] 29 (And.intro (fun u181 => (t.1 u181)) (fun u181 => And.intro (fun u182 => And.intro rfl (Exists.intro (some 2) (And.intro rfl (And.intro rfl (And.intro (fun u183 => And.intro rfl (Exists.intro (some 2) (And.intro rfl (And.intro rfl (Exists.intro (some 4) (And.intro rfl (And.intro rfl (Exists.intro (some 2) (And.intro rfl (And.intro rfl (And.intro rfl (And.intro (((t.2 u181).1 u182).1 u183).1 (And.intro rfl (Exists.intro (some 2) (And.intro rfl (And.intro rfl (And.intro rfl (And.intro rfl (Exists.intro (some 2) (And.intro rfl (And.intro rfl ((((t.2 u181).1 u182).1 u183).2)))))))))))))))))))))) (fun u183 => (((t.2 u181).1 u182).2 u183))))))) (fun u182 => ((t.2 u181).2 u182))))
theorem g_x11_asks_0 {d : Nat} {B : Nat × Nat} {Q : zQ} {c : Nat × Nat × Nat} {I : Nat → Nat → Int} {g : Nat} {x1 x2 x3 : Int}
    (t : zcl d 1 0 0 [zr 2, zi x1] (c, I, zRg g) (fun v h1 => zRn (zcl d) 81 B Q 8 [some (zr 0), some (zi x1), some (zi x2), some (zi x3), none] (zva v []) h1)) :
    zRn (zcl d) 81 B Q 0 [some (zr 0), some (zi x1), some (zi x2), some (zi x3), none] [] (c, I, zRg g) :=
  zgo [8, 15, 75, 87, 99, 111] 3 (And.intro rfl (Exists.intro (some 2) (And.intro rfl (Exists.intro 1 (And.intro rfl (And.intro (Nat.le_of_ble_eq_true rfl) (Exists.intro 0 (Exists.intro 0 (And.intro (Or.inl rfl) (And.intro (Or.inl rfl) t))))))))))
theorem g_x11_asks_8 {d : Nat} {B : Nat × Nat} {Q : zQ} {c : Nat × Nat × Nat} {I : Nat → Nat → Int} {g : Nat} {x1 x2 x3 s0 : Int} {o4 : Option zV}
    (t : (s0 = 0 → (Q (some (zi (-2))) (c, I, zRg g))) ∧ (¬ (s0 = 0) → (zcl d 83 0 0 [zi x2] (c, I, zRg g) (fun v h1 => zRn (zcl d) 81 B Q 15 [some (zr 0), some (zi x1), some (zi x2), some (zi x3), o4] (zva v []) h1)))) :
    zRn (zcl d) 81 B Q 8 [some (zr 0), some (zi x1), some (zi x2), some (zi x3), o4] [zi s0] (c, I, zRg g) :=
  zgo [8, 15, 75, 87, 99, 111] 2 (And.intro (fun u184 => (t.1 u184)) (fun u184 => And.intro rfl (And.intro (Nat.le_of_ble_eq_true rfl) (Exists.intro 0 (Exists.intro 0 (And.intro (Or.inl rfl) (And.intro (Or.inl rfl) (t.2 u184))))))))
theorem g_x11_asks_15 {d : Nat} {B : Nat × Nat} {Q : zQ} {c : Nat × Nat × Nat} {I : Nat → Nat → Int} {g : Nat} {x1 x2 x3 s0 : Int} {y1 : Nat} {o4 : Option zV}
    (t : (s0 ≠ 0 → ((0 ≤ x1 ∧ x1 < 5) ∧ ((zRg g 3 x1.toNat = some y1) ∧ ((x3 = 0 → (zcl d 94 0 0 [zr 0, zr 2, zr y1, zi x2] (c, I, zRg g) (fun v h1 => zRn (zcl d) 81 B Q 75 [some (zr 0), some (zi x1), some (zi x2), some (zi x3), some (zr y1)] (zva v []) h1))) ∧ (¬ (x3 = 0) → ((x3 = 1 → (zcl d 93 0 0 [zr 0, zr 2, zr y1, zi x2] (c, I, zRg g) (fun v h1 => zRn (zcl d) 81 B Q 87 [some (zr 0), some (zi x1), some (zi x2), some (zi x3), some (zr y1)] (zva v []) h1))) ∧ (¬ (x3 = 1) → ((x3 = 2 → (zcl d 95 0 0 [zr 0, zr 2, zr y1, zi x2] (c, I, zRg g) (fun v h1 => zRn (zcl d) 81 B Q 99 [some (zr 0), some (zi x1), some (zi x2), some (zi x3), some (zr y1)] (zva v []) h1))) ∧ (¬ (x3 = 2) → ((x3 = 3 → (zcl d 96 0 0 [zr 0, zr 2, zr y1, zi x2] (c, I, zRg g) (fun v h1 => zRn (zcl d) 81 B Q 111 [some (zr 0), some (zi x1), some (zi x2), some (zi x3), some (zr y1)] (zva v []) h1))) ∧ (¬ (x3 = 3) → (Q (some (zi (-2))) (c, I, zRg g))))))))))))) ∧ (¬ (s0 ≠ 0) → (Q (some (zi (-2))) (c, I, zRg g)))) :
    zRn (zcl d) 81 B Q 15 [some (zr 0), some (zi x1), some (zi x2), some (zi x3), o4] [zi s0] (c, I, zRg g) :=
  zgo [8, 15, 75, 87, 99, 111] 14 (And.intro (fun u185 => And.intro rfl (Exists.intro (some 2) (And.intro rfl (And.intro rfl (Exists.intro (some 3) (And.intro rfl (And.intro (by decide) (And.intro (t.1 u185).1 (Exists.intro (some y1) (And.intro (t.1 u185).2.1 (And.intro (fun u186 => And.intro rfl (Exists.intro (some 2) (And.intro rfl (Exists.intro 94 (And.intro rfl (And.intro (Nat.le_of_ble_eq_true rfl) (Exists.intro 0 (Exists.intro 0 (And.intro (Or.inl rfl) (And.intro (Or.inl rfl) ((t.1 u185).2.2.1 u186))))))))))) (fun u186 => And.intro (fun u187 => And.intro rfl (Exists.intro (some 2) (And.intro rfl (Exists.intro 93 (And.intro rfl (And.intro (Nat.le_of_ble_eq_true rfl) (Exists.intro 0 (Exists.intro 0 (And.intro (Or.inl rfl) (And.intro (Or.inl rfl) (((t.1 u185).2.2.2 u186).1 u187))))))))))) (fun u187 => And.intro (fun u188 => And.intro rfl (Exists.intro (some 2) (And.intro rfl (Exists.intro 95 (And.intro rfl (And.intro (Nat.le_of_ble_eq_true rfl) (Exists.intro 0 (Exists.intro 0 (And.intro (Or.inl rfl) (And.intro (Or.inl rfl) ((((t.1 u185).2.2.2 u186).2 u187).1 u188))))))))))) (fun u188 => And.intro (fun u189 => And.intro rfl (Exists.intro (some 2) (And.intro rfl (Exists.intro 96 (And.intro rfl (And.intro (Nat.le_of_ble_eq_true rfl) (Exists.intro 0 (Exists.intro 0 (And.intro (Or.inl rfl) (And.intro (Or.inl rfl) (((((t.1 u185).2.2.2 u186).2 u187).2 u188).1 u189))))))))))) (fun u189 => (((((t.1 u185).2.2.2 u186).2 u187).2 u188).2 u189)))))))))))))))) (fun u185 => (t.2 u185)))
theorem g_x11_asks_75 {d : Nat} {B : Nat × Nat} {Q : zQ} {c : Nat × Nat × Nat} {I : Nat → Nat → Int} {g : Nat} {x1 x2 x3 s0 : Int} {a4 : Nat}
    (t : Q (some (zi s0)) (c, I, zRg g)) :
    zRn (zcl d) 81 B Q 75 [some (zr 0), some (zi x1), some (zi x2), some (zi x3), some (zr a4)] [zi s0] (c, I, zRg g) :=
  zgo [8, 15, 75, 87, 99, 111] 0 (t)
theorem g_x11_asks_87 {d : Nat} {B : Nat × Nat} {Q : zQ} {c : Nat × Nat × Nat} {I : Nat → Nat → Int} {g : Nat} {x1 x2 x3 s0 : Int} {a4 : Nat}
    (t : Q (some (zi s0)) (c, I, zRg g)) :
    zRn (zcl d) 81 B Q 87 [some (zr 0), some (zi x1), some (zi x2), some (zi x3), some (zr a4)] [zi s0] (c, I, zRg g) :=
  zgo [8, 15, 75, 87, 99, 111] 0 (t)
theorem g_x11_asks_99 {d : Nat} {B : Nat × Nat} {Q : zQ} {c : Nat × Nat × Nat} {I : Nat → Nat → Int} {g : Nat} {x1 x2 x3 s0 : Int} {a4 : Nat}
    (t : Q (some (zi s0)) (c, I, zRg g)) :
    zRn (zcl d) 81 B Q 99 [some (zr 0), some (zi x1), some (zi x2), some (zi x3), some (zr a4)] [zi s0] (c, I, zRg g) :=
  zgo [8, 15, 75, 87, 99, 111] 0 (t)
theorem g_x11_asks_111 {d : Nat} {B : Nat × Nat} {Q : zQ} {c : Nat × Nat × Nat} {I : Nat → Nat → Int} {g : Nat} {x1 x2 x3 s0 : Int} {a4 : Nat}
    (t : (s0 = 0 → (Q (some (zi 0)) (c, I, zRg g))) ∧ (¬ (s0 = 0) → (Q (some (zi 1)) (c, I, zRg g)))) :
    zRn (zcl d) 81 B Q 111 [some (zr 0), some (zi x1), some (zi x2), some (zi x3), some (zr a4)] [zi s0] (c, I, zRg g) :=
  zgo [8, 15, 75, 87, 99, 111] 3 (And.intro (fun u190 => (t.1 u190)) (fun u190 => (t.2 u190)))
theorem g_x11_most_0 {d : Nat} {B : Nat × Nat} {Q : zQ} {c : Nat × Nat × Nat} {I : Nat → Nat → Int} {g : Nat} {x0 : Int}
    (t : (x0 = 0 → (Q (some (zi 999)) (c, I, zRg g))) ∧ (¬ (x0 = 0) → ((x0 = 1 → (Q (some (zi 9)) (c, I, zRg g))) ∧ (¬ (x0 = 1) → ((x0 = 2 → (Q (some (zi 1023)) (c, I, zRg g))) ∧ (¬ (x0 = 2) → ((x0 = 3 → (Q (some (zi 99)) (c, I, zRg g))) ∧ (¬ (x0 = 3) → (Q (some (zi 99)) (c, I, zRg g)))))))))) :
    zRn (zcl d) 82 B Q 0 [some (zi x0)] [] (c, I, zRg g) :=
  zgo [] 3 (And.intro (fun u191 => (t.1 u191)) (fun u191 => And.intro (fun u192 => ((t.2 u191).1 u192)) (fun u192 => And.intro (fun u193 => (((t.2 u191).2 u192).1 u193)) (fun u193 => And.intro (fun u194 => ((((t.2 u191).2 u192).2 u193).1 u194)) (fun u194 => ((((t.2 u191).2 u192).2 u193).2 u194))))))
theorem g_x11_isSet_0 {d : Nat} {B : Nat × Nat} {Q : zQ} {c : Nat × Nat × Nat} {I : Nat → Nat → Int} {g : Nat} {x0 : Int}
    (t : (x0 < 0 → (Q (some (zi 0)) (c, I, zRg g))) ∧ (¬ (x0 < 0) → ((1024 ≤ x0 → (Q (some (zi 0)) (c, I, zRg g))) ∧ (¬ (1024 ≤ x0) → (Q (some (zi 1)) (c, I, zRg g)))))) :
    zRn (zcl d) 83 B Q 0 [some (zi x0)] [] (c, I, zRg g) :=
  zgo [] 7 (And.intro (fun u195 => And.intro (Or.inl rfl) (t.1 u195)) (fun u195 => And.intro (fun u196 => And.intro (Or.inl rfl) ((t.2 u195).1 u196)) (fun u196 => And.intro (Or.inr rfl) ((t.2 u195).2 u196))))
theorem g_x11_ruleOf_0 {d : Nat} {B : Nat × Nat} {Q : zQ} {c : Nat × Nat × Nat} {I : Nat → Nat → Int} {g : Nat} {a1 y1 : Nat}
    (t : ((zSh a1).1 = 0) ∧ ((I a1 6 < 0 → (Q (some (zr 44)) (c, I, zRg g))) ∧ (¬ (I a1 6 < 0) → (((zSh a1).1 = 0) ∧ ((6 ≤ I a1 6 → (Q (some (zr 44)) (c, I, zRg g))) ∧ (¬ (6 ≤ I a1 6) → (((zSh a1).1 = 0) ∧ ((0 ≤ I a1 6 ∧ I a1 6 < 6) ∧ ((zRg g 26 (I a1 6).toNat = some y1) ∧ (Q (some (zr y1)) (c, I, zRg g))))))))))) :
    zRn (zcl d) 87 B Q 0 [some (zr 0), some (zr a1)] [] (c, I, zRg g) :=
  zgo [] 13 (And.intro t.1 (And.intro (fun u197 => And.intro rfl (Exists.intro (some 26) (And.intro rfl (And.intro (by decide) (And.intro (by decide) (Exists.intro (some 44) (And.intro rfl (t.2.1 u197)))))))) (fun u197 => And.intro (t.2.2 u197).1 (And.intro (fun u198 => And.intro rfl (Exists.intro (some 26) (And.intro rfl (And.intro (by decide) (And.intro (by decide) (Exists.intro (some 44) (And.intro rfl ((t.2.2 u197).2.1 u198)))))))) (fun u198 => And.intro rfl (Exists.intro (some 26) (And.intro rfl (And.intro ((t.2.2 u197).2.2 u198).1 (And.intro (by decide) (And.intro ((t.2.2 u197).2.2 u198).2.1 (Exists.intro (some y1) (And.intro ((t.2.2 u197).2.2 u198).2.2.1 (((t.2.2 u197).2.2 u198).2.2.2)))))))))))))
theorem g_x11_over_0 {d : Nat} {B : Nat × Nat} {Q : zQ} {c : Nat × Nat × Nat} {I : Nat → Nat → Int} {g : Nat} {x1 x2 x3 : Int}
    (t : zcl d 129 0 0 [zi x1] (c, I, zRg g) (fun v h1 => zRn (zcl d) 88 B Q 4 [some (zr 0), some (zi x1), some (zi x2), some (zi x3), none, none] (zva v []) h1)) :
    zRn (zcl d) 88 B Q 0 [some (zr 0), some (zi x1), some (zi x2), some (zi x3), none, none] [] (c, I, zRg g) :=
  zgo [4, 11, 39, 48, 73, 92, 129] 1 (And.intro rfl (And.intro (Nat.le_of_ble_eq_true rfl) (Exists.intro 0 (Exists.intro 0 (And.intro (Or.inl rfl) (And.intro (Or.inl rfl) t))))))
theorem g_x11_over_4 {d : Nat} {B : Nat × Nat} {Q : zQ} {c : Nat × Nat × Nat} {I : Nat → Nat → Int} {g : Nat} {x1 x2 x3 s0 : Int} {o4 o5 : Option zV}
    (t : (s0 = 0 → (Q (some (zi (-2))) (c, I, zRg g))) ∧ (¬ (s0 = 0) → (zcl d 83 0 0 [zi x2] (c, I, zRg g) (fun v h1 => zRn (zcl d) 88 B Q 11 [some (zr 0), some (zi x1), some (zi x2), some (zi x3), o4, o5] (zva v []) h1)))) :
    zRn (zcl d) 88 B Q 4 [some (zr 0), some (zi x1), some (zi x2), some (zi x3), o4, o5] [zi s0] (c, I, zRg g) :=
  zgo [4, 11, 39, 48, 73, 92, 129] 2 (And.intro (fun u199 => (t.1 u199)) (fun u199 => And.intro rfl (And.intro (Nat.le_of_ble_eq_true rfl) (Exists.intro 0 (Exists.intro 0 (And.intro (Or.inl rfl) (And.intro (Or.inl rfl) (t.2 u199))))))))
theorem g_x11_over_11 {d : Nat} {B : Nat × Nat} {Q : zQ} {c : Nat × Nat × Nat} {I : Nat → Nat → Int} {g : Nat} {x1 x2 x3 s0 : Int} {y1 : Nat} {o4 o5 : Option zV}
    (t : (s0 = 0 → (Q (some (zi (-2))) (c, I, zRg g))) ∧ (¬ (s0 = 0) → ((x3 < 0 → (Q (some (zi (-2))) (c, I, zRg g))) ∧ (¬ (x3 < 0) → ((x3 ≤ 3 → ((0 ≤ x1 ∧ x1 < 4) ∧ ((zRg g 28 x1.toNat = some y1) ∧ ((zsel ((zSh y1).1 : Nat) [(8, 60)] = some 60) ∧ (zcl d 60 0 0 [zr y1] (c, I, zRg g) (fun v h1 => zRn (zcl d) 88 B Q 39 [some (zr 0), some (zi x1), some (zi x2), some (zi x3), some (zr y1), o5] (zva v []) h1)))))) ∧ (¬ (x3 ≤ 3) → (Q (some (zi (-2))) (c, I, zRg g)))))))) :
    zRn (zcl d) 88 B Q 11 [some (zr 0), some (zi x1), some (zi x2), some (zi x3), o4, o5] [zi s0] (c, I, zRg g) :=
  zgo [4, 11, 39, 48, 73, 92, 129] 12 (And.intro (fun u200 => (t.1 u200)) (fun u200 => And.intro (fun u201 => ((t.2 u200).1 u201)) (fun u201 => And.intro (fun u202 => And.intro rfl (Exists.intro (some 28) (And.intro rfl (And.intro (by decide) (And.intro (((t.2 u200).2 u201).1 u202).1 (Exists.intro (some y1) (And.intro (((t.2 u200).2 u201).1 u202).2.1 (Exists.intro 60 (And.intro (((t.2 u200).2 u201).1 u202).2.2.1 (And.intro (Nat.le_of_ble_eq_true rfl) (Exists.intro 0 (Exists.intro 0 (And.intro (Or.inl rfl) (And.intro (Or.inl rfl) ((((t.2 u200).2 u201).1 u202).2.2.2))))))))))))))) (fun u202 => (((t.2 u200).2 u201).2 u202)))))
theorem g_x11_over_39 {d : Nat} {B : Nat × Nat} {Q : zQ} {c : Nat × Nat × Nat} {I : Nat → Nat → Int} {g : Nat} {x1 x2 x3 s0 : Int} {a4 : Nat} {o5 : Option zV}
    (t : (s0 = 0 → (zRn (zcl d) 88 B Q 48 [some (zr 0), some (zi x1), some (zi x2), some (zi x3), some (zr a4), some (zi 0)] [] (c, I, zRg g))) ∧ (¬ (s0 = 0) → (Q (some (zi (-11))) (c, I, zRg g)))) :
    zRn (zcl d) 88 B Q 39 [some (zr 0), some (zi x1), some (zi x2), some (zi x3), some (zr a4), o5] [zi s0] (c, I, zRg g) :=
  zgo [4, 11, 39, 48, 73, 92, 129] 3 (And.intro (fun u203 => (t.1 u203)) (fun u203 => (t.2 u203)))
theorem g_x11_over_48 {d : Nat} {B : Nat × Nat} {Q : zQ} {c : Nat × Nat × Nat} {I : Nat → Nat → Int} {g : Nat} {x1 x2 x3 x5 : Int} {a4 y2 : Nat}
    (t : ((zSh a4).1 = 8) ∧ ((I a4 2 ≤ x5 → (zcl d 98 0 0 [zr 0, zr a4, zi x2] (c, I, zRg g) (fun v h1 => zRn (zcl d) 88 B Q 92 [some (zr 0), some (zi x1), some (zi x2), some (zi x3), some (zr a4), some (zi x5)] (zva v []) h1))) ∧ (¬ (I a4 2 ≤ x5) → (((zSh a4).1 = 8) ∧ ((zRg g a4 0 = some y2) ∧ (((zSh y2).1 = 100) ∧ ((0 ≤ x5 ∧ x5 < ((zSh y2).2 : Nat)) ∧ (zcl d 1 0 0 [zr 2, zi (I y2 x5.toNat)] (c, I, zRg g) (fun v h1 => zRn (zcl d) 88 B Q 73 [some (zr 0), some (zi x1), some (zi x2), some (zi x3), some (zr a4), some (zi x5)] (zva v []) h1))))))))) :
    zRn (zcl d) 88 B Q 48 [some (zr 0), some (zi x1), some (zi x2), some (zi x3), some (zr a4), some (zi x5)] [] (c, I, zRg g) :=
  zgo [4, 11, 39, 48, 73, 92, 129] 10 (And.intro t.1 (And.intro (fun u204 => Exists.intro 98 (And.intro rfl (And.intro (Nat.le_of_ble_eq_true rfl) (Exists.intro 0 (Exists.intro 0 (And.intro (Or.inl rfl) (And.intro (Or.inl rfl) (t.2.1 u204)))))))) (fun u204 => And.intro rfl (Exists.intro (some 2) (And.intro rfl (And.intro (t.2.2 u204).1 (Exists.intro (some y2) (And.intro (t.2.2 u204).2.1 (And.intro (t.2.2 u204).2.2.1 (And.intro (t.2.2 u204).2.2.2.1 (Exists.intro 1 (And.intro rfl (And.intro (Nat.le_of_ble_eq_true rfl) (Exists.intro 0 (Exists.intro 0 (And.intro (Or.inl rfl) (And.intro (Or.inl rfl) ((t.2.2 u204).2.2.2.2))))))))))))))))))
theorem g_x11_over_73 {d : Nat} {B : Nat × Nat} {Q : zQ} {c : Nat × Nat × Nat} {I : Nat → Nat → Int} {g : Nat} {x1 x2 x3 x5 s0 : Int} {a4 : Nat}
    (t : (s0 ≠ 0 → (zRn (zcl d) 88 B Q 48 [some (zr 0), some (zi x1), some (zi x2), some (zi x3), some (zr a4), some (zi (zwr (x5 + 1)))] [] (c, I, zRg g))) ∧ (¬ (s0 ≠ 0) → (Q (some (zi (-2))) (c, I, zRg g)))) :
    zRn (zcl d) 88 B Q 73 [some (zr 0), some (zi x1), some (zi x2), some (zi x3), some (zr a4), some (zi x5)] [zi s0] (c, I, zRg g) :=
  zgo [4, 11, 39, 48, 73, 92, 129] 3 (And.intro (fun u208 => (t.1 u208)) (fun u208 => (t.2 u208)))
theorem g_x11_over_92 {d : Nat} {B : Nat × Nat} {Q : zQ} {c : Nat × Nat × Nat} {I : Nat → Nat → Int} {g : Nat} {x1 x2 x3 x5 s0 : Int} {a4 : Nat}
    (t : (x3 = 0 → (Q (some (zi s0)) (c, I, zRg g))) ∧ (¬ (x3 = 0) → ((x3 = 1 → (zcl d 101 0 0 [zi s0, zi x2] (c, I, zRg g) (fun v h1 => zRn (zcl d) 88 B Q 129 [some (zr 0), some (zi x1), some (zi x2), some (zi x3), some (zr a4), some (zi s0)] (zva v []) h1))) ∧ (¬ (x3 = 1) → ((x3 = 2 → (Q (some (zi (zand x2 (zxor s0 (-1))))) (c, I, zRg g))) ∧ (¬ (x3 = 2) → (Q (some (zi (zand s0 (zxor x2 (-1))))) (c, I, zRg g)))))))) :
    zRn (zcl d) 88 B Q 92 [some (zr 0), some (zi x1), some (zi x2), some (zi x3), some (zr a4), some (zi x5)] [zi s0] (c, I, zRg g) :=
  zgo [4, 11, 39, 48, 73, 92, 129] 8 (And.intro (fun u205 => (t.1 u205)) (fun u205 => And.intro (fun u206 => And.intro rfl (And.intro (Nat.le_of_ble_eq_true rfl) (Exists.intro 0 (Exists.intro 0 (And.intro (Or.inl rfl) (And.intro (Or.inl rfl) ((t.2 u205).1 u206))))))) (fun u206 => And.intro (fun u207 => (((t.2 u205).2 u206).1 u207)) (fun u207 => (((t.2 u205).2 u206).2 u207)))))
theorem g_x11_over_129 {d : Nat} {B : Nat × Nat} {Q : zQ} {c : Nat × Nat × Nat} {I : Nat → Nat → Int} {g : Nat} {x1 x2 x3 x5 s0 : Int} {a4 : Nat}
    (t : Q (some (zi s0)) (c, I, zRg g)) :
    zRn (zcl d) 88 B Q 129 [some (zr 0), some (zi x1), some (zi x2), some (zi x3), some (zr a4), some (zi x5)] [zi s0] (c, I, zRg g) :=
  zgo [4, 11, 39, 48, 73, 92, 129] 0 (t)
theorem g_x11_day_0 {d : Nat} {B : Nat × Nat} {Q : zQ} {c : Nat × Nat × Nat} {I : Nat → Nat → Int} {g : Nat}
    (t : (I 2 4 < 999 → (zcl d 99 0 0 [zr 0, zr 2] (c, I, zRg g) (fun v h1 => zRn (zcl d) 89 B Q 24 [some (zr 0)] (zva v []) h1))) ∧ (¬ (I 2 4 < 999) → (Q (some (zi (-3))) (c, I, zRg g)))) :
    zRn (zcl d) 89 B Q 0 [some (zr 0)] [] (c, I, zRg g) :=
  zgo [24] 8 (And.intro rfl (Exists.intro (some 2) (And.intro rfl (And.intro rfl (And.intro (fun u209 => And.intro rfl (Exists.intro (some 2) (And.intro rfl (Exists.intro 99 (And.intro rfl (And.intro (Nat.le_of_ble_eq_true rfl) (Exists.intro 0 (Exists.intro 0 (And.intro (Or.inl rfl) (And.intro (Or.inl rfl) (t.1 u209))))))))))) (fun u209 => (t.2 u209)))))))
theorem g_x11_day_24 {d : Nat} {B : Nat × Nat} {Q : zQ} {c : Nat × Nat × Nat} {I : Nat → Nat → Int} {g : Nat} {s0 : Int}
    (t : Q (some (zi s0)) (c, I, zRg g)) :
    zRn (zcl d) 89 B Q 24 [some (zr 0)] [zi s0] (c, I, zRg g) :=
  zgo [24] 0 (t)
theorem g_x11_run_0 {d : Nat} {B : Nat × Nat} {Q : zQ} {c : Nat × Nat × Nat} {I : Nat → Nat → Int} {g : Nat} {x1 x2 : Int}
    (t : (x1 < 0 → (Q (some (zi (-1000))) (c, I, zRg g))) ∧ (¬ (x1 < 0) → ((20 < x1 → (Q (some (zi (-1000))) (c, I, zRg g))) ∧ (¬ (20 < x1) → (zcl d 91 0 0 [zr 0, zi x2] (c, I, zRg g) (fun v h1 => zRn (zcl d) 90 B Q 15 [some (zr 0), some (zi x1), some (zi x2), none, none, none, none] (zva v []) h1)))))) :
    zRn (zcl d) 90 B Q 0 [some (zr 0), some (zi x1), some (zi x2), none, none, none, none] [] (c, I, zRg g) :=
  zgo [15, 38, 41, 55] 7 (And.intro (fun u210 => (t.1 u210)) (fun u210 => And.intro (fun u211 => ((t.2 u210).1 u211)) (fun u211 => Exists.intro 91 (And.intro rfl (And.intro (Nat.le_of_ble_eq_true rfl) (Exists.intro 0 (Exists.intro 0 (And.intro (Or.inl rfl) (And.intro (Or.inl rfl) ((t.2 u210).2 u211))))))))))
theorem g_x11_run_15 {d : Nat} {B : Nat × Nat} {Q : zQ} {c : Nat × Nat × Nat} {I : Nat → Nat → Int} {g : Nat} {x1 x2 s0 : Int} {o3 o4 o5 o6 : Option zV}
    (t : (s0 ≠ 0 → (zcl d 3 0 0 [zr 18, zr 2] (c, I, zRg g) (fun v h1 => zRn (zcl d) 90 B Q 38 [some (zr 0), some (zi x1), some (zi x2), some (zi (-1)), some (zi 0), o5, o6] (zva v []) h1))) ∧ (¬ (s0 ≠ 0) → (Q (some (zi (-1000))) (c, I, zRg g)))) :
    zRn (zcl d) 90 B Q 15 [some (zr 0), some (zi x1), some (zi x2), o3, o4, o5, o6] [zi s0] (c, I, zRg g) :=
  zgo [15, 38, 41, 55] 9 (And.intro (fun u212 => And.intro rfl (Exists.intro (some 18) (And.intro rfl (And.intro rfl (Exists.intro (some 2) (And.intro rfl (Exists.intro 3 (And.intro rfl (And.intro (Nat.le_of_ble_eq_true rfl) (Exists.intro 0 (Exists.intro 0 (And.intro (Or.inl rfl) (And.intro (Or.inl rfl) (t.1 u212)))))))))))))) (fun u212 => (t.2 u212)))
theorem g_x11_run_38 {d : Nat} {B : Nat × Nat} {Q : zQ} {c : Nat × Nat × Nat} {I : Nat → Nat → Int} {g : Nat} {x1 x2 x3 x4 : Int} {o5 o6 : Option zV}
    (t : zRn (zcl d) 90 B Q 41 [some (zr 0), some (zi x1), some (zi x2), some (zi x3), some (zi x4), some (zi 0), o6] [] (c, I, zRg g)) :
    zRn (zcl d) 90 B Q 38 [some (zr 0), some (zi x1), some (zi x2), some (zi x3), some (zi x4), o5, o6] [] (c, I, zRg g) :=
  zgo [15, 38, 41, 55] 2 (t)
theorem g_x11_run_41 {d : Nat} {B : Nat × Nat} {Q : zQ} {c : Nat × Nat × Nat} {I : Nat → Nat → Int} {g : Nat} {x1 x2 x3 x4 x5 : Int} {y1 y2 : Nat} {o6 : Option zV}
    (t : (x1 ≤ x5 → ((x2 ≠ 0 → ((x2 ≠ 1 → ((20 ≤ x2 → ((0 ≤ zwr (x2 - 20) ∧ zwr (x2 - 20) < 5) ∧ ((zRg g 19 (zwr (x2 - 20)).toNat = some y1) ∧ (((zSh y1).1 = 5) ∧ (Q (some (zi (I y1 3))) (c, I, zRg g)))))) ∧ (¬ (20 ≤ x2) → ((0 ≤ zwr (x2 - 10) ∧ zwr (x2 - 10) < 5) ∧ ((zRg g 19 (zwr (x2 - 10)).toNat = some y2) ∧ (((zSh y2).1 = 5) ∧ (Q (some (zi (I y2 2))) (c, I, zRg g)))))))) ∧ (¬ (x2 ≠ 1) → (Q (some (zi x4)) (c, I, zRg g))))) ∧ (¬ (x2 ≠ 0) → (Q (some (zi x3)) (c, I, zRg g))))) ∧ (¬ (x1 ≤ x5) → (zcl d 99 0 0 [zr 0, zr 18] (c, I, zRg g) (fun v h1 => zRn (zcl d) 90 B Q 55 [some (zr 0), some (zi x1), some (zi x2), some (zi x3), some (zi x4), some (zi x5), o6] (zva v []) h1)))) :
    zRn (zcl d) 90 B Q 41 [some (zr 0), some (zi x1), some (zi x2), some (zi x3), some (zi x4), some (zi x5), o6] [] (c, I, zRg g) :=
  zgo [15, 38, 41, 55] 20 (And.intro (fun u213 => And.intro (fun u214 => And.intro (fun u215 => And.intro (fun u216 => And.intro rfl (Exists.intro (some 18) (And.intro rfl (And.intro rfl (Exists.intro (some 19) (And.intro rfl (And.intro (by decide) (And.intro ((((t.1 u213).1 u214).1 u215).1 u216).1 (Exists.intro (some y1) (And.intro ((((t.1 u213).1 u214).1 u215).1 u216).2.1 (And.intro ((((t.1 u213).1 u214).1 u215).1 u216).2.2.1 (((((t.1 u213).1 u214).1 u215).1 u216).2.2.2)))))))))))) (fun u216 => And.intro rfl (Exists.intro (some 18) (And.intro rfl (And.intro rfl (Exists.intro (some 19) (And.intro rfl (And.intro (by decide) (And.intro ((((t.1 u213).1 u214).1 u215).2 u216).1 (Exists.intro (some y2) (And.intro ((((t.1 u213).1 u214).1 u215).2 u216).2.1 (And.intro ((((t.1 u213).1 u214).1 u215).2 u216).2.2.1 (((((t.1 u213).1 u214).1 u215).2 u216).2.2.2))))))))))))) (fun u215 => (((t.1 u213).1 u214).2 u215))) (fun u214 => ((t.1 u213).2 u214))) (fun u213 => And.intro rfl (Exists.intro (some 18) (And.intro rfl (Exists.intro 99 (And.intro rfl (And.intro (Nat.le_of_ble_eq_true rfl) (Exists.intro 0 (Exists.intro 0 (And.intro (Or.inl rfl) (And.intro (Or.inl rfl) (t.2 u213))))))))))))
theorem g_x11_run_55 {d : Nat} {B : Nat × Nat} {Q : zQ} {c : Nat × Nat × Nat} {I : Nat → Nat → Int} {g : Nat} {x1 x2 x3 x4 x5 s0 : Int} {o6 : Option zV}
    (t : (s0 = (-1) → (zRn (zcl d) 90 B Q 41 [some (zr 0), some (zi x1), some (zi x2), some (zi x3), some (zi x4), some (zi (zwr (x5 + 1))), some (zi s0)] [] (c, I, zRg g))) ∧ (¬ (s0 = (-1)) → (zRn (zcl d) 90 B Q 41 [some (zr 0), some (zi x1), some (zi x2), some (zi s0), some (zi (zwr (x4 + 1))), some (zi (zwr (x5 + 1))), some (zi s0)] [] (c, I, zRg g)))) :
    zRn (zcl d) 90 B Q 55 [some (zr 0), some (zi x1), some (zi x2), some (zi x3), some (zi x4), some (zi x5), o6] [zi s0] (c, I, zRg g) :=
  zgo [15, 38, 41, 55] 9 (And.intro (fun u217 => (t.1 u217)) (fun u217 => (t.2 u217)))
theorem g_x11_isAskedOfRun_0 {d : Nat} {B : Nat × Nat} {Q : zQ} {c : Nat × Nat × Nat} {I : Nat → Nat → Int} {g : Nat} {x1 : Int}
    (t : (x1 = 0 → (Q (some (zi 1)) (c, I, zRg g))) ∧ (¬ (x1 = 0) → ((x1 = 1 → (Q (some (zi 1)) (c, I, zRg g))) ∧ (¬ (x1 = 1) → (zcl d 1 0 0 [zr 2, zi (zwr (x1 - 10))] (c, I, zRg g) (fun v h1 => zRn (zcl d) 91 B Q 20 [some (zr 0), some (zi x1)] (zva v []) h1)))))) :
    zRn (zcl d) 91 B Q 0 [some (zr 0), some (zi x1)] [] (c, I, zRg g) :=
  zgo [20, 34] 10 (And.intro (fun u218 => And.intro (Or.inr rfl) (t.1 u218)) (fun u218 => And.intro (fun u219 => And.intro (Or.inr rfl) ((t.2 u218).1 u219)) (fun u219 => And.intro rfl (Exists.intro (some 2) (And.intro rfl (Exists.intro 1 (And.intro rfl (And.intro (Nat.le_of_ble_eq_true rfl) (Exists.intro 0 (Exists.intro 0 (And.intro (Or.inl rfl) (And.intro (Or.inl rfl) ((t.2 u218).2 u219)))))))))))))
theorem g_x11_isAskedOfRun_20 {d : Nat} {B : Nat × Nat} {Q : zQ} {c : Nat × Nat × Nat} {I : Nat → Nat → Int} {g : Nat} {x1 s0 : Int}
    (t : (s0 ≠ 0 → (Q (some (zi 1)) (c, I, zRg g))) ∧ (¬ (s0 ≠ 0) → (zcl d 1 0 0 [zr 2, zi (zwr (x1 - 20))] (c, I, zRg g) (fun v h1 => zRn (zcl d) 91 B Q 34 [some (zr 0), some (zi x1)] (zva v []) h1)))) :
    zRn (zcl d) 91 B Q 20 [some (zr 0), some (zi x1)] [zi s0] (c, I, zRg g) :=
  zgo [20, 34] 6 (And.intro (fun u220 => And.intro (Or.inr rfl) (t.1 u220)) (fun u220 => And.intro rfl (Exists.intro (some 2) (And.intro rfl (Exists.intro 1 (And.intro rfl (And.intro (Nat.le_of_ble_eq_true rfl) (Exists.intro 0 (Exists.intro 0 (And.intro (Or.inl rfl) (And.intro (Or.inl rfl) (t.2 u220))))))))))))
theorem g_x11_isAskedOfRun_34 {d : Nat} {B : Nat × Nat} {Q : zQ} {c : Nat × Nat × Nat} {I : Nat → Nat → Int} {g : Nat} {x1 s0 : Int}
    (t : (s0 = 0 → (Q (some (zi 0)) (c, I, zRg g))) ∧ (¬ (s0 = 0) → (Q (some (zi 1)) (c, I, zRg g)))) :
    zRn (zcl d) 91 B Q 34 [some (zr 0), some (zi x1)] [zi s0] (c, I, zRg g) :=
  zgo [20, 34] 3 (And.intro (fun u221 => And.intro (Or.inl rfl) (t.1 u221)) (fun u221 => And.intro (Or.inr rfl) (t.2 u221)))
theorem g_x11_kindOf_0 {d : Nat} {B : Nat × Nat} {Q : zQ} {c : Nat × Nat × Nat} {I : Nat → Nat → Int} {g : Nat} {a1 y1 : Nat}
    (t : ((zSh a1).1 = 5) ∧ ((I a1 0 < 0 → (Q (some (zr 30)) (c, I, zRg g))) ∧ (¬ (I a1 0 < 0) → (((zSh a1).1 = 5) ∧ ((6 ≤ I a1 0 → (Q (some (zr 30)) (c, I, zRg g))) ∧ (¬ (6 ≤ I a1 0) → (((zSh a1).1 = 5) ∧ ((0 ≤ I a1 0 ∧ I a1 0 < 6) ∧ ((zRg g 1 (I a1 0).toNat = some y1) ∧ (Q (some (zr y1)) (c, I, zRg g))))))))))) :
    zRn (zcl d) 92 B Q 0 [some (zr 0), some (zr a1)] [] (c, I, zRg g) :=
  zgo [] 13 (And.intro t.1 (And.intro (fun u222 => And.intro rfl (Exists.intro (some 1) (And.intro rfl (And.intro (by decide) (And.intro (by decide) (Exists.intro (some 30) (And.intro rfl (t.2.1 u222)))))))) (fun u222 => And.intro (t.2.2 u222).1 (And.intro (fun u223 => And.intro rfl (Exists.intro (some 1) (And.intro rfl (And.intro (by decide) (And.intro (by decide) (Exists.intro (some 30) (And.intro rfl ((t.2.2 u222).2.1 u223)))))))) (fun u223 => And.intro rfl (Exists.intro (some 1) (And.intro rfl (And.intro ((t.2.2 u222).2.2 u223).1 (And.intro (by decide) (And.intro ((t.2.2 u222).2.2 u223).2.1 (Exists.intro (some y1) (And.intro ((t.2.2 u222).2.2 u223).2.2.1 (((t.2.2 u222).2.2 u223).2.2.2)))))))))))))
theorem g_x11_keeping_0 {d : Nat} {B : Nat × Nat} {Q : zQ} {c : Nat × Nat × Nat} {I : Nat → Nat → Int} {g : Nat} {x3 : Int} {a1 a2 : Nat}
    (t : zcl d 92 0 0 [zr 0, zr a2] (c, I, zRg g) (fun v h1 => zRn (zcl d) 93 B Q 5 [some (zr 0), some (zr a1), some (zr a2), some (zi x3)] (zva v []) h1)) :
    zRn (zcl d) 93 B Q 0 [some (zr 0), some (zr a1), some (zr a2), some (zi x3)] [] (c, I, zRg g) :=
  zgo [5, 10, 24, 31, 36] 2 (Exists.intro 92 (And.intro rfl (And.intro (Nat.le_of_ble_eq_true rfl) (Exists.intro 0 (Exists.intro 0 (And.intro (Or.inl rfl) (And.intro (Or.inl rfl) t)))))))
theorem g_x11_keeping_5 {d : Nat} {B : Nat × Nat} {Q : zQ} {c : Nat × Nat × Nat} {I : Nat → Nat → Int} {g : Nat} {x3 : Int} {a1 a2 b0 : Nat}
    (t : zcl d 87 0 0 [zr 0, zr a1] (c, I, zRg g) (fun v h1 => zRn (zcl d) 93 B Q 10 [some (zr 0), some (zr a1), some (zr a2), some (zi x3)] (zva v [zr b0]) h1)) :
    zRn (zcl d) 93 B Q 5 [some (zr 0), some (zr a1), some (zr a2), some (zi x3)] [zr b0] (c, I, zRg g) :=
  zgo [5, 10, 24, 31, 36] 2 (Exists.intro 87 (And.intro rfl (And.intro (Nat.le_of_ble_eq_true rfl) (Exists.intro 0 (Exists.intro 0 (And.intro (Or.inl rfl) (And.intro (Or.inl rfl) t)))))))
theorem g_x11_keeping_10 {d : Nat} {B : Nat × Nat} {Q : zQ} {c : Nat × Nat × Nat} {I : Nat → Nat → Int} {g : Nat} {x3 : Int} {a1 a2 b0 b1 : Nat}
    (t : ((zSh a1).1 = 0) ∧ ((zsel ((zSh b0).1 : Nat) [(10, 72)] = some 72) ∧ (zcl d 72 0 0 [zr b0, zi 0, zr a2, zi x3, zi (I a1 4), zr 27] (c, I, zRg g) (fun v h1 => zRn (zcl d) 93 B Q 24 [some (zr 0), some (zr a1), some (zr a2), some (zi x3)] (zva v [zr b1]) h1)))) :
    zRn (zcl d) 93 B Q 10 [some (zr 0), some (zr a1), some (zr a2), some (zi x3)] [zr b0, zr b1] (c, I, zRg g) :=
  zgo [5, 10, 24, 31, 36] 7 (And.intro t.1 (And.intro rfl (Exists.intro (some 27) (And.intro rfl (Exists.intro 72 (And.intro t.2.1 (And.intro (Nat.le_of_ble_eq_true rfl) (Exists.intro 0 (Exists.intro 0 (And.intro (Or.inl rfl) (And.intro (Or.inl rfl) t.2.2)))))))))))
theorem g_x11_keeping_24 {d : Nat} {B : Nat × Nat} {Q : zQ} {c : Nat × Nat × Nat} {I : Nat → Nat → Int} {g : Nat} {x3 s0 : Int} {a1 a2 b1 k1 : Nat}
    (t : ((zSh a1).1 = 0) ∧ ((zsel ((zSh b1).1 : Nat) [(9, 66), (1, 6), (2, 12), (3, 12), (4, 23), (6, 32)] = some k1) ∧ (zcl d k1 0 0 [zr b1, zi s0, zi (I a1 4)] (c, I, zRg g) (fun v h1 => zRn (zcl d) 93 B Q 31 [some (zr 0), some (zr a1), some (zr a2), some (zi x3)] (zva v []) h1)))) :
    zRn (zcl d) 93 B Q 24 [some (zr 0), some (zr a1), some (zr a2), some (zi x3)] [zi s0, zr b1] (c, I, zRg g) :=
  zgo [5, 10, 24, 31, 36] 2 (And.intro t.1 (Exists.intro k1 (And.intro t.2.1 (And.intro (Nat.le_of_ble_eq_true rfl) (Exists.intro 0 (Exists.intro 0 (And.intro (Or.inl rfl) (And.intro (Or.inl rfl) t.2.2))))))))
theorem g_x11_keeping_31 {d : Nat} {B : Nat × Nat} {Q : zQ} {c : Nat × Nat × Nat} {I : Nat → Nat → Int} {g : Nat} {x3 s0 : Int} {a1 a2 : Nat}
    (t : zcl d 103 0 0 [zi s0, zi 10] (c, I, zRg g) (fun v h1 => zRn (zcl d) 93 B Q 36 [some (zr 0), some (zr a1), some (zr a2), some (zi x3)] (zva v []) h1)) :
    zRn (zcl d) 93 B Q 31 [some (zr 0), some (zr a1), some (zr a2), some (zi x3)] [zi s0] (c, I, zRg g) :=
  zgo [5, 10, 24, 31, 36] 1 (And.intro rfl (And.intro (Nat.le_of_ble_eq_true rfl) (Exists.intro 0 (Exists.intro 0 (And.intro (Or.inl rfl) (And.intro (Or.inl rfl) t))))))
theorem g_x11_keeping_36 {d : Nat} {B : Nat × Nat} {Q : zQ} {c : Nat × Nat × Nat} {I : Nat → Nat → Int} {g : Nat} {x3 s0 : Int} {a1 a2 : Nat}
    (t : Q (some (zi s0)) (c, I, zRg g)) :
    zRn (zcl d) 93 B Q 36 [some (zr 0), some (zr a1), some (zr a2), some (zi x3)] [zi s0] (c, I, zRg g) :=
  zgo [5, 10, 24, 31, 36] 0 (t)
theorem g_x11_telling_0 {d : Nat} {B : Nat × Nat} {Q : zQ} {c : Nat × Nat × Nat} {I : Nat → Nat → Int} {g : Nat} {x3 : Int} {a1 a2 : Nat}
    (t : zcl d 92 0 0 [zr 0, zr a2] (c, I, zRg g) (fun v h1 => zRn (zcl d) 94 B Q 5 [some (zr 0), some (zr a1), some (zr a2), some (zi x3)] (zva v []) h1)) :
    zRn (zcl d) 94 B Q 0 [some (zr 0), some (zr a1), some (zr a2), some (zi x3)] [] (c, I, zRg g) :=
  zgo [5, 14, 17] 2 (Exists.intro 92 (And.intro rfl (And.intro (Nat.le_of_ble_eq_true rfl) (Exists.intro 0 (Exists.intro 0 (And.intro (Or.inl rfl) (And.intro (Or.inl rfl) t)))))))
theorem g_x11_telling_5 {d : Nat} {B : Nat × Nat} {Q : zQ} {c : Nat × Nat × Nat} {I : Nat → Nat → Int} {g : Nat} {x3 : Int} {a1 a2 b0 : Nat}
    (t : zcl d 93 0 0 [zr 0, zr a1, zr a2, zi x3] (c, I, zRg g) (fun v h1 => zRn (zcl d) 94 B Q 14 [some (zr 0), some (zr a1), some (zr a2), some (zi x3)] (zva v [zi x3, zr a2, zr b0]) h1)) :
    zRn (zcl d) 94 B Q 5 [some (zr 0), some (zr a1), some (zr a2), some (zi x3)] [zr b0] (c, I, zRg g) :=
  zgo [5, 14, 17] 6 (Exists.intro 93 (And.intro rfl (And.intro (Nat.le_of_ble_eq_true rfl) (Exists.intro 0 (Exists.intro 0 (And.intro (Or.inl rfl) (And.intro (Or.inl rfl) t)))))))
theorem g_x11_telling_14 {d : Nat} {B : Nat × Nat} {Q : zQ} {c : Nat × Nat × Nat} {I : Nat → Nat → Int} {g : Nat} {x3 s0 s1 : Int} {a1 a2 b2 b3 k1 : Nat}
    (t : (zsel ((zSh b3).1 : Nat) [(9, 67), (1, 7), (2, 13), (3, 18), (4, 24), (6, 33)] = some k1) ∧ (zcl d k1 0 0 [zr b3, zr b2, zi s1, zi s0] (c, I, zRg g) (fun v h1 => zRn (zcl d) 94 B Q 17 [some (zr 0), some (zr a1), some (zr a2), some (zi x3)] (zva v []) h1))) :
    zRn (zcl d) 94 B Q 14 [some (zr 0), some (zr a1), some (zr a2), some (zi x3)] [zi s0, zi s1, zr b2, zr b3] (c, I, zRg g) :=
  zgo [5, 14, 17] 0 (Exists.intro k1 (And.intro t.1 (And.intro (Nat.le_of_ble_eq_true rfl) (Exists.intro 0 (Exists.intro 0 (And.intro (Or.inl rfl) (And.intro (Or.inl rfl) t.2)))))))
theorem g_x11_telling_17 {d : Nat} {B : Nat × Nat} {Q : zQ} {c : Nat × Nat × Nat} {I : Nat → Nat → Int} {g : Nat} {x3 s0 : Int} {a1 a2 : Nat}
    (t : Q (some (zi s0)) (c, I, zRg g)) :
    zRn (zcl d) 94 B Q 17 [some (zr 0), some (zr a1), some (zr a2), some (zi x3)] [zi s0] (c, I, zRg g) :=
  zgo [5, 14, 17] 0 (t)
theorem g_x11_tiring_0 {d : Nat} {B : Nat × Nat} {Q : zQ} {c : Nat × Nat × Nat} {I : Nat → Nat → Int} {g : Nat} {x3 : Int} {a1 a2 : Nat}
    (t : zcl d 92 0 0 [zr 0, zr a2] (c, I, zRg g) (fun v h1 => zRn (zcl d) 95 B Q 5 [some (zr 0), some (zr a1), some (zr a2), some (zi x3)] (zva v []) h1)) :
    zRn (zcl d) 95 B Q 0 [some (zr 0), some (zr a1), some (zr a2), some (zi x3)] [] (c, I, zRg g) :=
  zgo [5, 10, 24, 28] 2 (Exists.intro 92 (And.intro rfl (And.intro (Nat.le_of_ble_eq_true rfl) (Exists.intro 0 (Exists.intro 0 (And.intro (Or.inl rfl) (And.intro (Or.inl rfl) t)))))))
theorem g_x11_tiring_5 {d : Nat} {B : Nat × Nat} {Q : zQ} {c : Nat × Nat × Nat} {I : Nat → Nat → Int} {g : Nat} {x3 : Int} {a1 a2 b0 : Nat}
    (t : zcl d 87 0 0 [zr 0, zr a1] (c, I, zRg g) (fun v h1 => zRn (zcl d) 95 B Q 10 [some (zr 0), some (zr a1), some (zr a2), some (zi x3)] (zva v [zr b0]) h1)) :
    zRn (zcl d) 95 B Q 5 [some (zr 0), some (zr a1), some (zr a2), some (zi x3)] [zr b0] (c, I, zRg g) :=
  zgo [5, 10, 24, 28] 2 (Exists.intro 87 (And.intro rfl (And.intro (Nat.le_of_ble_eq_true rfl) (Exists.intro 0 (Exists.intro 0 (And.intro (Or.inl rfl) (And.intro (Or.inl rfl) t)))))))
theorem g_x11_tiring_10 {d : Nat} {B : Nat × Nat} {Q : zQ} {c : Nat × Nat × Nat} {I : Nat → Nat → Int} {g : Nat} {x3 : Int} {a1 a2 b0 b1 : Nat}
    (t : ((zSh a1).1 = 0) ∧ ((zsel ((zSh b0).1 : Nat) [(10, 72)] = some 72) ∧ (zcl d 72 0 0 [zr b0, zi 1, zr a2, zi x3, zi (I a1 4), zr 27] (c, I, zRg g) (fun v h1 => zRn (zcl d) 95 B Q 24 [some (zr 0), some (zr a1), some (zr a2), some (zi x3)] (zva v [zr b1]) h1)))) :
    zRn (zcl d) 95 B Q 10 [some (zr 0), some (zr a1), some (zr a2), some (zi x3)] [zr b0, zr b1] (c, I, zRg g) :=
  zgo [5, 10, 24, 28] 7 (And.intro t.1 (And.intro rfl (Exists.intro (some 27) (And.intro rfl (Exists.intro 72 (And.intro t.2.1 (And.intro (Nat.le_of_ble_eq_true rfl) (Exists.intro 0 (Exists.intro 0 (And.intro (Or.inl rfl) (And.intro (Or.inl rfl) t.2.2)))))))))))
theorem g_x11_tiring_24 {d : Nat} {B : Nat × Nat} {Q : zQ} {c : Nat × Nat × Nat} {I : Nat → Nat → Int} {g : Nat} {x3 s0 : Int} {a1 a2 b1 k1 : Nat}
    (t : (zsel ((zSh b1).1 : Nat) [(9, 68), (1, 8), (2, 14), (3, 19), (4, 25), (6, 34)] = some k1) ∧ (zcl d k1 0 0 [zr b1, zi s0, zr a2] (c, I, zRg g) (fun v h1 => zRn (zcl d) 95 B Q 28 [some (zr 0), some (zr a1), some (zr a2), some (zi x3)] (zva v []) h1))) :
    zRn (zcl d) 95 B Q 24 [some (zr 0), some (zr a1), some (zr a2), some (zi x3)] [zi s0, zr b1] (c, I, zRg g) :=
  zgo [5, 10, 24, 28] 1 (Exists.intro k1 (And.intro t.1 (And.intro (Nat.le_of_ble_eq_true rfl) (Exists.intro 0 (Exists.intro 0 (And.intro (Or.inl rfl) (And.intro (Or.inl rfl) t.2)))))))
theorem g_x11_tiring_28 {d : Nat} {B : Nat × Nat} {Q : zQ} {c : Nat × Nat × Nat} {I : Nat → Nat → Int} {g : Nat} {x3 s0 : Int} {a1 a2 : Nat}
    (t : Q (some (zi s0)) (c, I, zRg g)) :
    zRn (zcl d) 95 B Q 28 [some (zr 0), some (zr a1), some (zr a2), some (zi x3)] [zi s0] (c, I, zRg g) :=
  zgo [5, 10, 24, 28] 0 (t)
theorem g_x11_learning_0 {d : Nat} {B : Nat × Nat} {Q : zQ} {c : Nat × Nat × Nat} {I : Nat → Nat → Int} {g : Nat} {x3 : Int} {a1 a2 : Nat}
    (t : zcl d 92 0 0 [zr 0, zr a2] (c, I, zRg g) (fun v h1 => zRn (zcl d) 96 B Q 5 [some (zr 0), some (zr a1), some (zr a2), some (zi x3)] (zva v []) h1)) :
    zRn (zcl d) 96 B Q 0 [some (zr 0), some (zr a1), some (zr a2), some (zi x3)] [] (c, I, zRg g) :=
  zgo [5, 10, 24, 36] 2 (Exists.intro 92 (And.intro rfl (And.intro (Nat.le_of_ble_eq_true rfl) (Exists.intro 0 (Exists.intro 0 (And.intro (Or.inl rfl) (And.intro (Or.inl rfl) t)))))))
theorem g_x11_learning_5 {d : Nat} {B : Nat × Nat} {Q : zQ} {c : Nat × Nat × Nat} {I : Nat → Nat → Int} {g : Nat} {x3 : Int} {a1 a2 b0 : Nat}
    (t : zcl d 87 0 0 [zr 0, zr a1] (c, I, zRg g) (fun v h1 => zRn (zcl d) 96 B Q 10 [some (zr 0), some (zr a1), some (zr a2), some (zi x3)] (zva v [zr b0]) h1)) :
    zRn (zcl d) 96 B Q 5 [some (zr 0), some (zr a1), some (zr a2), some (zi x3)] [zr b0] (c, I, zRg g) :=
  zgo [5, 10, 24, 36] 2 (Exists.intro 87 (And.intro rfl (And.intro (Nat.le_of_ble_eq_true rfl) (Exists.intro 0 (Exists.intro 0 (And.intro (Or.inl rfl) (And.intro (Or.inl rfl) t)))))))
theorem g_x11_learning_10 {d : Nat} {B : Nat × Nat} {Q : zQ} {c : Nat × Nat × Nat} {I : Nat → Nat → Int} {g : Nat} {x3 : Int} {a1 a2 b0 b1 : Nat}
    (t : ((zSh a1).1 = 0) ∧ ((zsel ((zSh b0).1 : Nat) [(10, 72)] = some 72) ∧ (zcl d 72 0 0 [zr b0, zi 2, zr a2, zi x3, zi (I a1 4), zr 27] (c, I, zRg g) (fun v h1 => zRn (zcl d) 96 B Q 24 [some (zr 0), some (zr a1), some (zr a2), some (zi x3)] (zva v [zr b1]) h1)))) :
    zRn (zcl d) 96 B Q 10 [some (zr 0), some (zr a1), some (zr a2), some (zi x3)] [zr b0, zr b1] (c, I, zRg g) :=
  zgo [5, 10, 24, 36] 7 (And.intro t.1 (And.intro rfl (Exists.intro (some 27) (And.intro rfl (Exists.intro 72 (And.intro t.2.1 (And.intro (Nat.le_of_ble_eq_true rfl) (Exists.intro 0 (Exists.intro 0 (And.intro (Or.inl rfl) (And.intro (Or.inl rfl) t.2.2)))))))))))
theorem g_x11_learning_24 {d : Nat} {B : Nat × Nat} {Q : zQ} {c : Nat × Nat × Nat} {I : Nat → Nat → Int} {g : Nat} {x3 s0 : Int} {a1 a2 b1 k1 k3 : Nat}
    (t : (s0 = 0 → ((zsel ((zSh b1).1 : Nat) [(9, 69), (1, 9), (2, 15), (3, 20), (4, 9), (6, 35)] = some k1) ∧ (zcl d k1 0 0 [zr b1, zi 0, zi x3] (c, I, zRg g) (fun v h1 => zRn (zcl d) 96 B Q 36 [some (zr 0), some (zr a1), some (zr a2), some (zi x3)] (zva v []) h1)))) ∧ (¬ (s0 = 0) → ((zsel ((zSh b1).1 : Nat) [(9, 69), (1, 9), (2, 15), (3, 20), (4, 9), (6, 35)] = some k3) ∧ (zcl d k3 0 0 [zr b1, zi 1, zi x3] (c, I, zRg g) (fun v h1 => zRn (zcl d) 96 B Q 36 [some (zr 0), some (zr a1), some (zr a2), some (zi x3)] (zva v []) h1))))) :
    zRn (zcl d) 96 B Q 24 [some (zr 0), some (zr a1), some (zr a2), some (zi x3)] [zi s0, zr b1] (c, I, zRg g) :=
  zgo [5, 10, 24, 36] 4 (And.intro (fun u224 => Exists.intro k1 (And.intro (t.1 u224).1 (And.intro (Nat.le_of_ble_eq_true rfl) (Exists.intro 0 (Exists.intro 0 (And.intro (Or.inl rfl) (And.intro (Or.inl rfl) ((t.1 u224).2)))))))) (fun u224 => Exists.intro k3 (And.intro (t.2 u224).1 (And.intro (Nat.le_of_ble_eq_true rfl) (Exists.intro 0 (Exists.intro 0 (And.intro (Or.inl rfl) (And.intro (Or.inl rfl) ((t.2 u224).2)))))))))
theorem g_x11_learning_36 {d : Nat} {B : Nat × Nat} {Q : zQ} {c : Nat × Nat × Nat} {I : Nat → Nat → Int} {g : Nat} {x3 s0 : Int} {a1 a2 : Nat}
    (t : (s0 = 0 ∨ s0 = 1) ∧ (Q (some (zi s0)) (c, I, zRg g))) :
    zRn (zcl d) 96 B Q 36 [some (zr 0), some (zr a1), some (zr a2), some (zi x3)] [zi s0] (c, I, zRg g) :=
  zgo [5, 10, 24, 36] 0 (And.intro t.1 t.2)
theorem g_x11_toldByAll_0 {d : Nat} {B : Nat × Nat} {Q : zQ} {c : Nat × Nat × Nat} {I : Nat → Nat → Int} {g : Nat} {x2 : Int} {a1 : Nat}
    (t : zRn (zcl d) 97 B Q 5 [some (zr 0), some (zr a1), some (zi x2), some (zi x2), some (zi 0)] [] (c, I, zRg g)) :
    zRn (zcl d) 97 B Q 0 [some (zr 0), some (zr a1), some (zi x2), none, none] [] (c, I, zRg g) :=
  zgo [5, 27] 4 (t)
theorem g_x11_toldByAll_5 {d : Nat} {B : Nat × Nat} {Q : zQ} {c : Nat × Nat × Nat} {I : Nat → Nat → Int} {g : Nat} {x2 x3 x4 : Int} {a1 y1 y2 : Nat}
    (t : ((zSh a1).1 = 0) ∧ ((I a1 2 ≤ x4 → (Q (some (zi x3)) (c, I, zRg g))) ∧ (¬ (I a1 2 ≤ x4) → (((zSh a1).1 = 0) ∧ ((zRg g a1 0 = some y1) ∧ ((102 ≤ (zSh y1).1 ∧ (zSh y1).1 ≤ 105) ∧ ((0 ≤ x4 ∧ x4 < ((zSh y1).2 : Nat)) ∧ ((zRg g y1 x4.toNat = some y2) ∧ (zcl d 94 0 0 [zr 0, zr a1, zr y2, zi x3] (c, I, zRg g) (fun v h1 => zRn (zcl d) 97 B Q 27 [some (zr 0), some (zr a1), some (zi x2), some (zi x3), some (zi x4)] (zva v []) h1)))))))))) :
    zRn (zcl d) 97 B Q 5 [some (zr 0), some (zr a1), some (zi x2), some (zi x3), some (zi x4)] [] (c, I, zRg g) :=
  zgo [5, 27] 11 (And.intro t.1 (And.intro (fun u225 => (t.2.1 u225)) (fun u225 => And.intro (t.2.2 u225).1 (Exists.intro (some y1) (And.intro (t.2.2 u225).2.1 (And.intro (t.2.2 u225).2.2.1 (And.intro (t.2.2 u225).2.2.2.1 (Exists.intro (some y2) (And.intro (t.2.2 u225).2.2.2.2.1 (Exists.intro 94 (And.intro rfl (And.intro (Nat.le_of_ble_eq_true rfl) (Exists.intro 0 (Exists.intro 0 (And.intro (Or.inl rfl) (And.intro (Or.inl rfl) ((t.2.2 u225).2.2.2.2.2)))))))))))))))))
theorem g_x11_toldByAll_27 {d : Nat} {B : Nat × Nat} {Q : zQ} {c : Nat × Nat × Nat} {I : Nat → Nat → Int} {g : Nat} {x2 x3 x4 s0 : Int} {a1 : Nat}
    (t : zRn (zcl d) 97 B Q 5 [some (zr 0), some (zr a1), some (zi x2), some (zi s0), some (zi (zwr (x4 + 1)))] [] (c, I, zRg g)) :
    zRn (zcl d) 97 B Q 27 [some (zr 0), some (zr a1), some (zi x2), some (zi x3), some (zi x4)] [zi s0] (c, I, zRg g) :=
  zgo [5, 27] 3 (t)
theorem g_x11_toldByRow_0 {d : Nat} {B : Nat × Nat} {Q : zQ} {c : Nat × Nat × Nat} {I : Nat → Nat → Int} {g : Nat} {x2 : Int} {a1 : Nat}
    (t : zRn (zcl d) 98 B Q 5 [some (zr 0), some (zr a1), some (zi x2), some (zi x2), some (zi 0), none] [] (c, I, zRg g)) :
    zRn (zcl d) 98 B Q 0 [some (zr 0), some (zr a1), some (zi x2), none, none, none] [] (c, I, zRg g) :=
  zgo [5, 32, 54] 4 (t)
theorem g_x11_toldByRow_5 {d : Nat} {B : Nat × Nat} {Q : zQ} {c : Nat × Nat × Nat} {I : Nat → Nat → Int} {g : Nat} {x2 x3 x4 : Int} {a1 y1 : Nat} {o5 : Option zV}
    (t : ((zSh a1).1 = 8) ∧ ((I a1 2 ≤ x4 → (Q (some (zi x3)) (c, I, zRg g))) ∧ (¬ (I a1 2 ≤ x4) → (((zSh a1).1 = 8) ∧ ((zRg g a1 0 = some y1) ∧ (((zSh y1).1 = 100) ∧ ((0 ≤ x4 ∧ x4 < ((zSh y1).2 : Nat)) ∧ (zcl d 1 0 0 [zr 2, zi (I y1 x4.toNat)] (c, I, zRg g) (fun v h1 => zRn (zcl d) 98 B Q 32 [some (zr 0), some (zr a1), some (zi x2), some (zi x3), some (zi x4), some (zi (I y1 x4.toNat))] (zva v []) h1))))))))) :
    zRn (zcl d) 98 B Q 5 [some (zr 0), some (zr a1), some (zi x2), some (zi x3), some (zi x4), o5] [] (c, I, zRg g) :=
  zgo [5, 32, 54] 12 (And.intro t.1 (And.intro (fun u226 => (t.2.1 u226)) (fun u226 => And.intro (t.2.2 u226).1 (Exists.intro (some y1) (And.intro (t.2.2 u226).2.1 (And.intro (t.2.2 u226).2.2.1 (And.intro (t.2.2 u226).2.2.2.1 (And.intro rfl (Exists.intro (some 2) (And.intro rfl (Exists.intro 1 (And.intro rfl (And.intro (Nat.le_of_ble_eq_true rfl) (Exists.intro 0 (Exists.intro 0 (And.intro (Or.inl rfl) (And.intro (Or.inl rfl) ((t.2.2 u226).2.2.2.2))))))))))))))))))
theorem g_x11_toldByRow_32 {d : Nat} {B : Nat × Nat} {Q : zQ} {c : Nat × Nat × Nat} {I : Nat → Nat → Int} {g : Nat} {x2 x3 x4 x5 s0 : Int} {a1 y1 : Nat}
    (t : (s0 = 0 → (zRn (zcl d) 98 B Q 5 [some (zr 0), some (zr a1), some (zi x2), some (zi x3), some (zi (zwr (x4 + 1))), some (zi x5)] [] (c, I, zRg g))) ∧ (¬ (s0 = 0) → ((0 ≤ x5 ∧ x5 < 5) ∧ ((zRg g 3 x5.toNat = some y1) ∧ (zcl d 94 0 0 [zr 0, zr 2, zr y1, zi x3] (c, I, zRg g) (fun v h1 => zRn (zcl d) 98 B Q 54 [some (zr 0), some (zr a1), some (zi x2), some (zi x3), some (zi x4), some (zi x5)] (zva v []) h1)))))) :
    zRn (zcl d) 98 B Q 32 [some (zr 0), some (zr a1), some (zi x2), some (zi x3), some (zi x4), some (zi x5)] [zi s0] (c, I, zRg g) :=
  zgo [5, 32, 54] 10 (And.intro (fun u227 => (t.1 u227)) (fun u227 => And.intro rfl (Exists.intro (some 2) (And.intro rfl (And.intro rfl (Exists.intro (some 2) (And.intro rfl (And.intro rfl (Exists.intro (some 3) (And.intro rfl (And.intro (by decide) (And.intro (t.2 u227).1 (Exists.intro (some y1) (And.intro (t.2 u227).2.1 (Exists.intro 94 (And.intro rfl (And.intro (Nat.le_of_ble_eq_true rfl) (Exists.intro 0 (Exists.intro 0 (And.intro (Or.inl rfl) (And.intro (Or.inl rfl) ((t.2 u227).2.2))))))))))))))))))))))
theorem g_x11_toldByRow_54 {d : Nat} {B : Nat × Nat} {Q : zQ} {c : Nat × Nat × Nat} {I : Nat → Nat → Int} {g : Nat} {x2 x3 x4 x5 s0 : Int} {a1 : Nat}
    (t : zRn (zcl d) 98 B Q 5 [some (zr 0), some (zr a1), some (zi x2), some (zi s0), some (zi (zwr (x4 + 1))), some (zi x5)] [] (c, I, zRg g)) :
    zRn (zcl d) 98 B Q 54 [some (zr 0), some (zr a1), some (zi x2), some (zi x3), some (zi x4), some (zi x5)] [zi s0] (c, I, zRg g) :=
  zgo [5, 32, 54] 3 (t)
theorem g_x11_passDay_0 {d : Nat} {B : Nat × Nat} {Q : zQ} {c : Nat × Nat × Nat} {I : Nat → Nat → Int} {g : Nat} {a1 : Nat}
    (t : ((zSh a1).1 = 0) ∧ ((I a1 3 ≤ 0 → (((zSh a1).1 = 0) ∧ (((zSh a1).1 = 0) ∧ (Q (some (zi (-1))) (c, (z2 I a1 4 (zwr ((I a1 4) + 1))), zRg g))))) ∧ (¬ (I a1 3 ≤ 0) → ((zsel ((zSh a1).1 : Nat) [(0, 2)] = some 2) ∧ (zcl d 2 0 0 [zr a1] (c, I, zRg g) (fun v h1 => zRn (zcl d) 99 B Q 13 [some (zr 0), some (zr a1), some (zi (-1)), none] (zva v []) h1)))))) :
    zRn (zcl d) 99 B Q 0 [some (zr 0), some (zr a1), none, none] [] (c, I, zRg g) :=
  zgo [13, 16, 36] 12 (And.intro t.1 (And.intro (fun u228 => And.intro (t.2.1 u228).1 (And.intro (t.2.1 u228).2.1 ((t.2.1 u228).2.2))) (fun u228 => Exists.intro 2 (And.intro (t.2.2 u228).1 (And.intro (Nat.le_of_ble_eq_true rfl) (Exists.intro 0 (Exists.intro 0 (And.intro (Or.inl rfl) (And.intro (Or.inl rfl) ((t.2.2 u228).2))))))))))
theorem g_x11_passDay_13 {d : Nat} {B : Nat × Nat} {Q : zQ} {c : Nat × Nat × Nat} {I : Nat → Nat → Int} {g : Nat} {x2 s0 : Int} {a1 : Nat} {o3 : Option zV}
    (t : zRn (zcl d) 99 B Q 16 [some (zr 0), some (zr a1), some (zi s0), some (zi 0)] [] (c, I, zRg g)) :
    zRn (zcl d) 99 B Q 13 [some (zr 0), some (zr a1), some (zi x2), o3] [zi s0] (c, I, zRg g) :=
  zgo [13, 16, 36] 3 (t)
theorem g_x11_passDay_16 {d : Nat} {B : Nat × Nat} {Q : zQ} {c : Nat × Nat × Nat} {I : Nat → Nat → Int} {g : Nat} {x2 x3 : Int} {a1 y1 y2 : Nat}
    (t : ((zSh a1).1 = 0) ∧ ((I a1 2 ≤ x3 → (((zSh a1).1 = 0) ∧ ((999 ≤ I a1 5 → (((zSh a1).1 = 0) ∧ (((zSh a1).1 = 0) ∧ (Q (some (zi x2)) (c, (z2 I a1 4 (zwr ((I a1 4) + 1))), zRg g))))) ∧ (¬ (999 ≤ I a1 5) → (((zSh a1).1 = 0) ∧ (((zSh a1).1 = 0) ∧ (((zSh a1).1 = 0) ∧ (((zSh a1).1 = 0) ∧ (Q (some (zi x2)) (c, (z2 (z2 I a1 5 (zwr ((I a1 5) + 1))) a1 4 (zwr (((z2 I a1 5 (zwr ((I a1 5) + 1))) a1 4) + 1))), zRg g)))))))))) ∧ (¬ (I a1 2 ≤ x3) → (((zSh a1).1 = 0) ∧ ((zRg g a1 0 = some y1) ∧ ((102 ≤ (zSh y1).1 ∧ (zSh y1).1 ≤ 105) ∧ ((0 ≤ x3 ∧ x3 < ((zSh y1).2 : Nat)) ∧ ((zRg g y1 x3.toNat = some y2) ∧ (zcl d 100 0 0 [zr 0, zr a1, zr y2, zi x2] (c, I, zRg g) (fun v h1 => zRn (zcl d) 99 B Q 36 [some (zr 0), some (zr a1), some (zi x2), some (zi x3)] (zva v []) h1)))))))))) :
    zRn (zcl d) 99 B Q 16 [some (zr 0), some (zr a1), some (zi x2), some (zi x3)] [] (c, I, zRg g) :=
  zgo [13, 16, 36] 21 (And.intro t.1 (And.intro (fun u229 => And.intro (t.2.1 u229).1 (And.intro (fun u230 => And.intro ((t.2.1 u229).2.1 u230).1 (And.intro ((t.2.1 u229).2.1 u230).2.1 (((t.2.1 u229).2.1 u230).2.2))) (fun u230 => And.intro ((t.2.1 u229).2.2 u230).1 (And.intro ((t.2.1 u229).2.2 u230).2.1 (And.intro ((t.2.1 u229).2.2 u230).2.2.1 (And.intro ((t.2.1 u229).2.2 u230).2.2.2.1 (((t.2.1 u229).2.2 u230).2.2.2.2))))))) (fun u229 => And.intro (t.2.2 u229).1 (Exists.intro (some y1) (And.intro (t.2.2 u229).2.1 (And.intro (t.2.2 u229).2.2.1 (And.intro (t.2.2 u229).2.2.2.1 (Exists.intro (some y2) (And.intro (t.2.2 u229).2.2.2.2.1 (Exists.intro 100 (And.intro rfl (And.intro (Nat.le_of_ble_eq_true rfl) (Exists.intro 0 (Exists.intro 0 (And.intro (Or.inl rfl) (And.intro (Or.inl rfl) ((t.2.2 u229).2.2.2.2.2)))))))))))))))))
theorem g_x11_passDay_36 {d : Nat} {B : Nat × Nat} {Q : zQ} {c : Nat × Nat × Nat} {I : Nat → Nat → Int} {g : Nat} {x2 x3 s0 : Int} {a1 : Nat}
    (t : zRn (zcl d) 99 B Q 16 [some (zr 0), some (zr a1), some (zi s0), some (zi (zwr (x3 + 1)))] [] (c, I, zRg g)) :
    zRn (zcl d) 99 B Q 36 [some (zr 0), some (zr a1), some (zi x2), some (zi x3)] [zi s0] (c, I, zRg g) :=
  zgo [13, 16, 36] 3 (t)
theorem g_x11_tellTruly_0 {d : Nat} {B : Nat × Nat} {Q : zQ} {c : Nat × Nat × Nat} {I : Nat → Nat → Int} {g : Nat} {x3 : Int} {a1 a2 : Nat}
    (t : zcl d 94 0 0 [zr 0, zr a1, zr a2, zi x3] (c, I, zRg g) (fun v h1 => zRn (zcl d) 100 B Q 7 [some (zr 0), some (zr a1), some (zr a2), some (zi x3), none, none, none] (zva v []) h1)) :
    zRn (zcl d) 100 B Q 0 [some (zr 0), some (zr a1), some (zr a2), some (zi x3), none, none, none] [] (c, I, zRg g) :=
  zgo [7, 16, 25, 49] 4 (Exists.intro 94 (And.intro rfl (And.intro (Nat.le_of_ble_eq_true rfl) (Exists.intro 0 (Exists.intro 0 (And.intro (Or.inl rfl) (And.intro (Or.inl rfl) t)))))))
theorem g_x11_tellTruly_7 {d : Nat} {B : Nat × Nat} {Q : zQ} {c : Nat × Nat × Nat} {I : Nat → Nat → Int} {g : Nat} {x3 s0 : Int} {a1 a2 : Nat} {o4 o5 o6 : Option zV}
    (t : zcl d 95 0 0 [zr 0, zr a1, zr a2, zi x3] (c, I, zRg g) (fun v h1 => zRn (zcl d) 100 B Q 16 [some (zr 0), some (zr a1), some (zr a2), some (zi x3), some (zi s0), o5, o6] (zva v []) h1)) :
    zRn (zcl d) 100 B Q 7 [some (zr 0), some (zr a1), some (zr a2), some (zi x3), o4, o5, o6] [zi s0] (c, I, zRg g) :=
  zgo [7, 16, 25, 49] 5 (Exists.intro 95 (And.intro rfl (And.intro (Nat.le_of_ble_eq_true rfl) (Exists.intro 0 (Exists.intro 0 (And.intro (Or.inl rfl) (And.intro (Or.inl rfl) t)))))))
theorem g_x11_tellTruly_16 {d : Nat} {B : Nat × Nat} {Q : zQ} {c : Nat × Nat × Nat} {I : Nat → Nat → Int} {g : Nat} {x3 x4 s0 : Int} {a1 a2 : Nat} {o5 o6 : Option zV}
    (t : zcl d 96 0 0 [zr 0, zr a1, zr a2, zi x3] (c, I, zRg g) (fun v h1 => zRn (zcl d) 100 B Q 25 [some (zr 0), some (zr a1), some (zr a2), some (zi x3), some (zi x4), some (zi s0), o6] (zva v []) h1)) :
    zRn (zcl d) 100 B Q 16 [some (zr 0), some (zr a1), some (zr a2), some (zi x3), some (zi x4), o5, o6] [zi s0] (c, I, zRg g) :=
  zgo [7, 16, 25, 49] 5 (Exists.intro 96 (And.intro rfl (And.intro (Nat.le_of_ble_eq_true rfl) (Exists.intro 0 (Exists.intro 0 (And.intro (Or.inl rfl) (And.intro (Or.inl rfl) t)))))))
theorem g_x11_tellTruly_25 {d : Nat} {B : Nat × Nat} {Q : zQ} {c : Nat × Nat × Nat} {I : Nat → Nat → Int} {g : Nat} {x3 x4 x5 s0 : Int} {a1 a2 : Nat} {o6 : Option zV}
    (t : (s0 = 0 → (((zSh a2).1 = 5) ∧ (((zSh a2).1 = 5) ∧ (((zSh a2).1 = 5) ∧ (((zSh a2).1 = 5) ∧ (Q (some (zi x4)) (c, (z2 (z2 I a2 3 (zmx 0 (zwr ((I a2 3) - x5)))) a2 4 (zmn 99 (zwr (((z2 I a2 3 (zmx 0 (zwr ((I a2 3) - x5)))) a2 4) + 1)))), zRg g))))))) ∧ (¬ (s0 = 0) → (((zSh a2).1 = 5) ∧ (((zSh a2).1 = 5) ∧ (zcl d 102 0 0 [zi (zand x3 (zxor (I a2 2) (-1)))] (c, I, zRg g) (fun v h1 => zRn (zcl d) 100 B Q 49 [some (zr 0), some (zr a1), some (zr a2), some (zi x3), some (zi x4), some (zi x5), some (zr a2)] (zva v [zi (I a2 2), zr a2]) h1)))))) :
    zRn (zcl d) 100 B Q 25 [some (zr 0), some (zr a1), some (zr a2), some (zi x3), some (zi x4), some (zi x5), o6] [zi s0] (c, I, zRg g) :=
  zgo [7, 16, 25, 49] 18 (And.intro (fun u231 => And.intro (t.1 u231).1 (And.intro (Nat.le_of_ble_eq_true rfl) (And.intro (t.1 u231).2.1 (And.intro (t.1 u231).2.2.1 (And.intro (Nat.le_of_ble_eq_true rfl) (And.intro (t.1 u231).2.2.2.1 ((t.1 u231).2.2.2.2))))))) (fun u231 => And.intro (t.2 u231).1 (And.intro (t.2 u231).2.1 (And.intro rfl (And.intro (Nat.le_of_ble_eq_true rfl) (Exists.intro 0 (Exists.intro 0 (And.intro (Or.inl rfl) (And.intro (Or.inl rfl) ((t.2 u231).2.2))))))))))
theorem g_x11_tellTruly_49 {d : Nat} {B : Nat × Nat} {Q : zQ} {c : Nat × Nat × Nat} {I : Nat → Nat → Int} {g : Nat} {x3 x4 x5 s0 s1 : Int} {a1 a2 a6 b2 : Nat}
    (t : ((zSh b2).1 = 5) ∧ (((zSh a2).1 = 5) ∧ (((zSh a2).1 = 5) ∧ (((zSh a2).1 = 5) ∧ (((zSh a2).1 = 5) ∧ (Q (some (zi x4)) (c, (z2 (z2 (z2 I b2 2 (zor s1 s0)) a2 3 (zmx 0 (zwr (((z2 I b2 2 (zor s1 s0)) a2 3) - x5)))) a2 4 (zmn 99 (zwr (((z2 (z2 I b2 2 (zor s1 s0)) a2 3 (zmx 0 (zwr (((z2 I b2 2 (zor s1 s0)) a2 3) - x5)))) a2 4) + 1)))), zRg g))))))) :
    zRn (zcl d) 100 B Q 49 [some (zr 0), some (zr a1), some (zr a2), some (zi x3), some (zi x4), some (zi x5), some (zr a6)] [zi s0, zi s1, zr b2] (c, I, zRg g) :=
  zgo [7, 16, 25, 49] 21 (And.intro t.1 (And.intro t.2.1 (And.intro (Nat.le_of_ble_eq_true rfl) (And.intro t.2.2.1 (And.intro t.2.2.2.1 (And.intro (Nat.le_of_ble_eq_true rfl) (And.intro t.2.2.2.2.1 t.2.2.2.2.2)))))))
theorem g_x11_off_0 {d : Nat} {B : Nat × Nat} {Q : zQ} {c : Nat × Nat × Nat} {I : Nat → Nat → Int} {g : Nat} {x0 x1 : Int}
    (t : zcl d 202 0 0 [zi (zxor x0 x1)] (c, I, zRg g) (fun v h1 => zRn (zcl d) 101 B Q 6 [some (zi x0), some (zi x1)] (zva v []) h1)) :
    zRn (zcl d) 101 B Q 0 [some (zi x0), some (zi x1)] [] (c, I, zRg g) :=
  zgo [6] 3 (And.intro rfl (And.intro (Nat.le_of_ble_eq_true rfl) (Exists.intro 0 (Exists.intro 0 (And.intro (Or.inl rfl) (And.intro (Or.inl rfl) t))))))
theorem g_x11_off_6 {d : Nat} {B : Nat × Nat} {Q : zQ} {c : Nat × Nat × Nat} {I : Nat → Nat → Int} {g : Nat} {x0 x1 s0 : Int}
    (t : Q (some (zi s0)) (c, I, zRg g)) :
    zRn (zcl d) 101 B Q 6 [some (zi x0), some (zi x1)] [zi s0] (c, I, zRg g) :=
  zgo [6] 0 (t)
theorem g_x11_lowest_0 {d : Nat} {B : Nat × Nat} {Q : zQ} {c : Nat × Nat × Nat} {I : Nat → Nat → Int} {g : Nat} {x0 : Int}
    (t : Q (some (zi (zand x0 (zwr (-x0))))) (c, I, zRg g)) :
    zRn (zcl d) 102 B Q 0 [some (zi x0)] [] (c, I, zRg g) :=
  zgo [] 4 (t)
theorem g_x11_within_0 {d : Nat} {B : Nat × Nat} {Q : zQ} {c : Nat × Nat × Nat} {I : Nat → Nat → Int} {g : Nat} {x0 x1 : Int}
    (t : Q (some (zi (zmx 0 (zmn x1 x0)))) (c, I, zRg g)) :
    zRn (zcl d) 103 B Q 0 [some (zi x0), some (zi x1)] [] (c, I, zRg g) :=
  zgo [] 5 (And.intro (Nat.le_of_ble_eq_true rfl) (And.intro (Nat.le_of_ble_eq_true rfl) t))
theorem g_x11_fro_0 {d : Nat} {B : Nat × Nat} {Q : zQ} {c : Nat × Nat × Nat} {I : Nat → Nat → Int} {g : Nat} {x1 x2 : Int}
    (t : zcl d 83 0 0 [zi x1] (c, I, zRg g) (fun v h1 => zRn (zcl d) 104 B Q 4 [some (zr 0), some (zi x1), some (zi x2), none, none] (zva v []) h1)) :
    zRn (zcl d) 104 B Q 0 [some (zr 0), some (zi x1), some (zi x2), none, none] [] (c, I, zRg g) :=
  zgo [4, 28, 55, 59] 1 (And.intro rfl (And.intro (Nat.le_of_ble_eq_true rfl) (Exists.intro 0 (Exists.intro 0 (And.intro (Or.inl rfl) (And.intro (Or.inl rfl) t))))))
theorem g_x11_fro_4 {d : Nat} {B : Nat × Nat} {Q : zQ} {c : Nat × Nat × Nat} {I : Nat → Nat → Int} {g : Nat} {x1 x2 s0 : Int} {o3 o4 : Option zV}
    (t : (s0 = 0 → (Q (some (zi (-2))) (c, I, zRg g))) ∧ (¬ (s0 = 0) → ((x2 < 0 → (Q (some (zi (-2))) (c, I, zRg g))) ∧ (¬ (x2 < 0) → ((x2 ≤ 1 → (zRn (zcl d) 104 B Q 28 [some (zr 0), some (zi x1), some (zi x2), some (zi 1), o4] [] (c, (z2 I 29 0 x1), zRg g))) ∧ (¬ (x2 ≤ 1) → (Q (some (zi (-2))) (c, I, zRg g)))))))) :
    zRn (zcl d) 104 B Q 4 [some (zr 0), some (zi x1), some (zi x2), o3, o4] [zi s0] (c, I, zRg g) :=
  zgo [4, 28, 55, 59] 13 (And.intro (fun u232 => (t.1 u232)) (fun u232 => And.intro (fun u233 => ((t.2 u232).1 u233)) (fun u233 => And.intro (fun u234 => And.intro rfl (Exists.intro (some 29) (And.intro rfl (And.intro rfl (And.intro (by decide) (((t.2 u232).2 u233).1 u234)))))) (fun u234 => (((t.2 u232).2 u233).2 u234)))))
theorem g_x11_fro_28 {d : Nat} {B : Nat × Nat} {Q : zQ} {c : Nat × Nat × Nat} {I : Nat → Nat → Int} {g : Nat} {x1 x2 x3 : Int} {o4 : Option zV}
    (t : (60 < x3 → (Q (some (zi (-1))) (c, I, zRg g))) ∧ (¬ (60 < x3) → ((0 ≤ zwr (x3 - 1) ∧ zwr (x3 - 1) < 61) ∧ (zcl d 97 0 0 [zr 0, zr 2, zi (I 29 ((zwr (x3 - 1)).toNat))] (c, I, zRg g) (fun v h1 => zRn (zcl d) 104 B Q 55 [some (zr 0), some (zi x1), some (zi x2), some (zi x3), o4] (zva v [zi x3, zr 29]) h1))))) :
    zRn (zcl d) 104 B Q 28 [some (zr 0), some (zi x1), some (zi x2), some (zi x3), o4] [] (c, I, zRg g) :=
  zgo [4, 28, 55, 59] 15 (And.intro (fun u235 => (t.1 u235)) (fun u235 => And.intro rfl (Exists.intro (some 29) (And.intro rfl (And.intro rfl (Exists.intro (some 2) (And.intro rfl (And.intro rfl (Exists.intro (some 29) (And.intro rfl (And.intro rfl (And.intro (t.2 u235).1 (Exists.intro 97 (And.intro rfl (And.intro (Nat.le_of_ble_eq_true rfl) (Exists.intro 0 (Exists.intro 0 (And.intro (Or.inl rfl) (And.intro (Or.inl rfl) ((t.2 u235).2))))))))))))))))))))
theorem g_x11_fro_55 {d : Nat} {B : Nat × Nat} {Q : zQ} {c : Nat × Nat × Nat} {I : Nat → Nat → Int} {g : Nat} {x1 x2 x3 s0 s1 : Int} {o4 : Option zV}
    (t : (0 ≤ s1 ∧ s1 < 61) ∧ (zRn (zcl d) 104 B Q 59 [some (zr 0), some (zi x1), some (zi x2), some (zi x3), some (zi 0)] [] (c, (z2 I 29 s1.toNat s0), zRg g))) :
    zRn (zcl d) 104 B Q 55 [some (zr 0), some (zi x1), some (zi x2), some (zi x3), o4] [zi s0, zi s1, zr 29] (c, I, zRg g) :=
  zgo [4, 28, 55, 59] 3 (And.intro rfl (And.intro t.1 t.2))
theorem g_x11_fro_59 {d : Nat} {B : Nat × Nat} {Q : zQ} {c : Nat × Nat × Nat} {I : Nat → Nat → Int} {g : Nat} {x1 x2 x3 x4 : Int}
    (t : (x3 ≤ x4 → (zRn (zcl d) 104 B Q 28 [some (zr 0), some (zi x1), some (zi x2), some (zi (zwr (x3 + 1))), some (zi x4)] [] (c, I, zRg g))) ∧ (¬ (x3 ≤ x4) → ((0 ≤ x4 ∧ x4 < 61) ∧ ((0 ≤ x3 ∧ x3 < 61) ∧ ((I 29 x4.toNat ≠ I 29 x3.toNat → (zRn (zcl d) 104 B Q 59 [some (zr 0), some (zi x1), some (zi x2), some (zi x3), some (zi (zwr (x4 + 1)))] [] (c, I, zRg g))) ∧ (¬ (I 29 x4.toNat ≠ I 29 x3.toNat) → ((x2 ≠ 0 → ((0 ≤ x3 ∧ x3 < 61) ∧ (Q (some (zi (I 29 x3.toNat))) (c, I, zRg g)))) ∧ (¬ (x2 ≠ 0) → (Q (some (zi x3)) (c, I, zRg g)))))))))) :
    zRn (zcl d) 104 B Q 59 [some (zr 0), some (zi x1), some (zi x2), some (zi x3), some (zi x4)] [] (c, I, zRg g) :=
  zgo [4, 28, 55, 59] 18 (And.intro (fun u236 => (t.1 u236)) (fun u236 => And.intro rfl (Exists.intro (some 29) (And.intro rfl (And.intro rfl (And.intro (t.2 u236).1 (And.intro rfl (Exists.intro (some 29) (And.intro rfl (And.intro rfl (And.intro (t.2 u236).2.1 (And.intro (fun u237 => ((t.2 u236).2.2.1 u237)) (fun u237 => And.intro (fun u238 => And.intro rfl (Exists.intro (some 29) (And.intro rfl (And.intro rfl (And.intro (((t.2 u236).2.2.2 u237).1 u238).1 ((((t.2 u236).2.2.2 u237).1 u238).2)))))) (fun u238 => (((t.2 u236).2.2.2 u237).2 u238)))))))))))))))
theorem g_x11_learn_0 {d : Nat} {B : Nat × Nat} {Q : zQ} {c : Nat × Nat × Nat} {I : Nat → Nat → Int} {g : Nat} {x1 x2 : Int}
    (t : zcl d 83 0 0 [zi x1] (c, I, zRg g) (fun v h1 => zRn (zcl d) 107 B Q 4 [some (zr 0), some (zi x1), some (zi x2), none, none, none, none] (zva v []) h1)) :
    zRn (zcl d) 107 B Q 0 [some (zr 0), some (zi x1), some (zi x2), none, none, none, none] [] (c, I, zRg g) :=
  zgo [4, 36, 39, 52, 68] 1 (And.intro rfl (And.intro (Nat.le_of_ble_eq_true rfl) (Exists.intro 0 (Exists.intro 0 (And.intro (Or.inl rfl) (And.intro (Or.inl rfl) t))))))
theorem g_x11_learn_4 {d : Nat} {B : Nat × Nat} {Q : zQ} {c : Nat × Nat × Nat} {I : Nat → Nat → Int} {g : Nat} {x1 x2 s0 : Int} {o3 o4 o5 o6 : Option zV}
    (t : (s0 = 0 → (Q (some (zi (-2))) (c, I, zRg g))) ∧ (¬ (s0 = 0) → ((x2 < 0 → (Q (some (zi (-2))) (c, I, zRg g))) ∧ (¬ (x2 < 0) → ((x2 ≤ 1 → (zcl d 3 0 0 [zr 18, zr 2] (c, I, zRg g) (fun v h1 => zRn (zcl d) 107 B Q 36 [some (zr 0), some (zi x1), some (zi x2), some (zi (-1)), some (zi 11), o5, o6] (zva v []) h1))) ∧ (¬ (x2 ≤ 1) → (Q (some (zi (-2))) (c, I, zRg g)))))))) :
    zRn (zcl d) 107 B Q 4 [some (zr 0), some (zi x1), some (zi x2), o3, o4, o5, o6] [zi s0] (c, I, zRg g) :=
  zgo [4, 36, 39, 52, 68] 14 (And.intro (fun u239 => (t.1 u239)) (fun u239 => And.intro (fun u240 => ((t.2 u239).1 u240)) (fun u240 => And.intro (fun u241 => And.intro rfl (Exists.intro (some 18) (And.intro rfl (And.intro rfl (Exists.intro (some 2) (And.intro rfl (Exists.intro 3 (And.intro rfl (And.intro (Nat.le_of_ble_eq_true rfl) (Exists.intro 0 (Exists.intro 0 (And.intro (Or.inl rfl) (And.intro (Or.inl rfl) (((t.2 u239).2 u240).1 u241)))))))))))))) (fun u241 => (((t.2 u239).2 u240).2 u241)))))
theorem g_x11_learn_36 {d : Nat} {B : Nat × Nat} {Q : zQ} {c : Nat × Nat × Nat} {I : Nat → Nat → Int} {g : Nat} {x1 x2 x3 x4 : Int} {o5 o6 : Option zV}
    (t : zRn (zcl d) 107 B Q 39 [some (zr 0), some (zi x1), some (zi x2), some (zi x3), some (zi x4), some (zi 0), o6] [] (c, I, zRg g)) :
    zRn (zcl d) 107 B Q 36 [some (zr 0), some (zi x1), some (zi x2), some (zi x3), some (zi x4), o5, o6] [] (c, I, zRg g) :=
  zgo [4, 36, 39, 52, 68] 2 (t)
theorem g_x11_learn_39 {d : Nat} {B : Nat × Nat} {Q : zQ} {c : Nat × Nat × Nat} {I : Nat → Nat → Int} {g : Nat} {x1 x2 x3 x4 x5 : Int} {o6 : Option zV}
    (t : (1024 ≤ x5 → ((x3 ≠ (-1) → ((x2 ≠ 0 → (Q (some (zi x4)) (c, I, zRg g))) ∧ (¬ (x2 ≠ 0) → (Q (some (zi x3)) (c, I, zRg g))))) ∧ (¬ (x3 ≠ (-1)) → (Q (some (zi (-1))) (c, I, zRg g))))) ∧ (¬ (1024 ≤ x5) → (zcl d 202 0 0 [zi x5] (c, I, zRg g) (fun v h1 => zRn (zcl d) 107 B Q 52 [some (zr 0), some (zi x1), some (zi x2), some (zi x3), some (zi x4), some (zi x5), o6] (zva v []) h1)))) :
    zRn (zcl d) 107 B Q 39 [some (zr 0), some (zi x1), some (zi x2), some (zi x3), some (zi x4), some (zi x5), o6] [] (c, I, zRg g) :=
  zgo [4, 36, 39, 52, 68] 10 (And.intro (fun u242 => And.intro (fun u243 => And.intro (fun u244 => (((t.1 u242).1 u243).1 u244)) (fun u244 => (((t.1 u242).1 u243).2 u244))) (fun u243 => ((t.1 u242).2 u243))) (fun u242 => And.intro rfl (And.intro (Nat.le_of_ble_eq_true rfl) (Exists.intro 0 (Exists.intro 0 (And.intro (Or.inl rfl) (And.intro (Or.inl rfl) (t.2 u242))))))))
theorem g_x11_learn_52 {d : Nat} {B : Nat × Nat} {Q : zQ} {c : Nat × Nat × Nat} {I : Nat → Nat → Int} {g : Nat} {x1 x2 x3 x4 x5 s0 : Int} {o6 : Option zV}
    (t : (x4 ≤ s0 → (zRn (zcl d) 107 B Q 39 [some (zr 0), some (zi x1), some (zi x2), some (zi x3), some (zi x4), some (zi (zwr (x5 + 1))), some (zi s0)] [] (c, I, zRg g))) ∧ (¬ (x4 ≤ s0) → (zcl d 108 0 0 [zr 0, zi x5, zi x1] (c, I, zRg g) (fun v h1 => zRn (zcl d) 107 B Q 68 [some (zr 0), some (zi x1), some (zi x2), some (zi x3), some (zi x4), some (zi x5), some (zi s0)] (zva v []) h1)))) :
    zRn (zcl d) 107 B Q 52 [some (zr 0), some (zi x1), some (zi x2), some (zi x3), some (zi x4), some (zi x5), o6] [zi s0] (c, I, zRg g) :=
  zgo [4, 36, 39, 52, 68] 7 (And.intro (fun u245 => (t.1 u245)) (fun u245 => Exists.intro 108 (And.intro rfl (And.intro (Nat.le_of_ble_eq_true rfl) (Exists.intro 0 (Exists.intro 0 (And.intro (Or.inl rfl) (And.intro (Or.inl rfl) (t.2 u245)))))))))
theorem g_x11_learn_68 {d : Nat} {B : Nat × Nat} {Q : zQ} {c : Nat × Nat × Nat} {I : Nat → Nat → Int} {g : Nat} {x1 x2 x3 x4 x5 x6 s0 : Int}
    (t : (s0 ≠ x1 → (zRn (zcl d) 107 B Q 39 [some (zr 0), some (zi x1), some (zi x2), some (zi x3), some (zi x4), some (zi (zwr (x5 + 1))), some (zi x6)] [] (c, I, zRg g))) ∧ (¬ (s0 ≠ x1) → (zRn (zcl d) 107 B Q 39 [some (zr 0), some (zi x1), some (zi x2), some (zi x5), some (zi x6), some (zi (zwr (x5 + 1))), some (zi x6)] [] (c, I, zRg g)))) :
    zRn (zcl d) 107 B Q 68 [some (zr 0), some (zi x1), some (zi x2), some (zi x3), some (zi x4), some (zi x5), some (zi x6)] [zi s0] (c, I, zRg g) :=
  zgo [4, 36, 39, 52, 68] 8 (And.intro (fun u246 => (t.1 u246)) (fun u246 => (t.2 u246)))
theorem g_x11_toldWithMore_0 {d : Nat} {B : Nat × Nat} {Q : zQ} {c : Nat × Nat × Nat} {I : Nat → Nat → Int} {g : Nat} {x1 x2 : Int}
    (t : zRn (zcl d) 108 B Q 2 [some (zr 0), some (zi x1), some (zi x2), some (zi 0)] [] (c, I, zRg g)) :
    zRn (zcl d) 108 B Q 0 [some (zr 0), some (zi x1), some (zi x2), none] [] (c, I, zRg g) :=
  zgo [2, 54] 2 (t)
theorem g_x11_toldWithMore_2 {d : Nat} {B : Nat × Nat} {Q : zQ} {c : Nat × Nat × Nat} {I : Nat → Nat → Int} {g : Nat} {x1 x2 x3 : Int} {y2 y3 : Nat}
    (t : (I 18 2 ≤ x3 → (zcl d 97 0 0 [zr 0, zr 18, zi x2] (c, I, zRg g) (fun v h1 => zRn (zcl d) 108 B Q 54 [some (zr 0), some (zi x1), some (zi x2), some (zi x3)] (zva v []) h1))) ∧ (¬ (I 18 2 ≤ x3) → ((0 ≤ x3 ∧ x3 < 5) ∧ ((zRg g 19 x3.toNat = some y2) ∧ ((0 ≤ x3 ∧ x3 < 5) ∧ ((zRg g 3 x3.toNat = some y3) ∧ (((zSh y3).1 = 5) ∧ (((zSh y2).1 = 5) ∧ (zRn (zcl d) 108 B Q 2 [some (zr 0), some (zi x1), some (zi x2), some (zi (zwr (x3 + 1)))] [] (c, (z2 I y2 2 (zor (I y3 2) x1)), zRg g)))))))))) :
    zRn (zcl d) 108 B Q 2 [some (zr 0), some (zi x1), some (zi x2), some (zi x3)] [] (c, I, zRg g) :=
  zgo [2, 54] 21 (And.intro rfl (Exists.intro (some 18) (And.intro rfl (And.intro rfl (And.intro (fun u247 => And.intro rfl (Exists.intro (some 18) (And.intro rfl (Exists.intro 97 (And.intro rfl (And.intro (Nat.le_of_ble_eq_true rfl) (Exists.intro 0 (Exists.intro 0 (And.intro (Or.inl rfl) (And.intro (Or.inl rfl) (t.1 u247))))))))))) (fun u247 => And.intro rfl (Exists.intro (some 18) (And.intro rfl (And.intro rfl (Exists.intro (some 19) (And.intro rfl (And.intro (by decide) (And.intro (t.2 u247).1 (Exists.intro (some y2) (And.intro (t.2 u247).2.1 (And.intro rfl (Exists.intro (some 2) (And.intro rfl (And.intro rfl (Exists.intro (some 3) (And.intro rfl (And.intro (by decide) (And.intro (t.2 u247).2.2.1 (Exists.intro (some y3) (And.intro (t.2 u247).2.2.2.1 (And.intro (t.2 u247).2.2.2.2.1 (And.intro (t.2 u247).2.2.2.2.2.1 ((t.2 u247).2.2.2.2.2.2))))))))))))))))))))))))))))
theorem g_x11_toldWithMore_54 {d : Nat} {B : Nat × Nat} {Q : zQ} {c : Nat × Nat × Nat} {I : Nat → Nat → Int} {g : Nat} {x1 x2 x3 s0 : Int}
    (t : Q (some (zi s0)) (c, I, zRg g)) :
    zRn (zcl d) 108 B Q 54 [some (zr 0), some (zi x1), some (zi x2), some (zi x3)] [zi s0] (c, I, zRg g) :=
  zgo [2, 54] 0 (t)
theorem g_x11_from_0 {d : Nat} {B : Nat × Nat} {Q : zQ} {c : Nat × Nat × Nat} {I : Nat → Nat → Int} {g : Nat} {x1 x2 : Int}
    (t : zcl d 83 0 0 [zi x1] (c, I, zRg g) (fun v h1 => zRn (zcl d) 109 B Q 4 [some (zr 0), some (zi x1), some (zi x2), none, none, none] (zva v []) h1)) :
    zRn (zcl d) 109 B Q 0 [some (zr 0), some (zi x1), some (zi x2), none, none, none] [] (c, I, zRg g) :=
  zgo [4, 27, 45] 1 (And.intro rfl (And.intro (Nat.le_of_ble_eq_true rfl) (Exists.intro 0 (Exists.intro 0 (And.intro (Or.inl rfl) (And.intro (Or.inl rfl) t))))))
theorem g_x11_from_4 {d : Nat} {B : Nat × Nat} {Q : zQ} {c : Nat × Nat × Nat} {I : Nat → Nat → Int} {g : Nat} {x1 x2 s0 : Int} {o3 o4 o5 : Option zV}
    (t : (s0 = 0 → (Q (some (zi (-2))) (c, I, zRg g))) ∧ (¬ (s0 = 0) → ((x2 < 0 → (Q (some (zi (-2))) (c, I, zRg g))) ∧ (¬ (x2 < 0) → ((x2 ≤ 1 → (zRn (zcl d) 109 B Q 27 [some (zr 0), some (zi x1), some (zi x2), some (zi 0), some (zi (-1)), some (zi 0)] [] (c, I, zRg g))) ∧ (¬ (x2 ≤ 1) → (Q (some (zi (-2))) (c, I, zRg g)))))))) :
    zRn (zcl d) 109 B Q 4 [some (zr 0), some (zi x1), some (zi x2), o3, o4, o5] [zi s0] (c, I, zRg g) :=
  zgo [4, 27, 45] 12 (And.intro (fun u248 => (t.1 u248)) (fun u248 => And.intro (fun u249 => ((t.2 u248).1 u249)) (fun u249 => And.intro (fun u250 => (((t.2 u248).2 u249).1 u250)) (fun u250 => (((t.2 u248).2 u249).2 u250)))))
theorem g_x11_from_27 {d : Nat} {B : Nat × Nat} {Q : zQ} {c : Nat × Nat × Nat} {I : Nat → Nat → Int} {g : Nat} {x1 x2 x3 x4 x5 : Int}
    (t : (1024 ≤ x5 → ((x2 ≠ 0 → (Q (some (zi x4)) (c, I, zRg g))) ∧ (¬ (x2 ≠ 0) → (Q (some (zi x3)) (c, I, zRg g))))) ∧ (¬ (1024 ≤ x5) → (zcl d 97 0 0 [zr 0, zr 2, zi x5] (c, I, zRg g) (fun v h1 => zRn (zcl d) 109 B Q 45 [some (zr 0), some (zi x1), some (zi x2), some (zi x3), some (zi x4), some (zi x5)] (zva v []) h1)))) :
    zRn (zcl d) 109 B Q 27 [some (zr 0), some (zi x1), some (zi x2), some (zi x3), some (zi x4), some (zi x5)] [] (c, I, zRg g) :=
  zgo [4, 27, 45] 7 (And.intro (fun u251 => And.intro (fun u252 => ((t.1 u251).1 u252)) (fun u252 => ((t.1 u251).2 u252))) (fun u251 => And.intro rfl (Exists.intro (some 2) (And.intro rfl (Exists.intro 97 (And.intro rfl (And.intro (Nat.le_of_ble_eq_true rfl) (Exists.intro 0 (Exists.intro 0 (And.intro (Or.inl rfl) (And.intro (Or.inl rfl) (t.2 u251))))))))))))
theorem g_x11_from_45 {d : Nat} {B : Nat × Nat} {Q : zQ} {c : Nat × Nat × Nat} {I : Nat → Nat → Int} {g : Nat} {x1 x2 x3 x4 x5 s0 : Int}
    (t : (s0 = x1 → ((x3 ≠ 0 → (zRn (zcl d) 109 B Q 27 [some (zr 0), some (zi x1), some (zi x2), some (zi (zwr (x3 + 1))), some (zi x4), some (zi (zwr (x5 + 1)))] [] (c, I, zRg g))) ∧ (¬ (x3 ≠ 0) → (zRn (zcl d) 109 B Q 27 [some (zr 0), some (zi x1), some (zi x2), some (zi (zwr (x3 + 1))), some (zi x5), some (zi (zwr (x5 + 1)))] [] (c, I, zRg g))))) ∧ (¬ (s0 = x1) → (zRn (zcl d) 109 B Q 27 [some (zr 0), some (zi x1), some (zi x2), some (zi x3), some (zi x4), some (zi (zwr (x5 + 1)))] [] (c, I, zRg g)))) :
    zRn (zcl d) 109 B Q 45 [some (zr 0), some (zi x1), some (zi x2), some (zi x3), some (zi x4), some (zi x5)] [zi s0] (c, I, zRg g) :=
  zgo [4, 27, 45] 9 (And.intro (fun u253 => And.intro (fun u254 => ((t.1 u253).1 u254)) (fun u254 => ((t.1 u253).2 u254))) (fun u253 => (t.2 u253)))
theorem g_x11_tells_0 {d : Nat} {B : Nat × Nat} {Q : zQ} {c : Nat × Nat × Nat} {I : Nat → Nat → Int} {g : Nat} {x1 x2 x3 : Int}
    (t : zcl d 129 0 0 [zi x1] (c, I, zRg g) (fun v h1 => zRn (zcl d) 113 B Q 4 [some (zr 0), some (zi x1), some (zi x2), some (zi x3), none] (zva v []) h1)) :
    zRn (zcl d) 113 B Q 0 [some (zr 0), some (zi x1), some (zi x2), some (zi x3), none] [] (c, I, zRg g) :=
  zgo [4, 15, 44, 74, 127, 139, 151, 163, 175, 188, 201, 216, 234] 1 (And.intro rfl (And.intro (Nat.le_of_ble_eq_true rfl) (Exists.intro 0 (Exists.intro 0 (And.intro (Or.inl rfl) (And.intro (Or.inl rfl) t))))))
theorem g_x11_tells_4 {d : Nat} {B : Nat × Nat} {Q : zQ} {c : Nat × Nat × Nat} {I : Nat → Nat → Int} {g : Nat} {x1 x2 x3 s0 : Int} {o4 : Option zV}
    (t : (s0 = 0 → (Q (some (zi (-2))) (c, I, zRg g))) ∧ (¬ (s0 = 0) → (zcl d 1 0 0 [zr 2, zi x2] (c, I, zRg g) (fun v h1 => zRn (zcl d) 113 B Q 15 [some (zr 0), some (zi x1), some (zi x2), some (zi x3), o4] (zva v []) h1)))) :
    zRn (zcl d) 113 B Q 4 [some (zr 0), some (zi x1), some (zi x2), some (zi x3), o4] [zi s0] (c, I, zRg g) :=
  zgo [4, 15, 44, 74, 127, 139, 151, 163, 175, 188, 201, 216, 234] 4 (And.intro (fun u255 => (t.1 u255)) (fun u255 => And.intro rfl (Exists.intro (some 2) (And.intro rfl (Exists.intro 1 (And.intro rfl (And.intro (Nat.le_of_ble_eq_true rfl) (Exists.intro 0 (Exists.intro 0 (And.intro (Or.inl rfl) (And.intro (Or.inl rfl) (t.2 u255))))))))))))
theorem g_x11_tells_15 {d : Nat} {B : Nat × Nat} {Q : zQ} {c : Nat × Nat × Nat} {I : Nat → Nat → Int} {g : Nat} {x1 x2 x3 s0 : Int} {y1 : Nat} {o4 : Option zV}
    (t : (s0 = 0 → (Q (some (zi (-2))) (c, I, zRg g))) ∧ (¬ (s0 = 0) → ((x3 < 0 → (Q (some (zi (-2))) (c, I, zRg g))) ∧ (¬ (x3 < 0) → ((x3 ≤ 8 → ((0 ≤ x1 ∧ x1 < 4) ∧ ((zRg g 28 x1.toNat = some y1) ∧ ((zsel ((zSh y1).1 : Nat) [(8, 60)] = some 60) ∧ (zcl d 60 0 0 [zr y1] (c, I, zRg g) (fun v h1 => zRn (zcl d) 113 B Q 44 [some (zr 0), some (zi x1), some (zi x2), some (zi x3), some (zr y1)] (zva v []) h1)))))) ∧ (¬ (x3 ≤ 8) → (Q (some (zi (-2))) (c, I, zRg g)))))))) :
    zRn (zcl d) 113 B Q 15 [some (zr 0), some (zi x1), some (zi x2), some (zi x3), o4] [zi s0] (c, I, zRg g) :=
  zgo [4, 15, 44, 74, 127, 139, 151, 163, 175, 188, 201, 216, 234] 12 (And.intro (fun u256 => (t.1 u256)) (fun u256 => And.intro (fun u257 => ((t.2 u256).1 u257)) (fun u257 => And.intro (fun u258 => And.intro rfl (Exists.intro (some 28) (And.intro rfl (And.intro (by decide) (And.intro (((t.2 u256).2 u257).1 u258).1 (Exists.intro (some y1) (And.intro (((t.2 u256).2 u257).1 u258).2.1 (Exists.intro 60 (And.intro (((t.2 u256).2 u257).1 u258).2.2.1 (And.intro (Nat.le_of_ble_eq_true rfl) (Exists.intro 0 (Exists.intro 0 (And.intro (Or.inl rfl) (And.intro (Or.inl rfl) ((((t.2 u256).2 u257).1 u258).2.2.2))))))))))))))) (fun u258 => (((t.2 u256).2 u257).2 u258)))))
theorem g_x11_tells_44 {d : Nat} {B : Nat × Nat} {Q : zQ} {c : Nat × Nat × Nat} {I : Nat → Nat → Int} {g : Nat} {x1 x2 x3 s0 : Int} {a4 : Nat}
    (t : (s0 = 0 → (((zSh a4).1 = 8) ∧ ((I a4 2 ≤ 10 → (zcl d 3 0 0 [zr 18, zr 2] (c, I, zRg g) (fun v h1 => zRn (zcl d) 113 B Q 74 [some (zr 0), some (zi x1), some (zi x2), some (zi x3), some (zr a4)] (zva v []) h1))) ∧ (¬ (I a4 2 ≤ 10) → (Q (some (zi (-2))) (c, I, zRg g)))))) ∧ (¬ (s0 = 0) → (Q (some (zi (-11))) (c, I, zRg g)))) :
    zRn (zcl d) 113 B Q 44 [some (zr 0), some (zi x1), some (zi x2), some (zi x3), some (zr a4)] [zi s0] (c, I, zRg g) :=
  zgo [4, 15, 44, 74, 127, 139, 151, 163, 175, 188, 201, 216, 234] 9 (And.intro (fun u259 => And.intro (t.1 u259).1 (And.intro (fun u260 => And.intro rfl (Exists.intro (some 18) (And.intro rfl (And.intro rfl (Exists.intro (some 2) (And.intro rfl (Exists.intro 3 (And.intro rfl (And.intro (Nat.le_of_ble_eq_true rfl) (Exists.intro 0 (Exists.intro 0 (And.intro (Or.inl rfl) (And.intro (Or.inl rfl) ((t.1 u259).2.1 u260)))))))))))))) (fun u260 => ((t.1 u259).2.2 u260)))) (fun u259 => (t.2 u259)))
theorem g_x11_tells_74 {d : Nat} {B : Nat × Nat} {Q : zQ} {c : Nat × Nat × Nat} {I : Nat → Nat → Int} {g : Nat} {x1 x2 x3 : Int} {a4 : Nat}
    (t : (x3 = 0 → (zcl d 116 0 0 [zr 0, zr a4, zi x2] (c, I, zRg g) (fun v h1 => zRn (zcl d) 113 B Q 127 [some (zr 0), some (zi x1), some (zi x2), some (zi x3), some (zr a4)] (zva v []) h1))) ∧ (¬ (x3 = 0) → ((x3 = 1 → (zcl d 114 0 0 [zr 0, zr a4, zi x2, zi 5, zi 6, zi 0] (c, I, zRg g) (fun v h1 => zRn (zcl d) 113 B Q 139 [some (zr 0), some (zi x1), some (zi x2), some (zi x3), some (zr a4)] (zva v []) h1))) ∧ (¬ (x3 = 1) → ((x3 = 2 → (zcl d 114 0 0 [zr 0, zr a4, zi x2, zi 1, zi 10, zi 0] (c, I, zRg g) (fun v h1 => zRn (zcl d) 113 B Q 151 [some (zr 0), some (zi x1), some (zi x2), some (zi x3), some (zr a4)] (zva v []) h1))) ∧ (¬ (x3 = 2) → ((x3 = 3 → (zcl d 114 0 0 [zr 0, zr a4, zi x2, zi 3, zi 100, zi 1] (c, I, zRg g) (fun v h1 => zRn (zcl d) 113 B Q 163 [some (zr 0), some (zi x1), some (zi x2), some (zi x3), some (zr a4)] (zva v []) h1))) ∧ (¬ (x3 = 3) → ((x3 = 4 → (zcl d 114 0 0 [zr 0, zr a4, zi x2, zi 3, zi 100, zi 2] (c, I, zRg g) (fun v h1 => zRn (zcl d) 113 B Q 175 [some (zr 0), some (zi x1), some (zi x2), some (zi x3), some (zr a4)] (zva v []) h1))) ∧ (¬ (x3 = 4) → ((x3 = 5 → (zcl d 114 0 0 [zr 0, zr a4, zi x2, zi 2, zi 1024, zi 1] (c, I, zRg g) (fun v h1 => zRn (zcl d) 113 B Q 188 [some (zr 0), some (zi x1), some (zi x2), some (zi x3), some (zr a4)] (zva v []) h1))) ∧ (¬ (x3 = 5) → ((x3 = 6 → (zcl d 114 0 0 [zr 0, zr a4, zi x2, zi 2, zi 1024, zi 2] (c, I, zRg g) (fun v h1 => zRn (zcl d) 113 B Q 201 [some (zr 0), some (zi x1), some (zi x2), some (zi x3), some (zr a4)] (zva v []) h1))) ∧ (¬ (x3 = 6) → ((x3 = 7 → (zcl d 114 0 0 [zr 0, zr a4, zi x2, zi 9, zi (I 0 7), zi 0] (c, I, zRg g) (fun v h1 => zRn (zcl d) 113 B Q 216 [some (zr 0), some (zi x1), some (zi x2), some (zi x3), some (zr a4)] (zva v []) h1))) ∧ (¬ (x3 = 7) → (zcl d 114 0 0 [zr 0, zr a4, zi x2, zi 10, zi (I 18 2), zi 0] (c, I, zRg g) (fun v h1 => zRn (zcl d) 113 B Q 234 [some (zr 0), some (zi x1), some (zi x2), some (zi x3), some (zr a4)] (zva v []) h1)))))))))))))))))) :
    zRn (zcl d) 113 B Q 74 [some (zr 0), some (zi x1), some (zi x2), some (zi x3), some (zr a4)] [] (c, I, zRg g) :=
  zgo [4, 15, 44, 74, 127, 139, 151, 163, 175, 188, 201, 216, 234] 10 (And.intro (fun u261 => Exists.intro 116 (And.intro rfl (And.intro (Nat.le_of_ble_eq_true rfl) (Exists.intro 0 (Exists.intro 0 (And.intro (Or.inl rfl) (And.intro (Or.inl rfl) (t.1 u261)))))))) (fun u261 => And.intro (fun u262 => Exists.intro 114 (And.intro rfl (And.intro (Nat.le_of_ble_eq_true rfl) (Exists.intro 0 (Exists.intro 0 (And.intro (Or.inl rfl) (And.intro (Or.inl rfl) ((t.2 u261).1 u262)))))))) (fun u262 => And.intro (fun u263 => Exists.intro 114 (And.intro rfl (And.intro (Nat.le_of_ble_eq_true rfl) (Exists.intro 0 (Exists.intro 0 (And.intro (Or.inl rfl) (And.intro (Or.inl rfl) (((t.2 u261).2 u262).1 u263)))))))) (fun u263 => And.intro (fun u264 => Exists.intro 114 (And.intro rfl (And.intro (Nat.le_of_ble_eq_true rfl) (Exists.intro 0 (Exists.intro 0 (And.intro (Or.inl rfl) (And.intro (Or.inl rfl) ((((t.2 u261).2 u262).2 u263).1 u264)))))))) (fun u264 => And.intro (fun u265 => Exists.intro 114 (And.intro rfl (And.intro (Nat.le_of_ble_eq_true rfl) (Exists.intro 0 (Exists.intro 0 (And.intro (Or.inl rfl) (And.intro (Or.inl rfl) (((((t.2 u261).2 u262).2 u263).2 u264).1 u265)))))))) (fun u265 => And.intro (fun u266 => Exists.intro 114 (And.intro rfl (And.intro (Nat.le_of_ble_eq_true rfl) (Exists.intro 0 (Exists.intro 0 (And.intro (Or.inl rfl) (And.intro (Or.inl rfl) ((((((t.2 u261).2 u262).2 u263).2 u264).2 u265).1 u266)))))))) (fun u266 => And.intro (fun u267 => Exists.intro 114 (And.intro rfl (And.intro (Nat.le_of_ble_eq_true rfl) (Exists.intro 0 (Exists.intro 0 (And.intro (Or.inl rfl) (And.intro (Or.inl rfl) (((((((t.2 u261).2 u262).2 u263).2 u264).2 u265).2 u266).1 u267)))))))) (fun u267 => And.intro (fun u268 => And.intro rfl (Exists.intro 114 (And.intro rfl (And.intro (Nat.le_of_ble_eq_true rfl) (Exists.intro 0 (Exists.intro 0 (And.intro (Or.inl rfl) (And.intro (Or.inl rfl) ((((((((t.2 u261).2 u262).2 u263).2 u264).2 u265).2 u266).2 u267).1 u268))))))))) (fun u268 => And.intro rfl (Exists.intro (some 18) (And.intro rfl (And.intro rfl (Exists.intro 114 (And.intro rfl (And.intro (Nat.le_of_ble_eq_true rfl) (Exists.intro 0 (Exists.intro 0 (And.intro (Or.inl rfl) (And.intro (Or.inl rfl) ((((((((t.2 u261).2 u262).2 u263).2 u264).2 u265).2 u266).2 u267).2 u268))))))))))))))))))))
theorem g_x11_tells_127 {d : Nat} {B : Nat × Nat} {Q : zQ} {c : Nat × Nat × Nat} {I : Nat → Nat → Int} {g : Nat} {x1 x2 x3 s0 : Int} {a4 : Nat}
    (t : Q (some (zi s0)) (c, I, zRg g)) :
    zRn (zcl d) 113 B Q 127 [some (zr 0), some (zi x1), some (zi x2), some (zi x3), some (zr a4)] [zi s0] (c, I, zRg g) :=
  zgo [4, 15, 44, 74, 127, 139, 151, 163, 175, 188, 201, 216, 234] 0 (t)
theorem g_x11_tells_139 {d : Nat} {B : Nat × Nat} {Q : zQ} {c : Nat × Nat × Nat} {I : Nat → Nat → Int} {g : Nat} {x1 x2 x3 s0 : Int} {a4 : Nat}
    (t : Q (some (zi s0)) (c, I, zRg g)) :
    zRn (zcl d) 113 B Q 139 [some (zr 0), some (zi x1), some (zi x2), some (zi x3), some (zr a4)] [zi s0] (c, I, zRg g) :=
  zgo [4, 15, 44, 74, 127, 139, 151, 163, 175, 188, 201, 216, 234] 0 (t)
theorem g_x11_tells_151 {d : Nat} {B : Nat × Nat} {Q : zQ} {c : Nat × Nat × Nat} {I : Nat → Nat → Int} {g : Nat} {x1 x2 x3 s0 : Int} {a4 : Nat}
    (t : Q (some (zi s0)) (c, I, zRg g)) :
    zRn (zcl d) 113 B Q 151 [some (zr 0), some (zi x1), some (zi x2), some (zi x3), some (zr a4)] [zi s0] (c, I, zRg g) :=
  zgo [4, 15, 44, 74, 127, 139, 151, 163, 175, 188, 201, 216, 234] 0 (t)
theorem g_x11_tells_163 {d : Nat} {B : Nat × Nat} {Q : zQ} {c : Nat × Nat × Nat} {I : Nat → Nat → Int} {g : Nat} {x1 x2 x3 s0 : Int} {a4 : Nat}
    (t : Q (some (zi s0)) (c, I, zRg g)) :
    zRn (zcl d) 113 B Q 163 [some (zr 0), some (zi x1), some (zi x2), some (zi x3), some (zr a4)] [zi s0] (c, I, zRg g) :=
  zgo [4, 15, 44, 74, 127, 139, 151, 163, 175, 188, 201, 216, 234] 0 (t)
theorem g_x11_tells_175 {d : Nat} {B : Nat × Nat} {Q : zQ} {c : Nat × Nat × Nat} {I : Nat → Nat → Int} {g : Nat} {x1 x2 x3 s0 : Int} {a4 : Nat}
    (t : Q (some (zi s0)) (c, I, zRg g)) :
    zRn (zcl d) 113 B Q 175 [some (zr 0), some (zi x1), some (zi x2), some (zi x3), some (zr a4)] [zi s0] (c, I, zRg g) :=
  zgo [4, 15, 44, 74, 127, 139, 151, 163, 175, 188, 201, 216, 234] 0 (t)
theorem g_x11_tells_188 {d : Nat} {B : Nat × Nat} {Q : zQ} {c : Nat × Nat × Nat} {I : Nat → Nat → Int} {g : Nat} {x1 x2 x3 s0 : Int} {a4 : Nat}
    (t : Q (some (zi s0)) (c, I, zRg g)) :
    zRn (zcl d) 113 B Q 188 [some (zr 0), some (zi x1), some (zi x2), some (zi x3), some (zr a4)] [zi s0] (c, I, zRg g) :=
  zgo [4, 15, 44, 74, 127, 139, 151, 163, 175, 188, 201, 216, 234] 0 (t)
theorem g_x11_tells_201 {d : Nat} {B : Nat × Nat} {Q : zQ} {c : Nat × Nat × Nat} {I : Nat → Nat → Int} {g : Nat} {x1 x2 x3 s0 : Int} {a4 : Nat}
    (t : Q (some (zi s0)) (c, I, zRg g)) :
    zRn (zcl d) 113 B Q 201 [some (zr 0), some (zi x1), some (zi x2), some (zi x3), some (zr a4)] [zi s0] (c, I, zRg g) :=
  zgo [4, 15, 44, 74, 127, 139, 151, 163, 175, 188, 201, 216, 234] 0 (t)
theorem g_x11_tells_216 {d : Nat} {B : Nat × Nat} {Q : zQ} {c : Nat × Nat × Nat} {I : Nat → Nat → Int} {g : Nat} {x1 x2 x3 s0 : Int} {a4 : Nat}
    (t : Q (some (zi s0)) (c, I, zRg g)) :
    zRn (zcl d) 113 B Q 216 [some (zr 0), some (zi x1), some (zi x2), some (zi x3), some (zr a4)] [zi s0] (c, I, zRg g) :=
  zgo [4, 15, 44, 74, 127, 139, 151, 163, 175, 188, 201, 216, 234] 0 (t)
theorem g_x11_tells_234 {d : Nat} {B : Nat × Nat} {Q : zQ} {c : Nat × Nat × Nat} {I : Nat → Nat → Int} {g : Nat} {x1 x2 x3 s0 : Int} {a4 : Nat}
    (t : Q (some (zi s0)) (c, I, zRg g)) :
    zRn (zcl d) 113 B Q 234 [some (zr 0), some (zi x1), some (zi x2), some (zi x3), some (zr a4)] [zi s0] (c, I, zRg g) :=
  zgo [4, 15, 44, 74, 127, 139, 151, 163, 175, 188, 201, 216, 234] 0 (t)
theorem g_x11_suiting_0 {d : Nat} {B : Nat × Nat} {Q : zQ} {c : Nat × Nat × Nat} {I : Nat → Nat → Int} {g : Nat} {x2 x3 x4 x5 : Int} {a1 : Nat}
    (t : zRn (zcl d) 114 B Q 12 [some (zr 0), some (zr a1), some (zi x2), some (zi x3), some (zi x4), some (zi x5), some (zi 0), some (zi 0), some (zi (-1)), some (zi 0), none] [] (c, I, zRg g)) :
    zRn (zcl d) 114 B Q 0 [some (zr 0), some (zr a1), some (zi x2), some (zi x3), some (zi x4), some (zi x5), none, none, none, none, none] [] (c, I, zRg g) :=
  zgo [12, 42, 49] 8 (t)
theorem g_x11_suiting_12 {d : Nat} {B : Nat × Nat} {Q : zQ} {c : Nat × Nat × Nat} {I : Nat → Nat → Int} {g : Nat} {x2 x3 x4 x5 x6 x7 x8 x9 : Int} {a1 : Nat} {o10 : Option zV}
    (t : (x4 ≤ x9 → ((x5 = 0 → (Q (some (zi x6)) (c, I, zRg g))) ∧ (¬ (x5 = 0) → ((x5 = 1 → (Q (some (zi x7)) (c, I, zRg g))) ∧ (¬ (x5 = 1) → (Q (some (zi x8)) (c, I, zRg g))))))) ∧ (¬ (x4 ≤ x9) → ((x3 ≠ 10 → (zcl d 115 0 0 [zr 0, zi x2, zi x3, zi x9] (c, I, zRg g) (fun v h1 => zRn (zcl d) 114 B Q 42 [some (zr 0), some (zr a1), some (zi x2), some (zi x3), some (zi x4), some (zi x5), some (zi x6), some (zi x7), some (zi x8), some (zi x9), some (zi x2)] (zva v []) h1))) ∧ (¬ (x3 ≠ 10) → (zcl d 115 0 0 [zr 0, zi x9, zi x3, zi x9] (c, I, zRg g) (fun v h1 => zRn (zcl d) 114 B Q 42 [some (zr 0), some (zr a1), some (zi x2), some (zi x3), some (zi x4), some (zi x5), some (zi x6), some (zi x7), some (zi x8), some (zi x9), some (zi x9)] (zva v []) h1)))))) :
    zRn (zcl d) 114 B Q 12 [some (zr 0), some (zr a1), some (zi x2), some (zi x3), some (zi x4), some (zi x5), some (zi x6), some (zi x7), some (zi x8), some (zi x9), o10] [] (c, I, zRg g) :=
  zgo [12, 42, 49] 13 (And.intro (fun u269 => And.intro (fun u270 => ((t.1 u269).1 u270)) (fun u270 => And.intro (fun u271 => (((t.1 u269).2 u270).1 u271)) (fun u271 => (((t.1 u269).2 u270).2 u271)))) (fun u269 => And.intro (fun u272 => Exists.intro 115 (And.intro rfl (And.intro (Nat.le_of_ble_eq_true rfl) (Exists.intro 0 (Exists.intro 0 (And.intro (Or.inl rfl) (And.intro (Or.inl rfl) ((t.2 u269).1 u272)))))))) (fun u272 => Exists.intro 115 (And.intro rfl (And.intro (Nat.le_of_ble_eq_true rfl) (Exists.intro 0 (Exists.intro 0 (And.intro (Or.inl rfl) (And.intro (Or.inl rfl) ((t.2 u269).2 u272))))))))))
theorem g_x11_suiting_42 {d : Nat} {B : Nat × Nat} {Q : zQ} {c : Nat × Nat × Nat} {I : Nat → Nat → Int} {g : Nat} {x2 x3 x4 x5 x6 x7 x8 x9 x10 : Int} {a1 : Nat}
    (t : zcl d 116 0 0 [zr 0, zr a1, zi x10] (c, I, zRg g) (fun v h1 => zRn (zcl d) 114 B Q 49 [some (zr 0), some (zr a1), some (zi x2), some (zi x3), some (zi x4), some (zi x5), some (zi x6), some (zi x7), some (zi x8), some (zi x9), some (zi x10)] (zva v []) h1)) :
    zRn (zcl d) 114 B Q 42 [some (zr 0), some (zr a1), some (zi x2), some (zi x3), some (zi x4), some (zi x5), some (zi x6), some (zi x7), some (zi x8), some (zi x9), some (zi x10)] [] (c, I, zRg g) :=
  zgo [12, 42, 49] 3 (Exists.intro 116 (And.intro rfl (And.intro (Nat.le_of_ble_eq_true rfl) (Exists.intro 0 (Exists.intro 0 (And.intro (Or.inl rfl) (And.intro (Or.inl rfl) t)))))))
theorem g_x11_suiting_49 {d : Nat} {B : Nat × Nat} {Q : zQ} {c : Nat × Nat × Nat} {I : Nat → Nat → Int} {g : Nat} {x2 x3 x4 x5 x6 x7 x8 x9 x10 s0 : Int} {a1 : Nat}
    (t : (s0 = (-1) → ((x7 ≠ 0 → ((31 ≤ x9 → (zRn (zcl d) 114 B Q 12 [some (zr 0), some (zr a1), some (zi x2), some (zi x3), some (zi x4), some (zi x5), some (zi x6), some (zi (zwr (x7 + 1))), some (zi x8), some (zi (zwr (x9 + 1))), some (zi x10)] [] (c, I, zRg g))) ∧ (¬ (31 ≤ x9) → (zRn (zcl d) 114 B Q 12 [some (zr 0), some (zr a1), some (zi x2), some (zi x3), some (zi x4), some (zi x5), some (zi (zor x6 (zshl 1 x9))), some (zi (zwr (x7 + 1))), some (zi x8), some (zi (zwr (x9 + 1))), some (zi x10)] [] (c, I, zRg g))))) ∧ (¬ (x7 ≠ 0) → ((31 ≤ x9 → (zRn (zcl d) 114 B Q 12 [some (zr 0), some (zr a1), some (zi x2), some (zi x3), some (zi x4), some (zi x5), some (zi x6), some (zi (zwr (x7 + 1))), some (zi x9), some (zi (zwr (x9 + 1))), some (zi x10)] [] (c, I, zRg g))) ∧ (¬ (31 ≤ x9) → (zRn (zcl d) 114 B Q 12 [some (zr 0), some (zr a1), some (zi x2), some (zi x3), some (zi x4), some (zi x5), some (zi (zor x6 (zshl 1 x9))), some (zi (zwr (x7 + 1))), some (zi x9), some (zi (zwr (x9 + 1))), some (zi x10)] [] (c, I, zRg g))))))) ∧ (¬ (s0 = (-1)) → (zRn (zcl d) 114 B Q 12 [some (zr 0), some (zr a1), some (zi x2), some (zi x3), some (zi x4), some (zi x5), some (zi x6), some (zi x7), some (zi x8), some (zi (zwr (x9 + 1))), some (zi x10)] [] (c, I, zRg g)))) :
    zRn (zcl d) 114 B Q 49 [some (zr 0), some (zr a1), some (zi x2), some (zi x3), some (zi x4), some (zi x5), some (zi x6), some (zi x7), some (zi x8), some (zi x9), some (zi x10)] [zi s0] (c, I, zRg g) :=
  zgo [12, 42, 49] 18 (And.intro (fun u273 => And.intro (fun u274 => And.intro (fun u275 => (((t.1 u273).1 u274).1 u275)) (fun u275 => (((t.1 u273).1 u274).2 u275))) (fun u274 => And.intro (fun u276 => (((t.1 u273).2 u274).1 u276)) (fun u276 => (((t.1 u273).2 u274).2 u276)))) (fun u273 => (t.2 u273)))
theorem g_x11_vary_0 {d : Nat} {B : Nat × Nat} {Q : zQ} {c : Nat × Nat × Nat} {I : Nat → Nat → Int} {g : Nat} {x1 x2 x3 : Int}
    (t : (x2 ≠ 9 → ((x2 = 10 → (zRn (zcl d) 115 B Q 48 [some (zr 0), some (zi x1), some (zi x2), some (zi x3)] [] (c, I, zRg g))) ∧ (¬ (x2 = 10) → (zcl d 1 0 0 [zr 18, zi x1] (c, I, zRg g) (fun v h1 => zRn (zcl d) 115 B Q 31 [some (zr 0), some (zi x1), some (zi x2), some (zi x3)] (zva v []) h1))))) ∧ (¬ (x2 ≠ 9) → (zRn (zcl d) 115 B Q 48 [some (zr 0), some (zi x1), some (zi x2), some (zi x3)] [] (c, (z2 I 18 6 x3), zRg g)))) :
    zRn (zcl d) 115 B Q 0 [some (zr 0), some (zi x1), some (zi x2), some (zi x3)] [] (c, I, zRg g) :=
  zgo [31, 48] 9 (And.intro (fun u277 => And.intro (fun u278 => ((t.1 u277).1 u278)) (fun u278 => And.intro rfl (Exists.intro (some 18) (And.intro rfl (Exists.intro 1 (And.intro rfl (And.intro (Nat.le_of_ble_eq_true rfl) (Exists.intro 0 (Exists.intro 0 (And.intro (Or.inl rfl) (And.intro (Or.inl rfl) ((t.1 u277).2 u278)))))))))))) (fun u277 => And.intro rfl (Exists.intro (some 18) (And.intro rfl (And.intro rfl (t.2 u277))))))
theorem g_x11_vary_31 {d : Nat} {B : Nat × Nat} {Q : zQ} {c : Nat × Nat × Nat} {I : Nat → Nat → Int} {g : Nat} {x1 x2 x3 s0 : Int} {y1 : Nat}
    (t : (s0 = 0 → (zRn (zcl d) 115 B Q 48 [some (zr 0), some (zi x1), some (zi x2), some (zi x3)] [] (c, I, zRg g))) ∧ (¬ (s0 = 0) → ((0 ≤ x1 ∧ x1 < 5) ∧ ((zRg g 19 x1.toNat = some y1) ∧ ((zsel ((zSh y1).1 : Nat) [(5, 28)] = some 28) ∧ (zcl d 28 0 0 [zr y1, zi x2, zi x3] (c, I, zRg g) (fun v h1 => zRn (zcl d) 115 B Q 48 [some (zr 0), some (zi x1), some (zi x2), some (zi x3)] (zva v []) h1))))))) :
    zRn (zcl d) 115 B Q 31 [some (zr 0), some (zi x1), some (zi x2), some (zi x3)] [zi s0] (c, I, zRg g) :=
  zgo [31, 48] 8 (And.intro (fun u279 => (t.1 u279)) (fun u279 => And.intro rfl (Exists.intro (some 18) (And.intro rfl (And.intro rfl (Exists.intro (some 19) (And.intro rfl (And.intro (by decide) (And.intro (t.2 u279).1 (Exists.intro (some y1) (And.intro (t.2 u279).2.1 (Exists.intro 28 (And.intro (t.2 u279).2.2.1 (And.intro (Nat.le_of_ble_eq_true rfl) (Exists.intro 0 (Exists.intro 0 (And.intro (Or.inl rfl) (And.intro (Or.inl rfl) ((t.2 u279).2.2.2)))))))))))))))))))
theorem g_x11_vary_48 {d : Nat} {B : Nat × Nat} {Q : zQ} {c : Nat × Nat × Nat} {I : Nat → Nat → Int} {g : Nat} {x1 x2 x3 : Int}
    (t : Q none (c, I, zRg g)) :
    zRn (zcl d) 115 B Q 48 [some (zr 0), some (zi x1), some (zi x2), some (zi x3)] [] (c, I, zRg g) :=
  zgo [31, 48] 0 (t)
theorem g_x11_firstOtherwise_0 {d : Nat} {B : Nat × Nat} {Q : zQ} {c : Nat × Nat × Nat} {I : Nat → Nat → Int} {g : Nat} {x2 : Int} {a1 : Nat}
    (t : zcl d 1 0 0 [zr 18, zi x2] (c, I, zRg g) (fun v h1 => zRn (zcl d) 116 B Q 8 [some (zr 0), some (zr a1), some (zi x2), none] (zva v []) h1)) :
    zRn (zcl d) 116 B Q 0 [some (zr 0), some (zr a1), some (zi x2), none] [] (c, I, zRg g) :=
  zgo [8, 15, 43] 3 (And.intro rfl (Exists.intro (some 18) (And.intro rfl (Exists.intro 1 (And.intro rfl (And.intro (Nat.le_of_ble_eq_true rfl) (Exists.intro 0 (Exists.intro 0 (And.intro (Or.inl rfl) (And.intro (Or.inl rfl) t))))))))))
theorem g_x11_firstOtherwise_8 {d : Nat} {B : Nat × Nat} {Q : zQ} {c : Nat × Nat × Nat} {I : Nat → Nat → Int} {g : Nat} {x2 s0 : Int} {a1 : Nat} {o3 : Option zV}
    (t : (s0 ≠ 0 → (zRn (zcl d) 116 B Q 15 [some (zr 0), some (zr a1), some (zi x2), some (zi 0)] [] (c, I, zRg g))) ∧ (¬ (s0 ≠ 0) → (Q (some (zi 0)) (c, I, zRg g)))) :
    zRn (zcl d) 116 B Q 8 [some (zr 0), some (zr a1), some (zi x2), o3] [zi s0] (c, I, zRg g) :=
  zgo [8, 15, 43] 3 (And.intro (fun u280 => (t.1 u280)) (fun u280 => (t.2 u280)))
theorem g_x11_firstOtherwise_15 {d : Nat} {B : Nat × Nat} {Q : zQ} {c : Nat × Nat × Nat} {I : Nat → Nat → Int} {g : Nat} {x2 x3 : Int} {a1 y1 : Nat}
    (t : ((zSh a1).1 = 8) ∧ ((I a1 2 ≤ x3 → (Q (some (zi (-1))) (c, I, zRg g))) ∧ (¬ (I a1 2 ≤ x3) → ((0 ≤ x2 ∧ x2 < 5) ∧ ((zRg g 19 x2.toNat = some y1) ∧ (zcl d 94 0 0 [zr 0, zr 18, zr y1, zi (zshl 1 x3)] (c, I, zRg g) (fun v h1 => zRn (zcl d) 116 B Q 43 [some (zr 0), some (zr a1), some (zi x2), some (zi x3)] (zva v []) h1))))))) :
    zRn (zcl d) 116 B Q 15 [some (zr 0), some (zr a1), some (zi x2), some (zi x3)] [] (c, I, zRg g) :=
  zgo [8, 15, 43] 15 (And.intro t.1 (And.intro (fun u281 => (t.2.1 u281)) (fun u281 => And.intro rfl (Exists.intro (some 18) (And.intro rfl (And.intro rfl (Exists.intro (some 18) (And.intro rfl (And.intro rfl (Exists.intro (some 19) (And.intro rfl (And.intro (by decide) (And.intro (t.2.2 u281).1 (Exists.intro (some y1) (And.intro (t.2.2 u281).2.1 (Exists.intro 94 (And.intro rfl (And.intro (Nat.le_of_ble_eq_true rfl) (Exists.intro 0 (Exists.intro 0 (And.intro (Or.inl rfl) (And.intro (Or.inl rfl) ((t.2.2 u281).2.2)))))))))))))))))))))))
theorem g_x11_firstOtherwise_43 {d : Nat} {B : Nat × Nat} {Q : zQ} {c : Nat × Nat × Nat} {I : Nat → Nat → Int} {g : Nat} {x2 x3 s0 : Int} {a1 y1 : Nat}
    (t : ((zSh a1).1 = 8) ∧ ((zRg g a1 0 = some y1) ∧ (((zSh y1).1 = 100) ∧ ((0 ≤ x3 ∧ x3 < ((zSh y1).2 : Nat)) ∧ ((s0 = I y1 x3.toNat → (zRn (zcl d) 116 B Q 15 [some (zr 0), some (zr a1), some (zi x2), some (zi (zwr (x3 + 1)))] [] (c, I, zRg g))) ∧ (¬ (s0 = I y1 x3.toNat) → (Q (some (zi x3)) (c, I, zRg g)))))))) :
    zRn (zcl d) 116 B Q 43 [some (zr 0), some (zr a1), some (zi x2), some (zi x3)] [zi s0] (c, I, zRg g) :=
  zgo [8, 15, 43] 7 (And.intro t.1 (Exists.intro (some y1) (And.intro t.2.1 (And.intro t.2.2.1 (And.intro t.2.2.2.1 (And.intro (fun u282 => (t.2.2.2.2.1 u282)) (fun u282 => (t.2.2.2.2.2 u282))))))))
theorem g_x11_film_0 {d : Nat} {B : Nat × Nat} {Q : zQ} {c : Nat × Nat × Nat} {I : Nat → Nat → Int} {g : Nat} {x1 x2 : Int}
    (t : zcl d 129 0 0 [zi x1] (c, I, zRg g) (fun v h1 => zRn (zcl d) 117 B Q 4 [some (zr 0), some (zi x1), some (zi x2), none, none, none, none] (zva v []) h1)) :
    zRn (zcl d) 117 B Q 0 [some (zr 0), some (zi x1), some (zi x2), none, none, none, none] [] (c, I, zRg g) :=
  zgo [4, 15, 38, 41, 69, 79] 1 (And.intro rfl (And.intro (Nat.le_of_ble_eq_true rfl) (Exists.intro 0 (Exists.intro 0 (And.intro (Or.inl rfl) (And.intro (Or.inl rfl) t))))))
theorem g_x11_film_4 {d : Nat} {B : Nat × Nat} {Q : zQ} {c : Nat × Nat × Nat} {I : Nat → Nat → Int} {g : Nat} {x1 x2 s0 : Int} {o3 o4 o5 o6 : Option zV}
    (t : (s0 = 0 → (Q (some (zi (-2))) (c, I, zRg g))) ∧ (¬ (s0 = 0) → (zcl d 1 0 0 [zr 2, zi x2] (c, I, zRg g) (fun v h1 => zRn (zcl d) 117 B Q 15 [some (zr 0), some (zi x1), some (zi x2), o3, o4, o5, o6] (zva v []) h1)))) :
    zRn (zcl d) 117 B Q 4 [some (zr 0), some (zi x1), some (zi x2), o3, o4, o5, o6] [zi s0] (c, I, zRg g) :=
  zgo [4, 15, 38, 41, 69, 79] 4 (And.intro (fun u283 => (t.1 u283)) (fun u283 => And.intro rfl (Exists.intro (some 2) (And.intro rfl (Exists.intro 1 (And.intro rfl (And.intro (Nat.le_of_ble_eq_true rfl) (Exists.intro 0 (Exists.intro 0 (And.intro (Or.inl rfl) (And.intro (Or.inl rfl) (t.2 u283))))))))))))
theorem g_x11_film_15 {d : Nat} {B : Nat × Nat} {Q : zQ} {c : Nat × Nat × Nat} {I : Nat → Nat → Int} {g : Nat} {x1 x2 s0 : Int} {y1 : Nat} {o3 o4 o5 o6 : Option zV}
    (t : (s0 ≠ 0 → ((0 ≤ x1 ∧ x1 < 4) ∧ ((zRg g 28 x1.toNat = some y1) ∧ ((zsel ((zSh y1).1 : Nat) [(8, 62)] = some 62) ∧ (zcl d 62 0 0 [zr y1, zi 1, zi 10] (c, I, zRg g) (fun v h1 => zRn (zcl d) 117 B Q 38 [some (zr 0), some (zi x1), some (zi x2), some (zr y1), some (zi 0), o5, o6] (zva v []) h1)))))) ∧ (¬ (s0 ≠ 0) → (Q (some (zi (-2))) (c, I, zRg g)))) :
    zRn (zcl d) 117 B Q 15 [some (zr 0), some (zi x1), some (zi x2), o3, o4, o5, o6] [zi s0] (c, I, zRg g) :=
  zgo [4, 15, 38, 41, 69, 79] 11 (And.intro (fun u284 => And.intro rfl (Exists.intro (some 28) (And.intro rfl (And.intro (by decide) (And.intro (t.1 u284).1 (Exists.intro (some y1) (And.intro (t.1 u284).2.1 (Exists.intro 62 (And.intro (t.1 u284).2.2.1 (And.intro (Nat.le_of_ble_eq_true rfl) (Exists.intro 0 (Exists.intro 0 (And.intro (Or.inl rfl) (And.intro (Or.inl rfl) ((t.1 u284).2.2.2))))))))))))))) (fun u284 => (t.2 u284)))
theorem g_x11_film_38 {d : Nat} {B : Nat × Nat} {Q : zQ} {c : Nat × Nat × Nat} {I : Nat → Nat → Int} {g : Nat} {x1 x2 x4 : Int} {a3 : Nat} {o5 o6 : Option zV}
    (t : zRn (zcl d) 117 B Q 41 [some (zr 0), some (zi x1), some (zi x2), some (zr a3), some (zi x4), some (zi 0), o6] [] (c, I, zRg g)) :
    zRn (zcl d) 117 B Q 38 [some (zr 0), some (zi x1), some (zi x2), some (zr a3), some (zi x4), o5, o6] [] (c, I, zRg g) :=
  zgo [4, 15, 38, 41, 69, 79] 2 (t)
theorem g_x11_film_41 {d : Nat} {B : Nat × Nat} {Q : zQ} {c : Nat × Nat × Nat} {I : Nat → Nat → Int} {g : Nat} {x1 x2 x4 x5 : Int} {a3 y1 : Nat} {o6 : Option zV}
    (t : (10 ≤ x5 → (Q (some (zi x4)) (c, I, zRg g))) ∧ (¬ (10 ≤ x5) → ((0 ≤ x2 ∧ x2 < 5) ∧ ((zRg g 3 x2.toNat = some y1) ∧ (zcl d 94 0 0 [zr 0, zr 2, zr y1, zi (zshl 1 x5)] (c, I, zRg g) (fun v h1 => zRn (zcl d) 117 B Q 69 [some (zr 0), some (zi x1), some (zi x2), some (zr a3), some (zi x4), some (zi x5), o6] (zva v []) h1)))))) :
    zRn (zcl d) 117 B Q 41 [some (zr 0), some (zi x1), some (zi x2), some (zr a3), some (zi x4), some (zi x5), o6] [] (c, I, zRg g) :=
  zgo [4, 15, 38, 41, 69, 79] 14 (And.intro (fun u285 => (t.1 u285)) (fun u285 => And.intro rfl (Exists.intro (some 2) (And.intro rfl (And.intro rfl (Exists.intro (some 2) (And.intro rfl (And.intro rfl (Exists.intro (some 3) (And.intro rfl (And.intro (by decide) (And.intro (t.2 u285).1 (Exists.intro (some y1) (And.intro (t.2 u285).2.1 (Exists.intro 94 (And.intro rfl (And.intro (Nat.le_of_ble_eq_true rfl) (Exists.intro 0 (Exists.intro 0 (And.intro (Or.inl rfl) (And.intro (Or.inl rfl) ((t.2 u285).2.2))))))))))))))))))))))
theorem g_x11_film_69 {d : Nat} {B : Nat × Nat} {Q : zQ} {c : Nat × Nat × Nat} {I : Nat → Nat → Int} {g : Nat} {x1 x2 x4 x5 s0 : Int} {a3 : Nat} {o6 : Option zV}
    (t : (zsel ((zSh a3).1 : Nat) [(8, 63)] = some 63) ∧ (zcl d 63 0 0 [zr a3, zi x5, zi s0] (c, I, zRg g) (fun v h1 => zRn (zcl d) 117 B Q 79 [some (zr 0), some (zi x1), some (zi x2), some (zr a3), some (zi x4), some (zi x5), some (zi s0)] (zva v []) h1))) :
    zRn (zcl d) 117 B Q 69 [some (zr 0), some (zi x1), some (zi x2), some (zr a3), some (zi x4), some (zi x5), o6] [zi s0] (c, I, zRg g) :=
  zgo [4, 15, 38, 41, 69, 79] 4 (Exists.intro 63 (And.intro t.1 (And.intro (Nat.le_of_ble_eq_true rfl) (Exists.intro 0 (Exists.intro 0 (And.intro (Or.inl rfl) (And.intro (Or.inl rfl) t.2)))))))
theorem g_x11_film_79 {d : Nat} {B : Nat × Nat} {Q : zQ} {c : Nat × Nat × Nat} {I : Nat → Nat → Int} {g : Nat} {x1 x2 x4 x5 x6 : Int} {a3 : Nat}
    (t : (x6 ≠ zshl 1 x5 → (zRn (zcl d) 117 B Q 41 [some (zr 0), some (zi x1), some (zi x2), some (zr a3), some (zi x4), some (zi (zwr (x5 + 1))), some (zi x6)] [] (c, I, zRg g))) ∧ (¬ (x6 ≠ zshl 1 x5) → (zRn (zcl d) 117 B Q 41 [some (zr 0), some (zi x1), some (zi x2), some (zr a3), some (zi (zwr (x4 + 1))), some (zi (zwr (x5 + 1))), some (zi x6)] [] (c, I, zRg g)))) :
    zRn (zcl d) 117 B Q 79 [some (zr 0), some (zi x1), some (zi x2), some (zr a3), some (zi x4), some (zi x5), some (zi x6)] [] (c, I, zRg g) :=
  zgo [4, 15, 38, 41, 69, 79] 8 (And.intro (fun u286 => (t.1 u286)) (fun u286 => (t.2 u286)))
theorem g_x11_image_0 {d : Nat} {B : Nat × Nat} {Q : zQ} {c : Nat × Nat × Nat} {I : Nat → Nat → Int} {g : Nat}
    (t : zcl d 3 0 0 [zr 10, zr 2] (c, I, zRg g) (fun v h1 => zRn (zcl d) 121 B Q 11 [some (zr 0)] (zva v []) h1)) :
    zRn (zcl d) 121 B Q 0 [some (zr 0)] [] (c, I, zRg g) :=
  zgo [11] 4 (And.intro rfl (Exists.intro (some 10) (And.intro rfl (And.intro rfl (Exists.intro (some 2) (And.intro rfl (Exists.intro 3 (And.intro rfl (And.intro (Nat.le_of_ble_eq_true rfl) (Exists.intro 0 (Exists.intro 0 (And.intro (Or.inl rfl) (And.intro (Or.inl rfl) t)))))))))))))
theorem g_x11_image_11 {d : Nat} {B : Nat × Nat} {Q : zQ} {c : Nat × Nat × Nat} {I : Nat → Nat → Int} {g : Nat}
    (t : Q (some (zi (I 10 2))) (c, (z2 I 0 4 1), zRg g)) :
    zRn (zcl d) 121 B Q 11 [some (zr 0)] [] (c, I, zRg g) :=
  zgo [11] 6 (And.intro rfl (And.intro (Or.inr rfl) (And.intro rfl (Exists.intro (some 10) (And.intro rfl (And.intro rfl t))))))
theorem g_x11_back_0 {d : Nat} {B : Nat × Nat} {Q : zQ} {c : Nat × Nat × Nat} {I : Nat → Nat → Int} {g : Nat}
    (t : (I 0 4 ≠ 0 → (zcl d 3 0 0 [zr 2, zr 10] (c, I, zRg g) (fun v h1 => zRn (zcl d) 122 B Q 21 [some (zr 0)] (zva v []) h1))) ∧ (¬ (I 0 4 ≠ 0) → (Q (some (zi (-3))) (c, I, zRg g)))) :
    zRn (zcl d) 122 B Q 0 [some (zr 0)] [] (c, I, zRg g) :=
  zgo [21] 7 (And.intro rfl (And.intro (fun u287 => And.intro rfl (Exists.intro (some 2) (And.intro rfl (And.intro rfl (Exists.intro (some 10) (And.intro rfl (Exists.intro 3 (And.intro rfl (And.intro (Nat.le_of_ble_eq_true rfl) (Exists.intro 0 (Exists.intro 0 (And.intro (Or.inl rfl) (And.intro (Or.inl rfl) (t.1 u287)))))))))))))) (fun u287 => (t.2 u287))))
theorem g_x11_back_21 {d : Nat} {B : Nat × Nat} {Q : zQ} {c : Nat × Nat × Nat} {I : Nat → Nat → Int} {g : Nat}
    (t : Q (some (zi (I 2 2))) (c, I, zRg g)) :
    zRn (zcl d) 122 B Q 21 [some (zr 0)] [] (c, I, zRg g) :=
  zgo [21] 3 (And.intro rfl (Exists.intro (some 2) (And.intro rfl (And.intro rfl t))))
theorem g_x11_sheet_0 {d : Nat} {B : Nat × Nat} {Q : zQ} {c : Nat × Nat × Nat} {I : Nat → Nat → Int} {g : Nat} {x1 x2 x3 : Int}
    (t : zcl d 129 0 0 [zi x1] (c, I, zRg g) (fun v h1 => zRn (zcl d) 124 B Q 4 [some (zr 0), some (zi x1), some (zi x2), some (zi x3)] (zva v []) h1)) :
    zRn (zcl d) 124 B Q 0 [some (zr 0), some (zi x1), some (zi x2), some (zi x3)] [] (c, I, zRg g) :=
  zgo [4, 36, 65] 1 (And.intro rfl (And.intro (Nat.le_of_ble_eq_true rfl) (Exists.intro 0 (Exists.intro 0 (And.intro (Or.inl rfl) (And.intro (Or.inl rfl) t))))))
theorem g_x11_sheet_4 {d : Nat} {B : Nat × Nat} {Q : zQ} {c : Nat × Nat × Nat} {I : Nat → Nat → Int} {g : Nat} {x1 x2 x3 s0 : Int} {y1 y2 : Nat}
    (t : (s0 = 0 → (Q (some (zi (-2))) (c, I, zRg g))) ∧ (¬ (s0 = 0) → ((x2 < (-1) → (Q (some (zi (-2))) (c, I, zRg g))) ∧ (¬ (x2 < (-1)) → ((x2 < 3 → ((x2 ≠ (-1) → ((x3 ≤ 40 → ((0 ≤ x3 → ((0 ≤ x1 ∧ x1 < 4) ∧ ((zRg g 28 x1.toNat = some y1) ∧ ((zsel ((zSh y1).1 : Nat) [(8, 62)] = some 62) ∧ (zcl d 62 0 0 [zr y1, zi x2, zi x3] (c, I, zRg g) (fun v h1 => zRn (zcl d) 124 B Q 65 [some (zr 0), some (zi x1), some (zi x2), some (zi x3)] (zva v []) h1)))))) ∧ (¬ (0 ≤ x3) → (Q (some (zi (-14))) (c, I, zRg g))))) ∧ (¬ (x3 ≤ 40) → (Q (some (zi (-2))) (c, I, zRg g))))) ∧ (¬ (x2 ≠ (-1)) → ((0 ≤ x1 ∧ x1 < 4) ∧ ((zRg g 28 x1.toNat = some y2) ∧ ((zsel ((zSh y2).1 : Nat) [(8, 62)] = some 62) ∧ (zcl d 62 0 0 [zr y2, zi (-1), zi 0] (c, I, zRg g) (fun v h1 => zRn (zcl d) 124 B Q 36 [some (zr 0), some (zi x1), some (zi x2), some (zi x3)] (zva v []) h1)))))))) ∧ (¬ (x2 < 3) → (Q (some (zi (-2))) (c, I, zRg g)))))))) :
    zRn (zcl d) 124 B Q 4 [some (zr 0), some (zi x1), some (zi x2), some (zi x3)] [zi s0] (c, I, zRg g) :=
  zgo [4, 36, 65] 21 (And.intro (fun u288 => (t.1 u288)) (fun u288 => And.intro (fun u289 => ((t.2 u288).1 u289)) (fun u289 => And.intro (fun u290 => And.intro (fun u291 => And.intro (fun u292 => And.intro (fun u293 => And.intro rfl (Exists.intro (some 28) (And.intro rfl (And.intro (by decide) (And.intro ((((((t.2 u288).2 u289).1 u290).1 u291).1 u292).1 u293).1 (Exists.intro (some y1) (And.intro ((((((t.2 u288).2 u289).1 u290).1 u291).1 u292).1 u293).2.1 (Exists.intro 62 (And.intro ((((((t.2 u288).2 u289).1 u290).1 u291).1 u292).1 u293).2.2.1 (And.intro (Nat.le_of_ble_eq_true rfl) (Exists.intro 0 (Exists.intro 0 (And.intro (Or.inl rfl) (And.intro (Or.inl rfl) (((((((t.2 u288).2 u289).1 u290).1 u291).1 u292).1 u293).2.2.2))))))))))))))) (fun u293 => ((((((t.2 u288).2 u289).1 u290).1 u291).1 u292).2 u293))) (fun u292 => (((((t.2 u288).2 u289).1 u290).1 u291).2 u292))) (fun u291 => And.intro rfl (Exists.intro (some 28) (And.intro rfl (And.intro (by decide) (And.intro ((((t.2 u288).2 u289).1 u290).2 u291).1 (Exists.intro (some y2) (And.intro ((((t.2 u288).2 u289).1 u290).2 u291).2.1 (Exists.intro 62 (And.intro ((((t.2 u288).2 u289).1 u290).2 u291).2.2.1 (And.intro (Nat.le_of_ble_eq_true rfl) (Exists.intro 0 (Exists.intro 0 (And.intro (Or.inl rfl) (And.intro (Or.inl rfl) (((((t.2 u288).2 u289).1 u290).2 u291).2.2.2)))))))))))))))) (fun u290 => (((t.2 u288).2 u289).2 u290)))))
theorem g_x11_sheet_36 {d : Nat} {B : Nat × Nat} {Q : zQ} {c : Nat × Nat × Nat} {I : Nat → Nat → Int} {g : Nat} {x1 x2 x3 : Int}
    (t : Q (some (zi 1)) (c, I, zRg g)) :
    zRn (zcl d) 124 B Q 36 [some (zr 0), some (zi x1), some (zi x2), some (zi x3)] [] (c, I, zRg g) :=
  zgo [4, 36, 65] 1 (t)
theorem g_x11_sheet_65 {d : Nat} {B : Nat × Nat} {Q : zQ} {c : Nat × Nat × Nat} {I : Nat → Nat → Int} {g : Nat} {x1 x2 x3 : Int}
    (t : Q (some (zi 1)) (c, I, zRg g)) :
    zRn (zcl d) 124 B Q 65 [some (zr 0), some (zi x1), some (zi x2), some (zi x3)] [] (c, I, zRg g) :=
  zgo [4, 36, 65] 1 (t)
theorem g_x11_cell_0 {d : Nat} {B : Nat × Nat} {Q : zQ} {c : Nat × Nat × Nat} {I : Nat → Nat → Int} {g : Nat} {x1 x2 x3 : Int}
    (t : zcl d 129 0 0 [zi x1] (c, I, zRg g) (fun v h1 => zRn (zcl d) 125 B Q 4 [some (zr 0), some (zi x1), some (zi x2), some (zi x3)] (zva v []) h1)) :
    zRn (zcl d) 125 B Q 0 [some (zr 0), some (zi x1), some (zi x2), some (zi x3)] [] (c, I, zRg g) :=
  zgo [4, 19, 36, 53] 1 (And.intro rfl (And.intro (Nat.le_of_ble_eq_true rfl) (Exists.intro 0 (Exists.intro 0 (And.intro (Or.inl rfl) (And.intro (Or.inl rfl) t))))))
theorem g_x11_cell_4 {d : Nat} {B : Nat × Nat} {Q : zQ} {c : Nat × Nat × Nat} {I : Nat → Nat → Int} {g : Nat} {x1 x2 x3 s0 : Int} {y1 : Nat}
    (t : (s0 ≠ 0 → ((0 ≤ x1 ∧ x1 < 4) ∧ ((zRg g 28 x1.toNat = some y1) ∧ ((zsel ((zSh y1).1 : Nat) [(8, 60)] = some 60) ∧ (zcl d 60 0 0 [zr y1] (c, I, zRg g) (fun v h1 => zRn (zcl d) 125 B Q 19 [some (zr 0), some (zi x1), some (zi x2), some (zi x3)] (zva v []) h1)))))) ∧ (¬ (s0 ≠ 0) → (Q (some (zi (-2))) (c, I, zRg g)))) :
    zRn (zcl d) 125 B Q 4 [some (zr 0), some (zi x1), some (zi x2), some (zi x3)] [zi s0] (c, I, zRg g) :=
  zgo [4, 19, 36, 53] 5 (And.intro (fun u294 => And.intro rfl (Exists.intro (some 28) (And.intro rfl (And.intro (by decide) (And.intro (t.1 u294).1 (Exists.intro (some y1) (And.intro (t.1 u294).2.1 (Exists.intro 60 (And.intro (t.1 u294).2.2.1 (And.intro (Nat.le_of_ble_eq_true rfl) (Exists.intro 0 (Exists.intro 0 (And.intro (Or.inl rfl) (And.intro (Or.inl rfl) ((t.1 u294).2.2.2))))))))))))))) (fun u294 => (t.2 u294)))
theorem g_x11_cell_19 {d : Nat} {B : Nat × Nat} {Q : zQ} {c : Nat × Nat × Nat} {I : Nat → Nat → Int} {g : Nat} {x1 x2 x3 s0 : Int} {y1 : Nat}
    (t : (s0 = 0 → ((0 ≤ x1 ∧ x1 < 4) ∧ ((zRg g 28 x1.toNat = some y1) ∧ ((zsel ((zSh y1).1 : Nat) [(8, 61)] = some 61) ∧ (zcl d 61 0 0 [zr y1, zi x2, zi 1] (c, I, zRg g) (fun v h1 => zRn (zcl d) 125 B Q 36 [some (zr 0), some (zi x1), some (zi x2), some (zi x3)] (zva v []) h1)))))) ∧ (¬ (s0 = 0) → (Q (some (zi (-11))) (c, I, zRg g)))) :
    zRn (zcl d) 125 B Q 19 [some (zr 0), some (zi x1), some (zi x2), some (zi x3)] [zi s0] (c, I, zRg g) :=
  zgo [4, 19, 36, 53] 7 (And.intro (fun u295 => And.intro rfl (Exists.intro (some 28) (And.intro rfl (And.intro (by decide) (And.intro (t.1 u295).1 (Exists.intro (some y1) (And.intro (t.1 u295).2.1 (Exists.intro 61 (And.intro (t.1 u295).2.2.1 (And.intro (Nat.le_of_ble_eq_true rfl) (Exists.intro 0 (Exists.intro 0 (And.intro (Or.inl rfl) (And.intro (Or.inl rfl) ((t.1 u295).2.2.2))))))))))))))) (fun u295 => (t.2 u295)))
theorem g_x11_cell_36 {d : Nat} {B : Nat × Nat} {Q : zQ} {c : Nat × Nat × Nat} {I : Nat → Nat → Int} {g : Nat} {x1 x2 x3 s0 : Int} {y1 : Nat}
    (t : (s0 ≠ 0 → ((0 ≤ x1 ∧ x1 < 4) ∧ ((zRg g 28 x1.toNat = some y1) ∧ ((zsel ((zSh y1).1 : Nat) [(8, 63)] = some 63) ∧ (zcl d 63 0 0 [zr y1, zi x2, zi x3] (c, I, zRg g) (fun v h1 => zRn (zcl d) 125 B Q 53 [some (zr 0), some (zi x1), some (zi x2), some (zi x3)] (zva v []) h1)))))) ∧ (¬ (s0 ≠ 0) → (Q (some (zi (-12))) (c, I, zRg g)))) :
    zRn (zcl d) 125 B Q 36 [some (zr 0), some (zi x1), some (zi x2), some (zi x3)] [zi s0] (c, I, zRg g) :=
  zgo [4, 19, 36, 53] 7 (And.intro (fun u296 => And.intro rfl (Exists.intro (some 28) (And.intro rfl (And.intro (by decide) (And.intro (t.1 u296).1 (Exists.intro (some y1) (And.intro (t.1 u296).2.1 (Exists.intro 63 (And.intro (t.1 u296).2.2.1 (And.intro (Nat.le_of_ble_eq_true rfl) (Exists.intro 0 (Exists.intro 0 (And.intro (Or.inl rfl) (And.intro (Or.inl rfl) ((t.1 u296).2.2.2))))))))))))))) (fun u296 => (t.2 u296)))
theorem g_x11_cell_53 {d : Nat} {B : Nat × Nat} {Q : zQ} {c : Nat × Nat × Nat} {I : Nat → Nat → Int} {g : Nat} {x1 x2 x3 : Int}
    (t : Q (some (zi 1)) (c, I, zRg g)) :
    zRn (zcl d) 125 B Q 53 [some (zr 0), some (zi x1), some (zi x2), some (zi x3)] [] (c, I, zRg g) :=
  zgo [4, 19, 36, 53] 1 (t)
theorem g_j6_lowestOneBit_0f7a4_0 {d : Nat} {B : Nat × Nat} {Q : zQ} {c : Nat × Nat × Nat} {I : Nat → Nat → Int} {g : Nat} {x0 : Int}
    (t : Q (some (zi (zand x0 (zwr (-x0))))) (c, I, zRg g)) :
    zRn (zcl d) 130 B Q 0 [some (zi x0)] [] (c, I, zRg g) :=
  zgo [] 4 (t)
theorem g_l_cell_0 {d : Nat} {B : Nat × Nat} {Q : zQ} {c : Nat × Nat × Nat} {I : Nat → Nat → Int} {g : Nat} {x1 : Int}
    (t : ((c.2.2 : Nat) ≤ x1 → (Q (some (zi (zwr ((zwr (7919 * x1)) + 12)))) (c, I, zRg g))) ∧ (¬ ((c.2.2 : Nat) ≤ x1) → ((0 ≤ x1 ∧ x1 < (c.2.2 : Nat)) ∧ (Q (some (zi (I 2000 (x1).toNat))) (c, I, zRg g))))) :
    zRn (zcl d) 131 B Q 0 [some (zr 2000), some (zi x1)] [] (c, I, zRg g) :=
  zgo [] 9 (And.intro rfl (And.intro (fun u297 => (t.1 u297)) (fun u297 => And.intro rfl (And.intro (t.2 u297).1 ((t.2 u297).2)))))
theorem g_l_some_0 {d : Nat} {B : Nat × Nat} {Q : zQ} {c : Nat × Nat × Nat} {I : Nat → Nat → Int} {g : Nat} {x1 x2 : Int}
    (t : zcl d 131 0 0 [zr 2000, zi x1] (c, I, zRg g) (fun v h1 => zRn (zcl d) 132 B Q 5 [some (zr 2000), some (zi x1), some (zi x2)] (zva v []) h1)) :
    zRn (zcl d) 132 B Q 0 [some (zr 2000), some (zi x1), some (zi x2)] [] (c, I, zRg g) :=
  zgo [5] 2 (And.intro rfl (And.intro (Nat.le_of_ble_eq_true rfl) (Exists.intro 0 (Exists.intro 0 (And.intro (Or.inl rfl) (And.intro (Or.inl rfl) t))))))
theorem g_l_some_5 {d : Nat} {B : Nat × Nat} {Q : zQ} {c : Nat × Nat × Nat} {I : Nat → Nat → Int} {g : Nat} {x1 x2 s0 : Int}
    (t : (x2 ≠ 0) ∧ (Q (some (zi (zwr (Int.tmod (zushr s0 3) x2)))) (c, I, zRg g))) :
    zRn (zcl d) 132 B Q 5 [some (zr 2000), some (zi x1), some (zi x2)] [zi s0] (c, I, zRg g) :=
  zgo [5] 4 (And.intro t.1 t.2)
theorem g_j6_bitCount_0f7a4_0 {d : Nat} {B : Nat × Nat} {Q : zQ} {c : Nat × Nat × Nat} {I : Nat → Nat → Int} {g : Nat} {x0 : Int}
    (t : Q (some (zi (zand (zwr ((zwr ((zand (zwr ((zwr ((zand (zwr (x0 - (zand (zushr x0 1) 1431655765))) 858993459) + (zand (zushr (zwr (x0 - (zand (zushr x0 1) 1431655765))) 2) 858993459))) + (zushr (zwr ((zand (zwr (x0 - (zand (zushr x0 1) 1431655765))) 858993459) + (zand (zushr (zwr (x0 - (zand (zushr x0 1) 1431655765))) 2) 858993459))) 4))) 252645135) + (zushr (zand (zwr ((zwr ((zand (zwr (x0 - (zand (zushr x0 1) 1431655765))) 858993459) + (zand (zushr (zwr (x0 - (zand (zushr x0 1) 1431655765))) 2) 858993459))) + (zushr (zwr ((zand (zwr (x0 - (zand (zushr x0 1) 1431655765))) 858993459) + (zand (zushr (zwr (x0 - (zand (zushr x0 1) 1431655765))) 2) 858993459))) 4))) 252645135) 8))) + (zushr (zwr ((zand (zwr ((zwr ((zand (zwr (x0 - (zand (zushr x0 1) 1431655765))) 858993459) + (zand (zushr (zwr (x0 - (zand (zushr x0 1) 1431655765))) 2) 858993459))) + (zushr (zwr ((zand (zwr (x0 - (zand (zushr x0 1) 1431655765))) 858993459) + (zand (zushr (zwr (x0 - (zand (zushr x0 1) 1431655765))) 2) 858993459))) 4))) 252645135) + (zushr (zand (zwr ((zwr ((zand (zwr (x0 - (zand (zushr x0 1) 1431655765))) 858993459) + (zand (zushr (zwr (x0 - (zand (zushr x0 1) 1431655765))) 2) 858993459))) + (zushr (zwr ((zand (zwr (x0 - (zand (zushr x0 1) 1431655765))) 858993459) + (zand (zushr (zwr (x0 - (zand (zushr x0 1) 1431655765))) 2) 858993459))) 4))) 252645135) 8))) 16))) 63))) (c, I, zRg g)) :
    zRn (zcl d) 202 B Q 0 [some (zi x0)] [] (c, I, zRg g) :=
  zgo [] 41 (t)
