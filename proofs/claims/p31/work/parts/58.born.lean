section
/-! a heap that is written in a row: the last first; what stands there -/
def zhl {α : Type} (d : α) (f : Nat → Nat → α) : List (Nat × Option (Nat × α)) → Nat → Nat → α
  | [] => f
  | (a, none) :: l => z1 (zhl d f l) a d
  | (a, some (j, v)) :: l => z2 (zhl d f l) a j v
def zhk {α : Type} (d : α) : List (Nat × Option (Nat × α)) → Nat → Nat → Option α
  | [], _, _ => none
  | (a, none) :: l, x, j => match Nat.beq x a with
    | true => some d
    | false => zhk d l x j
  | (a, some (k, v)) :: l, x, j => match Nat.beq x a with
    | true => match Nat.beq j k with
      | true => some v
      | false => zhk d l x j
    | false => zhk d l x j
theorem zbn {x a : Nat} (e : Nat.beq x a = false) : x ≠ a := fun u => by
  rw [u, Nat.beq_refl] at e
  cases e
theorem zhk_at {α : Type} {d : α} {f : Nat → Nat → α} : ∀ {l : List (Nat × Option (Nat × α))} {x j : Nat} {v : α}, zhk d l x j = some v → zhl d f l x j = v
  | [], x, j, v, h => by cases h
  | (a, none) :: l, x, j, v, h => by
    show (if x = a then d else zhl d f l x j) = v
    have h : (match Nat.beq x a with | true => some d | false => zhk d l x j) = some v := h
    cases e : Nat.beq x a with
    | true =>
      rw [e] at h
      rw [if_pos (Nat.eq_of_beq_eq_true e)]
      exact Option.some.inj h
    | false =>
      rw [e] at h
      rw [if_neg (zbn e)]
      exact zhk_at h
  | (a, some (k, w)) :: l, x, j, v, h => by
    show (if x = a ∧ j = k then w else zhl d f l x j) = v
    have h : (match Nat.beq x a with | true => (match Nat.beq j k with | true => some w | false => zhk d l x j) | false => zhk d l x j) = some v := h
    cases e : Nat.beq x a with
    | true =>
      rw [e] at h
      cases e2 : Nat.beq j k with
      | true =>
        rw [e2] at h
        rw [if_pos ⟨Nat.eq_of_beq_eq_true e, Nat.eq_of_beq_eq_true e2⟩]
        exact Option.some.inj h
      | false =>
        rw [e2] at h
        rw [if_neg (fun u => zbn e2 u.2)]
        exact zhk_at h
    | false =>
      rw [e] at h
      rw [if_neg (fun u => zbn e u.1)]
      exact zhk_at h
def zhf {α : Type} : List (Nat × Option (Nat × α)) → Nat → Bool
  | [], _ => true
  | (a, _) :: l, x => match Nat.beq x a with
    | true => false
    | false => zhf l x
theorem zhf_at {α : Type} {d : α} {f : Nat → Nat → α} : ∀ {l : List (Nat × Option (Nat × α))} {x : Nat}, zhf l x = true → zhl d f l x = f x
  | [], x, _ => rfl
  | (a, q) :: l, x, h => by
    have h2 : (match Nat.beq x a with | true => false | false => zhf l x) = true := h
    clear h
    cases e : Nat.beq x a with
    | true => rw [e] at h2; cases h2
    | false =>
      rw [e] at h2
      have ne : x ≠ a := zbn e
      cases q with
      | none => funext j; exact (if_neg ne).trans (congrFun (zhf_at h2) j)
      | some w => funext j; exact (if_neg (fun u => ne u.1)).trans (congrFun (zhf_at h2) j)
end
section
/-! how all is made: constructors at literal places; written by wip/whole/born.py -/
theorem zenN {d k mc ms : Nat} {As : List zV} {h : zH} {Q : zQ} {ls : zLv} (hl : zens (zL k) As = ls) (hz : Nat.ble (zcs As) (zL k) = true) (H : ∀ Q1 : zQ, (∀ (v : Option zV) (h2 : zH), h2.1 = (h.1.1 + mc, h.1.2.1 + ms, h.1.2.2) → Q v h2 → Q1 v h2) → zRn (zcl d) k (h.1.1 + mc, h.1.2.1 + ms) Q1 0 ls [] h) : zcl (d + 1) k mc ms As h Q :=
  zent hl (Nat.le_of_ble_eq_true hz) (H _ (fun v h2 e q => ⟨e, q⟩))
theorem zen0 {d k : Nat} {As : List zV} {h : zH} {Q : zQ} {ls : zLv} (hl : zens (zL k) As = ls) (hz : Nat.ble (zcs As) (zL k) = true) (H : ∀ (B : Nat × Nat) (Q1 : zQ), (∀ (v : Option zV) (h2 : zH), h2.1 = h.1 → Q v h2 → Q1 v h2) → zRn (zcl d) k B Q1 0 ls [] h) : zcl (d + 1) k 0 0 As h Q :=
  zent hl (Nat.le_of_ble_eq_true hz) (H _ _ (fun v h2 e q => ⟨e, q⟩))
section
variable {d x : Nat} {Q : zQ} {h : zH}
theorem b_26 (hx : Nat.blt (zSh x).1 13 = true) (H : Q none h) : zcl (d + 1) 26 0 0 [zr x] h Q :=
  zen0 rfl rfl (fun B Q1 hQ => zgo [] 3 (And.intro (Nat.le_of_ble_eq_true rfl) (hQ _ _ rfl H)))
theorem b_64 (hx : Nat.blt (zSh x).1 13 = true) (H : Q none h) : zcl (d + 1) 64 0 0 [zr x] h Q :=
  zen0 rfl rfl (fun B Q1 hQ => zgo [] 3 (And.intro (Nat.le_of_ble_eq_true rfl) (hQ _ _ rfl H)))
theorem b_10 (hx : Nat.blt (zSh x).1 13 = true) (H : Q none h) : zcl (d + 2) 10 0 0 [zr x] h Q :=
  zen0 rfl rfl (fun B Q1 hQ => zgo [4] 2 (And.intro (Nat.le_of_ble_eq_true hx) (And.intro (Nat.le_of_ble_eq_true rfl) (Exists.intro 0 (Exists.intro 0 (And.intro (Or.inl rfl) (And.intro (Or.inl rfl) (b_64 hx (zgo [] 1 (hQ _ _ rfl H))))))))))
theorem b_4 (hx : Nat.blt (zSh x).1 13 = true) (H : Q none h) : zcl (d + 2) 4 0 0 [zr x] h Q :=
  zen0 rfl rfl (fun B Q1 hQ => zgo [4] 2 (And.intro (Nat.le_of_ble_eq_true hx) (And.intro (Nat.le_of_ble_eq_true rfl) (Exists.intro 0 (Exists.intro 0 (And.intro (Or.inl rfl) (And.intro (Or.inl rfl) (b_64 hx (zgo [] 1 (hQ _ _ rfl H))))))))))
theorem b_30 (hx : Nat.blt (zSh x).1 13 = true) (H : Q none h) : zcl (d + 2) 30 0 0 [zr x] h Q :=
  zen0 rfl rfl (fun B Q1 hQ => zgo [4] 2 (And.intro (Nat.le_of_ble_eq_true hx) (And.intro (Nat.le_of_ble_eq_true rfl) (Exists.intro 0 (Exists.intro 0 (And.intro (Or.inl rfl) (And.intro (Or.inl rfl) (b_64 hx (zgo [] 1 (hQ _ _ rfl H))))))))))
theorem b_16 (hx : Nat.blt (zSh x).1 13 = true) (H : Q none h) : zcl (d + 3) 16 0 0 [zr x] h Q :=
  zen0 rfl rfl (fun B Q1 hQ => zgo [4] 2 (And.intro (Nat.le_of_ble_eq_true hx) (And.intro (Nat.le_of_ble_eq_true rfl) (Exists.intro 0 (Exists.intro 0 (And.intro (Or.inl rfl) (And.intro (Or.inl rfl) (b_10 hx (zgo [] 1 (hQ _ _ rfl H))))))))))
theorem b_21 (hx : Nat.blt (zSh x).1 13 = true) (H : Q none h) : zcl (d + 3) 21 0 0 [zr x] h Q :=
  zen0 rfl rfl (fun B Q1 hQ => zgo [4] 2 (And.intro (Nat.le_of_ble_eq_true hx) (And.intro (Nat.le_of_ble_eq_true rfl) (Exists.intro 0 (Exists.intro 0 (And.intro (Or.inl rfl) (And.intro (Or.inl rfl) (b_4 hx (zgo [] 1 (hQ _ _ rfl H))))))))))
end
theorem b_x11_0 {d : Nat} {Q : zQ} {L : Nat} {I : zI} {R : Nat → Nat → Option Nat}
    (t : zRn (zcl d) 76 (67, 2206) Q 10 [some (zr 0), none] [zr 1, zr 0] ((2, 13 + 6, L), (z1 I 1 0), (z1 R 1 none))) :
    zRn (zcl d) 76 (67, 2206) Q 0 [some (zr 0), none] [] ((1, 13, L), I, R) :=
  zgo [10, 17, 21, 28, 32, 39, 43, 52, 61, 69, 77, 88, 92, 101, 105, 114, 118, 127, 131, 140, 144, 153, 157, 173, 177, 200, 204, 215, 225, 252, 272] 5 (And.intro (Nat.le_of_ble_eq_true rfl) ((And.intro (by decide : (0 : Int) ≤ 6 ∧ (6 : Int) < 1000) ((And.intro (by decide : zSh 1 = (104, 6)) (And.intro (Nat.le_of_ble_eq_true rfl : 1 + 1 ≤ 67) (And.intro (Nat.le_of_ble_eq_true rfl : 13 + 6 ≤ 2206) (And.intro (Nat.le_of_ble_eq_true rfl : 1 + 1 ≤ 1000) (t)))))))))
theorem b_x11_10 {d : Nat} {Q : zQ} {L : Nat} {I : zI} {R : Nat → Nat → Option Nat}
    (t : zRn (zcl d) 76 (67, 2206) Q 17 [some (zr 0), none] [zr 2, zr 0] ((3, 19 + 7, L), (z1 I 2 0), (z1 (z2 R 0 0 (some 1)) 2 none))) :
    zRn (zcl d) 76 (67, 2206) Q 10 [some (zr 0), none] [zr 1, zr 0] ((2, 19, L), I, R) :=
  zgo [10, 17, 21, 28, 32, 39, 43, 52, 61, 69, 77, 88, 92, 101, 105, 114, 118, 127, 131, 140, 144, 153, 157, 173, 177, 200, 204, 215, 225, 252, 272] 3 (And.intro (by decide : (zSh 0).1 = 11) ((And.intro (by decide : zSh 2 = (0, 7)) (And.intro (Nat.le_of_ble_eq_true rfl : 2 + 1 ≤ 67) (And.intro (Nat.le_of_ble_eq_true rfl : 19 + 7 ≤ 2206) (And.intro (Nat.le_of_ble_eq_true rfl : 2 + 1 ≤ 1000) (t)))))))
theorem b_x0_2_0 {d : Nat} {Q : zQ} {L : Nat} {I : zI} {R : Nat → Nat → Option Nat}
    (t : zRn (zcl d) 0 (10, 64) Q 9 [some (zr 2), none] [zr 3, zr 2] ((4, 26 + 5, L), (z1 I 3 0), (z1 R 3 none))) :
    zRn (zcl d) 0 (10, 64) Q 0 [some (zr 2), none] [] ((3, 26, L), I, R) :=
  zgo [9, 17, 35, 39] 5 (And.intro (Nat.le_of_ble_eq_true rfl) ((And.intro (by decide : (0 : Int) ≤ 5 ∧ (5 : Int) < 1000) ((And.intro (by decide : zSh 3 = (102, 5)) (And.intro (Nat.le_of_ble_eq_true rfl : 3 + 1 ≤ 10) (And.intro (Nat.le_of_ble_eq_true rfl : 26 + 5 ≤ 64) (And.intro (Nat.le_of_ble_eq_true rfl : 3 + 1 ≤ 1000) (t)))))))))
theorem b_x0_2_9 {d : Nat} {Q : zQ} {L : Nat} {I : zI} {R : Nat → Nat → Option Nat}
    (t : zRn (zcl d) 0 (10, 64) Q 17 [some (zr 2), none] [zr 4, zr 2] ((5, 31 + 8, L), (z1 I 4 0), (z1 (z2 R 2 0 (some 3)) 4 none))) :
    zRn (zcl d) 0 (10, 64) Q 9 [some (zr 2), none] [zr 3, zr 2] ((4, 31, L), I, R) :=
  zgo [9, 17, 35, 39] 4 (And.intro (by decide : (zSh 2).1 = 0) ((And.intro (by decide : (0 : Int) ≤ 8 ∧ (8 : Int) < 1000) ((And.intro (by decide : zSh 4 = (100, 8)) (And.intro (Nat.le_of_ble_eq_true rfl : 4 + 1 ≤ 10) (And.intro (Nat.le_of_ble_eq_true rfl : 31 + 8 ≤ 64) (And.intro (Nat.le_of_ble_eq_true rfl : 4 + 1 ≤ 1000) (t)))))))))
theorem b_x0_2_17 {d : Nat} {Q : zQ} {L : Nat} {I : zI} {R : Nat → Nat → Option Nat}
    (t : ((z2 R 2 1 (some 4)) 2 0 = some 3) ∧ (zRn (zcl d) 0 (10, 64) Q 35 [some (zr 2), some (zi 0)] [zr 5, zi 0, zr 3] ((6, 39 + 5, L), (z1 I 5 0), (z1 (z2 R 2 1 (some 4)) 5 none)))) :
    zRn (zcl d) 0 (10, 64) Q 17 [some (zr 2), none] [zr 4, zr 2] ((5, 39, L), I, R) :=
  zgo [9, 17, 35, 39] 10 (And.intro (by decide : (zSh 2).1 = 0) ((And.intro (fun n => absurd n (by decide : ¬ ((5 : Int) ≤ 0))) (fun _ => (And.intro (by decide : (zSh 2).1 = 0) (Exists.intro (some 3) (And.intro t.1 ((And.intro (by decide : zSh 5 = (5, 5)) (And.intro (Nat.le_of_ble_eq_true rfl : 5 + 1 ≤ 10) (And.intro (Nat.le_of_ble_eq_true rfl : 39 + 5 ≤ 64) (And.intro (Nat.le_of_ble_eq_true rfl : 5 + 1 ≤ 1000) (t.2)))))))))))))
theorem b_x0_2_35 {d : Nat} {Q : zQ} {L : Nat} {I : zI} {R : Nat → Nat → Option Nat}
    (t : zcl d 26 0 0 [zr 5] ((6, 44, L), I, R) (fun v h1 => zRn (zcl d) 0 (10, 64) Q 39 [some (zr 2), some (zi 0)] (zva v [zr 5, zi 0, zr 3]) h1)) :
    zRn (zcl d) 0 (10, 64) Q 35 [some (zr 2), some (zi 0)] [zr 5, zi 0, zr 3] ((6, 44, L), I, R) :=
  zgo [9, 17, 35, 39] 2 (And.intro (by decide : (zSh 5).1 < 13) (And.intro (Nat.le_of_ble_eq_true rfl) (Exists.intro 0 (Exists.intro 0 (And.intro (Or.inl rfl) (And.intro (Or.inl rfl) (t)))))))
theorem b_x0_2_39 {d : Nat} {Q : zQ} {L : Nat} {I : zI} {R : Nat → Nat → Option Nat}
    (t : ((z2 R 3 0 (some 5)) 2 0 = some 3) ∧ (zRn (zcl d) 0 (10, 64) Q 35 [some (zr 2), some (zi 1)] [zr 6, zi 1, zr 3] ((7, 44 + 5, L), (z1 I 6 0), (z1 (z2 R 3 0 (some 5)) 6 none)))) :
    zRn (zcl d) 0 (10, 64) Q 39 [some (zr 2), some (zi 0)] [zr 5, zi 0, zr 3] ((6, 44, L), I, R) :=
  zgo [9, 17, 35, 39] 10 (And.intro (by decide : zfit (zSh 3).1 (zSh 5).1 = true) (And.intro (by decide : (0 : Int) ≤ 0 ∧ (0 : Int) < ((zSh 3).2 : Nat)) ((And.intro (fun n => absurd n (by decide : ¬ ((5 : Int) ≤ 1))) (fun _ => (And.intro (by decide : (zSh 2).1 = 0) (Exists.intro (some 3) (And.intro t.1 ((And.intro (by decide : zSh 6 = (5, 5)) (And.intro (Nat.le_of_ble_eq_true rfl : 6 + 1 ≤ 10) (And.intro (Nat.le_of_ble_eq_true rfl : 44 + 5 ≤ 64) (And.intro (Nat.le_of_ble_eq_true rfl : 6 + 1 ≤ 1000) (t.2))))))))))))))
theorem b_x0_2_35_7 {d : Nat} {Q : zQ} {L : Nat} {I : zI} {R : Nat → Nat → Option Nat}
    (t : zcl d 26 0 0 [zr 6] ((7, 49, L), I, R) (fun v h1 => zRn (zcl d) 0 (10, 64) Q 39 [some (zr 2), some (zi 1)] (zva v [zr 6, zi 1, zr 3]) h1)) :
    zRn (zcl d) 0 (10, 64) Q 35 [some (zr 2), some (zi 1)] [zr 6, zi 1, zr 3] ((7, 49, L), I, R) :=
  zgo [9, 17, 35, 39] 2 (And.intro (by decide : (zSh 6).1 < 13) (And.intro (Nat.le_of_ble_eq_true rfl) (Exists.intro 0 (Exists.intro 0 (And.intro (Or.inl rfl) (And.intro (Or.inl rfl) (t)))))))
theorem b_x0_2_39_7 {d : Nat} {Q : zQ} {L : Nat} {I : zI} {R : Nat → Nat → Option Nat}
    (t : ((z2 R 3 1 (some 6)) 2 0 = some 3) ∧ (zRn (zcl d) 0 (10, 64) Q 35 [some (zr 2), some (zi 2)] [zr 7, zi 2, zr 3] ((8, 49 + 5, L), (z1 I 7 0), (z1 (z2 R 3 1 (some 6)) 7 none)))) :
    zRn (zcl d) 0 (10, 64) Q 39 [some (zr 2), some (zi 1)] [zr 6, zi 1, zr 3] ((7, 49, L), I, R) :=
  zgo [9, 17, 35, 39] 10 (And.intro (by decide : zfit (zSh 3).1 (zSh 6).1 = true) (And.intro (by decide : (0 : Int) ≤ 1 ∧ (1 : Int) < ((zSh 3).2 : Nat)) ((And.intro (fun n => absurd n (by decide : ¬ ((5 : Int) ≤ 2))) (fun _ => (And.intro (by decide : (zSh 2).1 = 0) (Exists.intro (some 3) (And.intro t.1 ((And.intro (by decide : zSh 7 = (5, 5)) (And.intro (Nat.le_of_ble_eq_true rfl : 7 + 1 ≤ 10) (And.intro (Nat.le_of_ble_eq_true rfl : 49 + 5 ≤ 64) (And.intro (Nat.le_of_ble_eq_true rfl : 7 + 1 ≤ 1000) (t.2))))))))))))))
theorem b_x0_2_35_8 {d : Nat} {Q : zQ} {L : Nat} {I : zI} {R : Nat → Nat → Option Nat}
    (t : zcl d 26 0 0 [zr 7] ((8, 54, L), I, R) (fun v h1 => zRn (zcl d) 0 (10, 64) Q 39 [some (zr 2), some (zi 2)] (zva v [zr 7, zi 2, zr 3]) h1)) :
    zRn (zcl d) 0 (10, 64) Q 35 [some (zr 2), some (zi 2)] [zr 7, zi 2, zr 3] ((8, 54, L), I, R) :=
  zgo [9, 17, 35, 39] 2 (And.intro (by decide : (zSh 7).1 < 13) (And.intro (Nat.le_of_ble_eq_true rfl) (Exists.intro 0 (Exists.intro 0 (And.intro (Or.inl rfl) (And.intro (Or.inl rfl) (t)))))))
theorem b_x0_2_39_8 {d : Nat} {Q : zQ} {L : Nat} {I : zI} {R : Nat → Nat → Option Nat}
    (t : ((z2 R 3 2 (some 7)) 2 0 = some 3) ∧ (zRn (zcl d) 0 (10, 64) Q 35 [some (zr 2), some (zi 3)] [zr 8, zi 3, zr 3] ((9, 54 + 5, L), (z1 I 8 0), (z1 (z2 R 3 2 (some 7)) 8 none)))) :
    zRn (zcl d) 0 (10, 64) Q 39 [some (zr 2), some (zi 2)] [zr 7, zi 2, zr 3] ((8, 54, L), I, R) :=
  zgo [9, 17, 35, 39] 10 (And.intro (by decide : zfit (zSh 3).1 (zSh 7).1 = true) (And.intro (by decide : (0 : Int) ≤ 2 ∧ (2 : Int) < ((zSh 3).2 : Nat)) ((And.intro (fun n => absurd n (by decide : ¬ ((5 : Int) ≤ 3))) (fun _ => (And.intro (by decide : (zSh 2).1 = 0) (Exists.intro (some 3) (And.intro t.1 ((And.intro (by decide : zSh 8 = (5, 5)) (And.intro (Nat.le_of_ble_eq_true rfl : 8 + 1 ≤ 10) (And.intro (Nat.le_of_ble_eq_true rfl : 54 + 5 ≤ 64) (And.intro (Nat.le_of_ble_eq_true rfl : 8 + 1 ≤ 1000) (t.2))))))))))))))
theorem b_x0_2_35_9 {d : Nat} {Q : zQ} {L : Nat} {I : zI} {R : Nat → Nat → Option Nat}
    (t : zcl d 26 0 0 [zr 8] ((9, 59, L), I, R) (fun v h1 => zRn (zcl d) 0 (10, 64) Q 39 [some (zr 2), some (zi 3)] (zva v [zr 8, zi 3, zr 3]) h1)) :
    zRn (zcl d) 0 (10, 64) Q 35 [some (zr 2), some (zi 3)] [zr 8, zi 3, zr 3] ((9, 59, L), I, R) :=
  zgo [9, 17, 35, 39] 2 (And.intro (by decide : (zSh 8).1 < 13) (And.intro (Nat.le_of_ble_eq_true rfl) (Exists.intro 0 (Exists.intro 0 (And.intro (Or.inl rfl) (And.intro (Or.inl rfl) (t)))))))
theorem b_x0_2_39_9 {d : Nat} {Q : zQ} {L : Nat} {I : zI} {R : Nat → Nat → Option Nat}
    (t : ((z2 R 3 3 (some 8)) 2 0 = some 3) ∧ (zRn (zcl d) 0 (10, 64) Q 35 [some (zr 2), some (zi 4)] [zr 9, zi 4, zr 3] ((10, 59 + 5, L), (z1 I 9 0), (z1 (z2 R 3 3 (some 8)) 9 none)))) :
    zRn (zcl d) 0 (10, 64) Q 39 [some (zr 2), some (zi 3)] [zr 8, zi 3, zr 3] ((9, 59, L), I, R) :=
  zgo [9, 17, 35, 39] 10 (And.intro (by decide : zfit (zSh 3).1 (zSh 8).1 = true) (And.intro (by decide : (0 : Int) ≤ 3 ∧ (3 : Int) < ((zSh 3).2 : Nat)) ((And.intro (fun n => absurd n (by decide : ¬ ((5 : Int) ≤ 4))) (fun _ => (And.intro (by decide : (zSh 2).1 = 0) (Exists.intro (some 3) (And.intro t.1 ((And.intro (by decide : zSh 9 = (5, 5)) (And.intro (Nat.le_of_ble_eq_true rfl : 9 + 1 ≤ 10) (And.intro (Nat.le_of_ble_eq_true rfl : 59 + 5 ≤ 64) (And.intro (Nat.le_of_ble_eq_true rfl : 9 + 1 ≤ 1000) (t.2))))))))))))))
theorem b_x0_2_35_10 {d : Nat} {Q : zQ} {L : Nat} {I : zI} {R : Nat → Nat → Option Nat}
    (t : zcl d 26 0 0 [zr 9] ((10, 64, L), I, R) (fun v h1 => zRn (zcl d) 0 (10, 64) Q 39 [some (zr 2), some (zi 4)] (zva v [zr 9, zi 4, zr 3]) h1)) :
    zRn (zcl d) 0 (10, 64) Q 35 [some (zr 2), some (zi 4)] [zr 9, zi 4, zr 3] ((10, 64, L), I, R) :=
  zgo [9, 17, 35, 39] 2 (And.intro (by decide : (zSh 9).1 < 13) (And.intro (Nat.le_of_ble_eq_true rfl) (Exists.intro 0 (Exists.intro 0 (And.intro (Or.inl rfl) (And.intro (Or.inl rfl) (t)))))))
theorem b_x0_2_39_10 {d : Nat} {Q : zQ} {L : Nat} {I : zI} {R : Nat → Nat → Option Nat}
    (t : Q none ((10, 64, L), I, (z2 R 3 4 (some 9)))) :
    zRn (zcl d) 0 (10, 64) Q 39 [some (zr 2), some (zi 4)] [zr 9, zi 4, zr 3] ((10, 64, L), I, R) :=
  zgo [9, 17, 35, 39] 7 (And.intro (by decide : zfit (zSh 3).1 (zSh 9).1 = true) (And.intro (by decide : (0 : Int) ≤ 4 ∧ (4 : Int) < ((zSh 3).2 : Nat)) ((And.intro (fun _ => t) (fun n => absurd (by decide : (5 : Int) ≤ 5) n)))))
theorem k_x0_2 {d : Nat} {Q : zQ} {L : Nat} {I : zI} {R : Nat → Nat → Option Nat} (H : Q none ((10, 64, L), (z1 (z1 (z1 (z1 (z1 (z1 (z1 I 3 0) 4 0) 5 0) 6 0) 7 0) 8 0) 9 0), (z2 (z1 (z2 (z1 (z2 (z1 (z2 (z1 (z2 (z1 (z2 (z1 (z2 (z1 R 3 none) 2 0 (some 3)) 4 none) 2 1 (some 4)) 5 none) 3 0 (some 5)) 6 none) 3 1 (some 6)) 7 none) 3 2 (some 7)) 8 none) 3 3 (some 8)) 9 none) 3 4 (some 9)))) : zcl (d + 3) 0 7 38 [zr 2] ((3, 26, L), I, R) Q :=
  zenN rfl rfl (fun Q1 hQ => b_x0_2_0 (b_x0_2_9 (b_x0_2_17 ⟨rfl, b_x0_2_35 (b_26 rfl (b_x0_2_39 ⟨rfl, b_x0_2_35_7 (b_26 rfl (b_x0_2_39_7 ⟨rfl, b_x0_2_35_8 (b_26 rfl (b_x0_2_39_8 ⟨rfl, b_x0_2_35_9 (b_26 rfl (b_x0_2_39_9 ⟨rfl, b_x0_2_35_10 (b_26 rfl (b_x0_2_39_10 (hQ _ _ rfl H)))⟩))⟩))⟩))⟩))⟩)))
theorem b_x11_17 {d : Nat} {Q : zQ} {L : Nat} {I : zI} {R : Nat → Nat → Option Nat}
    (t : zcl d 0 7 38 [zr 2] ((3, 26, L), I, R) (fun v h1 => zRn (zcl d) 76 (67, 2206) Q 21 [some (zr 0), none] (zva v [zr 2, zr 0]) h1)) :
    zRn (zcl d) 76 (67, 2206) Q 17 [some (zr 0), none] [zr 2, zr 0] ((3, 26, L), I, R) :=
  zgo [10, 17, 21, 28, 32, 39, 43, 52, 61, 69, 77, 88, 92, 101, 105, 114, 118, 127, 131, 140, 144, 153, 157, 173, 177, 200, 204, 215, 225, 252, 272] 2 (And.intro (by decide : (zSh 2).1 < 13) (And.intro (Nat.le_of_ble_eq_true rfl) (Exists.intro 7 (Exists.intro 38 (And.intro (Or.inr (Nat.le_of_ble_eq_true rfl : 3 + 7 ≤ 67)) (And.intro (Or.inr (Nat.le_of_ble_eq_true rfl : 26 + 38 ≤ 2206)) (t)))))))
theorem b_x11_21 {d : Nat} {Q : zQ} {L : Nat} {I : zI} {R : Nat → Nat → Option Nat}
    (t : zRn (zcl d) 76 (67, 2206) Q 28 [some (zr 0), none] [zr 10, zr 0] ((11, 64 + 7, L), (z1 I 10 0), (z1 (z2 R 0 1 (some 2)) 10 none))) :
    zRn (zcl d) 76 (67, 2206) Q 21 [some (zr 0), none] [zr 2, zr 0] ((10, 64, L), I, R) :=
  zgo [10, 17, 21, 28, 32, 39, 43, 52, 61, 69, 77, 88, 92, 101, 105, 114, 118, 127, 131, 140, 144, 153, 157, 173, 177, 200, 204, 215, 225, 252, 272] 3 (And.intro (by decide : (zSh 0).1 = 11) ((And.intro (by decide : zSh 10 = (0, 7)) (And.intro (Nat.le_of_ble_eq_true rfl : 10 + 1 ≤ 67) (And.intro (Nat.le_of_ble_eq_true rfl : 64 + 7 ≤ 2206) (And.intro (Nat.le_of_ble_eq_true rfl : 10 + 1 ≤ 1000) (t)))))))
theorem b_x0_10_0 {d : Nat} {Q : zQ} {L : Nat} {I : zI} {R : Nat → Nat → Option Nat}
    (t : zRn (zcl d) 0 (18, 109) Q 9 [some (zr 10), none] [zr 11, zr 10] ((12, 71 + 5, L), (z1 I 11 0), (z1 R 11 none))) :
    zRn (zcl d) 0 (18, 109) Q 0 [some (zr 10), none] [] ((11, 71, L), I, R) :=
  zgo [9, 17, 35, 39] 5 (And.intro (Nat.le_of_ble_eq_true rfl) ((And.intro (by decide : (0 : Int) ≤ 5 ∧ (5 : Int) < 1000) ((And.intro (by decide : zSh 11 = (102, 5)) (And.intro (Nat.le_of_ble_eq_true rfl : 11 + 1 ≤ 18) (And.intro (Nat.le_of_ble_eq_true rfl : 71 + 5 ≤ 109) (And.intro (Nat.le_of_ble_eq_true rfl : 11 + 1 ≤ 1000) (t)))))))))
theorem b_x0_10_9 {d : Nat} {Q : zQ} {L : Nat} {I : zI} {R : Nat → Nat → Option Nat}
    (t : zRn (zcl d) 0 (18, 109) Q 17 [some (zr 10), none] [zr 12, zr 10] ((13, 76 + 8, L), (z1 I 12 0), (z1 (z2 R 10 0 (some 11)) 12 none))) :
    zRn (zcl d) 0 (18, 109) Q 9 [some (zr 10), none] [zr 11, zr 10] ((12, 76, L), I, R) :=
  zgo [9, 17, 35, 39] 4 (And.intro (by decide : (zSh 10).1 = 0) ((And.intro (by decide : (0 : Int) ≤ 8 ∧ (8 : Int) < 1000) ((And.intro (by decide : zSh 12 = (100, 8)) (And.intro (Nat.le_of_ble_eq_true rfl : 12 + 1 ≤ 18) (And.intro (Nat.le_of_ble_eq_true rfl : 76 + 8 ≤ 109) (And.intro (Nat.le_of_ble_eq_true rfl : 12 + 1 ≤ 1000) (t)))))))))
theorem b_x0_10_17 {d : Nat} {Q : zQ} {L : Nat} {I : zI} {R : Nat → Nat → Option Nat}
    (t : ((z2 R 10 1 (some 12)) 10 0 = some 11) ∧ (zRn (zcl d) 0 (18, 109) Q 35 [some (zr 10), some (zi 0)] [zr 13, zi 0, zr 11] ((14, 84 + 5, L), (z1 I 13 0), (z1 (z2 R 10 1 (some 12)) 13 none)))) :
    zRn (zcl d) 0 (18, 109) Q 17 [some (zr 10), none] [zr 12, zr 10] ((13, 84, L), I, R) :=
  zgo [9, 17, 35, 39] 10 (And.intro (by decide : (zSh 10).1 = 0) ((And.intro (fun n => absurd n (by decide : ¬ ((5 : Int) ≤ 0))) (fun _ => (And.intro (by decide : (zSh 10).1 = 0) (Exists.intro (some 11) (And.intro t.1 ((And.intro (by decide : zSh 13 = (5, 5)) (And.intro (Nat.le_of_ble_eq_true rfl : 13 + 1 ≤ 18) (And.intro (Nat.le_of_ble_eq_true rfl : 84 + 5 ≤ 109) (And.intro (Nat.le_of_ble_eq_true rfl : 13 + 1 ≤ 1000) (t.2)))))))))))))
theorem b_x0_10_35 {d : Nat} {Q : zQ} {L : Nat} {I : zI} {R : Nat → Nat → Option Nat}
    (t : zcl d 26 0 0 [zr 13] ((14, 89, L), I, R) (fun v h1 => zRn (zcl d) 0 (18, 109) Q 39 [some (zr 10), some (zi 0)] (zva v [zr 13, zi 0, zr 11]) h1)) :
    zRn (zcl d) 0 (18, 109) Q 35 [some (zr 10), some (zi 0)] [zr 13, zi 0, zr 11] ((14, 89, L), I, R) :=
  zgo [9, 17, 35, 39] 2 (And.intro (by decide : (zSh 13).1 < 13) (And.intro (Nat.le_of_ble_eq_true rfl) (Exists.intro 0 (Exists.intro 0 (And.intro (Or.inl rfl) (And.intro (Or.inl rfl) (t)))))))
theorem b_x0_10_39 {d : Nat} {Q : zQ} {L : Nat} {I : zI} {R : Nat → Nat → Option Nat}
    (t : ((z2 R 11 0 (some 13)) 10 0 = some 11) ∧ (zRn (zcl d) 0 (18, 109) Q 35 [some (zr 10), some (zi 1)] [zr 14, zi 1, zr 11] ((15, 89 + 5, L), (z1 I 14 0), (z1 (z2 R 11 0 (some 13)) 14 none)))) :
    zRn (zcl d) 0 (18, 109) Q 39 [some (zr 10), some (zi 0)] [zr 13, zi 0, zr 11] ((14, 89, L), I, R) :=
  zgo [9, 17, 35, 39] 10 (And.intro (by decide : zfit (zSh 11).1 (zSh 13).1 = true) (And.intro (by decide : (0 : Int) ≤ 0 ∧ (0 : Int) < ((zSh 11).2 : Nat)) ((And.intro (fun n => absurd n (by decide : ¬ ((5 : Int) ≤ 1))) (fun _ => (And.intro (by decide : (zSh 10).1 = 0) (Exists.intro (some 11) (And.intro t.1 ((And.intro (by decide : zSh 14 = (5, 5)) (And.intro (Nat.le_of_ble_eq_true rfl : 14 + 1 ≤ 18) (And.intro (Nat.le_of_ble_eq_true rfl : 89 + 5 ≤ 109) (And.intro (Nat.le_of_ble_eq_true rfl : 14 + 1 ≤ 1000) (t.2))))))))))))))
theorem b_x0_10_35_15 {d : Nat} {Q : zQ} {L : Nat} {I : zI} {R : Nat → Nat → Option Nat}
    (t : zcl d 26 0 0 [zr 14] ((15, 94, L), I, R) (fun v h1 => zRn (zcl d) 0 (18, 109) Q 39 [some (zr 10), some (zi 1)] (zva v [zr 14, zi 1, zr 11]) h1)) :
    zRn (zcl d) 0 (18, 109) Q 35 [some (zr 10), some (zi 1)] [zr 14, zi 1, zr 11] ((15, 94, L), I, R) :=
  zgo [9, 17, 35, 39] 2 (And.intro (by decide : (zSh 14).1 < 13) (And.intro (Nat.le_of_ble_eq_true rfl) (Exists.intro 0 (Exists.intro 0 (And.intro (Or.inl rfl) (And.intro (Or.inl rfl) (t)))))))
theorem b_x0_10_39_15 {d : Nat} {Q : zQ} {L : Nat} {I : zI} {R : Nat → Nat → Option Nat}
    (t : ((z2 R 11 1 (some 14)) 10 0 = some 11) ∧ (zRn (zcl d) 0 (18, 109) Q 35 [some (zr 10), some (zi 2)] [zr 15, zi 2, zr 11] ((16, 94 + 5, L), (z1 I 15 0), (z1 (z2 R 11 1 (some 14)) 15 none)))) :
    zRn (zcl d) 0 (18, 109) Q 39 [some (zr 10), some (zi 1)] [zr 14, zi 1, zr 11] ((15, 94, L), I, R) :=
  zgo [9, 17, 35, 39] 10 (And.intro (by decide : zfit (zSh 11).1 (zSh 14).1 = true) (And.intro (by decide : (0 : Int) ≤ 1 ∧ (1 : Int) < ((zSh 11).2 : Nat)) ((And.intro (fun n => absurd n (by decide : ¬ ((5 : Int) ≤ 2))) (fun _ => (And.intro (by decide : (zSh 10).1 = 0) (Exists.intro (some 11) (And.intro t.1 ((And.intro (by decide : zSh 15 = (5, 5)) (And.intro (Nat.le_of_ble_eq_true rfl : 15 + 1 ≤ 18) (And.intro (Nat.le_of_ble_eq_true rfl : 94 + 5 ≤ 109) (And.intro (Nat.le_of_ble_eq_true rfl : 15 + 1 ≤ 1000) (t.2))))))))))))))
theorem b_x0_10_35_16 {d : Nat} {Q : zQ} {L : Nat} {I : zI} {R : Nat → Nat → Option Nat}
    (t : zcl d 26 0 0 [zr 15] ((16, 99, L), I, R) (fun v h1 => zRn (zcl d) 0 (18, 109) Q 39 [some (zr 10), some (zi 2)] (zva v [zr 15, zi 2, zr 11]) h1)) :
    zRn (zcl d) 0 (18, 109) Q 35 [some (zr 10), some (zi 2)] [zr 15, zi 2, zr 11] ((16, 99, L), I, R) :=
  zgo [9, 17, 35, 39] 2 (And.intro (by decide : (zSh 15).1 < 13) (And.intro (Nat.le_of_ble_eq_true rfl) (Exists.intro 0 (Exists.intro 0 (And.intro (Or.inl rfl) (And.intro (Or.inl rfl) (t)))))))
theorem b_x0_10_39_16 {d : Nat} {Q : zQ} {L : Nat} {I : zI} {R : Nat → Nat → Option Nat}
    (t : ((z2 R 11 2 (some 15)) 10 0 = some 11) ∧ (zRn (zcl d) 0 (18, 109) Q 35 [some (zr 10), some (zi 3)] [zr 16, zi 3, zr 11] ((17, 99 + 5, L), (z1 I 16 0), (z1 (z2 R 11 2 (some 15)) 16 none)))) :
    zRn (zcl d) 0 (18, 109) Q 39 [some (zr 10), some (zi 2)] [zr 15, zi 2, zr 11] ((16, 99, L), I, R) :=
  zgo [9, 17, 35, 39] 10 (And.intro (by decide : zfit (zSh 11).1 (zSh 15).1 = true) (And.intro (by decide : (0 : Int) ≤ 2 ∧ (2 : Int) < ((zSh 11).2 : Nat)) ((And.intro (fun n => absurd n (by decide : ¬ ((5 : Int) ≤ 3))) (fun _ => (And.intro (by decide : (zSh 10).1 = 0) (Exists.intro (some 11) (And.intro t.1 ((And.intro (by decide : zSh 16 = (5, 5)) (And.intro (Nat.le_of_ble_eq_true rfl : 16 + 1 ≤ 18) (And.intro (Nat.le_of_ble_eq_true rfl : 99 + 5 ≤ 109) (And.intro (Nat.le_of_ble_eq_true rfl : 16 + 1 ≤ 1000) (t.2))))))))))))))
theorem b_x0_10_35_17 {d : Nat} {Q : zQ} {L : Nat} {I : zI} {R : Nat → Nat → Option Nat}
    (t : zcl d 26 0 0 [zr 16] ((17, 104, L), I, R) (fun v h1 => zRn (zcl d) 0 (18, 109) Q 39 [some (zr 10), some (zi 3)] (zva v [zr 16, zi 3, zr 11]) h1)) :
    zRn (zcl d) 0 (18, 109) Q 35 [some (zr 10), some (zi 3)] [zr 16, zi 3, zr 11] ((17, 104, L), I, R) :=
  zgo [9, 17, 35, 39] 2 (And.intro (by decide : (zSh 16).1 < 13) (And.intro (Nat.le_of_ble_eq_true rfl) (Exists.intro 0 (Exists.intro 0 (And.intro (Or.inl rfl) (And.intro (Or.inl rfl) (t)))))))
theorem b_x0_10_39_17 {d : Nat} {Q : zQ} {L : Nat} {I : zI} {R : Nat → Nat → Option Nat}
    (t : ((z2 R 11 3 (some 16)) 10 0 = some 11) ∧ (zRn (zcl d) 0 (18, 109) Q 35 [some (zr 10), some (zi 4)] [zr 17, zi 4, zr 11] ((18, 104 + 5, L), (z1 I 17 0), (z1 (z2 R 11 3 (some 16)) 17 none)))) :
    zRn (zcl d) 0 (18, 109) Q 39 [some (zr 10), some (zi 3)] [zr 16, zi 3, zr 11] ((17, 104, L), I, R) :=
  zgo [9, 17, 35, 39] 10 (And.intro (by decide : zfit (zSh 11).1 (zSh 16).1 = true) (And.intro (by decide : (0 : Int) ≤ 3 ∧ (3 : Int) < ((zSh 11).2 : Nat)) ((And.intro (fun n => absurd n (by decide : ¬ ((5 : Int) ≤ 4))) (fun _ => (And.intro (by decide : (zSh 10).1 = 0) (Exists.intro (some 11) (And.intro t.1 ((And.intro (by decide : zSh 17 = (5, 5)) (And.intro (Nat.le_of_ble_eq_true rfl : 17 + 1 ≤ 18) (And.intro (Nat.le_of_ble_eq_true rfl : 104 + 5 ≤ 109) (And.intro (Nat.le_of_ble_eq_true rfl : 17 + 1 ≤ 1000) (t.2))))))))))))))
theorem b_x0_10_35_18 {d : Nat} {Q : zQ} {L : Nat} {I : zI} {R : Nat → Nat → Option Nat}
    (t : zcl d 26 0 0 [zr 17] ((18, 109, L), I, R) (fun v h1 => zRn (zcl d) 0 (18, 109) Q 39 [some (zr 10), some (zi 4)] (zva v [zr 17, zi 4, zr 11]) h1)) :
    zRn (zcl d) 0 (18, 109) Q 35 [some (zr 10), some (zi 4)] [zr 17, zi 4, zr 11] ((18, 109, L), I, R) :=
  zgo [9, 17, 35, 39] 2 (And.intro (by decide : (zSh 17).1 < 13) (And.intro (Nat.le_of_ble_eq_true rfl) (Exists.intro 0 (Exists.intro 0 (And.intro (Or.inl rfl) (And.intro (Or.inl rfl) (t)))))))
theorem b_x0_10_39_18 {d : Nat} {Q : zQ} {L : Nat} {I : zI} {R : Nat → Nat → Option Nat}
    (t : Q none ((18, 109, L), I, (z2 R 11 4 (some 17)))) :
    zRn (zcl d) 0 (18, 109) Q 39 [some (zr 10), some (zi 4)] [zr 17, zi 4, zr 11] ((18, 109, L), I, R) :=
  zgo [9, 17, 35, 39] 7 (And.intro (by decide : zfit (zSh 11).1 (zSh 17).1 = true) (And.intro (by decide : (0 : Int) ≤ 4 ∧ (4 : Int) < ((zSh 11).2 : Nat)) ((And.intro (fun _ => t) (fun n => absurd (by decide : (5 : Int) ≤ 5) n)))))
theorem k_x0_10 {d : Nat} {Q : zQ} {L : Nat} {I : zI} {R : Nat → Nat → Option Nat} (H : Q none ((18, 109, L), (z1 (z1 (z1 (z1 (z1 (z1 (z1 I 11 0) 12 0) 13 0) 14 0) 15 0) 16 0) 17 0), (z2 (z1 (z2 (z1 (z2 (z1 (z2 (z1 (z2 (z1 (z2 (z1 (z2 (z1 R 11 none) 10 0 (some 11)) 12 none) 10 1 (some 12)) 13 none) 11 0 (some 13)) 14 none) 11 1 (some 14)) 15 none) 11 2 (some 15)) 16 none) 11 3 (some 16)) 17 none) 11 4 (some 17)))) : zcl (d + 3) 0 7 38 [zr 10] ((11, 71, L), I, R) Q :=
  zenN rfl rfl (fun Q1 hQ => b_x0_10_0 (b_x0_10_9 (b_x0_10_17 ⟨rfl, b_x0_10_35 (b_26 rfl (b_x0_10_39 ⟨rfl, b_x0_10_35_15 (b_26 rfl (b_x0_10_39_15 ⟨rfl, b_x0_10_35_16 (b_26 rfl (b_x0_10_39_16 ⟨rfl, b_x0_10_35_17 (b_26 rfl (b_x0_10_39_17 ⟨rfl, b_x0_10_35_18 (b_26 rfl (b_x0_10_39_18 (hQ _ _ rfl H)))⟩))⟩))⟩))⟩))⟩)))
theorem b_x11_28 {d : Nat} {Q : zQ} {L : Nat} {I : zI} {R : Nat → Nat → Option Nat}
    (t : zcl d 0 7 38 [zr 10] ((11, 71, L), I, R) (fun v h1 => zRn (zcl d) 76 (67, 2206) Q 32 [some (zr 0), none] (zva v [zr 10, zr 0]) h1)) :
    zRn (zcl d) 76 (67, 2206) Q 28 [some (zr 0), none] [zr 10, zr 0] ((11, 71, L), I, R) :=
  zgo [10, 17, 21, 28, 32, 39, 43, 52, 61, 69, 77, 88, 92, 101, 105, 114, 118, 127, 131, 140, 144, 153, 157, 173, 177, 200, 204, 215, 225, 252, 272] 2 (And.intro (by decide : (zSh 10).1 < 13) (And.intro (Nat.le_of_ble_eq_true rfl) (Exists.intro 7 (Exists.intro 38 (And.intro (Or.inr (Nat.le_of_ble_eq_true rfl : 11 + 7 ≤ 67)) (And.intro (Or.inr (Nat.le_of_ble_eq_true rfl : 71 + 38 ≤ 2206)) (t)))))))
theorem b_x11_32 {d : Nat} {Q : zQ} {L : Nat} {I : zI} {R : Nat → Nat → Option Nat}
    (t : zRn (zcl d) 76 (67, 2206) Q 39 [some (zr 0), none] [zr 18, zr 0] ((19, 109 + 7, L), (z1 I 18 0), (z1 (z2 R 0 2 (some 10)) 18 none))) :
    zRn (zcl d) 76 (67, 2206) Q 32 [some (zr 0), none] [zr 10, zr 0] ((18, 109, L), I, R) :=
  zgo [10, 17, 21, 28, 32, 39, 43, 52, 61, 69, 77, 88, 92, 101, 105, 114, 118, 127, 131, 140, 144, 153, 157, 173, 177, 200, 204, 215, 225, 252, 272] 3 (And.intro (by decide : (zSh 0).1 = 11) ((And.intro (by decide : zSh 18 = (0, 7)) (And.intro (Nat.le_of_ble_eq_true rfl : 18 + 1 ≤ 67) (And.intro (Nat.le_of_ble_eq_true rfl : 109 + 7 ≤ 2206) (And.intro (Nat.le_of_ble_eq_true rfl : 18 + 1 ≤ 1000) (t)))))))
theorem b_x0_18_0 {d : Nat} {Q : zQ} {L : Nat} {I : zI} {R : Nat → Nat → Option Nat}
    (t : zRn (zcl d) 0 (26, 154) Q 9 [some (zr 18), none] [zr 19, zr 18] ((20, 116 + 5, L), (z1 I 19 0), (z1 R 19 none))) :
    zRn (zcl d) 0 (26, 154) Q 0 [some (zr 18), none] [] ((19, 116, L), I, R) :=
  zgo [9, 17, 35, 39] 5 (And.intro (Nat.le_of_ble_eq_true rfl) ((And.intro (by decide : (0 : Int) ≤ 5 ∧ (5 : Int) < 1000) ((And.intro (by decide : zSh 19 = (102, 5)) (And.intro (Nat.le_of_ble_eq_true rfl : 19 + 1 ≤ 26) (And.intro (Nat.le_of_ble_eq_true rfl : 116 + 5 ≤ 154) (And.intro (Nat.le_of_ble_eq_true rfl : 19 + 1 ≤ 1000) (t)))))))))
theorem b_x0_18_9 {d : Nat} {Q : zQ} {L : Nat} {I : zI} {R : Nat → Nat → Option Nat}
    (t : zRn (zcl d) 0 (26, 154) Q 17 [some (zr 18), none] [zr 20, zr 18] ((21, 121 + 8, L), (z1 I 20 0), (z1 (z2 R 18 0 (some 19)) 20 none))) :
    zRn (zcl d) 0 (26, 154) Q 9 [some (zr 18), none] [zr 19, zr 18] ((20, 121, L), I, R) :=
  zgo [9, 17, 35, 39] 4 (And.intro (by decide : (zSh 18).1 = 0) ((And.intro (by decide : (0 : Int) ≤ 8 ∧ (8 : Int) < 1000) ((And.intro (by decide : zSh 20 = (100, 8)) (And.intro (Nat.le_of_ble_eq_true rfl : 20 + 1 ≤ 26) (And.intro (Nat.le_of_ble_eq_true rfl : 121 + 8 ≤ 154) (And.intro (Nat.le_of_ble_eq_true rfl : 20 + 1 ≤ 1000) (t)))))))))
theorem b_x0_18_17 {d : Nat} {Q : zQ} {L : Nat} {I : zI} {R : Nat → Nat → Option Nat}
    (t : ((z2 R 18 1 (some 20)) 18 0 = some 19) ∧ (zRn (zcl d) 0 (26, 154) Q 35 [some (zr 18), some (zi 0)] [zr 21, zi 0, zr 19] ((22, 129 + 5, L), (z1 I 21 0), (z1 (z2 R 18 1 (some 20)) 21 none)))) :
    zRn (zcl d) 0 (26, 154) Q 17 [some (zr 18), none] [zr 20, zr 18] ((21, 129, L), I, R) :=
  zgo [9, 17, 35, 39] 10 (And.intro (by decide : (zSh 18).1 = 0) ((And.intro (fun n => absurd n (by decide : ¬ ((5 : Int) ≤ 0))) (fun _ => (And.intro (by decide : (zSh 18).1 = 0) (Exists.intro (some 19) (And.intro t.1 ((And.intro (by decide : zSh 21 = (5, 5)) (And.intro (Nat.le_of_ble_eq_true rfl : 21 + 1 ≤ 26) (And.intro (Nat.le_of_ble_eq_true rfl : 129 + 5 ≤ 154) (And.intro (Nat.le_of_ble_eq_true rfl : 21 + 1 ≤ 1000) (t.2)))))))))))))
theorem b_x0_18_35 {d : Nat} {Q : zQ} {L : Nat} {I : zI} {R : Nat → Nat → Option Nat}
    (t : zcl d 26 0 0 [zr 21] ((22, 134, L), I, R) (fun v h1 => zRn (zcl d) 0 (26, 154) Q 39 [some (zr 18), some (zi 0)] (zva v [zr 21, zi 0, zr 19]) h1)) :
    zRn (zcl d) 0 (26, 154) Q 35 [some (zr 18), some (zi 0)] [zr 21, zi 0, zr 19] ((22, 134, L), I, R) :=
  zgo [9, 17, 35, 39] 2 (And.intro (by decide : (zSh 21).1 < 13) (And.intro (Nat.le_of_ble_eq_true rfl) (Exists.intro 0 (Exists.intro 0 (And.intro (Or.inl rfl) (And.intro (Or.inl rfl) (t)))))))
theorem b_x0_18_39 {d : Nat} {Q : zQ} {L : Nat} {I : zI} {R : Nat → Nat → Option Nat}
    (t : ((z2 R 19 0 (some 21)) 18 0 = some 19) ∧ (zRn (zcl d) 0 (26, 154) Q 35 [some (zr 18), some (zi 1)] [zr 22, zi 1, zr 19] ((23, 134 + 5, L), (z1 I 22 0), (z1 (z2 R 19 0 (some 21)) 22 none)))) :
    zRn (zcl d) 0 (26, 154) Q 39 [some (zr 18), some (zi 0)] [zr 21, zi 0, zr 19] ((22, 134, L), I, R) :=
  zgo [9, 17, 35, 39] 10 (And.intro (by decide : zfit (zSh 19).1 (zSh 21).1 = true) (And.intro (by decide : (0 : Int) ≤ 0 ∧ (0 : Int) < ((zSh 19).2 : Nat)) ((And.intro (fun n => absurd n (by decide : ¬ ((5 : Int) ≤ 1))) (fun _ => (And.intro (by decide : (zSh 18).1 = 0) (Exists.intro (some 19) (And.intro t.1 ((And.intro (by decide : zSh 22 = (5, 5)) (And.intro (Nat.le_of_ble_eq_true rfl : 22 + 1 ≤ 26) (And.intro (Nat.le_of_ble_eq_true rfl : 134 + 5 ≤ 154) (And.intro (Nat.le_of_ble_eq_true rfl : 22 + 1 ≤ 1000) (t.2))))))))))))))
theorem b_x0_18_35_23 {d : Nat} {Q : zQ} {L : Nat} {I : zI} {R : Nat → Nat → Option Nat}
    (t : zcl d 26 0 0 [zr 22] ((23, 139, L), I, R) (fun v h1 => zRn (zcl d) 0 (26, 154) Q 39 [some (zr 18), some (zi 1)] (zva v [zr 22, zi 1, zr 19]) h1)) :
    zRn (zcl d) 0 (26, 154) Q 35 [some (zr 18), some (zi 1)] [zr 22, zi 1, zr 19] ((23, 139, L), I, R) :=
  zgo [9, 17, 35, 39] 2 (And.intro (by decide : (zSh 22).1 < 13) (And.intro (Nat.le_of_ble_eq_true rfl) (Exists.intro 0 (Exists.intro 0 (And.intro (Or.inl rfl) (And.intro (Or.inl rfl) (t)))))))
theorem b_x0_18_39_23 {d : Nat} {Q : zQ} {L : Nat} {I : zI} {R : Nat → Nat → Option Nat}
    (t : ((z2 R 19 1 (some 22)) 18 0 = some 19) ∧ (zRn (zcl d) 0 (26, 154) Q 35 [some (zr 18), some (zi 2)] [zr 23, zi 2, zr 19] ((24, 139 + 5, L), (z1 I 23 0), (z1 (z2 R 19 1 (some 22)) 23 none)))) :
    zRn (zcl d) 0 (26, 154) Q 39 [some (zr 18), some (zi 1)] [zr 22, zi 1, zr 19] ((23, 139, L), I, R) :=
  zgo [9, 17, 35, 39] 10 (And.intro (by decide : zfit (zSh 19).1 (zSh 22).1 = true) (And.intro (by decide : (0 : Int) ≤ 1 ∧ (1 : Int) < ((zSh 19).2 : Nat)) ((And.intro (fun n => absurd n (by decide : ¬ ((5 : Int) ≤ 2))) (fun _ => (And.intro (by decide : (zSh 18).1 = 0) (Exists.intro (some 19) (And.intro t.1 ((And.intro (by decide : zSh 23 = (5, 5)) (And.intro (Nat.le_of_ble_eq_true rfl : 23 + 1 ≤ 26) (And.intro (Nat.le_of_ble_eq_true rfl : 139 + 5 ≤ 154) (And.intro (Nat.le_of_ble_eq_true rfl : 23 + 1 ≤ 1000) (t.2))))))))))))))
theorem b_x0_18_35_24 {d : Nat} {Q : zQ} {L : Nat} {I : zI} {R : Nat → Nat → Option Nat}
    (t : zcl d 26 0 0 [zr 23] ((24, 144, L), I, R) (fun v h1 => zRn (zcl d) 0 (26, 154) Q 39 [some (zr 18), some (zi 2)] (zva v [zr 23, zi 2, zr 19]) h1)) :
    zRn (zcl d) 0 (26, 154) Q 35 [some (zr 18), some (zi 2)] [zr 23, zi 2, zr 19] ((24, 144, L), I, R) :=
  zgo [9, 17, 35, 39] 2 (And.intro (by decide : (zSh 23).1 < 13) (And.intro (Nat.le_of_ble_eq_true rfl) (Exists.intro 0 (Exists.intro 0 (And.intro (Or.inl rfl) (And.intro (Or.inl rfl) (t)))))))
theorem b_x0_18_39_24 {d : Nat} {Q : zQ} {L : Nat} {I : zI} {R : Nat → Nat → Option Nat}
    (t : ((z2 R 19 2 (some 23)) 18 0 = some 19) ∧ (zRn (zcl d) 0 (26, 154) Q 35 [some (zr 18), some (zi 3)] [zr 24, zi 3, zr 19] ((25, 144 + 5, L), (z1 I 24 0), (z1 (z2 R 19 2 (some 23)) 24 none)))) :
    zRn (zcl d) 0 (26, 154) Q 39 [some (zr 18), some (zi 2)] [zr 23, zi 2, zr 19] ((24, 144, L), I, R) :=
  zgo [9, 17, 35, 39] 10 (And.intro (by decide : zfit (zSh 19).1 (zSh 23).1 = true) (And.intro (by decide : (0 : Int) ≤ 2 ∧ (2 : Int) < ((zSh 19).2 : Nat)) ((And.intro (fun n => absurd n (by decide : ¬ ((5 : Int) ≤ 3))) (fun _ => (And.intro (by decide : (zSh 18).1 = 0) (Exists.intro (some 19) (And.intro t.1 ((And.intro (by decide : zSh 24 = (5, 5)) (And.intro (Nat.le_of_ble_eq_true rfl : 24 + 1 ≤ 26) (And.intro (Nat.le_of_ble_eq_true rfl : 144 + 5 ≤ 154) (And.intro (Nat.le_of_ble_eq_true rfl : 24 + 1 ≤ 1000) (t.2))))))))))))))
theorem b_x0_18_35_25 {d : Nat} {Q : zQ} {L : Nat} {I : zI} {R : Nat → Nat → Option Nat}
    (t : zcl d 26 0 0 [zr 24] ((25, 149, L), I, R) (fun v h1 => zRn (zcl d) 0 (26, 154) Q 39 [some (zr 18), some (zi 3)] (zva v [zr 24, zi 3, zr 19]) h1)) :
    zRn (zcl d) 0 (26, 154) Q 35 [some (zr 18), some (zi 3)] [zr 24, zi 3, zr 19] ((25, 149, L), I, R) :=
  zgo [9, 17, 35, 39] 2 (And.intro (by decide : (zSh 24).1 < 13) (And.intro (Nat.le_of_ble_eq_true rfl) (Exists.intro 0 (Exists.intro 0 (And.intro (Or.inl rfl) (And.intro (Or.inl rfl) (t)))))))
theorem b_x0_18_39_25 {d : Nat} {Q : zQ} {L : Nat} {I : zI} {R : Nat → Nat → Option Nat}
    (t : ((z2 R 19 3 (some 24)) 18 0 = some 19) ∧ (zRn (zcl d) 0 (26, 154) Q 35 [some (zr 18), some (zi 4)] [zr 25, zi 4, zr 19] ((26, 149 + 5, L), (z1 I 25 0), (z1 (z2 R 19 3 (some 24)) 25 none)))) :
    zRn (zcl d) 0 (26, 154) Q 39 [some (zr 18), some (zi 3)] [zr 24, zi 3, zr 19] ((25, 149, L), I, R) :=
  zgo [9, 17, 35, 39] 10 (And.intro (by decide : zfit (zSh 19).1 (zSh 24).1 = true) (And.intro (by decide : (0 : Int) ≤ 3 ∧ (3 : Int) < ((zSh 19).2 : Nat)) ((And.intro (fun n => absurd n (by decide : ¬ ((5 : Int) ≤ 4))) (fun _ => (And.intro (by decide : (zSh 18).1 = 0) (Exists.intro (some 19) (And.intro t.1 ((And.intro (by decide : zSh 25 = (5, 5)) (And.intro (Nat.le_of_ble_eq_true rfl : 25 + 1 ≤ 26) (And.intro (Nat.le_of_ble_eq_true rfl : 149 + 5 ≤ 154) (And.intro (Nat.le_of_ble_eq_true rfl : 25 + 1 ≤ 1000) (t.2))))))))))))))
theorem b_x0_18_35_26 {d : Nat} {Q : zQ} {L : Nat} {I : zI} {R : Nat → Nat → Option Nat}
    (t : zcl d 26 0 0 [zr 25] ((26, 154, L), I, R) (fun v h1 => zRn (zcl d) 0 (26, 154) Q 39 [some (zr 18), some (zi 4)] (zva v [zr 25, zi 4, zr 19]) h1)) :
    zRn (zcl d) 0 (26, 154) Q 35 [some (zr 18), some (zi 4)] [zr 25, zi 4, zr 19] ((26, 154, L), I, R) :=
  zgo [9, 17, 35, 39] 2 (And.intro (by decide : (zSh 25).1 < 13) (And.intro (Nat.le_of_ble_eq_true rfl) (Exists.intro 0 (Exists.intro 0 (And.intro (Or.inl rfl) (And.intro (Or.inl rfl) (t)))))))
theorem b_x0_18_39_26 {d : Nat} {Q : zQ} {L : Nat} {I : zI} {R : Nat → Nat → Option Nat}
    (t : Q none ((26, 154, L), I, (z2 R 19 4 (some 25)))) :
    zRn (zcl d) 0 (26, 154) Q 39 [some (zr 18), some (zi 4)] [zr 25, zi 4, zr 19] ((26, 154, L), I, R) :=
  zgo [9, 17, 35, 39] 7 (And.intro (by decide : zfit (zSh 19).1 (zSh 25).1 = true) (And.intro (by decide : (0 : Int) ≤ 4 ∧ (4 : Int) < ((zSh 19).2 : Nat)) ((And.intro (fun _ => t) (fun n => absurd (by decide : (5 : Int) ≤ 5) n)))))
theorem k_x0_18 {d : Nat} {Q : zQ} {L : Nat} {I : zI} {R : Nat → Nat → Option Nat} (H : Q none ((26, 154, L), (z1 (z1 (z1 (z1 (z1 (z1 (z1 I 19 0) 20 0) 21 0) 22 0) 23 0) 24 0) 25 0), (z2 (z1 (z2 (z1 (z2 (z1 (z2 (z1 (z2 (z1 (z2 (z1 (z2 (z1 R 19 none) 18 0 (some 19)) 20 none) 18 1 (some 20)) 21 none) 19 0 (some 21)) 22 none) 19 1 (some 22)) 23 none) 19 2 (some 23)) 24 none) 19 3 (some 24)) 25 none) 19 4 (some 25)))) : zcl (d + 3) 0 7 38 [zr 18] ((19, 116, L), I, R) Q :=
  zenN rfl rfl (fun Q1 hQ => b_x0_18_0 (b_x0_18_9 (b_x0_18_17 ⟨rfl, b_x0_18_35 (b_26 rfl (b_x0_18_39 ⟨rfl, b_x0_18_35_23 (b_26 rfl (b_x0_18_39_23 ⟨rfl, b_x0_18_35_24 (b_26 rfl (b_x0_18_39_24 ⟨rfl, b_x0_18_35_25 (b_26 rfl (b_x0_18_39_25 ⟨rfl, b_x0_18_35_26 (b_26 rfl (b_x0_18_39_26 (hQ _ _ rfl H)))⟩))⟩))⟩))⟩))⟩)))
theorem b_x11_39 {d : Nat} {Q : zQ} {L : Nat} {I : zI} {R : Nat → Nat → Option Nat}
    (t : zcl d 0 7 38 [zr 18] ((19, 116, L), I, R) (fun v h1 => zRn (zcl d) 76 (67, 2206) Q 43 [some (zr 0), none] (zva v [zr 18, zr 0]) h1)) :
    zRn (zcl d) 76 (67, 2206) Q 39 [some (zr 0), none] [zr 18, zr 0] ((19, 116, L), I, R) :=
  zgo [10, 17, 21, 28, 32, 39, 43, 52, 61, 69, 77, 88, 92, 101, 105, 114, 118, 127, 131, 140, 144, 153, 157, 173, 177, 200, 204, 215, 225, 252, 272] 2 (And.intro (by decide : (zSh 18).1 < 13) (And.intro (Nat.le_of_ble_eq_true rfl) (Exists.intro 7 (Exists.intro 38 (And.intro (Or.inr (Nat.le_of_ble_eq_true rfl : 19 + 7 ≤ 67)) (And.intro (Or.inr (Nat.le_of_ble_eq_true rfl : 116 + 38 ≤ 2206)) (t)))))))
theorem b_x11_43 {d : Nat} {Q : zQ} {L : Nat} {I : zI} {R : Nat → Nat → Option Nat}
    (t : zRn (zcl d) 76 (67, 2206) Q 52 [some (zr 0), none] [zr 26, zr 0] ((27, 154 + 6, L), (z1 I 26 0), (z1 (z2 R 0 3 (some 18)) 26 none))) :
    zRn (zcl d) 76 (67, 2206) Q 43 [some (zr 0), none] [zr 18, zr 0] ((26, 154, L), I, R) :=
  zgo [10, 17, 21, 28, 32, 39, 43, 52, 61, 69, 77, 88, 92, 101, 105, 114, 118, 127, 131, 140, 144, 153, 157, 173, 177, 200, 204, 215, 225, 252, 272] 4 (And.intro (by decide : (zSh 0).1 = 11) ((And.intro (by decide : (0 : Int) ≤ 6 ∧ (6 : Int) < 1000) ((And.intro (by decide : zSh 26 = (105, 6)) (And.intro (Nat.le_of_ble_eq_true rfl : 26 + 1 ≤ 67) (And.intro (Nat.le_of_ble_eq_true rfl : 154 + 6 ≤ 2206) (And.intro (Nat.le_of_ble_eq_true rfl : 26 + 1 ≤ 1000) (t)))))))))
theorem b_x11_52 {d : Nat} {Q : zQ} {L : Nat} {I : zI} {R : Nat → Nat → Option Nat}
    (t : zRn (zcl d) 76 (67, 2206) Q 61 [some (zr 0), none] [zr 27, zr 0] ((28, 160 + 160, L), (z1 I 27 0), (z1 (z2 R 0 5 (some 26)) 27 none))) :
    zRn (zcl d) 76 (67, 2206) Q 52 [some (zr 0), none] [zr 26, zr 0] ((27, 160, L), I, R) :=
  zgo [10, 17, 21, 28, 32, 39, 43, 52, 61, 69, 77, 88, 92, 101, 105, 114, 118, 127, 131, 140, 144, 153, 157, 173, 177, 200, 204, 215, 225, 252, 272] 4 (And.intro (by decide : (zSh 0).1 = 11) ((And.intro (by decide : (0 : Int) ≤ 160 ∧ (160 : Int) < 1000) ((And.intro (by decide : zSh 27 = (100, 160)) (And.intro (Nat.le_of_ble_eq_true rfl : 27 + 1 ≤ 67) (And.intro (Nat.le_of_ble_eq_true rfl : 160 + 160 ≤ 2206) (And.intro (Nat.le_of_ble_eq_true rfl : 27 + 1 ≤ 1000) (t)))))))))
theorem b_x11_61 {d : Nat} {Q : zQ} {L : Nat} {I : zI} {R : Nat → Nat → Option Nat}
    (t : zRn (zcl d) 76 (67, 2206) Q 69 [some (zr 0), none] [zr 28, zr 0] ((29, 320 + 4, L), (z1 I 28 0), (z1 (z2 R 0 8 (some 27)) 28 none))) :
    zRn (zcl d) 76 (67, 2206) Q 61 [some (zr 0), none] [zr 27, zr 0] ((28, 320, L), I, R) :=
  zgo [10, 17, 21, 28, 32, 39, 43, 52, 61, 69, 77, 88, 92, 101, 105, 114, 118, 127, 131, 140, 144, 153, 157, 173, 177, 200, 204, 215, 225, 252, 272] 4 (And.intro (by decide : (zSh 0).1 = 11) ((And.intro (by decide : (0 : Int) ≤ 4 ∧ (4 : Int) < 1000) ((And.intro (by decide : zSh 28 = (103, 4)) (And.intro (Nat.le_of_ble_eq_true rfl : 28 + 1 ≤ 67) (And.intro (Nat.le_of_ble_eq_true rfl : 320 + 4 ≤ 2206) (And.intro (Nat.le_of_ble_eq_true rfl : 28 + 1 ≤ 1000) (t)))))))))
theorem b_x11_69 {d : Nat} {Q : zQ} {L : Nat} {I : zI} {R : Nat → Nat → Option Nat}
    (t : zRn (zcl d) 76 (67, 2206) Q 77 [some (zr 0), none] [zr 29, zr 0] ((30, 324 + 61, L), (z1 I 29 0), (z1 (z2 R 0 9 (some 28)) 29 none))) :
    zRn (zcl d) 76 (67, 2206) Q 69 [some (zr 0), none] [zr 28, zr 0] ((29, 324, L), I, R) :=
  zgo [10, 17, 21, 28, 32, 39, 43, 52, 61, 69, 77, 88, 92, 101, 105, 114, 118, 127, 131, 140, 144, 153, 157, 173, 177, 200, 204, 215, 225, 252, 272] 4 (And.intro (by decide : (zSh 0).1 = 11) ((And.intro (by decide : (0 : Int) ≤ 61 ∧ (61 : Int) < 1000) ((And.intro (by decide : zSh 29 = (100, 61)) (And.intro (Nat.le_of_ble_eq_true rfl : 29 + 1 ≤ 67) (And.intro (Nat.le_of_ble_eq_true rfl : 324 + 61 ≤ 2206) (And.intro (Nat.le_of_ble_eq_true rfl : 29 + 1 ≤ 1000) (t)))))))))
theorem b_x11_77 {d : Nat} {Q : zQ} {L : Nat} {I : zI} {R : Nat → Nat → Option Nat}
    (t : ((z2 R 0 10 (some 29)) 0 0 = some 1) ∧ (zRn (zcl d) 76 (67, 2206) Q 88 [some (zr 0), none] [zr 30, zi 0, zr 1] ((31, 385 + 0, L), (z1 I 30 0), (z1 (z2 R 0 10 (some 29)) 30 none)))) :
    zRn (zcl d) 76 (67, 2206) Q 77 [some (zr 0), none] [zr 29, zr 0] ((30, 385, L), I, R) :=
  zgo [10, 17, 21, 28, 32, 39, 43, 52, 61, 69, 77, 88, 92, 101, 105, 114, 118, 127, 131, 140, 144, 153, 157, 173, 177, 200, 204, 215, 225, 252, 272] 5 (And.intro (by decide : (zSh 0).1 = 11) ((And.intro (by decide : (zSh 0).1 = 11) (Exists.intro (some 1) (And.intro t.1 ((And.intro (by decide : zSh 30 = (9, 0)) (And.intro (Nat.le_of_ble_eq_true rfl : 30 + 1 ≤ 67) (And.intro (Nat.le_of_ble_eq_true rfl : 385 + 0 ≤ 2206) (And.intro (Nat.le_of_ble_eq_true rfl : 30 + 1 ≤ 1000) (t.2)))))))))))
theorem b_x11_88 {d : Nat} {Q : zQ} {L : Nat} {I : zI} {R : Nat → Nat → Option Nat}
    (t : zcl d 64 0 0 [zr 30] ((31, 385, L), I, R) (fun v h1 => zRn (zcl d) 76 (67, 2206) Q 92 [some (zr 0), none] (zva v [zr 30, zi 0, zr 1]) h1)) :
    zRn (zcl d) 76 (67, 2206) Q 88 [some (zr 0), none] [zr 30, zi 0, zr 1] ((31, 385, L), I, R) :=
  zgo [10, 17, 21, 28, 32, 39, 43, 52, 61, 69, 77, 88, 92, 101, 105, 114, 118, 127, 131, 140, 144, 153, 157, 173, 177, 200, 204, 215, 225, 252, 272] 2 (And.intro (by decide : (zSh 30).1 < 13) (And.intro (Nat.le_of_ble_eq_true rfl) (Exists.intro 0 (Exists.intro 0 (And.intro (Or.inl rfl) (And.intro (Or.inl rfl) (t)))))))
theorem b_x11_92 {d : Nat} {Q : zQ} {L : Nat} {I : zI} {R : Nat → Nat → Option Nat}
    (t : ((z2 R 1 0 (some 30)) 0 0 = some 1) ∧ (zRn (zcl d) 76 (67, 2206) Q 101 [some (zr 0), none] [zr 31, zi 1, zr 1] ((32, 385 + 0, L), (z1 I 31 0), (z1 (z2 R 1 0 (some 30)) 31 none)))) :
    zRn (zcl d) 76 (67, 2206) Q 92 [some (zr 0), none] [zr 30, zi 0, zr 1] ((31, 385, L), I, R) :=
  zgo [10, 17, 21, 28, 32, 39, 43, 52, 61, 69, 77, 88, 92, 101, 105, 114, 118, 127, 131, 140, 144, 153, 157, 173, 177, 200, 204, 215, 225, 252, 272] 5 (And.intro (by decide : zfit (zSh 1).1 (zSh 30).1 = true) (And.intro (by decide : (0 : Int) ≤ 0 ∧ (0 : Int) < ((zSh 1).2 : Nat)) ((And.intro (by decide : (zSh 0).1 = 11) (Exists.intro (some 1) (And.intro t.1 ((And.intro (by decide : zSh 31 = (2, 0)) (And.intro (Nat.le_of_ble_eq_true rfl : 31 + 1 ≤ 67) (And.intro (Nat.le_of_ble_eq_true rfl : 385 + 0 ≤ 2206) (And.intro (Nat.le_of_ble_eq_true rfl : 31 + 1 ≤ 1000) (t.2))))))))))))
theorem b_x11_101 {d : Nat} {Q : zQ} {L : Nat} {I : zI} {R : Nat → Nat → Option Nat}
    (t : zcl d 10 0 0 [zr 31] ((32, 385, L), I, R) (fun v h1 => zRn (zcl d) 76 (67, 2206) Q 105 [some (zr 0), none] (zva v [zr 31, zi 1, zr 1]) h1)) :
    zRn (zcl d) 76 (67, 2206) Q 101 [some (zr 0), none] [zr 31, zi 1, zr 1] ((32, 385, L), I, R) :=
  zgo [10, 17, 21, 28, 32, 39, 43, 52, 61, 69, 77, 88, 92, 101, 105, 114, 118, 127, 131, 140, 144, 153, 157, 173, 177, 200, 204, 215, 225, 252, 272] 2 (And.intro (by decide : (zSh 31).1 < 13) (And.intro (Nat.le_of_ble_eq_true rfl) (Exists.intro 0 (Exists.intro 0 (And.intro (Or.inl rfl) (And.intro (Or.inl rfl) (t)))))))
theorem b_x11_105 {d : Nat} {Q : zQ} {L : Nat} {I : zI} {R : Nat → Nat → Option Nat}
    (t : ((z2 R 1 1 (some 31)) 0 0 = some 1) ∧ (zRn (zcl d) 76 (67, 2206) Q 114 [some (zr 0), none] [zr 32, zi 2, zr 1] ((33, 385 + 0, L), (z1 I 32 0), (z1 (z2 R 1 1 (some 31)) 32 none)))) :
    zRn (zcl d) 76 (67, 2206) Q 105 [some (zr 0), none] [zr 31, zi 1, zr 1] ((32, 385, L), I, R) :=
  zgo [10, 17, 21, 28, 32, 39, 43, 52, 61, 69, 77, 88, 92, 101, 105, 114, 118, 127, 131, 140, 144, 153, 157, 173, 177, 200, 204, 215, 225, 252, 272] 5 (And.intro (by decide : zfit (zSh 1).1 (zSh 31).1 = true) (And.intro (by decide : (0 : Int) ≤ 1 ∧ (1 : Int) < ((zSh 1).2 : Nat)) ((And.intro (by decide : (zSh 0).1 = 11) (Exists.intro (some 1) (And.intro t.1 ((And.intro (by decide : zSh 32 = (1, 0)) (And.intro (Nat.le_of_ble_eq_true rfl : 32 + 1 ≤ 67) (And.intro (Nat.le_of_ble_eq_true rfl : 385 + 0 ≤ 2206) (And.intro (Nat.le_of_ble_eq_true rfl : 32 + 1 ≤ 1000) (t.2))))))))))))
theorem b_x11_114 {d : Nat} {Q : zQ} {L : Nat} {I : zI} {R : Nat → Nat → Option Nat}
    (t : zcl d 4 0 0 [zr 32] ((33, 385, L), I, R) (fun v h1 => zRn (zcl d) 76 (67, 2206) Q 118 [some (zr 0), none] (zva v [zr 32, zi 2, zr 1]) h1)) :
    zRn (zcl d) 76 (67, 2206) Q 114 [some (zr 0), none] [zr 32, zi 2, zr 1] ((33, 385, L), I, R) :=
  zgo [10, 17, 21, 28, 32, 39, 43, 52, 61, 69, 77, 88, 92, 101, 105, 114, 118, 127, 131, 140, 144, 153, 157, 173, 177, 200, 204, 215, 225, 252, 272] 2 (And.intro (by decide : (zSh 32).1 < 13) (And.intro (Nat.le_of_ble_eq_true rfl) (Exists.intro 0 (Exists.intro 0 (And.intro (Or.inl rfl) (And.intro (Or.inl rfl) (t)))))))
theorem b_x11_118 {d : Nat} {Q : zQ} {L : Nat} {I : zI} {R : Nat → Nat → Option Nat}
    (t : ((z2 R 1 2 (some 32)) 0 0 = some 1) ∧ (zRn (zcl d) 76 (67, 2206) Q 127 [some (zr 0), none] [zr 33, zi 3, zr 1] ((34, 385 + 0, L), (z1 I 33 0), (z1 (z2 R 1 2 (some 32)) 33 none)))) :
    zRn (zcl d) 76 (67, 2206) Q 118 [some (zr 0), none] [zr 32, zi 2, zr 1] ((33, 385, L), I, R) :=
  zgo [10, 17, 21, 28, 32, 39, 43, 52, 61, 69, 77, 88, 92, 101, 105, 114, 118, 127, 131, 140, 144, 153, 157, 173, 177, 200, 204, 215, 225, 252, 272] 5 (And.intro (by decide : zfit (zSh 1).1 (zSh 32).1 = true) (And.intro (by decide : (0 : Int) ≤ 2 ∧ (2 : Int) < ((zSh 1).2 : Nat)) ((And.intro (by decide : (zSh 0).1 = 11) (Exists.intro (some 1) (And.intro t.1 ((And.intro (by decide : zSh 33 = (3, 0)) (And.intro (Nat.le_of_ble_eq_true rfl : 33 + 1 ≤ 67) (And.intro (Nat.le_of_ble_eq_true rfl : 385 + 0 ≤ 2206) (And.intro (Nat.le_of_ble_eq_true rfl : 33 + 1 ≤ 1000) (t.2))))))))))))
theorem b_x11_127 {d : Nat} {Q : zQ} {L : Nat} {I : zI} {R : Nat → Nat → Option Nat}
    (t : zcl d 16 0 0 [zr 33] ((34, 385, L), I, R) (fun v h1 => zRn (zcl d) 76 (67, 2206) Q 131 [some (zr 0), none] (zva v [zr 33, zi 3, zr 1]) h1)) :
    zRn (zcl d) 76 (67, 2206) Q 127 [some (zr 0), none] [zr 33, zi 3, zr 1] ((34, 385, L), I, R) :=
  zgo [10, 17, 21, 28, 32, 39, 43, 52, 61, 69, 77, 88, 92, 101, 105, 114, 118, 127, 131, 140, 144, 153, 157, 173, 177, 200, 204, 215, 225, 252, 272] 2 (And.intro (by decide : (zSh 33).1 < 13) (And.intro (Nat.le_of_ble_eq_true rfl) (Exists.intro 0 (Exists.intro 0 (And.intro (Or.inl rfl) (And.intro (Or.inl rfl) (t)))))))
theorem b_x11_131 {d : Nat} {Q : zQ} {L : Nat} {I : zI} {R : Nat → Nat → Option Nat}
    (t : ((z2 R 1 3 (some 33)) 0 0 = some 1) ∧ (zRn (zcl d) 76 (67, 2206) Q 140 [some (zr 0), none] [zr 34, zi 4, zr 1] ((35, 385 + 0, L), (z1 I 34 0), (z1 (z2 R 1 3 (some 33)) 34 none)))) :
    zRn (zcl d) 76 (67, 2206) Q 131 [some (zr 0), none] [zr 33, zi 3, zr 1] ((34, 385, L), I, R) :=
  zgo [10, 17, 21, 28, 32, 39, 43, 52, 61, 69, 77, 88, 92, 101, 105, 114, 118, 127, 131, 140, 144, 153, 157, 173, 177, 200, 204, 215, 225, 252, 272] 5 (And.intro (by decide : zfit (zSh 1).1 (zSh 33).1 = true) (And.intro (by decide : (0 : Int) ≤ 3 ∧ (3 : Int) < ((zSh 1).2 : Nat)) ((And.intro (by decide : (zSh 0).1 = 11) (Exists.intro (some 1) (And.intro t.1 ((And.intro (by decide : zSh 34 = (4, 0)) (And.intro (Nat.le_of_ble_eq_true rfl : 34 + 1 ≤ 67) (And.intro (Nat.le_of_ble_eq_true rfl : 385 + 0 ≤ 2206) (And.intro (Nat.le_of_ble_eq_true rfl : 34 + 1 ≤ 1000) (t.2))))))))))))
theorem b_x11_140 {d : Nat} {Q : zQ} {L : Nat} {I : zI} {R : Nat → Nat → Option Nat}
    (t : zcl d 21 0 0 [zr 34] ((35, 385, L), I, R) (fun v h1 => zRn (zcl d) 76 (67, 2206) Q 144 [some (zr 0), none] (zva v [zr 34, zi 4, zr 1]) h1)) :
    zRn (zcl d) 76 (67, 2206) Q 140 [some (zr 0), none] [zr 34, zi 4, zr 1] ((35, 385, L), I, R) :=
  zgo [10, 17, 21, 28, 32, 39, 43, 52, 61, 69, 77, 88, 92, 101, 105, 114, 118, 127, 131, 140, 144, 153, 157, 173, 177, 200, 204, 215, 225, 252, 272] 2 (And.intro (by decide : (zSh 34).1 < 13) (And.intro (Nat.le_of_ble_eq_true rfl) (Exists.intro 0 (Exists.intro 0 (And.intro (Or.inl rfl) (And.intro (Or.inl rfl) (t)))))))
theorem b_x11_144 {d : Nat} {Q : zQ} {L : Nat} {I : zI} {R : Nat → Nat → Option Nat}
    (t : ((z2 R 1 4 (some 34)) 0 0 = some 1) ∧ (zRn (zcl d) 76 (67, 2206) Q 153 [some (zr 0), none] [zr 35, zi 5, zr 1] ((36, 385 + 0, L), (z1 I 35 0), (z1 (z2 R 1 4 (some 34)) 35 none)))) :
    zRn (zcl d) 76 (67, 2206) Q 144 [some (zr 0), none] [zr 34, zi 4, zr 1] ((35, 385, L), I, R) :=
  zgo [10, 17, 21, 28, 32, 39, 43, 52, 61, 69, 77, 88, 92, 101, 105, 114, 118, 127, 131, 140, 144, 153, 157, 173, 177, 200, 204, 215, 225, 252, 272] 5 (And.intro (by decide : zfit (zSh 1).1 (zSh 34).1 = true) (And.intro (by decide : (0 : Int) ≤ 4 ∧ (4 : Int) < ((zSh 1).2 : Nat)) ((And.intro (by decide : (zSh 0).1 = 11) (Exists.intro (some 1) (And.intro t.1 ((And.intro (by decide : zSh 35 = (6, 0)) (And.intro (Nat.le_of_ble_eq_true rfl : 35 + 1 ≤ 67) (And.intro (Nat.le_of_ble_eq_true rfl : 385 + 0 ≤ 2206) (And.intro (Nat.le_of_ble_eq_true rfl : 35 + 1 ≤ 1000) (t.2))))))))))))
theorem b_x11_153 {d : Nat} {Q : zQ} {L : Nat} {I : zI} {R : Nat → Nat → Option Nat}
    (t : zcl d 30 0 0 [zr 35] ((36, 385, L), I, R) (fun v h1 => zRn (zcl d) 76 (67, 2206) Q 157 [some (zr 0), none] (zva v [zr 35, zi 5, zr 1]) h1)) :
    zRn (zcl d) 76 (67, 2206) Q 153 [some (zr 0), none] [zr 35, zi 5, zr 1] ((36, 385, L), I, R) :=
  zgo [10, 17, 21, 28, 32, 39, 43, 52, 61, 69, 77, 88, 92, 101, 105, 114, 118, 127, 131, 140, 144, 153, 157, 173, 177, 200, 204, 215, 225, 252, 272] 2 (And.intro (by decide : (zSh 35).1 < 13) (And.intro (Nat.le_of_ble_eq_true rfl) (Exists.intro 0 (Exists.intro 0 (And.intro (Or.inl rfl) (And.intro (Or.inl rfl) (t)))))))
theorem b_x11_157 {d : Nat} {Q : zQ} {L : Nat} {I : zI} {R : Nat → Nat → Option Nat}
    (t : ((z2 R 1 5 (some 35)) 0 9 = some 28) ∧ (zRn (zcl d) 76 (67, 2206) Q 173 [some (zr 0), some (zi 0)] [zr 36, zi 0, zr 28] ((37, 385 + 3, L), (z1 I 36 0), (z1 (z2 R 1 5 (some 35)) 36 none)))) :
    zRn (zcl d) 76 (67, 2206) Q 157 [some (zr 0), none] [zr 35, zi 5, zr 1] ((36, 385, L), I, R) :=
  zgo [10, 17, 21, 28, 32, 39, 43, 52, 61, 69, 77, 88, 92, 101, 105, 114, 118, 127, 131, 140, 144, 153, 157, 173, 177, 200, 204, 215, 225, 252, 272] 10 (And.intro (by decide : zfit (zSh 1).1 (zSh 35).1 = true) (And.intro (by decide : (0 : Int) ≤ 5 ∧ (5 : Int) < ((zSh 1).2 : Nat)) ((And.intro (fun n => absurd n (by decide : ¬ ((4 : Int) ≤ 0))) (fun _ => (And.intro (by decide : (zSh 0).1 = 11) (Exists.intro (some 28) (And.intro t.1 ((And.intro (by decide : zSh 36 = (8, 3)) (And.intro (Nat.le_of_ble_eq_true rfl : 36 + 1 ≤ 67) (And.intro (Nat.le_of_ble_eq_true rfl : 385 + 3 ≤ 2206) (And.intro (Nat.le_of_ble_eq_true rfl : 36 + 1 ≤ 1000) (t.2))))))))))))))
theorem b_x8_36_0 {d : Nat} {Q : zQ} {L : Nat} {I : zI} {R : Nat → Nat → Option Nat}
    (t : zRn (zcl d) 59 (38, 428) Q 9 [some (zr 36)] [zr 37, zr 36] ((38, 388 + 40, L), (z1 I 37 0), (z1 R 37 none))) :
    zRn (zcl d) 59 (38, 428) Q 0 [some (zr 36)] [] ((37, 388, L), I, R) :=
  zgo [9] 5 (And.intro (Nat.le_of_ble_eq_true rfl) ((And.intro (by decide : (0 : Int) ≤ 40 ∧ (40 : Int) < 1000) ((And.intro (by decide : zSh 37 = (100, 40)) (And.intro (Nat.le_of_ble_eq_true rfl : 37 + 1 ≤ 38) (And.intro (Nat.le_of_ble_eq_true rfl : 388 + 40 ≤ 428) (And.intro (Nat.le_of_ble_eq_true rfl : 37 + 1 ≤ 1000) (t)))))))))
theorem b_x8_36_9 {d : Nat} {Q : zQ} {L : Nat} {I : zI} {R : Nat → Nat → Option Nat}
    (t : Q none ((38, 428, L), (z2 I 36 1 (-1)), (z2 R 36 0 (some 37)))) :
    zRn (zcl d) 59 (38, 428) Q 9 [some (zr 36)] [zr 37, zr 36] ((38, 428, L), I, R) :=
  zgo [9] 5 (And.intro (by decide : (zSh 36).1 = 8) ((And.intro (by decide : (zSh 36).1 = 8) (t))))
theorem k_x8_36 {d : Nat} {Q : zQ} {L : Nat} {I : zI} {R : Nat → Nat → Option Nat} (H : Q none ((38, 428, L), (z2 (z1 I 37 0) 36 1 (-1)), (z2 (z1 R 37 none) 36 0 (some 37)))) : zcl (d + 3) 59 1 40 [zr 36] ((37, 388, L), I, R) Q :=
  zenN rfl rfl (fun Q1 hQ => b_x8_36_0 (b_x8_36_9 (hQ _ _ rfl H)))
theorem b_x11_173 {d : Nat} {Q : zQ} {L : Nat} {I : zI} {R : Nat → Nat → Option Nat}
    (t : zcl d 59 1 40 [zr 36] ((37, 388, L), I, R) (fun v h1 => zRn (zcl d) 76 (67, 2206) Q 177 [some (zr 0), some (zi 0)] (zva v [zr 36, zi 0, zr 28]) h1)) :
    zRn (zcl d) 76 (67, 2206) Q 173 [some (zr 0), some (zi 0)] [zr 36, zi 0, zr 28] ((37, 388, L), I, R) :=
  zgo [10, 17, 21, 28, 32, 39, 43, 52, 61, 69, 77, 88, 92, 101, 105, 114, 118, 127, 131, 140, 144, 153, 157, 173, 177, 200, 204, 215, 225, 252, 272] 2 (And.intro (by decide : (zSh 36).1 < 13) (And.intro (Nat.le_of_ble_eq_true rfl) (Exists.intro 1 (Exists.intro 40 (And.intro (Or.inr (Nat.le_of_ble_eq_true rfl : 37 + 1 ≤ 67)) (And.intro (Or.inr (Nat.le_of_ble_eq_true rfl : 388 + 40 ≤ 2206)) (t)))))))
theorem b_x11_177 {d : Nat} {Q : zQ} {L : Nat} {I : zI} {R : Nat → Nat → Option Nat}
    (t : ((z2 R 28 0 (some 36)) 0 9 = some 28) ∧ (zRn (zcl d) 76 (67, 2206) Q 173 [some (zr 0), some (zi 1)] [zr 38, zi 1, zr 28] ((39, 428 + 3, L), (z1 I 38 0), (z1 (z2 R 28 0 (some 36)) 38 none)))) :
    zRn (zcl d) 76 (67, 2206) Q 177 [some (zr 0), some (zi 0)] [zr 36, zi 0, zr 28] ((38, 428, L), I, R) :=
  zgo [10, 17, 21, 28, 32, 39, 43, 52, 61, 69, 77, 88, 92, 101, 105, 114, 118, 127, 131, 140, 144, 153, 157, 173, 177, 200, 204, 215, 225, 252, 272] 10 (And.intro (by decide : zfit (zSh 28).1 (zSh 36).1 = true) (And.intro (by decide : (0 : Int) ≤ 0 ∧ (0 : Int) < ((zSh 28).2 : Nat)) ((And.intro (fun n => absurd n (by decide : ¬ ((4 : Int) ≤ 1))) (fun _ => (And.intro (by decide : (zSh 0).1 = 11) (Exists.intro (some 28) (And.intro t.1 ((And.intro (by decide : zSh 38 = (8, 3)) (And.intro (Nat.le_of_ble_eq_true rfl : 38 + 1 ≤ 67) (And.intro (Nat.le_of_ble_eq_true rfl : 428 + 3 ≤ 2206) (And.intro (Nat.le_of_ble_eq_true rfl : 38 + 1 ≤ 1000) (t.2))))))))))))))
theorem b_x8_38_0 {d : Nat} {Q : zQ} {L : Nat} {I : zI} {R : Nat → Nat → Option Nat}
    (t : zRn (zcl d) 59 (40, 471) Q 9 [some (zr 38)] [zr 39, zr 38] ((40, 431 + 40, L), (z1 I 39 0), (z1 R 39 none))) :
    zRn (zcl d) 59 (40, 471) Q 0 [some (zr 38)] [] ((39, 431, L), I, R) :=
  zgo [9] 5 (And.intro (Nat.le_of_ble_eq_true rfl) ((And.intro (by decide : (0 : Int) ≤ 40 ∧ (40 : Int) < 1000) ((And.intro (by decide : zSh 39 = (100, 40)) (And.intro (Nat.le_of_ble_eq_true rfl : 39 + 1 ≤ 40) (And.intro (Nat.le_of_ble_eq_true rfl : 431 + 40 ≤ 471) (And.intro (Nat.le_of_ble_eq_true rfl : 39 + 1 ≤ 1000) (t)))))))))
theorem b_x8_38_9 {d : Nat} {Q : zQ} {L : Nat} {I : zI} {R : Nat → Nat → Option Nat}
    (t : Q none ((40, 471, L), (z2 I 38 1 (-1)), (z2 R 38 0 (some 39)))) :
    zRn (zcl d) 59 (40, 471) Q 9 [some (zr 38)] [zr 39, zr 38] ((40, 471, L), I, R) :=
  zgo [9] 5 (And.intro (by decide : (zSh 38).1 = 8) ((And.intro (by decide : (zSh 38).1 = 8) (t))))
theorem k_x8_38 {d : Nat} {Q : zQ} {L : Nat} {I : zI} {R : Nat → Nat → Option Nat} (H : Q none ((40, 471, L), (z2 (z1 I 39 0) 38 1 (-1)), (z2 (z1 R 39 none) 38 0 (some 39)))) : zcl (d + 3) 59 1 40 [zr 38] ((39, 431, L), I, R) Q :=
  zenN rfl rfl (fun Q1 hQ => b_x8_38_0 (b_x8_38_9 (hQ _ _ rfl H)))
theorem b_x11_173_39 {d : Nat} {Q : zQ} {L : Nat} {I : zI} {R : Nat → Nat → Option Nat}
    (t : zcl d 59 1 40 [zr 38] ((39, 431, L), I, R) (fun v h1 => zRn (zcl d) 76 (67, 2206) Q 177 [some (zr 0), some (zi 1)] (zva v [zr 38, zi 1, zr 28]) h1)) :
    zRn (zcl d) 76 (67, 2206) Q 173 [some (zr 0), some (zi 1)] [zr 38, zi 1, zr 28] ((39, 431, L), I, R) :=
  zgo [10, 17, 21, 28, 32, 39, 43, 52, 61, 69, 77, 88, 92, 101, 105, 114, 118, 127, 131, 140, 144, 153, 157, 173, 177, 200, 204, 215, 225, 252, 272] 2 (And.intro (by decide : (zSh 38).1 < 13) (And.intro (Nat.le_of_ble_eq_true rfl) (Exists.intro 1 (Exists.intro 40 (And.intro (Or.inr (Nat.le_of_ble_eq_true rfl : 39 + 1 ≤ 67)) (And.intro (Or.inr (Nat.le_of_ble_eq_true rfl : 431 + 40 ≤ 2206)) (t)))))))
theorem b_x11_177_40 {d : Nat} {Q : zQ} {L : Nat} {I : zI} {R : Nat → Nat → Option Nat}
    (t : ((z2 R 28 1 (some 38)) 0 9 = some 28) ∧ (zRn (zcl d) 76 (67, 2206) Q 173 [some (zr 0), some (zi 2)] [zr 40, zi 2, zr 28] ((41, 471 + 3, L), (z1 I 40 0), (z1 (z2 R 28 1 (some 38)) 40 none)))) :
    zRn (zcl d) 76 (67, 2206) Q 177 [some (zr 0), some (zi 1)] [zr 38, zi 1, zr 28] ((40, 471, L), I, R) :=
  zgo [10, 17, 21, 28, 32, 39, 43, 52, 61, 69, 77, 88, 92, 101, 105, 114, 118, 127, 131, 140, 144, 153, 157, 173, 177, 200, 204, 215, 225, 252, 272] 10 (And.intro (by decide : zfit (zSh 28).1 (zSh 38).1 = true) (And.intro (by decide : (0 : Int) ≤ 1 ∧ (1 : Int) < ((zSh 28).2 : Nat)) ((And.intro (fun n => absurd n (by decide : ¬ ((4 : Int) ≤ 2))) (fun _ => (And.intro (by decide : (zSh 0).1 = 11) (Exists.intro (some 28) (And.intro t.1 ((And.intro (by decide : zSh 40 = (8, 3)) (And.intro (Nat.le_of_ble_eq_true rfl : 40 + 1 ≤ 67) (And.intro (Nat.le_of_ble_eq_true rfl : 471 + 3 ≤ 2206) (And.intro (Nat.le_of_ble_eq_true rfl : 40 + 1 ≤ 1000) (t.2))))))))))))))
theorem b_x8_40_0 {d : Nat} {Q : zQ} {L : Nat} {I : zI} {R : Nat → Nat → Option Nat}
    (t : zRn (zcl d) 59 (42, 514) Q 9 [some (zr 40)] [zr 41, zr 40] ((42, 474 + 40, L), (z1 I 41 0), (z1 R 41 none))) :
    zRn (zcl d) 59 (42, 514) Q 0 [some (zr 40)] [] ((41, 474, L), I, R) :=
  zgo [9] 5 (And.intro (Nat.le_of_ble_eq_true rfl) ((And.intro (by decide : (0 : Int) ≤ 40 ∧ (40 : Int) < 1000) ((And.intro (by decide : zSh 41 = (100, 40)) (And.intro (Nat.le_of_ble_eq_true rfl : 41 + 1 ≤ 42) (And.intro (Nat.le_of_ble_eq_true rfl : 474 + 40 ≤ 514) (And.intro (Nat.le_of_ble_eq_true rfl : 41 + 1 ≤ 1000) (t)))))))))
theorem b_x8_40_9 {d : Nat} {Q : zQ} {L : Nat} {I : zI} {R : Nat → Nat → Option Nat}
    (t : Q none ((42, 514, L), (z2 I 40 1 (-1)), (z2 R 40 0 (some 41)))) :
    zRn (zcl d) 59 (42, 514) Q 9 [some (zr 40)] [zr 41, zr 40] ((42, 514, L), I, R) :=
  zgo [9] 5 (And.intro (by decide : (zSh 40).1 = 8) ((And.intro (by decide : (zSh 40).1 = 8) (t))))
theorem k_x8_40 {d : Nat} {Q : zQ} {L : Nat} {I : zI} {R : Nat → Nat → Option Nat} (H : Q none ((42, 514, L), (z2 (z1 I 41 0) 40 1 (-1)), (z2 (z1 R 41 none) 40 0 (some 41)))) : zcl (d + 3) 59 1 40 [zr 40] ((41, 474, L), I, R) Q :=
  zenN rfl rfl (fun Q1 hQ => b_x8_40_0 (b_x8_40_9 (hQ _ _ rfl H)))
theorem b_x11_173_41 {d : Nat} {Q : zQ} {L : Nat} {I : zI} {R : Nat → Nat → Option Nat}
    (t : zcl d 59 1 40 [zr 40] ((41, 474, L), I, R) (fun v h1 => zRn (zcl d) 76 (67, 2206) Q 177 [some (zr 0), some (zi 2)] (zva v [zr 40, zi 2, zr 28]) h1)) :
    zRn (zcl d) 76 (67, 2206) Q 173 [some (zr 0), some (zi 2)] [zr 40, zi 2, zr 28] ((41, 474, L), I, R) :=
  zgo [10, 17, 21, 28, 32, 39, 43, 52, 61, 69, 77, 88, 92, 101, 105, 114, 118, 127, 131, 140, 144, 153, 157, 173, 177, 200, 204, 215, 225, 252, 272] 2 (And.intro (by decide : (zSh 40).1 < 13) (And.intro (Nat.le_of_ble_eq_true rfl) (Exists.intro 1 (Exists.intro 40 (And.intro (Or.inr (Nat.le_of_ble_eq_true rfl : 41 + 1 ≤ 67)) (And.intro (Or.inr (Nat.le_of_ble_eq_true rfl : 474 + 40 ≤ 2206)) (t)))))))
theorem b_x11_177_42 {d : Nat} {Q : zQ} {L : Nat} {I : zI} {R : Nat → Nat → Option Nat}
    (t : ((z2 R 28 2 (some 40)) 0 9 = some 28) ∧ (zRn (zcl d) 76 (67, 2206) Q 173 [some (zr 0), some (zi 3)] [zr 42, zi 3, zr 28] ((43, 514 + 3, L), (z1 I 42 0), (z1 (z2 R 28 2 (some 40)) 42 none)))) :
    zRn (zcl d) 76 (67, 2206) Q 177 [some (zr 0), some (zi 2)] [zr 40, zi 2, zr 28] ((42, 514, L), I, R) :=
  zgo [10, 17, 21, 28, 32, 39, 43, 52, 61, 69, 77, 88, 92, 101, 105, 114, 118, 127, 131, 140, 144, 153, 157, 173, 177, 200, 204, 215, 225, 252, 272] 10 (And.intro (by decide : zfit (zSh 28).1 (zSh 40).1 = true) (And.intro (by decide : (0 : Int) ≤ 2 ∧ (2 : Int) < ((zSh 28).2 : Nat)) ((And.intro (fun n => absurd n (by decide : ¬ ((4 : Int) ≤ 3))) (fun _ => (And.intro (by decide : (zSh 0).1 = 11) (Exists.intro (some 28) (And.intro t.1 ((And.intro (by decide : zSh 42 = (8, 3)) (And.intro (Nat.le_of_ble_eq_true rfl : 42 + 1 ≤ 67) (And.intro (Nat.le_of_ble_eq_true rfl : 514 + 3 ≤ 2206) (And.intro (Nat.le_of_ble_eq_true rfl : 42 + 1 ≤ 1000) (t.2))))))))))))))
theorem b_x8_42_0 {d : Nat} {Q : zQ} {L : Nat} {I : zI} {R : Nat → Nat → Option Nat}
    (t : zRn (zcl d) 59 (44, 557) Q 9 [some (zr 42)] [zr 43, zr 42] ((44, 517 + 40, L), (z1 I 43 0), (z1 R 43 none))) :
    zRn (zcl d) 59 (44, 557) Q 0 [some (zr 42)] [] ((43, 517, L), I, R) :=
  zgo [9] 5 (And.intro (Nat.le_of_ble_eq_true rfl) ((And.intro (by decide : (0 : Int) ≤ 40 ∧ (40 : Int) < 1000) ((And.intro (by decide : zSh 43 = (100, 40)) (And.intro (Nat.le_of_ble_eq_true rfl : 43 + 1 ≤ 44) (And.intro (Nat.le_of_ble_eq_true rfl : 517 + 40 ≤ 557) (And.intro (Nat.le_of_ble_eq_true rfl : 43 + 1 ≤ 1000) (t)))))))))
theorem b_x8_42_9 {d : Nat} {Q : zQ} {L : Nat} {I : zI} {R : Nat → Nat → Option Nat}
    (t : Q none ((44, 557, L), (z2 I 42 1 (-1)), (z2 R 42 0 (some 43)))) :
    zRn (zcl d) 59 (44, 557) Q 9 [some (zr 42)] [zr 43, zr 42] ((44, 557, L), I, R) :=
  zgo [9] 5 (And.intro (by decide : (zSh 42).1 = 8) ((And.intro (by decide : (zSh 42).1 = 8) (t))))
theorem k_x8_42 {d : Nat} {Q : zQ} {L : Nat} {I : zI} {R : Nat → Nat → Option Nat} (H : Q none ((44, 557, L), (z2 (z1 I 43 0) 42 1 (-1)), (z2 (z1 R 43 none) 42 0 (some 43)))) : zcl (d + 3) 59 1 40 [zr 42] ((43, 517, L), I, R) Q :=
  zenN rfl rfl (fun Q1 hQ => b_x8_42_0 (b_x8_42_9 (hQ _ _ rfl H)))
theorem b_x11_173_43 {d : Nat} {Q : zQ} {L : Nat} {I : zI} {R : Nat → Nat → Option Nat}
    (t : zcl d 59 1 40 [zr 42] ((43, 517, L), I, R) (fun v h1 => zRn (zcl d) 76 (67, 2206) Q 177 [some (zr 0), some (zi 3)] (zva v [zr 42, zi 3, zr 28]) h1)) :
    zRn (zcl d) 76 (67, 2206) Q 173 [some (zr 0), some (zi 3)] [zr 42, zi 3, zr 28] ((43, 517, L), I, R) :=
  zgo [10, 17, 21, 28, 32, 39, 43, 52, 61, 69, 77, 88, 92, 101, 105, 114, 118, 127, 131, 140, 144, 153, 157, 173, 177, 200, 204, 215, 225, 252, 272] 2 (And.intro (by decide : (zSh 42).1 < 13) (And.intro (Nat.le_of_ble_eq_true rfl) (Exists.intro 1 (Exists.intro 40 (And.intro (Or.inr (Nat.le_of_ble_eq_true rfl : 43 + 1 ≤ 67)) (And.intro (Or.inr (Nat.le_of_ble_eq_true rfl : 517 + 40 ≤ 2206)) (t)))))))
theorem b_x11_177_44 {d : Nat} {Q : zQ} {L : Nat} {I : zI} {R : Nat → Nat → Option Nat}
    (t : ((z2 R 28 3 (some 42)) 0 5 = some 26) ∧ (zRn (zcl d) 76 (67, 2206) Q 200 [some (zr 0), some (zi 0)] [zr 44, zi 0, zr 26] ((45, 557 + 3, L), (z1 I 44 0), (z1 (z2 R 28 3 (some 42)) 44 none)))) :
    zRn (zcl d) 76 (67, 2206) Q 177 [some (zr 0), some (zi 3)] [zr 42, zi 3, zr 28] ((44, 557, L), I, R) :=
  zgo [10, 17, 21, 28, 32, 39, 43, 52, 61, 69, 77, 88, 92, 101, 105, 114, 118, 127, 131, 140, 144, 153, 157, 173, 177, 200, 204, 215, 225, 252, 272] 15 (And.intro (by decide : zfit (zSh 28).1 (zSh 42).1 = true) (And.intro (by decide : (0 : Int) ≤ 3 ∧ (3 : Int) < ((zSh 28).2 : Nat)) ((And.intro (fun _ => (And.intro (fun n => absurd n (by decide : ¬ ((6 : Int) ≤ 0))) (fun _ => (And.intro (by decide : (zSh 0).1 = 11) (Exists.intro (some 26) (And.intro t.1 ((And.intro (by decide : zSh 44 = (10, 3)) (And.intro (Nat.le_of_ble_eq_true rfl : 44 + 1 ≤ 67) (And.intro (Nat.le_of_ble_eq_true rfl : 557 + 3 ≤ 2206) (And.intro (Nat.le_of_ble_eq_true rfl : 44 + 1 ≤ 1000) (t.2)))))))))))) (fun n => absurd (by decide : (4 : Int) ≤ 4) n)))))
theorem b_x10_44_0 {d : Nat} {Q : zQ} {L : Nat} {I : zI} {R : Nat → Nat → Option Nat}
    (t : zRn (zcl d) 70 (47, 723) Q 10 [some (zr 44)] [zr 45, zr 44] ((46, 560 + 160, L), (z1 I 45 0), (z1 R 45 none))) :
    zRn (zcl d) 70 (47, 723) Q 0 [some (zr 44)] [] ((45, 560, L), I, R) :=
  zgo [10, 17] 5 (And.intro (Nat.le_of_ble_eq_true rfl) ((And.intro (by decide : (0 : Int) ≤ 160 ∧ (160 : Int) < 1000) ((And.intro (by decide : zSh 45 = (100, 160)) (And.intro (Nat.le_of_ble_eq_true rfl : 45 + 1 ≤ 47) (And.intro (Nat.le_of_ble_eq_true rfl : 560 + 160 ≤ 723) (And.intro (Nat.le_of_ble_eq_true rfl : 45 + 1 ≤ 1000) (t)))))))))
theorem b_x10_44_10 {d : Nat} {Q : zQ} {L : Nat} {I : zI} {R : Nat → Nat → Option Nat}
    (t : zRn (zcl d) 70 (47, 723) Q 17 [some (zr 44)] [zr 46, zr 44] ((47, 720 + 3, L), (z1 I 46 0), (z1 (z2 R 44 0 (some 45)) 46 none))) :
    zRn (zcl d) 70 (47, 723) Q 10 [some (zr 44)] [zr 45, zr 44] ((46, 720, L), I, R) :=
  zgo [10, 17] 4 (And.intro (by decide : (zSh 44).1 = 10) ((And.intro (by decide : (0 : Int) ≤ 3 ∧ (3 : Int) < 1000) ((And.intro (by decide : zSh 46 = (100, 3)) (And.intro (Nat.le_of_ble_eq_true rfl : 46 + 1 ≤ 47) (And.intro (Nat.le_of_ble_eq_true rfl : 720 + 3 ≤ 723) (And.intro (Nat.le_of_ble_eq_true rfl : 46 + 1 ≤ 1000) (t)))))))))
theorem b_x10_44_17 {d : Nat} {Q : zQ} {L : Nat} {I : zI} {R : Nat → Nat → Option Nat}
    (t : Q none ((47, 723, L), I, (z2 R 44 1 (some 46)))) :
    zRn (zcl d) 70 (47, 723) Q 17 [some (zr 44)] [zr 46, zr 44] ((47, 723, L), I, R) :=
  zgo [10, 17] 2 (And.intro (by decide : (zSh 44).1 = 10) (t))
theorem k_x10_44 {d : Nat} {Q : zQ} {L : Nat} {I : zI} {R : Nat → Nat → Option Nat} (H : Q none ((47, 723, L), (z1 (z1 I 45 0) 46 0), (z2 (z1 (z2 (z1 R 45 none) 44 0 (some 45)) 46 none) 44 1 (some 46)))) : zcl (d + 3) 70 2 163 [zr 44] ((45, 560, L), I, R) Q :=
  zenN rfl rfl (fun Q1 hQ => b_x10_44_0 (b_x10_44_10 (b_x10_44_17 (hQ _ _ rfl H))))
theorem b_x11_200 {d : Nat} {Q : zQ} {L : Nat} {I : zI} {R : Nat → Nat → Option Nat}
    (t : zcl d 70 2 163 [zr 44] ((45, 560, L), I, R) (fun v h1 => zRn (zcl d) 76 (67, 2206) Q 204 [some (zr 0), some (zi 0)] (zva v [zr 44, zi 0, zr 26]) h1)) :
    zRn (zcl d) 76 (67, 2206) Q 200 [some (zr 0), some (zi 0)] [zr 44, zi 0, zr 26] ((45, 560, L), I, R) :=
  zgo [10, 17, 21, 28, 32, 39, 43, 52, 61, 69, 77, 88, 92, 101, 105, 114, 118, 127, 131, 140, 144, 153, 157, 173, 177, 200, 204, 215, 225, 252, 272] 2 (And.intro (by decide : (zSh 44).1 < 13) (And.intro (Nat.le_of_ble_eq_true rfl) (Exists.intro 2 (Exists.intro 163 (And.intro (Or.inr (Nat.le_of_ble_eq_true rfl : 45 + 2 ≤ 67)) (And.intro (Or.inr (Nat.le_of_ble_eq_true rfl : 560 + 163 ≤ 2206)) (t)))))))
theorem b_x11_204 {d : Nat} {Q : zQ} {L : Nat} {I : zI} {R : Nat → Nat → Option Nat}
    (t : ((z2 R 26 0 (some 44)) 0 5 = some 26) ∧ (zRn (zcl d) 76 (67, 2206) Q 200 [some (zr 0), some (zi 1)] [zr 47, zi 1, zr 26] ((48, 723 + 3, L), (z1 I 47 0), (z1 (z2 R 26 0 (some 44)) 47 none)))) :
    zRn (zcl d) 76 (67, 2206) Q 204 [some (zr 0), some (zi 0)] [zr 44, zi 0, zr 26] ((47, 723, L), I, R) :=
  zgo [10, 17, 21, 28, 32, 39, 43, 52, 61, 69, 77, 88, 92, 101, 105, 114, 118, 127, 131, 140, 144, 153, 157, 173, 177, 200, 204, 215, 225, 252, 272] 10 (And.intro (by decide : zfit (zSh 26).1 (zSh 44).1 = true) (And.intro (by decide : (0 : Int) ≤ 0 ∧ (0 : Int) < ((zSh 26).2 : Nat)) ((And.intro (fun n => absurd n (by decide : ¬ ((6 : Int) ≤ 1))) (fun _ => (And.intro (by decide : (zSh 0).1 = 11) (Exists.intro (some 26) (And.intro t.1 ((And.intro (by decide : zSh 47 = (10, 3)) (And.intro (Nat.le_of_ble_eq_true rfl : 47 + 1 ≤ 67) (And.intro (Nat.le_of_ble_eq_true rfl : 723 + 3 ≤ 2206) (And.intro (Nat.le_of_ble_eq_true rfl : 47 + 1 ≤ 1000) (t.2))))))))))))))
theorem b_x10_47_0 {d : Nat} {Q : zQ} {L : Nat} {I : zI} {R : Nat → Nat → Option Nat}
    (t : zRn (zcl d) 70 (50, 889) Q 10 [some (zr 47)] [zr 48, zr 47] ((49, 726 + 160, L), (z1 I 48 0), (z1 R 48 none))) :
    zRn (zcl d) 70 (50, 889) Q 0 [some (zr 47)] [] ((48, 726, L), I, R) :=
  zgo [10, 17] 5 (And.intro (Nat.le_of_ble_eq_true rfl) ((And.intro (by decide : (0 : Int) ≤ 160 ∧ (160 : Int) < 1000) ((And.intro (by decide : zSh 48 = (100, 160)) (And.intro (Nat.le_of_ble_eq_true rfl : 48 + 1 ≤ 50) (And.intro (Nat.le_of_ble_eq_true rfl : 726 + 160 ≤ 889) (And.intro (Nat.le_of_ble_eq_true rfl : 48 + 1 ≤ 1000) (t)))))))))
theorem b_x10_47_10 {d : Nat} {Q : zQ} {L : Nat} {I : zI} {R : Nat → Nat → Option Nat}
    (t : zRn (zcl d) 70 (50, 889) Q 17 [some (zr 47)] [zr 49, zr 47] ((50, 886 + 3, L), (z1 I 49 0), (z1 (z2 R 47 0 (some 48)) 49 none))) :
    zRn (zcl d) 70 (50, 889) Q 10 [some (zr 47)] [zr 48, zr 47] ((49, 886, L), I, R) :=
  zgo [10, 17] 4 (And.intro (by decide : (zSh 47).1 = 10) ((And.intro (by decide : (0 : Int) ≤ 3 ∧ (3 : Int) < 1000) ((And.intro (by decide : zSh 49 = (100, 3)) (And.intro (Nat.le_of_ble_eq_true rfl : 49 + 1 ≤ 50) (And.intro (Nat.le_of_ble_eq_true rfl : 886 + 3 ≤ 889) (And.intro (Nat.le_of_ble_eq_true rfl : 49 + 1 ≤ 1000) (t)))))))))
theorem b_x10_47_17 {d : Nat} {Q : zQ} {L : Nat} {I : zI} {R : Nat → Nat → Option Nat}
    (t : Q none ((50, 889, L), I, (z2 R 47 1 (some 49)))) :
    zRn (zcl d) 70 (50, 889) Q 17 [some (zr 47)] [zr 49, zr 47] ((50, 889, L), I, R) :=
  zgo [10, 17] 2 (And.intro (by decide : (zSh 47).1 = 10) (t))
theorem k_x10_47 {d : Nat} {Q : zQ} {L : Nat} {I : zI} {R : Nat → Nat → Option Nat} (H : Q none ((50, 889, L), (z1 (z1 I 48 0) 49 0), (z2 (z1 (z2 (z1 R 48 none) 47 0 (some 48)) 49 none) 47 1 (some 49)))) : zcl (d + 3) 70 2 163 [zr 47] ((48, 726, L), I, R) Q :=
  zenN rfl rfl (fun Q1 hQ => b_x10_47_0 (b_x10_47_10 (b_x10_47_17 (hQ _ _ rfl H))))
theorem b_x11_200_48 {d : Nat} {Q : zQ} {L : Nat} {I : zI} {R : Nat → Nat → Option Nat}
    (t : zcl d 70 2 163 [zr 47] ((48, 726, L), I, R) (fun v h1 => zRn (zcl d) 76 (67, 2206) Q 204 [some (zr 0), some (zi 1)] (zva v [zr 47, zi 1, zr 26]) h1)) :
    zRn (zcl d) 76 (67, 2206) Q 200 [some (zr 0), some (zi 1)] [zr 47, zi 1, zr 26] ((48, 726, L), I, R) :=
  zgo [10, 17, 21, 28, 32, 39, 43, 52, 61, 69, 77, 88, 92, 101, 105, 114, 118, 127, 131, 140, 144, 153, 157, 173, 177, 200, 204, 215, 225, 252, 272] 2 (And.intro (by decide : (zSh 47).1 < 13) (And.intro (Nat.le_of_ble_eq_true rfl) (Exists.intro 2 (Exists.intro 163 (And.intro (Or.inr (Nat.le_of_ble_eq_true rfl : 48 + 2 ≤ 67)) (And.intro (Or.inr (Nat.le_of_ble_eq_true rfl : 726 + 163 ≤ 2206)) (t)))))))
theorem b_x11_204_50 {d : Nat} {Q : zQ} {L : Nat} {I : zI} {R : Nat → Nat → Option Nat}
    (t : ((z2 R 26 1 (some 47)) 0 5 = some 26) ∧ (zRn (zcl d) 76 (67, 2206) Q 200 [some (zr 0), some (zi 2)] [zr 50, zi 2, zr 26] ((51, 889 + 3, L), (z1 I 50 0), (z1 (z2 R 26 1 (some 47)) 50 none)))) :
    zRn (zcl d) 76 (67, 2206) Q 204 [some (zr 0), some (zi 1)] [zr 47, zi 1, zr 26] ((50, 889, L), I, R) :=
  zgo [10, 17, 21, 28, 32, 39, 43, 52, 61, 69, 77, 88, 92, 101, 105, 114, 118, 127, 131, 140, 144, 153, 157, 173, 177, 200, 204, 215, 225, 252, 272] 10 (And.intro (by decide : zfit (zSh 26).1 (zSh 47).1 = true) (And.intro (by decide : (0 : Int) ≤ 1 ∧ (1 : Int) < ((zSh 26).2 : Nat)) ((And.intro (fun n => absurd n (by decide : ¬ ((6 : Int) ≤ 2))) (fun _ => (And.intro (by decide : (zSh 0).1 = 11) (Exists.intro (some 26) (And.intro t.1 ((And.intro (by decide : zSh 50 = (10, 3)) (And.intro (Nat.le_of_ble_eq_true rfl : 50 + 1 ≤ 67) (And.intro (Nat.le_of_ble_eq_true rfl : 889 + 3 ≤ 2206) (And.intro (Nat.le_of_ble_eq_true rfl : 50 + 1 ≤ 1000) (t.2))))))))))))))
theorem b_x10_50_0 {d : Nat} {Q : zQ} {L : Nat} {I : zI} {R : Nat → Nat → Option Nat}
    (t : zRn (zcl d) 70 (53, 1055) Q 10 [some (zr 50)] [zr 51, zr 50] ((52, 892 + 160, L), (z1 I 51 0), (z1 R 51 none))) :
    zRn (zcl d) 70 (53, 1055) Q 0 [some (zr 50)] [] ((51, 892, L), I, R) :=
  zgo [10, 17] 5 (And.intro (Nat.le_of_ble_eq_true rfl) ((And.intro (by decide : (0 : Int) ≤ 160 ∧ (160 : Int) < 1000) ((And.intro (by decide : zSh 51 = (100, 160)) (And.intro (Nat.le_of_ble_eq_true rfl : 51 + 1 ≤ 53) (And.intro (Nat.le_of_ble_eq_true rfl : 892 + 160 ≤ 1055) (And.intro (Nat.le_of_ble_eq_true rfl : 51 + 1 ≤ 1000) (t)))))))))
theorem b_x10_50_10 {d : Nat} {Q : zQ} {L : Nat} {I : zI} {R : Nat → Nat → Option Nat}
    (t : zRn (zcl d) 70 (53, 1055) Q 17 [some (zr 50)] [zr 52, zr 50] ((53, 1052 + 3, L), (z1 I 52 0), (z1 (z2 R 50 0 (some 51)) 52 none))) :
    zRn (zcl d) 70 (53, 1055) Q 10 [some (zr 50)] [zr 51, zr 50] ((52, 1052, L), I, R) :=
  zgo [10, 17] 4 (And.intro (by decide : (zSh 50).1 = 10) ((And.intro (by decide : (0 : Int) ≤ 3 ∧ (3 : Int) < 1000) ((And.intro (by decide : zSh 52 = (100, 3)) (And.intro (Nat.le_of_ble_eq_true rfl : 52 + 1 ≤ 53) (And.intro (Nat.le_of_ble_eq_true rfl : 1052 + 3 ≤ 1055) (And.intro (Nat.le_of_ble_eq_true rfl : 52 + 1 ≤ 1000) (t)))))))))
theorem b_x10_50_17 {d : Nat} {Q : zQ} {L : Nat} {I : zI} {R : Nat → Nat → Option Nat}
    (t : Q none ((53, 1055, L), I, (z2 R 50 1 (some 52)))) :
    zRn (zcl d) 70 (53, 1055) Q 17 [some (zr 50)] [zr 52, zr 50] ((53, 1055, L), I, R) :=
  zgo [10, 17] 2 (And.intro (by decide : (zSh 50).1 = 10) (t))
theorem k_x10_50 {d : Nat} {Q : zQ} {L : Nat} {I : zI} {R : Nat → Nat → Option Nat} (H : Q none ((53, 1055, L), (z1 (z1 I 51 0) 52 0), (z2 (z1 (z2 (z1 R 51 none) 50 0 (some 51)) 52 none) 50 1 (some 52)))) : zcl (d + 3) 70 2 163 [zr 50] ((51, 892, L), I, R) Q :=
  zenN rfl rfl (fun Q1 hQ => b_x10_50_0 (b_x10_50_10 (b_x10_50_17 (hQ _ _ rfl H))))
theorem b_x11_200_51 {d : Nat} {Q : zQ} {L : Nat} {I : zI} {R : Nat → Nat → Option Nat}
    (t : zcl d 70 2 163 [zr 50] ((51, 892, L), I, R) (fun v h1 => zRn (zcl d) 76 (67, 2206) Q 204 [some (zr 0), some (zi 2)] (zva v [zr 50, zi 2, zr 26]) h1)) :
    zRn (zcl d) 76 (67, 2206) Q 200 [some (zr 0), some (zi 2)] [zr 50, zi 2, zr 26] ((51, 892, L), I, R) :=
  zgo [10, 17, 21, 28, 32, 39, 43, 52, 61, 69, 77, 88, 92, 101, 105, 114, 118, 127, 131, 140, 144, 153, 157, 173, 177, 200, 204, 215, 225, 252, 272] 2 (And.intro (by decide : (zSh 50).1 < 13) (And.intro (Nat.le_of_ble_eq_true rfl) (Exists.intro 2 (Exists.intro 163 (And.intro (Or.inr (Nat.le_of_ble_eq_true rfl : 51 + 2 ≤ 67)) (And.intro (Or.inr (Nat.le_of_ble_eq_true rfl : 892 + 163 ≤ 2206)) (t)))))))
theorem b_x11_204_53 {d : Nat} {Q : zQ} {L : Nat} {I : zI} {R : Nat → Nat → Option Nat}
    (t : ((z2 R 26 2 (some 50)) 0 5 = some 26) ∧ (zRn (zcl d) 76 (67, 2206) Q 200 [some (zr 0), some (zi 3)] [zr 53, zi 3, zr 26] ((54, 1055 + 3, L), (z1 I 53 0), (z1 (z2 R 26 2 (some 50)) 53 none)))) :
    zRn (zcl d) 76 (67, 2206) Q 204 [some (zr 0), some (zi 2)] [zr 50, zi 2, zr 26] ((53, 1055, L), I, R) :=
  zgo [10, 17, 21, 28, 32, 39, 43, 52, 61, 69, 77, 88, 92, 101, 105, 114, 118, 127, 131, 140, 144, 153, 157, 173, 177, 200, 204, 215, 225, 252, 272] 10 (And.intro (by decide : zfit (zSh 26).1 (zSh 50).1 = true) (And.intro (by decide : (0 : Int) ≤ 2 ∧ (2 : Int) < ((zSh 26).2 : Nat)) ((And.intro (fun n => absurd n (by decide : ¬ ((6 : Int) ≤ 3))) (fun _ => (And.intro (by decide : (zSh 0).1 = 11) (Exists.intro (some 26) (And.intro t.1 ((And.intro (by decide : zSh 53 = (10, 3)) (And.intro (Nat.le_of_ble_eq_true rfl : 53 + 1 ≤ 67) (And.intro (Nat.le_of_ble_eq_true rfl : 1055 + 3 ≤ 2206) (And.intro (Nat.le_of_ble_eq_true rfl : 53 + 1 ≤ 1000) (t.2))))))))))))))
theorem b_x10_53_0 {d : Nat} {Q : zQ} {L : Nat} {I : zI} {R : Nat → Nat → Option Nat}
    (t : zRn (zcl d) 70 (56, 1221) Q 10 [some (zr 53)] [zr 54, zr 53] ((55, 1058 + 160, L), (z1 I 54 0), (z1 R 54 none))) :
    zRn (zcl d) 70 (56, 1221) Q 0 [some (zr 53)] [] ((54, 1058, L), I, R) :=
  zgo [10, 17] 5 (And.intro (Nat.le_of_ble_eq_true rfl) ((And.intro (by decide : (0 : Int) ≤ 160 ∧ (160 : Int) < 1000) ((And.intro (by decide : zSh 54 = (100, 160)) (And.intro (Nat.le_of_ble_eq_true rfl : 54 + 1 ≤ 56) (And.intro (Nat.le_of_ble_eq_true rfl : 1058 + 160 ≤ 1221) (And.intro (Nat.le_of_ble_eq_true rfl : 54 + 1 ≤ 1000) (t)))))))))
theorem b_x10_53_10 {d : Nat} {Q : zQ} {L : Nat} {I : zI} {R : Nat → Nat → Option Nat}
    (t : zRn (zcl d) 70 (56, 1221) Q 17 [some (zr 53)] [zr 55, zr 53] ((56, 1218 + 3, L), (z1 I 55 0), (z1 (z2 R 53 0 (some 54)) 55 none))) :
    zRn (zcl d) 70 (56, 1221) Q 10 [some (zr 53)] [zr 54, zr 53] ((55, 1218, L), I, R) :=
  zgo [10, 17] 4 (And.intro (by decide : (zSh 53).1 = 10) ((And.intro (by decide : (0 : Int) ≤ 3 ∧ (3 : Int) < 1000) ((And.intro (by decide : zSh 55 = (100, 3)) (And.intro (Nat.le_of_ble_eq_true rfl : 55 + 1 ≤ 56) (And.intro (Nat.le_of_ble_eq_true rfl : 1218 + 3 ≤ 1221) (And.intro (Nat.le_of_ble_eq_true rfl : 55 + 1 ≤ 1000) (t)))))))))
theorem b_x10_53_17 {d : Nat} {Q : zQ} {L : Nat} {I : zI} {R : Nat → Nat → Option Nat}
    (t : Q none ((56, 1221, L), I, (z2 R 53 1 (some 55)))) :
    zRn (zcl d) 70 (56, 1221) Q 17 [some (zr 53)] [zr 55, zr 53] ((56, 1221, L), I, R) :=
  zgo [10, 17] 2 (And.intro (by decide : (zSh 53).1 = 10) (t))
theorem k_x10_53 {d : Nat} {Q : zQ} {L : Nat} {I : zI} {R : Nat → Nat → Option Nat} (H : Q none ((56, 1221, L), (z1 (z1 I 54 0) 55 0), (z2 (z1 (z2 (z1 R 54 none) 53 0 (some 54)) 55 none) 53 1 (some 55)))) : zcl (d + 3) 70 2 163 [zr 53] ((54, 1058, L), I, R) Q :=
  zenN rfl rfl (fun Q1 hQ => b_x10_53_0 (b_x10_53_10 (b_x10_53_17 (hQ _ _ rfl H))))
theorem b_x11_200_54 {d : Nat} {Q : zQ} {L : Nat} {I : zI} {R : Nat → Nat → Option Nat}
    (t : zcl d 70 2 163 [zr 53] ((54, 1058, L), I, R) (fun v h1 => zRn (zcl d) 76 (67, 2206) Q 204 [some (zr 0), some (zi 3)] (zva v [zr 53, zi 3, zr 26]) h1)) :
    zRn (zcl d) 76 (67, 2206) Q 200 [some (zr 0), some (zi 3)] [zr 53, zi 3, zr 26] ((54, 1058, L), I, R) :=
  zgo [10, 17, 21, 28, 32, 39, 43, 52, 61, 69, 77, 88, 92, 101, 105, 114, 118, 127, 131, 140, 144, 153, 157, 173, 177, 200, 204, 215, 225, 252, 272] 2 (And.intro (by decide : (zSh 53).1 < 13) (And.intro (Nat.le_of_ble_eq_true rfl) (Exists.intro 2 (Exists.intro 163 (And.intro (Or.inr (Nat.le_of_ble_eq_true rfl : 54 + 2 ≤ 67)) (And.intro (Or.inr (Nat.le_of_ble_eq_true rfl : 1058 + 163 ≤ 2206)) (t)))))))
theorem b_x11_204_56 {d : Nat} {Q : zQ} {L : Nat} {I : zI} {R : Nat → Nat → Option Nat}
    (t : ((z2 R 26 3 (some 53)) 0 5 = some 26) ∧ (zRn (zcl d) 76 (67, 2206) Q 200 [some (zr 0), some (zi 4)] [zr 56, zi 4, zr 26] ((57, 1221 + 3, L), (z1 I 56 0), (z1 (z2 R 26 3 (some 53)) 56 none)))) :
    zRn (zcl d) 76 (67, 2206) Q 204 [some (zr 0), some (zi 3)] [zr 53, zi 3, zr 26] ((56, 1221, L), I, R) :=
  zgo [10, 17, 21, 28, 32, 39, 43, 52, 61, 69, 77, 88, 92, 101, 105, 114, 118, 127, 131, 140, 144, 153, 157, 173, 177, 200, 204, 215, 225, 252, 272] 10 (And.intro (by decide : zfit (zSh 26).1 (zSh 53).1 = true) (And.intro (by decide : (0 : Int) ≤ 3 ∧ (3 : Int) < ((zSh 26).2 : Nat)) ((And.intro (fun n => absurd n (by decide : ¬ ((6 : Int) ≤ 4))) (fun _ => (And.intro (by decide : (zSh 0).1 = 11) (Exists.intro (some 26) (And.intro t.1 ((And.intro (by decide : zSh 56 = (10, 3)) (And.intro (Nat.le_of_ble_eq_true rfl : 56 + 1 ≤ 67) (And.intro (Nat.le_of_ble_eq_true rfl : 1221 + 3 ≤ 2206) (And.intro (Nat.le_of_ble_eq_true rfl : 56 + 1 ≤ 1000) (t.2))))))))))))))
theorem b_x10_56_0 {d : Nat} {Q : zQ} {L : Nat} {I : zI} {R : Nat → Nat → Option Nat}
    (t : zRn (zcl d) 70 (59, 1387) Q 10 [some (zr 56)] [zr 57, zr 56] ((58, 1224 + 160, L), (z1 I 57 0), (z1 R 57 none))) :
    zRn (zcl d) 70 (59, 1387) Q 0 [some (zr 56)] [] ((57, 1224, L), I, R) :=
  zgo [10, 17] 5 (And.intro (Nat.le_of_ble_eq_true rfl) ((And.intro (by decide : (0 : Int) ≤ 160 ∧ (160 : Int) < 1000) ((And.intro (by decide : zSh 57 = (100, 160)) (And.intro (Nat.le_of_ble_eq_true rfl : 57 + 1 ≤ 59) (And.intro (Nat.le_of_ble_eq_true rfl : 1224 + 160 ≤ 1387) (And.intro (Nat.le_of_ble_eq_true rfl : 57 + 1 ≤ 1000) (t)))))))))
theorem b_x10_56_10 {d : Nat} {Q : zQ} {L : Nat} {I : zI} {R : Nat → Nat → Option Nat}
    (t : zRn (zcl d) 70 (59, 1387) Q 17 [some (zr 56)] [zr 58, zr 56] ((59, 1384 + 3, L), (z1 I 58 0), (z1 (z2 R 56 0 (some 57)) 58 none))) :
    zRn (zcl d) 70 (59, 1387) Q 10 [some (zr 56)] [zr 57, zr 56] ((58, 1384, L), I, R) :=
  zgo [10, 17] 4 (And.intro (by decide : (zSh 56).1 = 10) ((And.intro (by decide : (0 : Int) ≤ 3 ∧ (3 : Int) < 1000) ((And.intro (by decide : zSh 58 = (100, 3)) (And.intro (Nat.le_of_ble_eq_true rfl : 58 + 1 ≤ 59) (And.intro (Nat.le_of_ble_eq_true rfl : 1384 + 3 ≤ 1387) (And.intro (Nat.le_of_ble_eq_true rfl : 58 + 1 ≤ 1000) (t)))))))))
theorem b_x10_56_17 {d : Nat} {Q : zQ} {L : Nat} {I : zI} {R : Nat → Nat → Option Nat}
    (t : Q none ((59, 1387, L), I, (z2 R 56 1 (some 58)))) :
    zRn (zcl d) 70 (59, 1387) Q 17 [some (zr 56)] [zr 58, zr 56] ((59, 1387, L), I, R) :=
  zgo [10, 17] 2 (And.intro (by decide : (zSh 56).1 = 10) (t))
theorem k_x10_56 {d : Nat} {Q : zQ} {L : Nat} {I : zI} {R : Nat → Nat → Option Nat} (H : Q none ((59, 1387, L), (z1 (z1 I 57 0) 58 0), (z2 (z1 (z2 (z1 R 57 none) 56 0 (some 57)) 58 none) 56 1 (some 58)))) : zcl (d + 3) 70 2 163 [zr 56] ((57, 1224, L), I, R) Q :=
  zenN rfl rfl (fun Q1 hQ => b_x10_56_0 (b_x10_56_10 (b_x10_56_17 (hQ _ _ rfl H))))
theorem b_x11_200_57 {d : Nat} {Q : zQ} {L : Nat} {I : zI} {R : Nat → Nat → Option Nat}
    (t : zcl d 70 2 163 [zr 56] ((57, 1224, L), I, R) (fun v h1 => zRn (zcl d) 76 (67, 2206) Q 204 [some (zr 0), some (zi 4)] (zva v [zr 56, zi 4, zr 26]) h1)) :
    zRn (zcl d) 76 (67, 2206) Q 200 [some (zr 0), some (zi 4)] [zr 56, zi 4, zr 26] ((57, 1224, L), I, R) :=
  zgo [10, 17, 21, 28, 32, 39, 43, 52, 61, 69, 77, 88, 92, 101, 105, 114, 118, 127, 131, 140, 144, 153, 157, 173, 177, 200, 204, 215, 225, 252, 272] 2 (And.intro (by decide : (zSh 56).1 < 13) (And.intro (Nat.le_of_ble_eq_true rfl) (Exists.intro 2 (Exists.intro 163 (And.intro (Or.inr (Nat.le_of_ble_eq_true rfl : 57 + 2 ≤ 67)) (And.intro (Or.inr (Nat.le_of_ble_eq_true rfl : 1224 + 163 ≤ 2206)) (t)))))))
theorem b_x11_204_59 {d : Nat} {Q : zQ} {L : Nat} {I : zI} {R : Nat → Nat → Option Nat}
    (t : ((z2 R 26 4 (some 56)) 0 5 = some 26) ∧ (zRn (zcl d) 76 (67, 2206) Q 200 [some (zr 0), some (zi 5)] [zr 59, zi 5, zr 26] ((60, 1387 + 3, L), (z1 I 59 0), (z1 (z2 R 26 4 (some 56)) 59 none)))) :
    zRn (zcl d) 76 (67, 2206) Q 204 [some (zr 0), some (zi 4)] [zr 56, zi 4, zr 26] ((59, 1387, L), I, R) :=
  zgo [10, 17, 21, 28, 32, 39, 43, 52, 61, 69, 77, 88, 92, 101, 105, 114, 118, 127, 131, 140, 144, 153, 157, 173, 177, 200, 204, 215, 225, 252, 272] 10 (And.intro (by decide : zfit (zSh 26).1 (zSh 56).1 = true) (And.intro (by decide : (0 : Int) ≤ 4 ∧ (4 : Int) < ((zSh 26).2 : Nat)) ((And.intro (fun n => absurd n (by decide : ¬ ((6 : Int) ≤ 5))) (fun _ => (And.intro (by decide : (zSh 0).1 = 11) (Exists.intro (some 26) (And.intro t.1 ((And.intro (by decide : zSh 59 = (10, 3)) (And.intro (Nat.le_of_ble_eq_true rfl : 59 + 1 ≤ 67) (And.intro (Nat.le_of_ble_eq_true rfl : 1387 + 3 ≤ 2206) (And.intro (Nat.le_of_ble_eq_true rfl : 59 + 1 ≤ 1000) (t.2))))))))))))))
theorem b_x10_59_0 {d : Nat} {Q : zQ} {L : Nat} {I : zI} {R : Nat → Nat → Option Nat}
    (t : zRn (zcl d) 70 (62, 1553) Q 10 [some (zr 59)] [zr 60, zr 59] ((61, 1390 + 160, L), (z1 I 60 0), (z1 R 60 none))) :
    zRn (zcl d) 70 (62, 1553) Q 0 [some (zr 59)] [] ((60, 1390, L), I, R) :=
  zgo [10, 17] 5 (And.intro (Nat.le_of_ble_eq_true rfl) ((And.intro (by decide : (0 : Int) ≤ 160 ∧ (160 : Int) < 1000) ((And.intro (by decide : zSh 60 = (100, 160)) (And.intro (Nat.le_of_ble_eq_true rfl : 60 + 1 ≤ 62) (And.intro (Nat.le_of_ble_eq_true rfl : 1390 + 160 ≤ 1553) (And.intro (Nat.le_of_ble_eq_true rfl : 60 + 1 ≤ 1000) (t)))))))))
theorem b_x10_59_10 {d : Nat} {Q : zQ} {L : Nat} {I : zI} {R : Nat → Nat → Option Nat}
    (t : zRn (zcl d) 70 (62, 1553) Q 17 [some (zr 59)] [zr 61, zr 59] ((62, 1550 + 3, L), (z1 I 61 0), (z1 (z2 R 59 0 (some 60)) 61 none))) :
    zRn (zcl d) 70 (62, 1553) Q 10 [some (zr 59)] [zr 60, zr 59] ((61, 1550, L), I, R) :=
  zgo [10, 17] 4 (And.intro (by decide : (zSh 59).1 = 10) ((And.intro (by decide : (0 : Int) ≤ 3 ∧ (3 : Int) < 1000) ((And.intro (by decide : zSh 61 = (100, 3)) (And.intro (Nat.le_of_ble_eq_true rfl : 61 + 1 ≤ 62) (And.intro (Nat.le_of_ble_eq_true rfl : 1550 + 3 ≤ 1553) (And.intro (Nat.le_of_ble_eq_true rfl : 61 + 1 ≤ 1000) (t)))))))))
theorem b_x10_59_17 {d : Nat} {Q : zQ} {L : Nat} {I : zI} {R : Nat → Nat → Option Nat}
    (t : Q none ((62, 1553, L), I, (z2 R 59 1 (some 61)))) :
    zRn (zcl d) 70 (62, 1553) Q 17 [some (zr 59)] [zr 61, zr 59] ((62, 1553, L), I, R) :=
  zgo [10, 17] 2 (And.intro (by decide : (zSh 59).1 = 10) (t))
theorem k_x10_59 {d : Nat} {Q : zQ} {L : Nat} {I : zI} {R : Nat → Nat → Option Nat} (H : Q none ((62, 1553, L), (z1 (z1 I 60 0) 61 0), (z2 (z1 (z2 (z1 R 60 none) 59 0 (some 60)) 61 none) 59 1 (some 61)))) : zcl (d + 3) 70 2 163 [zr 59] ((60, 1390, L), I, R) Q :=
  zenN rfl rfl (fun Q1 hQ => b_x10_59_0 (b_x10_59_10 (b_x10_59_17 (hQ _ _ rfl H))))
theorem b_x11_200_60 {d : Nat} {Q : zQ} {L : Nat} {I : zI} {R : Nat → Nat → Option Nat}
    (t : zcl d 70 2 163 [zr 59] ((60, 1390, L), I, R) (fun v h1 => zRn (zcl d) 76 (67, 2206) Q 204 [some (zr 0), some (zi 5)] (zva v [zr 59, zi 5, zr 26]) h1)) :
    zRn (zcl d) 76 (67, 2206) Q 200 [some (zr 0), some (zi 5)] [zr 59, zi 5, zr 26] ((60, 1390, L), I, R) :=
  zgo [10, 17, 21, 28, 32, 39, 43, 52, 61, 69, 77, 88, 92, 101, 105, 114, 118, 127, 131, 140, 144, 153, 157, 173, 177, 200, 204, 215, 225, 252, 272] 2 (And.intro (by decide : (zSh 59).1 < 13) (And.intro (Nat.le_of_ble_eq_true rfl) (Exists.intro 2 (Exists.intro 163 (And.intro (Or.inr (Nat.le_of_ble_eq_true rfl : 60 + 2 ≤ 67)) (And.intro (Or.inr (Nat.le_of_ble_eq_true rfl : 1390 + 163 ≤ 2206)) (t)))))))
theorem b_x11_204_62 {d : Nat} {Q : zQ} {L : Nat} {I : zI} {R : Nat → Nat → Option Nat}
    (t : zRn (zcl d) 76 (67, 2206) Q 215 [some (zr 0), some (zi 6)] [zr 62, zr 0] ((63, 1553 + 10, L), (z1 I 62 0), (z1 (z2 R 26 5 (some 59)) 62 none))) :
    zRn (zcl d) 76 (67, 2206) Q 204 [some (zr 0), some (zi 5)] [zr 59, zi 5, zr 26] ((62, 1553, L), I, R) :=
  zgo [10, 17, 21, 28, 32, 39, 43, 52, 61, 69, 77, 88, 92, 101, 105, 114, 118, 127, 131, 140, 144, 153, 157, 173, 177, 200, 204, 215, 225, 252, 272] 8 (And.intro (by decide : zfit (zSh 26).1 (zSh 59).1 = true) (And.intro (by decide : (0 : Int) ≤ 5 ∧ (5 : Int) < ((zSh 26).2 : Nat)) ((And.intro (fun _ => (And.intro (by decide : zSh 62 = (7, 10)) (And.intro (Nat.le_of_ble_eq_true rfl : 62 + 1 ≤ 67) (And.intro (Nat.le_of_ble_eq_true rfl : 1553 + 10 ≤ 2206) (And.intro (Nat.le_of_ble_eq_true rfl : 62 + 1 ≤ 1000) (t)))))) (fun n => absurd (by decide : (6 : Int) ≤ 6) n)))))
theorem b_x7_62_0 {d : Nat} {Q : zQ} {L : Nat} {I : zI} {R : Nat → Nat → Option Nat}
    (t : zRn (zcl d) 36 (67, 2206) Q 10 [some (zr 62), some (zr 44)] [zr 63, zr 62] ((64, 1563 + 160, L), (z1 I 63 0), (z1 R 63 none))) :
    zRn (zcl d) 36 (67, 2206) Q 0 [some (zr 62), some (zr 44)] [] ((63, 1563, L), I, R) :=
  zgo [10, 19, 28, 37] 5 (And.intro (Nat.le_of_ble_eq_true rfl) ((And.intro (by decide : (0 : Int) ≤ 160 ∧ (160 : Int) < 1000) ((And.intro (by decide : zSh 63 = (100, 160)) (And.intro (Nat.le_of_ble_eq_true rfl : 63 + 1 ≤ 67) (And.intro (Nat.le_of_ble_eq_true rfl : 1563 + 160 ≤ 2206) (And.intro (Nat.le_of_ble_eq_true rfl : 63 + 1 ≤ 1000) (t)))))))))
theorem b_x7_62_10 {d : Nat} {Q : zQ} {L : Nat} {I : zI} {R : Nat → Nat → Option Nat}
    (t : zRn (zcl d) 36 (67, 2206) Q 19 [some (zr 62), some (zr 44)] [zr 64, zr 62] ((65, 1723 + 161, L), (z1 I 64 0), (z1 (z2 R 62 0 (some 63)) 64 none))) :
    zRn (zcl d) 36 (67, 2206) Q 10 [some (zr 62), some (zr 44)] [zr 63, zr 62] ((64, 1723, L), I, R) :=
  zgo [10, 19, 28, 37] 4 (And.intro (by decide : (zSh 62).1 = 7) ((And.intro (by decide : (0 : Int) ≤ 161 ∧ (161 : Int) < 1000) ((And.intro (by decide : zSh 64 = (100, 161)) (And.intro (Nat.le_of_ble_eq_true rfl : 64 + 1 ≤ 67) (And.intro (Nat.le_of_ble_eq_true rfl : 1723 + 161 ≤ 2206) (And.intro (Nat.le_of_ble_eq_true rfl : 64 + 1 ≤ 1000) (t)))))))))
theorem b_x7_62_19 {d : Nat} {Q : zQ} {L : Nat} {I : zI} {R : Nat → Nat → Option Nat}
    (t : zRn (zcl d) 36 (67, 2206) Q 28 [some (zr 62), some (zr 44)] [zr 65, zr 62] ((66, 1884 + 161, L), (z1 I 65 0), (z1 (z2 R 62 2 (some 64)) 65 none))) :
    zRn (zcl d) 36 (67, 2206) Q 19 [some (zr 62), some (zr 44)] [zr 64, zr 62] ((65, 1884, L), I, R) :=
  zgo [10, 19, 28, 37] 4 (And.intro (by decide : (zSh 62).1 = 7) ((And.intro (by decide : (0 : Int) ≤ 161 ∧ (161 : Int) < 1000) ((And.intro (by decide : zSh 65 = (100, 161)) (And.intro (Nat.le_of_ble_eq_true rfl : 65 + 1 ≤ 67) (And.intro (Nat.le_of_ble_eq_true rfl : 1884 + 161 ≤ 2206) (And.intro (Nat.le_of_ble_eq_true rfl : 65 + 1 ≤ 1000) (t)))))))))
theorem b_x7_62_28 {d : Nat} {Q : zQ} {L : Nat} {I : zI} {R : Nat → Nat → Option Nat}
    (t : zRn (zcl d) 36 (67, 2206) Q 37 [some (zr 62), some (zr 44)] [zr 66, zr 62] ((67, 2045 + 161, L), (z1 I 66 0), (z1 (z2 R 62 3 (some 65)) 66 none))) :
    zRn (zcl d) 36 (67, 2206) Q 28 [some (zr 62), some (zr 44)] [zr 65, zr 62] ((66, 2045, L), I, R) :=
  zgo [10, 19, 28, 37] 4 (And.intro (by decide : (zSh 62).1 = 7) ((And.intro (by decide : (0 : Int) ≤ 161 ∧ (161 : Int) < 1000) ((And.intro (by decide : zSh 66 = (100, 161)) (And.intro (Nat.le_of_ble_eq_true rfl : 66 + 1 ≤ 67) (And.intro (Nat.le_of_ble_eq_true rfl : 2045 + 161 ≤ 2206) (And.intro (Nat.le_of_ble_eq_true rfl : 66 + 1 ≤ 1000) (t)))))))))
theorem b_x7_62_37 {d : Nat} {Q : zQ} {L : Nat} {I : zI} {R : Nat → Nat → Option Nat}
    (t : Q none ((67, 2206, L), I, (z2 (z2 R 62 4 (some 66)) 62 9 (some 44)))) :
    zRn (zcl d) 36 (67, 2206) Q 37 [some (zr 62), some (zr 44)] [zr 66, zr 62] ((67, 2206, L), I, R) :=
  zgo [10, 19, 28, 37] 5 (And.intro (by decide : (zSh 62).1 = 7) ((And.intro (by decide : (zSh 62).1 = 7) (t))))
theorem k_x7_62 {d : Nat} {Q : zQ} {L : Nat} {I : zI} {R : Nat → Nat → Option Nat} (H : Q none ((67, 2206, L), (z1 (z1 (z1 (z1 I 63 0) 64 0) 65 0) 66 0), (z2 (z2 (z1 (z2 (z1 (z2 (z1 (z2 (z1 R 63 none) 62 0 (some 63)) 64 none) 62 2 (some 64)) 65 none) 62 3 (some 65)) 66 none) 62 4 (some 66)) 62 9 (some 44)))) : zcl (d + 3) 36 4 643 [zr 62, zr 44] ((63, 1563, L), I, R) Q :=
  zenN rfl rfl (fun Q1 hQ => b_x7_62_0 (b_x7_62_10 (b_x7_62_19 (b_x7_62_28 (b_x7_62_37 (hQ _ _ rfl H))))))
theorem b_x11_215 {d : Nat} {Q : zQ} {L : Nat} {I : zI} {R : Nat → Nat → Option Nat}
    (t : (R 0 5 = some 26) ∧ ((R 26 0 = some 44) ∧ (zcl d 36 4 643 [zr 62, zr 44] ((63, 1563, L), I, R) (fun v h1 => zRn (zcl d) 76 (67, 2206) Q 225 [some (zr 0), some (zi 6)] (zva v [zr 62, zr 0]) h1)))) :
    zRn (zcl d) 76 (67, 2206) Q 215 [some (zr 0), some (zi 6)] [zr 62, zr 0] ((63, 1563, L), I, R) :=
  zgo [10, 17, 21, 28, 32, 39, 43, 52, 61, 69, 77, 88, 92, 101, 105, 114, 118, 127, 131, 140, 144, 153, 157, 173, 177, 200, 204, 215, 225, 252, 272] 6 (And.intro (by decide : (zSh 0).1 = 11) (Exists.intro (some 26) (And.intro t.1 ((And.intro (by decide : 102 ≤ (zSh 26).1 ∧ (zSh 26).1 ≤ 105) (And.intro (by decide : (0 : Int) ≤ 0 ∧ (0 : Int) < ((zSh 26).2 : Nat)) (Exists.intro (some 44) (And.intro t.2.1 ((And.intro (by decide : (zSh 62).1 < 13) (And.intro (Nat.le_of_ble_eq_true rfl) (Exists.intro 4 (Exists.intro 643 (And.intro (Or.inr (Nat.le_of_ble_eq_true rfl : 63 + 4 ≤ 67)) (And.intro (Or.inr (Nat.le_of_ble_eq_true rfl : 1563 + 643 ≤ 2206)) (t.2.2))))))))))))))))
theorem b_x11_225 {d : Nat} {Q : zQ} {L : Nat} {I : zI} {R : Nat → Nat → Option Nat}
    (t : ((z2 R 0 6 (some 62)) 0 6 = some 62) ∧ (zcl d 37 0 0 [zr 62, zi 107] ((67, 2206, L), I, (z2 R 0 6 (some 62))) (fun v h1 => zRn (zcl d) 76 (67, 2206) Q 252 [some (zr 0), some (zi 0)] (zva v []) h1))) :
    zRn (zcl d) 76 (67, 2206) Q 225 [some (zr 0), some (zi 6)] [zr 62, zr 0] ((67, 2206, L), I, R) :=
  zgo [10, 17, 21, 28, 32, 39, 43, 52, 61, 69, 77, 88, 92, 101, 105, 114, 118, 127, 131, 140, 144, 153, 157, 173, 177, 200, 204, 215, 225, 252, 272] 13 (And.intro (by decide : (zSh 0).1 = 11) ((And.intro (Nat.le_of_ble_eq_true rfl) (And.intro (by decide : 1000 ≤ 1000 ∧ 1000 < 1013) ((And.intro (fun n => absurd n (by decide : ¬ ((35 : Int) ≤ 0))) (fun _ => (And.intro (by decide : (zSh 0).1 = 11) (Exists.intro (some 62) (And.intro t.1 ((And.intro (Nat.le_of_ble_eq_true rfl) (And.intro (by decide : 1000 ≤ 1000 ∧ 1000 < 1013) (And.intro (by decide : (0 : Int) ≤ 0 ∧ (0 : Int) < (zvsLen 1000 : Nat)) ((Exists.intro 37 (And.intro rfl (And.intro (Nat.le_of_ble_eq_true rfl) (Exists.intro 0 (Exists.intro 0 (And.intro (Or.inl rfl) (And.intro (Or.inl rfl) (t.2)))))))))))))))))))))))
def bIl : List (Nat × Option (Nat × Int)) := [(66, none), (65, none), (64, none), (63, none), (62, none), (61, none), (60, none), (59, none), (58, none), (57, none), (56, none), (55, none), (54, none), (53, none), (52, none), (51, none), (50, none), (49, none), (48, none), (47, none), (46, none), (45, none), (44, none), (42, some (1, (-1))), (43, none), (42, none), (40, some (1, (-1))), (41, none), (40, none), (38, some (1, (-1))), (39, none), (38, none), (36, some (1, (-1))), (37, none), (36, none), (35, none), (34, none), (33, none), (32, none), (31, none), (30, none), (29, none), (28, none), (27, none), (26, none), (25, none), (24, none), (23, none), (22, none), (21, none), (20, none), (19, none), (18, none), (17, none), (16, none), (15, none), (14, none), (13, none), (12, none), (11, none), (10, none), (9, none), (8, none), (7, none), (6, none), (5, none), (4, none), (3, none), (2, none), (1, none), (0, none)]
def bRl : List (Nat × Option (Nat × Option Nat)) := [(0, some (6, (some 62))), (62, some (9, (some 44))), (62, some (4, (some 66))), (66, none), (62, some (3, (some 65))), (65, none), (62, some (2, (some 64))), (64, none), (62, some (0, (some 63))), (63, none), (62, none), (26, some (5, (some 59))), (59, some (1, (some 61))), (61, none), (59, some (0, (some 60))), (60, none), (59, none), (26, some (4, (some 56))), (56, some (1, (some 58))), (58, none), (56, some (0, (some 57))), (57, none), (56, none), (26, some (3, (some 53))), (53, some (1, (some 55))), (55, none), (53, some (0, (some 54))), (54, none), (53, none), (26, some (2, (some 50))), (50, some (1, (some 52))), (52, none), (50, some (0, (some 51))), (51, none), (50, none), (26, some (1, (some 47))), (47, some (1, (some 49))), (49, none), (47, some (0, (some 48))), (48, none), (47, none), (26, some (0, (some 44))), (44, some (1, (some 46))), (46, none), (44, some (0, (some 45))), (45, none), (44, none), (28, some (3, (some 42))), (42, some (0, (some 43))), (43, none), (42, none), (28, some (2, (some 40))), (40, some (0, (some 41))), (41, none), (40, none), (28, some (1, (some 38))), (38, some (0, (some 39))), (39, none), (38, none), (28, some (0, (some 36))), (36, some (0, (some 37))), (37, none), (36, none), (1, some (5, (some 35))), (35, none), (1, some (4, (some 34))), (34, none), (1, some (3, (some 33))), (33, none), (1, some (2, (some 32))), (32, none), (1, some (1, (some 31))), (31, none), (1, some (0, (some 30))), (30, none), (0, some (10, (some 29))), (29, none), (0, some (9, (some 28))), (28, none), (0, some (8, (some 27))), (27, none), (0, some (5, (some 26))), (26, none), (0, some (3, (some 18))), (19, some (4, (some 25))), (25, none), (19, some (3, (some 24))), (24, none), (19, some (2, (some 23))), (23, none), (19, some (1, (some 22))), (22, none), (19, some (0, (some 21))), (21, none), (18, some (1, (some 20))), (20, none), (18, some (0, (some 19))), (19, none), (18, none), (0, some (2, (some 10))), (11, some (4, (some 17))), (17, none), (11, some (3, (some 16))), (16, none), (11, some (2, (some 15))), (15, none), (11, some (1, (some 14))), (14, none), (11, some (0, (some 13))), (13, none), (10, some (1, (some 12))), (12, none), (10, some (0, (some 11))), (11, none), (10, none), (0, some (1, (some 2))), (3, some (4, (some 9))), (9, none), (3, some (3, (some 8))), (8, none), (3, some (2, (some 7))), (7, none), (3, some (1, (some 6))), (6, none), (3, some (0, (some 5))), (5, none), (2, some (1, (some 4))), (4, none), (2, some (0, (some 3))), (3, none), (2, none), (0, some (0, (some 1))), (1, none), (0, none)]
theorem b_class {d : Nat} {Q : zQ} {L : Nat} {I : zI} {R : Nat → Nat → Option Nat} (H : zcl (d + 3) 37 0 0 [zr 62, zi 107] ((67, 2206, L), zhl 0 I bIl, zhl none R bRl) (fun v h1 => zRn (zcl (d + 3)) 76 (67, 2206) Q 252 [some (zr 0), some (zi 0)] (zva v []) h1)) : zRn (zcl (d + 3)) 76 (67, 2206) Q 0 [some (zr 0), none] [] ((1, 13, L), z1 I 0 0, z1 R 0 none) :=
  b_x11_0 (b_x11_10 (b_x11_17 (k_x0_2 (b_x11_21 (b_x11_28 (k_x0_10 (b_x11_32 (b_x11_39 (k_x0_18 (b_x11_43 (b_x11_52 (b_x11_61 (b_x11_69 (b_x11_77 ⟨rfl, b_x11_88 (b_64 rfl (b_x11_92 ⟨rfl, b_x11_101 (b_10 rfl (b_x11_105 ⟨rfl, b_x11_114 (b_4 rfl (b_x11_118 ⟨rfl, b_x11_127 (b_16 rfl (b_x11_131 ⟨rfl, b_x11_140 (b_21 rfl (b_x11_144 ⟨rfl, b_x11_153 (b_30 rfl (b_x11_157 ⟨rfl, b_x11_173 (k_x8_36 (b_x11_177 ⟨rfl, b_x11_173_39 (k_x8_38 (b_x11_177_40 ⟨rfl, b_x11_173_41 (k_x8_40 (b_x11_177_42 ⟨rfl, b_x11_173_43 (k_x8_42 (b_x11_177_44 ⟨rfl, b_x11_200 (k_x10_44 (b_x11_204 ⟨rfl, b_x11_200_48 (k_x10_47 (b_x11_204_50 ⟨rfl, b_x11_200_51 (k_x10_50 (b_x11_204_53 ⟨rfl, b_x11_200_54 (k_x10_53 (b_x11_204_56 ⟨rfl, b_x11_200_57 (k_x10_56 (b_x11_204_59 ⟨rfl, b_x11_200_60 (k_x10_59 (b_x11_204_62 (b_x11_215 ⟨rfl, rfl, k_x7_62 (b_x11_225 ⟨rfl, H⟩)⟩)))⟩))⟩))⟩))⟩))⟩))⟩))⟩))⟩))⟩))⟩))⟩))⟩))⟩))⟩))⟩))⟩))))))))))))))
end
