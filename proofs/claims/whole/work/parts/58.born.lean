section
/-! a heap that is written in a row: the last first; what stands there -/
def zhl {α : Type} (d : α) (f : Nat → Nat → α) : List (Nat × Option (Nat × α)) → Nat → Nat → α
  | [] => f
  | (a, none) :: l => z1 (zhl d f l) a d
  | (a, some (j, v)) :: l => z2 (zhl d f l) a j v
def zhk {α : Type} (d : α) : List (Nat × Option (Nat × α)) → Nat → Nat → Option α
  | [], _, _ => none
  | (a, none) :: l, x, j => match Nat.beq x a with
    | true => some d
    | false => zhk d l x j
  | (a, some (k, v)) :: l, x, j => match Nat.beq x a with
    | true => match Nat.beq j k with
      | true => some v
      | false => zhk d l x j
    | false => zhk d l x j
theorem zbn {x a : Nat} (e : Nat.beq x a = false) : x ≠ a := fun u => by
  rw [u, Nat.beq_refl] at e
  cases e
theorem zhk_at {α : Type} {d : α} {f : Nat → Nat → α} : ∀ {l : List (Nat × Option (Nat × α))} {x j : Nat} {v : α}, zhk d l x j = some v → zhl d f l x j = v
  | [], x, j, v, h => by cases h
  | (a, none) :: l, x, j, v, h => by
    show (if x = a then d else zhl d f l x j) = v
    have h : (match Nat.beq x a with | true => some d | false => zhk d l x j) = some v := h
    cases e : Nat.beq x a with
    | true =>
      rw [e] at h
      rw [if_pos (Nat.eq_of_beq_eq_true e)]
      exact Option.some.inj h
    | false =>
      rw [e] at h
      rw [if_neg (zbn e)]
      exact zhk_at h
  | (a, some (k, w)) :: l, x, j, v, h => by
    show (if x = a ∧ j = k then w else zhl d f l x j) = v
    have h : (match Nat.beq x a with | true => (match Nat.beq j k with | true => some w | false => zhk d l x j) | false => zhk d l x j) = some v := h
    cases e : Nat.beq x a with
    | true =>
      rw [e] at h
      cases e2 : Nat.beq j k with
      | true =>
        rw [e2] at h
        rw [if_pos ⟨Nat.eq_of_beq_eq_true e, Nat.eq_of_beq_eq_true e2⟩]
        exact Option.some.inj h
      | false =>
        rw [e2] at h
        rw [if_neg (fun u => zbn e2 u.2)]
        exact zhk_at h
    | false =>
      rw [e] at h
      rw [if_neg (fun u => zbn e u.1)]
      exact zhk_at h
def zhf {α : Type} : List (Nat × Option (Nat × α)) → Nat → Bool
  | [], _ => true
  | (a, _) :: l, x => match Nat.beq x a with
    | true => false
    | false => zhf l x
theorem zhf_at {α : Type} {d : α} {f : Nat → Nat → α} : ∀ {l : List (Nat × Option (Nat × α))} {x : Nat}, zhf l x = true → zhl d f l x = f x
  | [], x, _ => rfl
  | (a, q) :: l, x, h => by
    have h : (match Nat.beq x a with | true => false | false => zhf l x) = true := h
    cases e : Nat.beq x a with
    | true => rw [e] at h; cases h
    | false =>
      rw [e] at h
      have ne : x ≠ a := zbn e
      cases q with
      | none => funext j; exact (if_neg ne).trans (congrFun (zhf_at h) j)
      | some w => funext j; exact (if_neg (fun u => ne u.1)).trans (congrFun (zhf_at h) j)
end
section
/-! how all is made: constructors at literal places; written by wip/whole/born.py -/
theorem zenN {d k mc ms : Nat} {As : List zV} {h : zH} {Q : zQ} {ls : zLv} (hl : zens (zL k) As = ls) (hz : Nat.ble (zcs As) (zL k) = true) (H : ∀ Q1 : zQ, (∀ (v : Option zV) (h2 : zH), h2.1 = (h.1.1 + mc, h.1.2.1 + ms, h.1.2.2) → Q v h2 → Q1 v h2) → zRn (zcl d) k (h.1.1 + mc, h.1.2.1 + ms) Q1 0 ls [] h) : zcl (d + 1) k mc ms As h Q :=
  zent hl (Nat.le_of_ble_eq_true hz) (H _ (fun v h2 e q => ⟨e, q⟩))
theorem zen0 {d k : Nat} {As : List zV} {h : zH} {Q : zQ} {ls : zLv} (hl : zens (zL k) As = ls) (hz : Nat.ble (zcs As) (zL k) = true) (H : ∀ (B : Nat × Nat) (Q1 : zQ), (∀ (v : Option zV) (h2 : zH), h2.1 = h.1 → Q v h2 → Q1 v h2) → zRn (zcl d) k B Q1 0 ls [] h) : zcl (d + 1) k 0 0 As h Q :=
  zent hl (Nat.le_of_ble_eq_true hz) (H _ _ (fun v h2 e q => ⟨e, q⟩))
section
variable {d x : Nat} {Q : zQ} {h : zH}
theorem b_26 (hx : Nat.blt (zSh x).1 13 = true) (H : Q none h) : zcl (d + 1) 26 0 0 [zr x] h Q :=
  zen0 rfl rfl (fun B Q1 hQ => zgo [] 3 (And.intro (Nat.le_of_ble_eq_true rfl) (hQ _ _ rfl H)))
theorem b_64 (hx : Nat.blt (zSh x).1 13 = true) (H : Q none h) : zcl (d + 1) 64 0 0 [zr x] h Q :=
  zen0 rfl rfl (fun B Q1 hQ => zgo [] 3 (And.intro (Nat.le_of_ble_eq_true rfl) (hQ _ _ rfl H)))
theorem b_10 (hx : Nat.blt (zSh x).1 13 = true) (H : Q none h) : zcl (d + 2) 10 0 0 [zr x] h Q :=
  zen0 rfl rfl (fun B Q1 hQ => zgo [4] 2 (And.intro (Nat.le_of_ble_eq_true hx) (And.intro (Nat.le_of_ble_eq_true rfl) (Exists.intro 0 (Exists.intro 0 (And.intro (Or.inl rfl) (And.intro (Or.inl rfl) (b_64 hx (zgo [] 1 (hQ _ _ rfl H)))))))))
theorem b_4 (hx : Nat.blt (zSh x).1 13 = true) (H : Q none h) : zcl (d + 2) 4 0 0 [zr x] h Q :=
  zen0 rfl rfl (fun B Q1 hQ => zgo [4] 2 (And.intro (Nat.le_of_ble_eq_true hx) (And.intro (Nat.le_of_ble_eq_true rfl) (Exists.intro 0 (Exists.intro 0 (And.intro (Or.inl rfl) (And.intro (Or.inl rfl) (b_64 hx (zgo [] 1 (hQ _ _ rfl H)))))))))
theorem b_30 (hx : Nat.blt (zSh x).1 13 = true) (H : Q none h) : zcl (d + 2) 30 0 0 [zr x] h Q :=
  zen0 rfl rfl (fun B Q1 hQ => zgo [4] 2 (And.intro (Nat.le_of_ble_eq_true hx) (And.intro (Nat.le_of_ble_eq_true rfl) (Exists.intro 0 (Exists.intro 0 (And.intro (Or.inl rfl) (And.intro (Or.inl rfl) (b_64 hx (zgo [] 1 (hQ _ _ rfl H)))))))))
theorem b_16 (hx : Nat.blt (zSh x).1 13 = true) (H : Q none h) : zcl (d + 3) 16 0 0 [zr x] h Q :=
  zen0 rfl rfl (fun B Q1 hQ => zgo [4] 2 (And.intro (Nat.le_of_ble_eq_true hx) (And.intro (Nat.le_of_ble_eq_true rfl) (Exists.intro 0 (Exists.intro 0 (And.intro (Or.inl rfl) (And.intro (Or.inl rfl) (b_10 hx (zgo [] 1 (hQ _ _ rfl H)))))))))
theorem b_21 (hx : Nat.blt (zSh x).1 13 = true) (H : Q none h) : zcl (d + 3) 21 0 0 [zr x] h Q :=
  zen0 rfl rfl (fun B Q1 hQ => zgo [4] 2 (And.intro (Nat.le_of_ble_eq_true hx) (And.intro (Nat.le_of_ble_eq_true rfl) (Exists.intro 0 (Exists.intro 0 (And.intro (Or.inl rfl) (And.intro (Or.inl rfl) (b_4 hx (zgo [] 1 (hQ _ _ rfl H)))))))))
end
theorem b_law_0 {d : Nat} {Q : zQ} {L : Nat} {I : zI} {R : Nat → Nat → Option Nat}
    (t : zRn (zcl d) 205 (600000, 7302250) Q 4 [some (zr 2000), none, none, none] [zr 0, zr 0] ((1, 13, L), (z1 I 0 0), (z1 R 0 none))) :
    zRn (zcl d) 205 (600000, 7302250) Q 0 [some (zr 2000), none, none, none] [] ((0, 0, L), I, R) :=
  zgo [4, 7, 15, 179, 198, 227, 251, 270, 284, 298, 307, 331, 350, 364, 373, 382, 386, 400, 409, 433, 452, 461, 465, 484, 498, 517, 531, 555, 574, 593, 607, 626, 640, 654, 663, 688, 707, 726, 740, 759, 773, 802, 826, 836, 840, 849, 853, 867, 876, 900, 919, 943, 962, 996, 1025, 1054, 1078, 1097, 1111] 2 (And.intro rfl (And.intro (Nat.le_of_ble_eq_true rfl) (And.intro (Nat.le_of_ble_eq_true rfl) (And.intro (Nat.le_of_ble_eq_true rfl) (t)))))
theorem b_x0_2_0 {d : Nat} {Q : zQ} {L : Nat} {I : zI} {R : Nat → Nat → Option Nat}
    (t : ((z2 (z1 (z2 (z1 R 3 none) 2 0 (some 3)) 4 none) 2 1 (some 4)) 2 0 = some 3) ∧ (zcl d 26 0 0 [zr 5] ((6, 44, L), (z1 (z1 (z1 I 3 0) 4 0) 5 0), (z1 (z2 (z1 (z2 (z1 R 3 none) 2 0 (some 3)) 4 none) 2 1 (some 4)) 5 none)) (fun v h1 => zRn (zcl d) 0 (10, 64) Q 39 [some (zr 2), some (zi 0)] (zva v [zr 5, zi 0, zr 3]) h1))) :
    zRn (zcl d) 0 (10, 64) Q 0 [some (zr 2), none] [] ((3, 26, L), I, R) :=
  zgo [39] 21 (And.intro (Nat.le_of_ble_eq_true rfl) ((And.intro (by decide) ((And.intro rfl (And.intro (Nat.le_of_ble_eq_true rfl) (And.intro (Nat.le_of_ble_eq_true rfl) (And.intro (Nat.le_of_ble_eq_true rfl) ((And.intro rfl ((And.intro (by decide) ((And.intro rfl (And.intro (Nat.le_of_ble_eq_true rfl) (And.intro (Nat.le_of_ble_eq_true rfl) (And.intro (Nat.le_of_ble_eq_true rfl) ((And.intro rfl ((And.intro (fun n => absurd n (by decide)) (fun _ => (And.intro rfl (Exists.intro (some 3) (And.intro t.1 ((And.intro rfl (And.intro (Nat.le_of_ble_eq_true rfl) (And.intro (Nat.le_of_ble_eq_true rfl) (And.intro (Nat.le_of_ble_eq_true rfl) ((And.intro (by decide) (And.intro (Nat.le_of_ble_eq_true rfl) (Exists.intro 0 (Exists.intro 0 (And.intro (Or.inl rfl) (And.intro (Or.inl rfl) (t.2))))))))))))))))))))))))))))))))))))))
theorem b_x0_2_39 {d : Nat} {Q : zQ} {L : Nat} {I : zI} {R : Nat → Nat → Option Nat}
    (t : ((z2 R 3 0 (some 5)) 2 0 = some 3) ∧ (zcl d 26 0 0 [zr 6] ((7, 49, L), (z1 I 6 0), (z1 (z2 R 3 0 (some 5)) 6 none)) (fun v h1 => zRn (zcl d) 0 (10, 64) Q 39 [some (zr 2), some (zi 1)] (zva v [zr 6, zi 1, zr 3]) h1))) :
    zRn (zcl d) 0 (10, 64) Q 39 [some (zr 2), some (zi 0)] [zr 5, zi 0, zr 3] ((6, 44, L), I, R) :=
  zgo [39] 12 (And.intro rfl (And.intro (by decide) ((And.intro (fun n => absurd n (by decide)) (fun _ => (And.intro rfl (Exists.intro (some 3) (And.intro t.1 ((And.intro rfl (And.intro (Nat.le_of_ble_eq_true rfl) (And.intro (Nat.le_of_ble_eq_true rfl) (And.intro (Nat.le_of_ble_eq_true rfl) ((And.intro (by decide) (And.intro (Nat.le_of_ble_eq_true rfl) (Exists.intro 0 (Exists.intro 0 (And.intro (Or.inl rfl) (And.intro (Or.inl rfl) (t.2)))))))))))))))))))))
theorem b_x0_2_39_7 {d : Nat} {Q : zQ} {L : Nat} {I : zI} {R : Nat → Nat → Option Nat}
    (t : ((z2 R 3 1 (some 6)) 2 0 = some 3) ∧ (zcl d 26 0 0 [zr 7] ((8, 54, L), (z1 I 7 0), (z1 (z2 R 3 1 (some 6)) 7 none)) (fun v h1 => zRn (zcl d) 0 (10, 64) Q 39 [some (zr 2), some (zi 2)] (zva v [zr 7, zi 2, zr 3]) h1))) :
    zRn (zcl d) 0 (10, 64) Q 39 [some (zr 2), some (zi 1)] [zr 6, zi 1, zr 3] ((7, 49, L), I, R) :=
  zgo [39] 12 (And.intro rfl (And.intro (by decide) ((And.intro (fun n => absurd n (by decide)) (fun _ => (And.intro rfl (Exists.intro (some 3) (And.intro t.1 ((And.intro rfl (And.intro (Nat.le_of_ble_eq_true rfl) (And.intro (Nat.le_of_ble_eq_true rfl) (And.intro (Nat.le_of_ble_eq_true rfl) ((And.intro (by decide) (And.intro (Nat.le_of_ble_eq_true rfl) (Exists.intro 0 (Exists.intro 0 (And.intro (Or.inl rfl) (And.intro (Or.inl rfl) (t.2)))))))))))))))))))))
theorem b_x0_2_39_8 {d : Nat} {Q : zQ} {L : Nat} {I : zI} {R : Nat → Nat → Option Nat}
    (t : ((z2 R 3 2 (some 7)) 2 0 = some 3) ∧ (zcl d 26 0 0 [zr 8] ((9, 59, L), (z1 I 8 0), (z1 (z2 R 3 2 (some 7)) 8 none)) (fun v h1 => zRn (zcl d) 0 (10, 64) Q 39 [some (zr 2), some (zi 3)] (zva v [zr 8, zi 3, zr 3]) h1))) :
    zRn (zcl d) 0 (10, 64) Q 39 [some (zr 2), some (zi 2)] [zr 7, zi 2, zr 3] ((8, 54, L), I, R) :=
  zgo [39] 12 (And.intro rfl (And.intro (by decide) ((And.intro (fun n => absurd n (by decide)) (fun _ => (And.intro rfl (Exists.intro (some 3) (And.intro t.1 ((And.intro rfl (And.intro (Nat.le_of_ble_eq_true rfl) (And.intro (Nat.le_of_ble_eq_true rfl) (And.intro (Nat.le_of_ble_eq_true rfl) ((And.intro (by decide) (And.intro (Nat.le_of_ble_eq_true rfl) (Exists.intro 0 (Exists.intro 0 (And.intro (Or.inl rfl) (And.intro (Or.inl rfl) (t.2)))))))))))))))))))))
theorem b_x0_2_39_9 {d : Nat} {Q : zQ} {L : Nat} {I : zI} {R : Nat → Nat → Option Nat}
    (t : ((z2 R 3 3 (some 8)) 2 0 = some 3) ∧ (zcl d 26 0 0 [zr 9] ((10, 64, L), (z1 I 9 0), (z1 (z2 R 3 3 (some 8)) 9 none)) (fun v h1 => zRn (zcl d) 0 (10, 64) Q 39 [some (zr 2), some (zi 4)] (zva v [zr 9, zi 4, zr 3]) h1))) :
    zRn (zcl d) 0 (10, 64) Q 39 [some (zr 2), some (zi 3)] [zr 8, zi 3, zr 3] ((9, 59, L), I, R) :=
  zgo [39] 12 (And.intro rfl (And.intro (by decide) ((And.intro (fun n => absurd n (by decide)) (fun _ => (And.intro rfl (Exists.intro (some 3) (And.intro t.1 ((And.intro rfl (And.intro (Nat.le_of_ble_eq_true rfl) (And.intro (Nat.le_of_ble_eq_true rfl) (And.intro (Nat.le_of_ble_eq_true rfl) ((And.intro (by decide) (And.intro (Nat.le_of_ble_eq_true rfl) (Exists.intro 0 (Exists.intro 0 (And.intro (Or.inl rfl) (And.intro (Or.inl rfl) (t.2)))))))))))))))))))))
theorem b_x0_2_39_10 {d : Nat} {Q : zQ} {L : Nat} {I : zI} {R : Nat → Nat → Option Nat}
    (t : Q none ((10, 64, L), I, (z2 R 3 4 (some 9)))) :
    zRn (zcl d) 0 (10, 64) Q 39 [some (zr 2), some (zi 4)] [zr 9, zi 4, zr 3] ((10, 64, L), I, R) :=
  zgo [39] 7 (And.intro rfl (And.intro (by decide) ((And.intro (fun _ => t) (fun n => absurd (by decide) n)))))
theorem k_x0_2 {d : Nat} {Q : zQ} {L : Nat} {I : zI} {R : Nat → Nat → Option Nat} (H : Q none ((10, 64, L), (z1 (z1 (z1 (z1 (z1 (z1 (z1 I 3 0) 4 0) 5 0) 6 0) 7 0) 8 0) 9 0), (z2 (z1 (z2 (z1 (z2 (z1 (z2 (z1 (z2 (z1 (z2 (z1 (z2 (z1 R 3 none) 2 0 (some 3)) 4 none) 2 1 (some 4)) 5 none) 3 0 (some 5)) 6 none) 3 1 (some 6)) 7 none) 3 2 (some 7)) 8 none) 3 3 (some 8)) 9 none) 3 4 (some 9)))) : zcl (d + 3) 0 7 38 [zr 2] ((3, 26, L), I, R) Q :=
  zenN rfl rfl (fun Q1 hQ => b_x0_2_0 ⟨rfl, b_26 rfl (b_x0_2_39 ⟨rfl, b_26 rfl (b_x0_2_39_7 ⟨rfl, b_26 rfl (b_x0_2_39_8 ⟨rfl, b_26 rfl (b_x0_2_39_9 ⟨rfl, b_26 rfl (b_x0_2_39_10 (hQ _ _ rfl H))⟩)⟩)⟩)⟩)⟩)
theorem b_x11_0 {d : Nat} {Q : zQ} {L : Nat} {I : zI} {R : Nat → Nat → Option Nat}
    (t : zcl d 0 7 38 [zr 2] ((3, 26, L), (z1 (z1 I 1 0) 2 0), (z1 (z2 (z1 R 1 none) 0 0 (some 1)) 2 none)) (fun v h1 => zRn (zcl d) 76 (67, 2206) Q 21 [some (zr 0), none] (zva v [zr 2, zr 0]) h1)) :
    zRn (zcl d) 76 (67, 2206) Q 0 [some (zr 0), none] [] ((1, 13, L), I, R) :=
  zgo [21, 32, 43, 92, 105, 118, 131, 144, 157, 177, 204, 225, 252, 272] 10 (And.intro (Nat.le_of_ble_eq_true rfl) ((And.intro (by decide) ((And.intro rfl (And.intro (Nat.le_of_ble_eq_true rfl) (And.intro (Nat.le_of_ble_eq_true rfl) (And.intro (Nat.le_of_ble_eq_true rfl) ((And.intro rfl ((And.intro rfl (And.intro (Nat.le_of_ble_eq_true rfl) (And.intro (Nat.le_of_ble_eq_true rfl) (And.intro (Nat.le_of_ble_eq_true rfl) ((And.intro (by decide) (And.intro (Nat.le_of_ble_eq_true rfl) (Exists.intro 7 (Exists.intro 38 (And.intro (Or.inr (Nat.le_of_ble_eq_true rfl)) (And.intro (Or.inr (Nat.le_of_ble_eq_true rfl)) (t)))))))))))))))))))))))
theorem b_x0_10_0 {d : Nat} {Q : zQ} {L : Nat} {I : zI} {R : Nat → Nat → Option Nat}
    (t : ((z2 (z1 (z2 (z1 R 11 none) 10 0 (some 11)) 12 none) 10 1 (some 12)) 10 0 = some 11) ∧ (zcl d 26 0 0 [zr 13] ((14, 89, L), (z1 (z1 (z1 I 11 0) 12 0) 13 0), (z1 (z2 (z1 (z2 (z1 R 11 none) 10 0 (some 11)) 12 none) 10 1 (some 12)) 13 none)) (fun v h1 => zRn (zcl d) 0 (18, 109) Q 39 [some (zr 10), some (zi 0)] (zva v [zr 13, zi 0, zr 11]) h1))) :
    zRn (zcl d) 0 (18, 109) Q 0 [some (zr 10), none] [] ((11, 71, L), I, R) :=
  zgo [39] 21 (And.intro (Nat.le_of_ble_eq_true rfl) ((And.intro (by decide) ((And.intro rfl (And.intro (Nat.le_of_ble_eq_true rfl) (And.intro (Nat.le_of_ble_eq_true rfl) (And.intro (Nat.le_of_ble_eq_true rfl) ((And.intro rfl ((And.intro (by decide) ((And.intro rfl (And.intro (Nat.le_of_ble_eq_true rfl) (And.intro (Nat.le_of_ble_eq_true rfl) (And.intro (Nat.le_of_ble_eq_true rfl) ((And.intro rfl ((And.intro (fun n => absurd n (by decide)) (fun _ => (And.intro rfl (Exists.intro (some 11) (And.intro t.1 ((And.intro rfl (And.intro (Nat.le_of_ble_eq_true rfl) (And.intro (Nat.le_of_ble_eq_true rfl) (And.intro (Nat.le_of_ble_eq_true rfl) ((And.intro (by decide) (And.intro (Nat.le_of_ble_eq_true rfl) (Exists.intro 0 (Exists.intro 0 (And.intro (Or.inl rfl) (And.intro (Or.inl rfl) (t.2))))))))))))))))))))))))))))))))))))))
theorem b_x0_10_39 {d : Nat} {Q : zQ} {L : Nat} {I : zI} {R : Nat → Nat → Option Nat}
    (t : ((z2 R 11 0 (some 13)) 10 0 = some 11) ∧ (zcl d 26 0 0 [zr 14] ((15, 94, L), (z1 I 14 0), (z1 (z2 R 11 0 (some 13)) 14 none)) (fun v h1 => zRn (zcl d) 0 (18, 109) Q 39 [some (zr 10), some (zi 1)] (zva v [zr 14, zi 1, zr 11]) h1))) :
    zRn (zcl d) 0 (18, 109) Q 39 [some (zr 10), some (zi 0)] [zr 13, zi 0, zr 11] ((14, 89, L), I, R) :=
  zgo [39] 12 (And.intro rfl (And.intro (by decide) ((And.intro (fun n => absurd n (by decide)) (fun _ => (And.intro rfl (Exists.intro (some 11) (And.intro t.1 ((And.intro rfl (And.intro (Nat.le_of_ble_eq_true rfl) (And.intro (Nat.le_of_ble_eq_true rfl) (And.intro (Nat.le_of_ble_eq_true rfl) ((And.intro (by decide) (And.intro (Nat.le_of_ble_eq_true rfl) (Exists.intro 0 (Exists.intro 0 (And.intro (Or.inl rfl) (And.intro (Or.inl rfl) (t.2)))))))))))))))))))))
theorem b_x0_10_39_15 {d : Nat} {Q : zQ} {L : Nat} {I : zI} {R : Nat → Nat → Option Nat}
    (t : ((z2 R 11 1 (some 14)) 10 0 = some 11) ∧ (zcl d 26 0 0 [zr 15] ((16, 99, L), (z1 I 15 0), (z1 (z2 R 11 1 (some 14)) 15 none)) (fun v h1 => zRn (zcl d) 0 (18, 109) Q 39 [some (zr 10), some (zi 2)] (zva v [zr 15, zi 2, zr 11]) h1))) :
    zRn (zcl d) 0 (18, 109) Q 39 [some (zr 10), some (zi 1)] [zr 14, zi 1, zr 11] ((15, 94, L), I, R) :=
  zgo [39] 12 (And.intro rfl (And.intro (by decide) ((And.intro (fun n => absurd n (by decide)) (fun _ => (And.intro rfl (Exists.intro (some 11) (And.intro t.1 ((And.intro rfl (And.intro (Nat.le_of_ble_eq_true rfl) (And.intro (Nat.le_of_ble_eq_true rfl) (And.intro (Nat.le_of_ble_eq_true rfl) ((And.intro (by decide) (And.intro (Nat.le_of_ble_eq_true rfl) (Exists.intro 0 (Exists.intro 0 (And.intro (Or.inl rfl) (And.intro (Or.inl rfl) (t.2)))))))))))))))))))))
theorem b_x0_10_39_16 {d : Nat} {Q : zQ} {L : Nat} {I : zI} {R : Nat → Nat → Option Nat}
    (t : ((z2 R 11 2 (some 15)) 10 0 = some 11) ∧ (zcl d 26 0 0 [zr 16] ((17, 104, L), (z1 I 16 0), (z1 (z2 R 11 2 (some 15)) 16 none)) (fun v h1 => zRn (zcl d) 0 (18, 109) Q 39 [some (zr 10), some (zi 3)] (zva v [zr 16, zi 3, zr 11]) h1))) :
    zRn (zcl d) 0 (18, 109) Q 39 [some (zr 10), some (zi 2)] [zr 15, zi 2, zr 11] ((16, 99, L), I, R) :=
  zgo [39] 12 (And.intro rfl (And.intro (by decide) ((And.intro (fun n => absurd n (by decide)) (fun _ => (And.intro rfl (Exists.intro (some 11) (And.intro t.1 ((And.intro rfl (And.intro (Nat.le_of_ble_eq_true rfl) (And.intro (Nat.le_of_ble_eq_true rfl) (And.intro (Nat.le_of_ble_eq_true rfl) ((And.intro (by decide) (And.intro (Nat.le_of_ble_eq_true rfl) (Exists.intro 0 (Exists.intro 0 (And.intro (Or.inl rfl) (And.intro (Or.inl rfl) (t.2)))))))))))))))))))))
theorem b_x0_10_39_17 {d : Nat} {Q : zQ} {L : Nat} {I : zI} {R : Nat → Nat → Option Nat}
    (t : ((z2 R 11 3 (some 16)) 10 0 = some 11) ∧ (zcl d 26 0 0 [zr 17] ((18, 109, L), (z1 I 17 0), (z1 (z2 R 11 3 (some 16)) 17 none)) (fun v h1 => zRn (zcl d) 0 (18, 109) Q 39 [some (zr 10), some (zi 4)] (zva v [zr 17, zi 4, zr 11]) h1))) :
    zRn (zcl d) 0 (18, 109) Q 39 [some (zr 10), some (zi 3)] [zr 16, zi 3, zr 11] ((17, 104, L), I, R) :=
  zgo [39] 12 (And.intro rfl (And.intro (by decide) ((And.intro (fun n => absurd n (by decide)) (fun _ => (And.intro rfl (Exists.intro (some 11) (And.intro t.1 ((And.intro rfl (And.intro (Nat.le_of_ble_eq_true rfl) (And.intro (Nat.le_of_ble_eq_true rfl) (And.intro (Nat.le_of_ble_eq_true rfl) ((And.intro (by decide) (And.intro (Nat.le_of_ble_eq_true rfl) (Exists.intro 0 (Exists.intro 0 (And.intro (Or.inl rfl) (And.intro (Or.inl rfl) (t.2)))))))))))))))))))))
theorem b_x0_10_39_18 {d : Nat} {Q : zQ} {L : Nat} {I : zI} {R : Nat → Nat → Option Nat}
    (t : Q none ((18, 109, L), I, (z2 R 11 4 (some 17)))) :
    zRn (zcl d) 0 (18, 109) Q 39 [some (zr 10), some (zi 4)] [zr 17, zi 4, zr 11] ((18, 109, L), I, R) :=
  zgo [39] 7 (And.intro rfl (And.intro (by decide) ((And.intro (fun _ => t) (fun n => absurd (by decide) n)))))
theorem k_x0_10 {d : Nat} {Q : zQ} {L : Nat} {I : zI} {R : Nat → Nat → Option Nat} (H : Q none ((18, 109, L), (z1 (z1 (z1 (z1 (z1 (z1 (z1 I 11 0) 12 0) 13 0) 14 0) 15 0) 16 0) 17 0), (z2 (z1 (z2 (z1 (z2 (z1 (z2 (z1 (z2 (z1 (z2 (z1 (z2 (z1 R 11 none) 10 0 (some 11)) 12 none) 10 1 (some 12)) 13 none) 11 0 (some 13)) 14 none) 11 1 (some 14)) 15 none) 11 2 (some 15)) 16 none) 11 3 (some 16)) 17 none) 11 4 (some 17)))) : zcl (d + 3) 0 7 38 [zr 10] ((11, 71, L), I, R) Q :=
  zenN rfl rfl (fun Q1 hQ => b_x0_10_0 ⟨rfl, b_26 rfl (b_x0_10_39 ⟨rfl, b_26 rfl (b_x0_10_39_15 ⟨rfl, b_26 rfl (b_x0_10_39_16 ⟨rfl, b_26 rfl (b_x0_10_39_17 ⟨rfl, b_26 rfl (b_x0_10_39_18 (hQ _ _ rfl H))⟩)⟩)⟩)⟩)⟩)
theorem b_x11_21 {d : Nat} {Q : zQ} {L : Nat} {I : zI} {R : Nat → Nat → Option Nat}
    (t : zcl d 0 7 38 [zr 10] ((11, 71, L), (z1 I 10 0), (z1 (z2 R 0 1 (some 2)) 10 none)) (fun v h1 => zRn (zcl d) 76 (67, 2206) Q 32 [some (zr 0), none] (zva v [zr 10, zr 0]) h1)) :
    zRn (zcl d) 76 (67, 2206) Q 21 [some (zr 0), none] [zr 2, zr 0] ((10, 64, L), I, R) :=
  zgo [21, 32, 43, 92, 105, 118, 131, 144, 157, 177, 204, 225, 252, 272] 5 (And.intro rfl ((And.intro rfl (And.intro (Nat.le_of_ble_eq_true rfl) (And.intro (Nat.le_of_ble_eq_true rfl) (And.intro (Nat.le_of_ble_eq_true rfl) ((And.intro (by decide) (And.intro (Nat.le_of_ble_eq_true rfl) (Exists.intro 7 (Exists.intro 38 (And.intro (Or.inr (Nat.le_of_ble_eq_true rfl)) (And.intro (Or.inr (Nat.le_of_ble_eq_true rfl)) (t))))))))))))))
theorem b_x0_18_0 {d : Nat} {Q : zQ} {L : Nat} {I : zI} {R : Nat → Nat → Option Nat}
    (t : ((z2 (z1 (z2 (z1 R 19 none) 18 0 (some 19)) 20 none) 18 1 (some 20)) 18 0 = some 19) ∧ (zcl d 26 0 0 [zr 21] ((22, 134, L), (z1 (z1 (z1 I 19 0) 20 0) 21 0), (z1 (z2 (z1 (z2 (z1 R 19 none) 18 0 (some 19)) 20 none) 18 1 (some 20)) 21 none)) (fun v h1 => zRn (zcl d) 0 (26, 154) Q 39 [some (zr 18), some (zi 0)] (zva v [zr 21, zi 0, zr 19]) h1))) :
    zRn (zcl d) 0 (26, 154) Q 0 [some (zr 18), none] [] ((19, 116, L), I, R) :=
  zgo [39] 21 (And.intro (Nat.le_of_ble_eq_true rfl) ((And.intro (by decide) ((And.intro rfl (And.intro (Nat.le_of_ble_eq_true rfl) (And.intro (Nat.le_of_ble_eq_true rfl) (And.intro (Nat.le_of_ble_eq_true rfl) ((And.intro rfl ((And.intro (by decide) ((And.intro rfl (And.intro (Nat.le_of_ble_eq_true rfl) (And.intro (Nat.le_of_ble_eq_true rfl) (And.intro (Nat.le_of_ble_eq_true rfl) ((And.intro rfl ((And.intro (fun n => absurd n (by decide)) (fun _ => (And.intro rfl (Exists.intro (some 19) (And.intro t.1 ((And.intro rfl (And.intro (Nat.le_of_ble_eq_true rfl) (And.intro (Nat.le_of_ble_eq_true rfl) (And.intro (Nat.le_of_ble_eq_true rfl) ((And.intro (by decide) (And.intro (Nat.le_of_ble_eq_true rfl) (Exists.intro 0 (Exists.intro 0 (And.intro (Or.inl rfl) (And.intro (Or.inl rfl) (t.2))))))))))))))))))))))))))))))))))))))
theorem b_x0_18_39 {d : Nat} {Q : zQ} {L : Nat} {I : zI} {R : Nat → Nat → Option Nat}
    (t : ((z2 R 19 0 (some 21)) 18 0 = some 19) ∧ (zcl d 26 0 0 [zr 22] ((23, 139, L), (z1 I 22 0), (z1 (z2 R 19 0 (some 21)) 22 none)) (fun v h1 => zRn (zcl d) 0 (26, 154) Q 39 [some (zr 18), some (zi 1)] (zva v [zr 22, zi 1, zr 19]) h1))) :
    zRn (zcl d) 0 (26, 154) Q 39 [some (zr 18), some (zi 0)] [zr 21, zi 0, zr 19] ((22, 134, L), I, R) :=
  zgo [39] 12 (And.intro rfl (And.intro (by decide) ((And.intro (fun n => absurd n (by decide)) (fun _ => (And.intro rfl (Exists.intro (some 19) (And.intro t.1 ((And.intro rfl (And.intro (Nat.le_of_ble_eq_true rfl) (And.intro (Nat.le_of_ble_eq_true rfl) (And.intro (Nat.le_of_ble_eq_true rfl) ((And.intro (by decide) (And.intro (Nat.le_of_ble_eq_true rfl) (Exists.intro 0 (Exists.intro 0 (And.intro (Or.inl rfl) (And.intro (Or.inl rfl) (t.2)))))))))))))))))))))
theorem b_x0_18_39_23 {d : Nat} {Q : zQ} {L : Nat} {I : zI} {R : Nat → Nat → Option Nat}
    (t : ((z2 R 19 1 (some 22)) 18 0 = some 19) ∧ (zcl d 26 0 0 [zr 23] ((24, 144, L), (z1 I 23 0), (z1 (z2 R 19 1 (some 22)) 23 none)) (fun v h1 => zRn (zcl d) 0 (26, 154) Q 39 [some (zr 18), some (zi 2)] (zva v [zr 23, zi 2, zr 19]) h1))) :
    zRn (zcl d) 0 (26, 154) Q 39 [some (zr 18), some (zi 1)] [zr 22, zi 1, zr 19] ((23, 139, L), I, R) :=
  zgo [39] 12 (And.intro rfl (And.intro (by decide) ((And.intro (fun n => absurd n (by decide)) (fun _ => (And.intro rfl (Exists.intro (some 19) (And.intro t.1 ((And.intro rfl (And.intro (Nat.le_of_ble_eq_true rfl) (And.intro (Nat.le_of_ble_eq_true rfl) (And.intro (Nat.le_of_ble_eq_true rfl) ((And.intro (by decide) (And.intro (Nat.le_of_ble_eq_true rfl) (Exists.intro 0 (Exists.intro 0 (And.intro (Or.inl rfl) (And.intro (Or.inl rfl) (t.2)))))))))))))))))))))
theorem b_x0_18_39_24 {d : Nat} {Q : zQ} {L : Nat} {I : zI} {R : Nat → Nat → Option Nat}
    (t : ((z2 R 19 2 (some 23)) 18 0 = some 19) ∧ (zcl d 26 0 0 [zr 24] ((25, 149, L), (z1 I 24 0), (z1 (z2 R 19 2 (some 23)) 24 none)) (fun v h1 => zRn (zcl d) 0 (26, 154) Q 39 [some (zr 18), some (zi 3)] (zva v [zr 24, zi 3, zr 19]) h1))) :
    zRn (zcl d) 0 (26, 154) Q 39 [some (zr 18), some (zi 2)] [zr 23, zi 2, zr 19] ((24, 144, L), I, R) :=
  zgo [39] 12 (And.intro rfl (And.intro (by decide) ((And.intro (fun n => absurd n (by decide)) (fun _ => (And.intro rfl (Exists.intro (some 19) (And.intro t.1 ((And.intro rfl (And.intro (Nat.le_of_ble_eq_true rfl) (And.intro (Nat.le_of_ble_eq_true rfl) (And.intro (Nat.le_of_ble_eq_true rfl) ((And.intro (by decide) (And.intro (Nat.le_of_ble_eq_true rfl) (Exists.intro 0 (Exists.intro 0 (And.intro (Or.inl rfl) (And.intro (Or.inl rfl) (t.2)))))))))))))))))))))
theorem b_x0_18_39_25 {d : Nat} {Q : zQ} {L : Nat} {I : zI} {R : Nat → Nat → Option Nat}
    (t : ((z2 R 19 3 (some 24)) 18 0 = some 19) ∧ (zcl d 26 0 0 [zr 25] ((26, 154, L), (z1 I 25 0), (z1 (z2 R 19 3 (some 24)) 25 none)) (fun v h1 => zRn (zcl d) 0 (26, 154) Q 39 [some (zr 18), some (zi 4)] (zva v [zr 25, zi 4, zr 19]) h1))) :
    zRn (zcl d) 0 (26, 154) Q 39 [some (zr 18), some (zi 3)] [zr 24, zi 3, zr 19] ((25, 149, L), I, R) :=
  zgo [39] 12 (And.intro rfl (And.intro (by decide) ((And.intro (fun n => absurd n (by decide)) (fun _ => (And.intro rfl (Exists.intro (some 19) (And.intro t.1 ((And.intro rfl (And.intro (Nat.le_of_ble_eq_true rfl) (And.intro (Nat.le_of_ble_eq_true rfl) (And.intro (Nat.le_of_ble_eq_true rfl) ((And.intro (by decide) (And.intro (Nat.le_of_ble_eq_true rfl) (Exists.intro 0 (Exists.intro 0 (And.intro (Or.inl rfl) (And.intro (Or.inl rfl) (t.2)))))))))))))))))))))
theorem b_x0_18_39_26 {d : Nat} {Q : zQ} {L : Nat} {I : zI} {R : Nat → Nat → Option Nat}
    (t : Q none ((26, 154, L), I, (z2 R 19 4 (some 25)))) :
    zRn (zcl d) 0 (26, 154) Q 39 [some (zr 18), some (zi 4)] [zr 25, zi 4, zr 19] ((26, 154, L), I, R) :=
  zgo [39] 7 (And.intro rfl (And.intro (by decide) ((And.intro (fun _ => t) (fun n => absurd (by decide) n)))))
theorem k_x0_18 {d : Nat} {Q : zQ} {L : Nat} {I : zI} {R : Nat → Nat → Option Nat} (H : Q none ((26, 154, L), (z1 (z1 (z1 (z1 (z1 (z1 (z1 I 19 0) 20 0) 21 0) 22 0) 23 0) 24 0) 25 0), (z2 (z1 (z2 (z1 (z2 (z1 (z2 (z1 (z2 (z1 (z2 (z1 (z2 (z1 R 19 none) 18 0 (some 19)) 20 none) 18 1 (some 20)) 21 none) 19 0 (some 21)) 22 none) 19 1 (some 22)) 23 none) 19 2 (some 23)) 24 none) 19 3 (some 24)) 25 none) 19 4 (some 25)))) : zcl (d + 3) 0 7 38 [zr 18] ((19, 116, L), I, R) Q :=
  zenN rfl rfl (fun Q1 hQ => b_x0_18_0 ⟨rfl, b_26 rfl (b_x0_18_39 ⟨rfl, b_26 rfl (b_x0_18_39_23 ⟨rfl, b_26 rfl (b_x0_18_39_24 ⟨rfl, b_26 rfl (b_x0_18_39_25 ⟨rfl, b_26 rfl (b_x0_18_39_26 (hQ _ _ rfl H))⟩)⟩)⟩)⟩)⟩)
theorem b_x11_32 {d : Nat} {Q : zQ} {L : Nat} {I : zI} {R : Nat → Nat → Option Nat}
    (t : zcl d 0 7 38 [zr 18] ((19, 116, L), (z1 I 18 0), (z1 (z2 R 0 2 (some 10)) 18 none)) (fun v h1 => zRn (zcl d) 76 (67, 2206) Q 43 [some (zr 0), none] (zva v [zr 18, zr 0]) h1)) :
    zRn (zcl d) 76 (67, 2206) Q 32 [some (zr 0), none] [zr 10, zr 0] ((18, 109, L), I, R) :=
  zgo [21, 32, 43, 92, 105, 118, 131, 144, 157, 177, 204, 225, 252, 272] 5 (And.intro rfl ((And.intro rfl (And.intro (Nat.le_of_ble_eq_true rfl) (And.intro (Nat.le_of_ble_eq_true rfl) (And.intro (Nat.le_of_ble_eq_true rfl) ((And.intro (by decide) (And.intro (Nat.le_of_ble_eq_true rfl) (Exists.intro 7 (Exists.intro 38 (And.intro (Or.inr (Nat.le_of_ble_eq_true rfl)) (And.intro (Or.inr (Nat.le_of_ble_eq_true rfl)) (t))))))))))))))
theorem b_x11_43 {d : Nat} {Q : zQ} {L : Nat} {I : zI} {R : Nat → Nat → Option Nat}
    (t : ((z2 (z1 (z2 (z1 (z2 (z1 (z2 (z1 (z2 R 0 3 (some 18)) 26 none) 0 5 (some 26)) 27 none) 0 8 (some 27)) 28 none) 0 9 (some 28)) 29 none) 0 10 (some 29)) 0 0 = some 1) ∧ (zcl d 64 0 0 [zr 30] ((31, 385, L), (z1 (z1 (z1 (z1 (z1 I 26 0) 27 0) 28 0) 29 0) 30 0), (z1 (z2 (z1 (z2 (z1 (z2 (z1 (z2 (z1 (z2 R 0 3 (some 18)) 26 none) 0 5 (some 26)) 27 none) 0 8 (some 27)) 28 none) 0 9 (some 28)) 29 none) 0 10 (some 29)) 30 none)) (fun v h1 => zRn (zcl d) 76 (67, 2206) Q 92 [some (zr 0), none] (zva v [zr 30, zi 0, zr 1]) h1))) :
    zRn (zcl d) 76 (67, 2206) Q 43 [some (zr 0), none] [zr 18, zr 0] ((26, 154, L), I, R) :=
  zgo [21, 32, 43, 92, 105, 118, 131, 144, 157, 177, 204, 225, 252, 272] 23 (And.intro rfl ((And.intro (by decide) ((And.intro rfl (And.intro (Nat.le_of_ble_eq_true rfl) (And.intro (Nat.le_of_ble_eq_true rfl) (And.intro (Nat.le_of_ble_eq_true rfl) ((And.intro rfl ((And.intro (by decide) ((And.intro rfl (And.intro (Nat.le_of_ble_eq_true rfl) (And.intro (Nat.le_of_ble_eq_true rfl) (And.intro (Nat.le_of_ble_eq_true rfl) ((And.intro rfl ((And.intro (by decide) ((And.intro rfl (And.intro (Nat.le_of_ble_eq_true rfl) (And.intro (Nat.le_of_ble_eq_true rfl) (And.intro (Nat.le_of_ble_eq_true rfl) ((And.intro rfl ((And.intro (by decide) ((And.intro rfl (And.intro (Nat.le_of_ble_eq_true rfl) (And.intro (Nat.le_of_ble_eq_true rfl) (And.intro (Nat.le_of_ble_eq_true rfl) ((And.intro rfl ((And.intro rfl (Exists.intro (some 1) (And.intro t.1 ((And.intro rfl (And.intro (Nat.le_of_ble_eq_true rfl) (And.intro (Nat.le_of_ble_eq_true rfl) (And.intro (Nat.le_of_ble_eq_true rfl) ((And.intro (by decide) (And.intro (Nat.le_of_ble_eq_true rfl) (Exists.intro 0 (Exists.intro 0 (And.intro (Or.inl rfl) (And.intro (Or.inl rfl) (t.2))))))))))))))))))))))))))))))))))))))))))))))))))))))
theorem b_x11_92 {d : Nat} {Q : zQ} {L : Nat} {I : zI} {R : Nat → Nat → Option Nat}
    (t : ((z2 R 1 0 (some 30)) 0 0 = some 1) ∧ (zcl d 10 0 0 [zr 31] ((32, 385, L), (z1 I 31 0), (z1 (z2 R 1 0 (some 30)) 31 none)) (fun v h1 => zRn (zcl d) 76 (67, 2206) Q 105 [some (zr 0), none] (zva v [zr 31, zi 1, zr 1]) h1))) :
    zRn (zcl d) 76 (67, 2206) Q 92 [some (zr 0), none] [zr 30, zi 0, zr 1] ((31, 385, L), I, R) :=
  zgo [21, 32, 43, 92, 105, 118, 131, 144, 157, 177, 204, 225, 252, 272] 7 (And.intro rfl (And.intro (by decide) ((And.intro rfl (Exists.intro (some 1) (And.intro t.1 ((And.intro rfl (And.intro (Nat.le_of_ble_eq_true rfl) (And.intro (Nat.le_of_ble_eq_true rfl) (And.intro (Nat.le_of_ble_eq_true rfl) ((And.intro (by decide) (And.intro (Nat.le_of_ble_eq_true rfl) (Exists.intro 0 (Exists.intro 0 (And.intro (Or.inl rfl) (And.intro (Or.inl rfl) (t.2)))))))))))))))))))
theorem b_x11_105 {d : Nat} {Q : zQ} {L : Nat} {I : zI} {R : Nat → Nat → Option Nat}
    (t : ((z2 R 1 1 (some 31)) 0 0 = some 1) ∧ (zcl d 4 0 0 [zr 32] ((33, 385, L), (z1 I 32 0), (z1 (z2 R 1 1 (some 31)) 32 none)) (fun v h1 => zRn (zcl d) 76 (67, 2206) Q 118 [some (zr 0), none] (zva v [zr 32, zi 2, zr 1]) h1))) :
    zRn (zcl d) 76 (67, 2206) Q 105 [some (zr 0), none] [zr 31, zi 1, zr 1] ((32, 385, L), I, R) :=
  zgo [21, 32, 43, 92, 105, 118, 131, 144, 157, 177, 204, 225, 252, 272] 7 (And.intro rfl (And.intro (by decide) ((And.intro rfl (Exists.intro (some 1) (And.intro t.1 ((And.intro rfl (And.intro (Nat.le_of_ble_eq_true rfl) (And.intro (Nat.le_of_ble_eq_true rfl) (And.intro (Nat.le_of_ble_eq_true rfl) ((And.intro (by decide) (And.intro (Nat.le_of_ble_eq_true rfl) (Exists.intro 0 (Exists.intro 0 (And.intro (Or.inl rfl) (And.intro (Or.inl rfl) (t.2)))))))))))))))))))
theorem b_x11_118 {d : Nat} {Q : zQ} {L : Nat} {I : zI} {R : Nat → Nat → Option Nat}
    (t : ((z2 R 1 2 (some 32)) 0 0 = some 1) ∧ (zcl d 16 0 0 [zr 33] ((34, 385, L), (z1 I 33 0), (z1 (z2 R 1 2 (some 32)) 33 none)) (fun v h1 => zRn (zcl d) 76 (67, 2206) Q 131 [some (zr 0), none] (zva v [zr 33, zi 3, zr 1]) h1))) :
    zRn (zcl d) 76 (67, 2206) Q 118 [some (zr 0), none] [zr 32, zi 2, zr 1] ((33, 385, L), I, R) :=
  zgo [21, 32, 43, 92, 105, 118, 131, 144, 157, 177, 204, 225, 252, 272] 7 (And.intro rfl (And.intro (by decide) ((And.intro rfl (Exists.intro (some 1) (And.intro t.1 ((And.intro rfl (And.intro (Nat.le_of_ble_eq_true rfl) (And.intro (Nat.le_of_ble_eq_true rfl) (And.intro (Nat.le_of_ble_eq_true rfl) ((And.intro (by decide) (And.intro (Nat.le_of_ble_eq_true rfl) (Exists.intro 0 (Exists.intro 0 (And.intro (Or.inl rfl) (And.intro (Or.inl rfl) (t.2)))))))))))))))))))
theorem b_x11_131 {d : Nat} {Q : zQ} {L : Nat} {I : zI} {R : Nat → Nat → Option Nat}
    (t : ((z2 R 1 3 (some 33)) 0 0 = some 1) ∧ (zcl d 21 0 0 [zr 34] ((35, 385, L), (z1 I 34 0), (z1 (z2 R 1 3 (some 33)) 34 none)) (fun v h1 => zRn (zcl d) 76 (67, 2206) Q 144 [some (zr 0), none] (zva v [zr 34, zi 4, zr 1]) h1))) :
    zRn (zcl d) 76 (67, 2206) Q 131 [some (zr 0), none] [zr 33, zi 3, zr 1] ((34, 385, L), I, R) :=
  zgo [21, 32, 43, 92, 105, 118, 131, 144, 157, 177, 204, 225, 252, 272] 7 (And.intro rfl (And.intro (by decide) ((And.intro rfl (Exists.intro (some 1) (And.intro t.1 ((And.intro rfl (And.intro (Nat.le_of_ble_eq_true rfl) (And.intro (Nat.le_of_ble_eq_true rfl) (And.intro (Nat.le_of_ble_eq_true rfl) ((And.intro (by decide) (And.intro (Nat.le_of_ble_eq_true rfl) (Exists.intro 0 (Exists.intro 0 (And.intro (Or.inl rfl) (And.intro (Or.inl rfl) (t.2)))))))))))))))))))
theorem b_x11_144 {d : Nat} {Q : zQ} {L : Nat} {I : zI} {R : Nat → Nat → Option Nat}
    (t : ((z2 R 1 4 (some 34)) 0 0 = some 1) ∧ (zcl d 30 0 0 [zr 35] ((36, 385, L), (z1 I 35 0), (z1 (z2 R 1 4 (some 34)) 35 none)) (fun v h1 => zRn (zcl d) 76 (67, 2206) Q 157 [some (zr 0), none] (zva v [zr 35, zi 5, zr 1]) h1))) :
    zRn (zcl d) 76 (67, 2206) Q 144 [some (zr 0), none] [zr 34, zi 4, zr 1] ((35, 385, L), I, R) :=
  zgo [21, 32, 43, 92, 105, 118, 131, 144, 157, 177, 204, 225, 252, 272] 7 (And.intro rfl (And.intro (by decide) ((And.intro rfl (Exists.intro (some 1) (And.intro t.1 ((And.intro rfl (And.intro (Nat.le_of_ble_eq_true rfl) (And.intro (Nat.le_of_ble_eq_true rfl) (And.intro (Nat.le_of_ble_eq_true rfl) ((And.intro (by decide) (And.intro (Nat.le_of_ble_eq_true rfl) (Exists.intro 0 (Exists.intro 0 (And.intro (Or.inl rfl) (And.intro (Or.inl rfl) (t.2)))))))))))))))))))
theorem b_x8_36_0 {d : Nat} {Q : zQ} {L : Nat} {I : zI} {R : Nat → Nat → Option Nat}
    (t : Q none ((38, 428, L), (z2 (z1 I 37 0) 36 1 (-1)), (z2 (z1 R 37 none) 36 0 (some 37)))) :
    zRn (zcl d) 59 (38, 428) Q 0 [some (zr 36)] [] ((37, 388, L), I, R) :=
  zgo [] 10 (And.intro (Nat.le_of_ble_eq_true rfl) ((And.intro (by decide) ((And.intro rfl (And.intro (Nat.le_of_ble_eq_true rfl) (And.intro (Nat.le_of_ble_eq_true rfl) (And.intro (Nat.le_of_ble_eq_true rfl) ((And.intro rfl ((And.intro rfl (t)))))))))))))
theorem k_x8_36 {d : Nat} {Q : zQ} {L : Nat} {I : zI} {R : Nat → Nat → Option Nat} (H : Q none ((38, 428, L), (z2 (z1 I 37 0) 36 1 (-1)), (z2 (z1 R 37 none) 36 0 (some 37)))) : zcl (d + 3) 59 1 40 [zr 36] ((37, 388, L), I, R) Q :=
  zenN rfl rfl (fun Q1 hQ => b_x8_36_0 (hQ _ _ rfl H))
theorem b_x11_157 {d : Nat} {Q : zQ} {L : Nat} {I : zI} {R : Nat → Nat → Option Nat}
    (t : ((z2 R 1 5 (some 35)) 0 9 = some 28) ∧ (zcl d 59 1 40 [zr 36] ((37, 388, L), (z1 I 36 0), (z1 (z2 R 1 5 (some 35)) 36 none)) (fun v h1 => zRn (zcl d) 76 (67, 2206) Q 177 [some (zr 0), some (zi 0)] (zva v [zr 36, zi 0, zr 28]) h1))) :
    zRn (zcl d) 76 (67, 2206) Q 157 [some (zr 0), none] [zr 35, zi 5, zr 1] ((36, 385, L), I, R) :=
  zgo [21, 32, 43, 92, 105, 118, 131, 144, 157, 177, 204, 225, 252, 272] 12 (And.intro rfl (And.intro (by decide) ((And.intro (fun n => absurd n (by decide)) (fun _ => (And.intro rfl (Exists.intro (some 28) (And.intro t.1 ((And.intro rfl (And.intro (Nat.le_of_ble_eq_true rfl) (And.intro (Nat.le_of_ble_eq_true rfl) (And.intro (Nat.le_of_ble_eq_true rfl) ((And.intro (by decide) (And.intro (Nat.le_of_ble_eq_true rfl) (Exists.intro 1 (Exists.intro 40 (And.intro (Or.inr (Nat.le_of_ble_eq_true rfl)) (And.intro (Or.inr (Nat.le_of_ble_eq_true rfl)) (t.2)))))))))))))))))))))
theorem b_x8_38_0 {d : Nat} {Q : zQ} {L : Nat} {I : zI} {R : Nat → Nat → Option Nat}
    (t : Q none ((40, 471, L), (z2 (z1 I 39 0) 38 1 (-1)), (z2 (z1 R 39 none) 38 0 (some 39)))) :
    zRn (zcl d) 59 (40, 471) Q 0 [some (zr 38)] [] ((39, 431, L), I, R) :=
  zgo [] 10 (And.intro (Nat.le_of_ble_eq_true rfl) ((And.intro (by decide) ((And.intro rfl (And.intro (Nat.le_of_ble_eq_true rfl) (And.intro (Nat.le_of_ble_eq_true rfl) (And.intro (Nat.le_of_ble_eq_true rfl) ((And.intro rfl ((And.intro rfl (t)))))))))))))
theorem k_x8_38 {d : Nat} {Q : zQ} {L : Nat} {I : zI} {R : Nat → Nat → Option Nat} (H : Q none ((40, 471, L), (z2 (z1 I 39 0) 38 1 (-1)), (z2 (z1 R 39 none) 38 0 (some 39)))) : zcl (d + 3) 59 1 40 [zr 38] ((39, 431, L), I, R) Q :=
  zenN rfl rfl (fun Q1 hQ => b_x8_38_0 (hQ _ _ rfl H))
theorem b_x11_177 {d : Nat} {Q : zQ} {L : Nat} {I : zI} {R : Nat → Nat → Option Nat}
    (t : ((z2 R 28 0 (some 36)) 0 9 = some 28) ∧ (zcl d 59 1 40 [zr 38] ((39, 431, L), (z1 I 38 0), (z1 (z2 R 28 0 (some 36)) 38 none)) (fun v h1 => zRn (zcl d) 76 (67, 2206) Q 177 [some (zr 0), some (zi 1)] (zva v [zr 38, zi 1, zr 28]) h1))) :
    zRn (zcl d) 76 (67, 2206) Q 177 [some (zr 0), some (zi 0)] [zr 36, zi 0, zr 28] ((38, 428, L), I, R) :=
  zgo [21, 32, 43, 92, 105, 118, 131, 144, 157, 177, 204, 225, 252, 272] 12 (And.intro rfl (And.intro (by decide) ((And.intro (fun n => absurd n (by decide)) (fun _ => (And.intro rfl (Exists.intro (some 28) (And.intro t.1 ((And.intro rfl (And.intro (Nat.le_of_ble_eq_true rfl) (And.intro (Nat.le_of_ble_eq_true rfl) (And.intro (Nat.le_of_ble_eq_true rfl) ((And.intro (by decide) (And.intro (Nat.le_of_ble_eq_true rfl) (Exists.intro 1 (Exists.intro 40 (And.intro (Or.inr (Nat.le_of_ble_eq_true rfl)) (And.intro (Or.inr (Nat.le_of_ble_eq_true rfl)) (t.2)))))))))))))))))))))
theorem b_x8_40_0 {d : Nat} {Q : zQ} {L : Nat} {I : zI} {R : Nat → Nat → Option Nat}
    (t : Q none ((42, 514, L), (z2 (z1 I 41 0) 40 1 (-1)), (z2 (z1 R 41 none) 40 0 (some 41)))) :
    zRn (zcl d) 59 (42, 514) Q 0 [some (zr 40)] [] ((41, 474, L), I, R) :=
  zgo [] 10 (And.intro (Nat.le_of_ble_eq_true rfl) ((And.intro (by decide) ((And.intro rfl (And.intro (Nat.le_of_ble_eq_true rfl) (And.intro (Nat.le_of_ble_eq_true rfl) (And.intro (Nat.le_of_ble_eq_true rfl) ((And.intro rfl ((And.intro rfl (t)))))))))))))
theorem k_x8_40 {d : Nat} {Q : zQ} {L : Nat} {I : zI} {R : Nat → Nat → Option Nat} (H : Q none ((42, 514, L), (z2 (z1 I 41 0) 40 1 (-1)), (z2 (z1 R 41 none) 40 0 (some 41)))) : zcl (d + 3) 59 1 40 [zr 40] ((41, 474, L), I, R) Q :=
  zenN rfl rfl (fun Q1 hQ => b_x8_40_0 (hQ _ _ rfl H))
theorem b_x11_177_40 {d : Nat} {Q : zQ} {L : Nat} {I : zI} {R : Nat → Nat → Option Nat}
    (t : ((z2 R 28 1 (some 38)) 0 9 = some 28) ∧ (zcl d 59 1 40 [zr 40] ((41, 474, L), (z1 I 40 0), (z1 (z2 R 28 1 (some 38)) 40 none)) (fun v h1 => zRn (zcl d) 76 (67, 2206) Q 177 [some (zr 0), some (zi 2)] (zva v [zr 40, zi 2, zr 28]) h1))) :
    zRn (zcl d) 76 (67, 2206) Q 177 [some (zr 0), some (zi 1)] [zr 38, zi 1, zr 28] ((40, 471, L), I, R) :=
  zgo [21, 32, 43, 92, 105, 118, 131, 144, 157, 177, 204, 225, 252, 272] 12 (And.intro rfl (And.intro (by decide) ((And.intro (fun n => absurd n (by decide)) (fun _ => (And.intro rfl (Exists.intro (some 28) (And.intro t.1 ((And.intro rfl (And.intro (Nat.le_of_ble_eq_true rfl) (And.intro (Nat.le_of_ble_eq_true rfl) (And.intro (Nat.le_of_ble_eq_true rfl) ((And.intro (by decide) (And.intro (Nat.le_of_ble_eq_true rfl) (Exists.intro 1 (Exists.intro 40 (And.intro (Or.inr (Nat.le_of_ble_eq_true rfl)) (And.intro (Or.inr (Nat.le_of_ble_eq_true rfl)) (t.2)))))))))))))))))))))
theorem b_x8_42_0 {d : Nat} {Q : zQ} {L : Nat} {I : zI} {R : Nat → Nat → Option Nat}
    (t : Q none ((44, 557, L), (z2 (z1 I 43 0) 42 1 (-1)), (z2 (z1 R 43 none) 42 0 (some 43)))) :
    zRn (zcl d) 59 (44, 557) Q 0 [some (zr 42)] [] ((43, 517, L), I, R) :=
  zgo [] 10 (And.intro (Nat.le_of_ble_eq_true rfl) ((And.intro (by decide) ((And.intro rfl (And.intro (Nat.le_of_ble_eq_true rfl) (And.intro (Nat.le_of_ble_eq_true rfl) (And.intro (Nat.le_of_ble_eq_true rfl) ((And.intro rfl ((And.intro rfl (t)))))))))))))
theorem k_x8_42 {d : Nat} {Q : zQ} {L : Nat} {I : zI} {R : Nat → Nat → Option Nat} (H : Q none ((44, 557, L), (z2 (z1 I 43 0) 42 1 (-1)), (z2 (z1 R 43 none) 42 0 (some 43)))) : zcl (d + 3) 59 1 40 [zr 42] ((43, 517, L), I, R) Q :=
  zenN rfl rfl (fun Q1 hQ => b_x8_42_0 (hQ _ _ rfl H))
theorem b_x11_177_42 {d : Nat} {Q : zQ} {L : Nat} {I : zI} {R : Nat → Nat → Option Nat}
    (t : ((z2 R 28 2 (some 40)) 0 9 = some 28) ∧ (zcl d 59 1 40 [zr 42] ((43, 517, L), (z1 I 42 0), (z1 (z2 R 28 2 (some 40)) 42 none)) (fun v h1 => zRn (zcl d) 76 (67, 2206) Q 177 [some (zr 0), some (zi 3)] (zva v [zr 42, zi 3, zr 28]) h1))) :
    zRn (zcl d) 76 (67, 2206) Q 177 [some (zr 0), some (zi 2)] [zr 40, zi 2, zr 28] ((42, 514, L), I, R) :=
  zgo [21, 32, 43, 92, 105, 118, 131, 144, 157, 177, 204, 225, 252, 272] 12 (And.intro rfl (And.intro (by decide) ((And.intro (fun n => absurd n (by decide)) (fun _ => (And.intro rfl (Exists.intro (some 28) (And.intro t.1 ((And.intro rfl (And.intro (Nat.le_of_ble_eq_true rfl) (And.intro (Nat.le_of_ble_eq_true rfl) (And.intro (Nat.le_of_ble_eq_true rfl) ((And.intro (by decide) (And.intro (Nat.le_of_ble_eq_true rfl) (Exists.intro 1 (Exists.intro 40 (And.intro (Or.inr (Nat.le_of_ble_eq_true rfl)) (And.intro (Or.inr (Nat.le_of_ble_eq_true rfl)) (t.2)))))))))))))))))))))
theorem b_x10_44_0 {d : Nat} {Q : zQ} {L : Nat} {I : zI} {R : Nat → Nat → Option Nat}
    (t : Q none ((47, 723, L), (z1 (z1 I 45 0) 46 0), (z2 (z1 (z2 (z1 R 45 none) 44 0 (some 45)) 46 none) 44 1 (some 46)))) :
    zRn (zcl d) 70 (47, 723) Q 0 [some (zr 44)] [] ((45, 560, L), I, R) :=
  zgo [] 11 (And.intro (Nat.le_of_ble_eq_true rfl) ((And.intro (by decide) ((And.intro rfl (And.intro (Nat.le_of_ble_eq_true rfl) (And.intro (Nat.le_of_ble_eq_true rfl) (And.intro (Nat.le_of_ble_eq_true rfl) ((And.intro rfl ((And.intro (by decide) ((And.intro rfl (And.intro (Nat.le_of_ble_eq_true rfl) (And.intro (Nat.le_of_ble_eq_true rfl) (And.intro (Nat.le_of_ble_eq_true rfl) ((And.intro rfl (t))))))))))))))))))))
theorem k_x10_44 {d : Nat} {Q : zQ} {L : Nat} {I : zI} {R : Nat → Nat → Option Nat} (H : Q none ((47, 723, L), (z1 (z1 I 45 0) 46 0), (z2 (z1 (z2 (z1 R 45 none) 44 0 (some 45)) 46 none) 44 1 (some 46)))) : zcl (d + 3) 70 2 163 [zr 44] ((45, 560, L), I, R) Q :=
  zenN rfl rfl (fun Q1 hQ => b_x10_44_0 (hQ _ _ rfl H))
theorem b_x11_177_44 {d : Nat} {Q : zQ} {L : Nat} {I : zI} {R : Nat → Nat → Option Nat}
    (t : ((z2 R 28 3 (some 42)) 0 5 = some 26) ∧ (zcl d 70 2 163 [zr 44] ((45, 560, L), (z1 I 44 0), (z1 (z2 R 28 3 (some 42)) 44 none)) (fun v h1 => zRn (zcl d) 76 (67, 2206) Q 204 [some (zr 0), some (zi 0)] (zva v [zr 44, zi 0, zr 26]) h1))) :
    zRn (zcl d) 76 (67, 2206) Q 177 [some (zr 0), some (zi 3)] [zr 42, zi 3, zr 28] ((44, 557, L), I, R) :=
  zgo [21, 32, 43, 92, 105, 118, 131, 144, 157, 177, 204, 225, 252, 272] 17 (And.intro rfl (And.intro (by decide) ((And.intro (fun _ => (And.intro (fun n => absurd n (by decide)) (fun _ => (And.intro rfl (Exists.intro (some 26) (And.intro t.1 ((And.intro rfl (And.intro (Nat.le_of_ble_eq_true rfl) (And.intro (Nat.le_of_ble_eq_true rfl) (And.intro (Nat.le_of_ble_eq_true rfl) ((And.intro (by decide) (And.intro (Nat.le_of_ble_eq_true rfl) (Exists.intro 2 (Exists.intro 163 (And.intro (Or.inr (Nat.le_of_ble_eq_true rfl)) (And.intro (Or.inr (Nat.le_of_ble_eq_true rfl)) (t.2))))))))))))))))))) (fun n => absurd (by decide) n)))))
theorem b_x10_47_0 {d : Nat} {Q : zQ} {L : Nat} {I : zI} {R : Nat → Nat → Option Nat}
    (t : Q none ((50, 889, L), (z1 (z1 I 48 0) 49 0), (z2 (z1 (z2 (z1 R 48 none) 47 0 (some 48)) 49 none) 47 1 (some 49)))) :
    zRn (zcl d) 70 (50, 889) Q 0 [some (zr 47)] [] ((48, 726, L), I, R) :=
  zgo [] 11 (And.intro (Nat.le_of_ble_eq_true rfl) ((And.intro (by decide) ((And.intro rfl (And.intro (Nat.le_of_ble_eq_true rfl) (And.intro (Nat.le_of_ble_eq_true rfl) (And.intro (Nat.le_of_ble_eq_true rfl) ((And.intro rfl ((And.intro (by decide) ((And.intro rfl (And.intro (Nat.le_of_ble_eq_true rfl) (And.intro (Nat.le_of_ble_eq_true rfl) (And.intro (Nat.le_of_ble_eq_true rfl) ((And.intro rfl (t))))))))))))))))))))
theorem k_x10_47 {d : Nat} {Q : zQ} {L : Nat} {I : zI} {R : Nat → Nat → Option Nat} (H : Q none ((50, 889, L), (z1 (z1 I 48 0) 49 0), (z2 (z1 (z2 (z1 R 48 none) 47 0 (some 48)) 49 none) 47 1 (some 49)))) : zcl (d + 3) 70 2 163 [zr 47] ((48, 726, L), I, R) Q :=
  zenN rfl rfl (fun Q1 hQ => b_x10_47_0 (hQ _ _ rfl H))
theorem b_x11_204 {d : Nat} {Q : zQ} {L : Nat} {I : zI} {R : Nat → Nat → Option Nat}
    (t : ((z2 R 26 0 (some 44)) 0 5 = some 26) ∧ (zcl d 70 2 163 [zr 47] ((48, 726, L), (z1 I 47 0), (z1 (z2 R 26 0 (some 44)) 47 none)) (fun v h1 => zRn (zcl d) 76 (67, 2206) Q 204 [some (zr 0), some (zi 1)] (zva v [zr 47, zi 1, zr 26]) h1))) :
    zRn (zcl d) 76 (67, 2206) Q 204 [some (zr 0), some (zi 0)] [zr 44, zi 0, zr 26] ((47, 723, L), I, R) :=
  zgo [21, 32, 43, 92, 105, 118, 131, 144, 157, 177, 204, 225, 252, 272] 12 (And.intro rfl (And.intro (by decide) ((And.intro (fun n => absurd n (by decide)) (fun _ => (And.intro rfl (Exists.intro (some 26) (And.intro t.1 ((And.intro rfl (And.intro (Nat.le_of_ble_eq_true rfl) (And.intro (Nat.le_of_ble_eq_true rfl) (And.intro (Nat.le_of_ble_eq_true rfl) ((And.intro (by decide) (And.intro (Nat.le_of_ble_eq_true rfl) (Exists.intro 2 (Exists.intro 163 (And.intro (Or.inr (Nat.le_of_ble_eq_true rfl)) (And.intro (Or.inr (Nat.le_of_ble_eq_true rfl)) (t.2)))))))))))))))))))))
theorem b_x10_50_0 {d : Nat} {Q : zQ} {L : Nat} {I : zI} {R : Nat → Nat → Option Nat}
    (t : Q none ((53, 1055, L), (z1 (z1 I 51 0) 52 0), (z2 (z1 (z2 (z1 R 51 none) 50 0 (some 51)) 52 none) 50 1 (some 52)))) :
    zRn (zcl d) 70 (53, 1055) Q 0 [some (zr 50)] [] ((51, 892, L), I, R) :=
  zgo [] 11 (And.intro (Nat.le_of_ble_eq_true rfl) ((And.intro (by decide) ((And.intro rfl (And.intro (Nat.le_of_ble_eq_true rfl) (And.intro (Nat.le_of_ble_eq_true rfl) (And.intro (Nat.le_of_ble_eq_true rfl) ((And.intro rfl ((And.intro (by decide) ((And.intro rfl (And.intro (Nat.le_of_ble_eq_true rfl) (And.intro (Nat.le_of_ble_eq_true rfl) (And.intro (Nat.le_of_ble_eq_true rfl) ((And.intro rfl (t))))))))))))))))))))
theorem k_x10_50 {d : Nat} {Q : zQ} {L : Nat} {I : zI} {R : Nat → Nat → Option Nat} (H : Q none ((53, 1055, L), (z1 (z1 I 51 0) 52 0), (z2 (z1 (z2 (z1 R 51 none) 50 0 (some 51)) 52 none) 50 1 (some 52)))) : zcl (d + 3) 70 2 163 [zr 50] ((51, 892, L), I, R) Q :=
  zenN rfl rfl (fun Q1 hQ => b_x10_50_0 (hQ _ _ rfl H))
theorem b_x11_204_50 {d : Nat} {Q : zQ} {L : Nat} {I : zI} {R : Nat → Nat → Option Nat}
    (t : ((z2 R 26 1 (some 47)) 0 5 = some 26) ∧ (zcl d 70 2 163 [zr 50] ((51, 892, L), (z1 I 50 0), (z1 (z2 R 26 1 (some 47)) 50 none)) (fun v h1 => zRn (zcl d) 76 (67, 2206) Q 204 [some (zr 0), some (zi 2)] (zva v [zr 50, zi 2, zr 26]) h1))) :
    zRn (zcl d) 76 (67, 2206) Q 204 [some (zr 0), some (zi 1)] [zr 47, zi 1, zr 26] ((50, 889, L), I, R) :=
  zgo [21, 32, 43, 92, 105, 118, 131, 144, 157, 177, 204, 225, 252, 272] 12 (And.intro rfl (And.intro (by decide) ((And.intro (fun n => absurd n (by decide)) (fun _ => (And.intro rfl (Exists.intro (some 26) (And.intro t.1 ((And.intro rfl (And.intro (Nat.le_of_ble_eq_true rfl) (And.intro (Nat.le_of_ble_eq_true rfl) (And.intro (Nat.le_of_ble_eq_true rfl) ((And.intro (by decide) (And.intro (Nat.le_of_ble_eq_true rfl) (Exists.intro 2 (Exists.intro 163 (And.intro (Or.inr (Nat.le_of_ble_eq_true rfl)) (And.intro (Or.inr (Nat.le_of_ble_eq_true rfl)) (t.2)))))))))))))))))))))
theorem b_x10_53_0 {d : Nat} {Q : zQ} {L : Nat} {I : zI} {R : Nat → Nat → Option Nat}
    (t : Q none ((56, 1221, L), (z1 (z1 I 54 0) 55 0), (z2 (z1 (z2 (z1 R 54 none) 53 0 (some 54)) 55 none) 53 1 (some 55)))) :
    zRn (zcl d) 70 (56, 1221) Q 0 [some (zr 53)] [] ((54, 1058, L), I, R) :=
  zgo [] 11 (And.intro (Nat.le_of_ble_eq_true rfl) ((And.intro (by decide) ((And.intro rfl (And.intro (Nat.le_of_ble_eq_true rfl) (And.intro (Nat.le_of_ble_eq_true rfl) (And.intro (Nat.le_of_ble_eq_true rfl) ((And.intro rfl ((And.intro (by decide) ((And.intro rfl (And.intro (Nat.le_of_ble_eq_true rfl) (And.intro (Nat.le_of_ble_eq_true rfl) (And.intro (Nat.le_of_ble_eq_true rfl) ((And.intro rfl (t))))))))))))))))))))
theorem k_x10_53 {d : Nat} {Q : zQ} {L : Nat} {I : zI} {R : Nat → Nat → Option Nat} (H : Q none ((56, 1221, L), (z1 (z1 I 54 0) 55 0), (z2 (z1 (z2 (z1 R 54 none) 53 0 (some 54)) 55 none) 53 1 (some 55)))) : zcl (d + 3) 70 2 163 [zr 53] ((54, 1058, L), I, R) Q :=
  zenN rfl rfl (fun Q1 hQ => b_x10_53_0 (hQ _ _ rfl H))
theorem b_x11_204_53 {d : Nat} {Q : zQ} {L : Nat} {I : zI} {R : Nat → Nat → Option Nat}
    (t : ((z2 R 26 2 (some 50)) 0 5 = some 26) ∧ (zcl d 70 2 163 [zr 53] ((54, 1058, L), (z1 I 53 0), (z1 (z2 R 26 2 (some 50)) 53 none)) (fun v h1 => zRn (zcl d) 76 (67, 2206) Q 204 [some (zr 0), some (zi 3)] (zva v [zr 53, zi 3, zr 26]) h1))) :
    zRn (zcl d) 76 (67, 2206) Q 204 [some (zr 0), some (zi 2)] [zr 50, zi 2, zr 26] ((53, 1055, L), I, R) :=
  zgo [21, 32, 43, 92, 105, 118, 131, 144, 157, 177, 204, 225, 252, 272] 12 (And.intro rfl (And.intro (by decide) ((And.intro (fun n => absurd n (by decide)) (fun _ => (And.intro rfl (Exists.intro (some 26) (And.intro t.1 ((And.intro rfl (And.intro (Nat.le_of_ble_eq_true rfl) (And.intro (Nat.le_of_ble_eq_true rfl) (And.intro (Nat.le_of_ble_eq_true rfl) ((And.intro (by decide) (And.intro (Nat.le_of_ble_eq_true rfl) (Exists.intro 2 (Exists.intro 163 (And.intro (Or.inr (Nat.le_of_ble_eq_true rfl)) (And.intro (Or.inr (Nat.le_of_ble_eq_true rfl)) (t.2)))))))))))))))))))))
theorem b_x10_56_0 {d : Nat} {Q : zQ} {L : Nat} {I : zI} {R : Nat → Nat → Option Nat}
    (t : Q none ((59, 1387, L), (z1 (z1 I 57 0) 58 0), (z2 (z1 (z2 (z1 R 57 none) 56 0 (some 57)) 58 none) 56 1 (some 58)))) :
    zRn (zcl d) 70 (59, 1387) Q 0 [some (zr 56)] [] ((57, 1224, L), I, R) :=
  zgo [] 11 (And.intro (Nat.le_of_ble_eq_true rfl) ((And.intro (by decide) ((And.intro rfl (And.intro (Nat.le_of_ble_eq_true rfl) (And.intro (Nat.le_of_ble_eq_true rfl) (And.intro (Nat.le_of_ble_eq_true rfl) ((And.intro rfl ((And.intro (by decide) ((And.intro rfl (And.intro (Nat.le_of_ble_eq_true rfl) (And.intro (Nat.le_of_ble_eq_true rfl) (And.intro (Nat.le_of_ble_eq_true rfl) ((And.intro rfl (t))))))))))))))))))))
theorem k_x10_56 {d : Nat} {Q : zQ} {L : Nat} {I : zI} {R : Nat → Nat → Option Nat} (H : Q none ((59, 1387, L), (z1 (z1 I 57 0) 58 0), (z2 (z1 (z2 (z1 R 57 none) 56 0 (some 57)) 58 none) 56 1 (some 58)))) : zcl (d + 3) 70 2 163 [zr 56] ((57, 1224, L), I, R) Q :=
  zenN rfl rfl (fun Q1 hQ => b_x10_56_0 (hQ _ _ rfl H))
theorem b_x11_204_56 {d : Nat} {Q : zQ} {L : Nat} {I : zI} {R : Nat → Nat → Option Nat}
    (t : ((z2 R 26 3 (some 53)) 0 5 = some 26) ∧ (zcl d 70 2 163 [zr 56] ((57, 1224, L), (z1 I 56 0), (z1 (z2 R 26 3 (some 53)) 56 none)) (fun v h1 => zRn (zcl d) 76 (67, 2206) Q 204 [some (zr 0), some (zi 4)] (zva v [zr 56, zi 4, zr 26]) h1))) :
    zRn (zcl d) 76 (67, 2206) Q 204 [some (zr 0), some (zi 3)] [zr 53, zi 3, zr 26] ((56, 1221, L), I, R) :=
  zgo [21, 32, 43, 92, 105, 118, 131, 144, 157, 177, 204, 225, 252, 272] 12 (And.intro rfl (And.intro (by decide) ((And.intro (fun n => absurd n (by decide)) (fun _ => (And.intro rfl (Exists.intro (some 26) (And.intro t.1 ((And.intro rfl (And.intro (Nat.le_of_ble_eq_true rfl) (And.intro (Nat.le_of_ble_eq_true rfl) (And.intro (Nat.le_of_ble_eq_true rfl) ((And.intro (by decide) (And.intro (Nat.le_of_ble_eq_true rfl) (Exists.intro 2 (Exists.intro 163 (And.intro (Or.inr (Nat.le_of_ble_eq_true rfl)) (And.intro (Or.inr (Nat.le_of_ble_eq_true rfl)) (t.2)))))))))))))))))))))
theorem b_x10_59_0 {d : Nat} {Q : zQ} {L : Nat} {I : zI} {R : Nat → Nat → Option Nat}
    (t : Q none ((62, 1553, L), (z1 (z1 I 60 0) 61 0), (z2 (z1 (z2 (z1 R 60 none) 59 0 (some 60)) 61 none) 59 1 (some 61)))) :
    zRn (zcl d) 70 (62, 1553) Q 0 [some (zr 59)] [] ((60, 1390, L), I, R) :=
  zgo [] 11 (And.intro (Nat.le_of_ble_eq_true rfl) ((And.intro (by decide) ((And.intro rfl (And.intro (Nat.le_of_ble_eq_true rfl) (And.intro (Nat.le_of_ble_eq_true rfl) (And.intro (Nat.le_of_ble_eq_true rfl) ((And.intro rfl ((And.intro (by decide) ((And.intro rfl (And.intro (Nat.le_of_ble_eq_true rfl) (And.intro (Nat.le_of_ble_eq_true rfl) (And.intro (Nat.le_of_ble_eq_true rfl) ((And.intro rfl (t))))))))))))))))))))
theorem k_x10_59 {d : Nat} {Q : zQ} {L : Nat} {I : zI} {R : Nat → Nat → Option Nat} (H : Q none ((62, 1553, L), (z1 (z1 I 60 0) 61 0), (z2 (z1 (z2 (z1 R 60 none) 59 0 (some 60)) 61 none) 59 1 (some 61)))) : zcl (d + 3) 70 2 163 [zr 59] ((60, 1390, L), I, R) Q :=
  zenN rfl rfl (fun Q1 hQ => b_x10_59_0 (hQ _ _ rfl H))
theorem b_x11_204_59 {d : Nat} {Q : zQ} {L : Nat} {I : zI} {R : Nat → Nat → Option Nat}
    (t : ((z2 R 26 4 (some 56)) 0 5 = some 26) ∧ (zcl d 70 2 163 [zr 59] ((60, 1390, L), (z1 I 59 0), (z1 (z2 R 26 4 (some 56)) 59 none)) (fun v h1 => zRn (zcl d) 76 (67, 2206) Q 204 [some (zr 0), some (zi 5)] (zva v [zr 59, zi 5, zr 26]) h1))) :
    zRn (zcl d) 76 (67, 2206) Q 204 [some (zr 0), some (zi 4)] [zr 56, zi 4, zr 26] ((59, 1387, L), I, R) :=
  zgo [21, 32, 43, 92, 105, 118, 131, 144, 157, 177, 204, 225, 252, 272] 12 (And.intro rfl (And.intro (by decide) ((And.intro (fun n => absurd n (by decide)) (fun _ => (And.intro rfl (Exists.intro (some 26) (And.intro t.1 ((And.intro rfl (And.intro (Nat.le_of_ble_eq_true rfl) (And.intro (Nat.le_of_ble_eq_true rfl) (And.intro (Nat.le_of_ble_eq_true rfl) ((And.intro (by decide) (And.intro (Nat.le_of_ble_eq_true rfl) (Exists.intro 2 (Exists.intro 163 (And.intro (Or.inr (Nat.le_of_ble_eq_true rfl)) (And.intro (Or.inr (Nat.le_of_ble_eq_true rfl)) (t.2)))))))))))))))))))))
theorem b_x7_62_0 {d : Nat} {Q : zQ} {L : Nat} {I : zI} {R : Nat → Nat → Option Nat}
    (t : Q none ((67, 2206, L), (z1 (z1 (z1 (z1 I 63 0) 64 0) 65 0) 66 0), (z2 (z2 (z1 (z2 (z1 (z2 (z1 (z2 (z1 R 63 none) 62 0 (some 63)) 64 none) 62 2 (some 64)) 65 none) 62 3 (some 65)) 66 none) 62 4 (some 66)) 62 9 (some 44)))) :
    zRn (zcl d) 36 (67, 2206) Q 0 [some (zr 62), some (zr 44)] [] ((63, 1563, L), I, R) :=
  zgo [] 22 (And.intro (Nat.le_of_ble_eq_true rfl) ((And.intro (by decide) ((And.intro rfl (And.intro (Nat.le_of_ble_eq_true rfl) (And.intro (Nat.le_of_ble_eq_true rfl) (And.intro (Nat.le_of_ble_eq_true rfl) ((And.intro rfl ((And.intro (by decide) ((And.intro rfl (And.intro (Nat.le_of_ble_eq_true rfl) (And.intro (Nat.le_of_ble_eq_true rfl) (And.intro (Nat.le_of_ble_eq_true rfl) ((And.intro rfl ((And.intro (by decide) ((And.intro rfl (And.intro (Nat.le_of_ble_eq_true rfl) (And.intro (Nat.le_of_ble_eq_true rfl) (And.intro (Nat.le_of_ble_eq_true rfl) ((And.intro rfl ((And.intro (by decide) ((And.intro rfl (And.intro (Nat.le_of_ble_eq_true rfl) (And.intro (Nat.le_of_ble_eq_true rfl) (And.intro (Nat.le_of_ble_eq_true rfl) ((And.intro rfl ((And.intro rfl (t))))))))))))))))))))))))))))))))))))))))
theorem k_x7_62 {d : Nat} {Q : zQ} {L : Nat} {I : zI} {R : Nat → Nat → Option Nat} (H : Q none ((67, 2206, L), (z1 (z1 (z1 (z1 I 63 0) 64 0) 65 0) 66 0), (z2 (z2 (z1 (z2 (z1 (z2 (z1 (z2 (z1 R 63 none) 62 0 (some 63)) 64 none) 62 2 (some 64)) 65 none) 62 3 (some 65)) 66 none) 62 4 (some 66)) 62 9 (some 44)))) : zcl (d + 3) 36 4 643 [zr 62, zr 44] ((63, 1563, L), I, R) Q :=
  zenN rfl rfl (fun Q1 hQ => b_x7_62_0 (hQ _ _ rfl H))
theorem b_x11_204_62 {d : Nat} {Q : zQ} {L : Nat} {I : zI} {R : Nat → Nat → Option Nat}
    (t : ((z1 (z2 R 26 5 (some 59)) 62 none) 0 5 = some 26) ∧ (((z1 (z2 R 26 5 (some 59)) 62 none) 26 0 = some 44) ∧ (zcl d 36 4 643 [zr 62, zr 44] ((63, 1563, L), (z1 I 62 0), (z1 (z2 R 26 5 (some 59)) 62 none)) (fun v h1 => zRn (zcl d) 76 (67, 2206) Q 225 [some (zr 0), some (zi 6)] (zva v [zr 62, zr 0]) h1)))) :
    zRn (zcl d) 76 (67, 2206) Q 204 [some (zr 0), some (zi 5)] [zr 59, zi 5, zr 26] ((62, 1553, L), I, R) :=
  zgo [21, 32, 43, 92, 105, 118, 131, 144, 157, 177, 204, 225, 252, 272] 14 (And.intro rfl (And.intro (by decide) ((And.intro (fun _ => (And.intro rfl (And.intro (Nat.le_of_ble_eq_true rfl) (And.intro (Nat.le_of_ble_eq_true rfl) (And.intro (Nat.le_of_ble_eq_true rfl) ((And.intro rfl (Exists.intro (some 26) (And.intro t.1 ((And.intro (by decide) (And.intro (by decide) (Exists.intro (some 44) (And.intro t.2.1 ((And.intro (by decide) (And.intro (Nat.le_of_ble_eq_true rfl) (Exists.intro 4 (Exists.intro 643 (And.intro (Or.inr (Nat.le_of_ble_eq_true rfl)) (And.intro (Or.inr (Nat.le_of_ble_eq_true rfl)) (t.2.2)))))))))))))))))))))) (fun n => absurd (by decide) n)))))
theorem b_x11_225 {d : Nat} {Q : zQ} {L : Nat} {I : zI} {R : Nat → Nat → Option Nat}
    (t : ((z2 R 0 6 (some 62)) 0 6 = some 62) ∧ (zcl d 37 0 0 [zr 62, zi 107] ((67, 2206, L), I, (z2 R 0 6 (some 62))) (fun v h1 => zRn (zcl d) 76 (67, 2206) Q 252 [some (zr 0), some (zi 0)] (zva v []) h1))) :
    zRn (zcl d) 76 (67, 2206) Q 225 [some (zr 0), some (zi 6)] [zr 62, zr 0] ((67, 2206, L), I, R) :=
  zgo [21, 32, 43, 92, 105, 118, 131, 144, 157, 177, 204, 225, 252, 272] 13 (And.intro rfl ((And.intro (Nat.le_of_ble_eq_true rfl) (And.intro (by decide) ((And.intro (fun n => absurd n (by decide)) (fun _ => (And.intro rfl (Exists.intro (some 62) (And.intro t.1 ((And.intro (Nat.le_of_ble_eq_true rfl) (And.intro (by decide) (And.intro (by decide) ((Exists.intro 37 (And.intro rfl (And.intro (Nat.le_of_ble_eq_true rfl) (Exists.intro 0 (Exists.intro 0 (And.intro (Or.inl rfl) (And.intro (Or.inl rfl) (t.2)))))))))))))))))))))))
theorem b_law_7 {d : Nat} {Q : zQ} {L : Nat} {I : zI} {R : Nat → Nat → Option Nat}
    (t : zRn (zcl d) 205 (600000, 7302250) Q 12 [some (zr 2000), some (zr 0), none, none] [zr 67, zr 67] ((68, 2251, L), (z1 I 67 0), (z1 R 67 none))) :
    zRn (zcl d) 205 (600000, 7302250) Q 7 [some (zr 2000), none, none, none] [zr 0] ((67, 2206, L), I, R) :=
  zgo [7, 12, 15, 179, 198, 227, 251, 270, 284, 298, 307, 331, 350, 364, 373, 382, 386, 400, 409, 433, 452, 461, 465, 484, 498, 517, 531, 555, 574, 593, 607, 626, 640, 654, 663, 688, 707, 726, 740, 759, 773, 802, 826, 836, 840, 849, 853, 867, 876, 900, 919, 943, 962, 996, 1025, 1054, 1078, 1097, 1111] 3 (And.intro rfl (And.intro (Nat.le_of_ble_eq_true rfl) (And.intro (Nat.le_of_ble_eq_true rfl) (And.intro (Nat.le_of_ble_eq_true rfl) (t)))))
theorem b_x12_0 {d : Nat} {Q : zQ} {L : Nat} {I : zI} {R : Nat → Nat → Option Nat}
    (t : zcl d 133 0 0 [zr 67, zi 0, zi 107, zi 101, zi 101, zi 112, zi 115, zi 32, zi 109, zi 101] ((81, 3712, L), (z1 (z1 (z1 (z1 (z2 (z1 (z1 (z1 (z1 (z1 (z1 (z1 (z1 (z1 I 68 0) 69 0) 70 0) 71 0) 72 0) 73 0) 74 0) 75 0) 76 0) 67 36 (-1)) 77 0) 78 0) 79 0) 80 0), (z2 (z1 (z2 (z1 (z2 (z1 (z2 (z1 (z2 (z1 (z2 (z1 (z2 (z1 (z2 (z1 (z2 (z1 (z2 (z1 (z2 (z1 (z2 (z1 (z2 (z1 R 68 none) 67 1 (some 68)) 69 none) 67 2 (some 69)) 70 none) 67 5 (some 70)) 71 none) 67 8 (some 71)) 72 none) 67 10 (some 72)) 73 none) 67 29 (some 73)) 74 none) 67 30 (some 74)) 75 none) 67 34 (some 75)) 76 none) 67 35 (some 76)) 77 none) 67 41 (some 77)) 78 none) 67 42 (some 78)) 79 none) 67 43 (some 79)) 80 none) 67 44 (some 80))) (fun v h1 => zRn (zcl d) 132 (81, 3712) Q 134 [some (zr 67)] (zva v []) h1)) :
    zRn (zcl d) 132 (81, 3712) Q 0 [some (zr 67)] [] ((68, 2251, L), I, R) :=
  zgo [134, 156, 178, 200, 222] 68 (And.intro (Nat.le_of_ble_eq_true rfl) ((And.intro (by decide) ((And.intro rfl (And.intro (Nat.le_of_ble_eq_true rfl) (And.intro (Nat.le_of_ble_eq_true rfl) (And.intro (Nat.le_of_ble_eq_true rfl) ((And.intro rfl ((And.intro (by decide) ((And.intro rfl (And.intro (Nat.le_of_ble_eq_true rfl) (And.intro (Nat.le_of_ble_eq_true rfl) (And.intro (Nat.le_of_ble_eq_true rfl) ((And.intro rfl ((And.intro (by decide) ((And.intro rfl (And.intro (Nat.le_of_ble_eq_true rfl) (And.intro (Nat.le_of_ble_eq_true rfl) (And.intro (Nat.le_of_ble_eq_true rfl) ((And.intro rfl ((And.intro (by decide) ((And.intro rfl (And.intro (Nat.le_of_ble_eq_true rfl) (And.intro (Nat.le_of_ble_eq_true rfl) (And.intro (Nat.le_of_ble_eq_true rfl) ((And.intro rfl ((And.intro (by decide) ((And.intro rfl (And.intro (Nat.le_of_ble_eq_true rfl) (And.intro (Nat.le_of_ble_eq_true rfl) (And.intro (Nat.le_of_ble_eq_true rfl) ((And.intro rfl ((And.intro (by decide) ((And.intro rfl (And.intro (Nat.le_of_ble_eq_true rfl) (And.intro (Nat.le_of_ble_eq_true rfl) (And.intro (Nat.le_of_ble_eq_true rfl) ((And.intro rfl ((And.intro (by decide) ((And.intro rfl (And.intro (Nat.le_of_ble_eq_true rfl) (And.intro (Nat.le_of_ble_eq_true rfl) (And.intro (Nat.le_of_ble_eq_true rfl) ((And.intro rfl ((And.intro (by decide) ((And.intro rfl (And.intro (Nat.le_of_ble_eq_true rfl) (And.intro (Nat.le_of_ble_eq_true rfl) (And.intro (Nat.le_of_ble_eq_true rfl) ((And.intro rfl ((And.intro (by decide) ((And.intro rfl (And.intro (Nat.le_of_ble_eq_true rfl) (And.intro (Nat.le_of_ble_eq_true rfl) (And.intro (Nat.le_of_ble_eq_true rfl) ((And.intro rfl ((And.intro rfl ((And.intro (by decide) ((And.intro rfl (And.intro (Nat.le_of_ble_eq_true rfl) (And.intro (Nat.le_of_ble_eq_true rfl) (And.intro (Nat.le_of_ble_eq_true rfl) ((And.intro rfl ((And.intro (by decide) ((And.intro rfl (And.intro (Nat.le_of_ble_eq_true rfl) (And.intro (Nat.le_of_ble_eq_true rfl) (And.intro (Nat.le_of_ble_eq_true rfl) ((And.intro rfl ((And.intro (by decide) ((And.intro rfl (And.intro (Nat.le_of_ble_eq_true rfl) (And.intro (Nat.le_of_ble_eq_true rfl) (And.intro (Nat.le_of_ble_eq_true rfl) ((And.intro rfl ((And.intro (by decide) ((And.intro rfl (And.intro (Nat.le_of_ble_eq_true rfl) (And.intro (Nat.le_of_ble_eq_true rfl) (And.intro (Nat.le_of_ble_eq_true rfl) ((And.intro rfl ((Exists.intro 133 (And.intro rfl (And.intro (Nat.le_of_ble_eq_true rfl) (Exists.intro 0 (Exists.intro 0 (And.intro (Or.inl rfl) (And.intro (Or.inl rfl) (t)))))))))))))))))))))))))))))))))))))))))))))))))))))))))))))))))))))))))))))))))))))))))))))))))))))))))))))))))))))))))))))))))
theorem b_law_15 {d : Nat} {Q : zQ} {L : Nat} {I : zI} {R : Nat → Nat → Option Nat}
    (t : zRn (zcl d) 205 (600000, 7302250) Q 18 [some (zr 2000), some (zr 0), some (zr 67), some (zi 0)] [] ((81, 3712, L), I, R)) :
    zRn (zcl d) 205 (600000, 7302250) Q 15 [some (zr 2000), some (zr 0), none, none] [zr 67] ((81, 3712, L), I, R) :=
  zgo [7, 15, 18, 179, 198, 227, 251, 270, 284, 298, 307, 331, 350, 364, 373, 382, 386, 400, 409, 433, 452, 461, 465, 484, 498, 517, 531, 555, 574, 593, 607, 626, 640, 654, 663, 688, 707, 726, 740, 759, 773, 802, 826, 836, 840, 849, 853, 867, 876, 900, 919, 943, 962, 996, 1025, 1054, 1078, 1097, 1111] 3 (t)
def bIl : List (Nat × Option (Nat × Int)) := [(66, none), (65, none), (64, none), (63, none), (62, none), (61, none), (60, none), (59, none), (58, none), (57, none), (56, none), (55, none), (54, none), (53, none), (52, none), (51, none), (50, none), (49, none), (48, none), (47, none), (46, none), (45, none), (44, none), (42, some (1, (-1))), (43, none), (42, none), (40, some (1, (-1))), (41, none), (40, none), (38, some (1, (-1))), (39, none), (38, none), (36, some (1, (-1))), (37, none), (36, none), (35, none), (34, none), (33, none), (32, none), (31, none), (30, none), (29, none), (28, none), (27, none), (26, none), (25, none), (24, none), (23, none), (22, none), (21, none), (20, none), (19, none), (18, none), (17, none), (16, none), (15, none), (14, none), (13, none), (12, none), (11, none), (10, none), (9, none), (8, none), (7, none), (6, none), (5, none), (4, none), (3, none), (2, none), (1, none)]
def bRl : List (Nat × Option (Nat × Option Nat)) := [(0, some (6, (some 62))), (62, some (9, (some 44))), (62, some (4, (some 66))), (66, none), (62, some (3, (some 65))), (65, none), (62, some (2, (some 64))), (64, none), (62, some (0, (some 63))), (63, none), (62, none), (26, some (5, (some 59))), (59, some (1, (some 61))), (61, none), (59, some (0, (some 60))), (60, none), (59, none), (26, some (4, (some 56))), (56, some (1, (some 58))), (58, none), (56, some (0, (some 57))), (57, none), (56, none), (26, some (3, (some 53))), (53, some (1, (some 55))), (55, none), (53, some (0, (some 54))), (54, none), (53, none), (26, some (2, (some 50))), (50, some (1, (some 52))), (52, none), (50, some (0, (some 51))), (51, none), (50, none), (26, some (1, (some 47))), (47, some (1, (some 49))), (49, none), (47, some (0, (some 48))), (48, none), (47, none), (26, some (0, (some 44))), (44, some (1, (some 46))), (46, none), (44, some (0, (some 45))), (45, none), (44, none), (28, some (3, (some 42))), (42, some (0, (some 43))), (43, none), (42, none), (28, some (2, (some 40))), (40, some (0, (some 41))), (41, none), (40, none), (28, some (1, (some 38))), (38, some (0, (some 39))), (39, none), (38, none), (28, some (0, (some 36))), (36, some (0, (some 37))), (37, none), (36, none), (1, some (5, (some 35))), (35, none), (1, some (4, (some 34))), (34, none), (1, some (3, (some 33))), (33, none), (1, some (2, (some 32))), (32, none), (1, some (1, (some 31))), (31, none), (1, some (0, (some 30))), (30, none), (0, some (10, (some 29))), (29, none), (0, some (9, (some 28))), (28, none), (0, some (8, (some 27))), (27, none), (0, some (5, (some 26))), (26, none), (0, some (3, (some 18))), (19, some (4, (some 25))), (25, none), (19, some (3, (some 24))), (24, none), (19, some (2, (some 23))), (23, none), (19, some (1, (some 22))), (22, none), (19, some (0, (some 21))), (21, none), (18, some (1, (some 20))), (20, none), (18, some (0, (some 19))), (19, none), (18, none), (0, some (2, (some 10))), (11, some (4, (some 17))), (17, none), (11, some (3, (some 16))), (16, none), (11, some (2, (some 15))), (15, none), (11, some (1, (some 14))), (14, none), (11, some (0, (some 13))), (13, none), (10, some (1, (some 12))), (12, none), (10, some (0, (some 11))), (11, none), (10, none), (0, some (1, (some 2))), (3, some (4, (some 9))), (9, none), (3, some (3, (some 8))), (8, none), (3, some (2, (some 7))), (7, none), (3, some (1, (some 6))), (6, none), (3, some (0, (some 5))), (5, none), (2, some (1, (some 4))), (4, none), (2, some (0, (some 3))), (3, none), (2, none), (0, some (0, (some 1))), (1, none)]
theorem b_class {d : Nat} {Q : zQ} {L : Nat} {I : zI} {R : Nat → Nat → Option Nat} (H : zcl (d + 3) 37 0 0 [zr 62, zi 107] ((67, 2206, L), zhl 0 I bIl, zhl none R bRl) (fun v h1 => zRn (zcl (d + 3)) 76 (67, 2206) Q 252 [some (zr 0), some (zi 0)] (zva v []) h1)) : zRn (zcl (d + 3)) 76 (67, 2206) Q 0 [some (zr 0), none] [] ((1, 13, L), I, R) :=
  b_x11_0 (k_x0_2 (b_x11_21 (k_x0_10 (b_x11_32 (k_x0_18 (b_x11_43 ⟨rfl, b_64 rfl (b_x11_92 ⟨rfl, b_10 rfl (b_x11_105 ⟨rfl, b_4 rfl (b_x11_118 ⟨rfl, b_16 rfl (b_x11_131 ⟨rfl, b_21 rfl (b_x11_144 ⟨rfl, b_30 rfl (b_x11_157 ⟨rfl, k_x8_36 (b_x11_177 ⟨rfl, k_x8_38 (b_x11_177_40 ⟨rfl, k_x8_40 (b_x11_177_42 ⟨rfl, k_x8_42 (b_x11_177_44 ⟨rfl, k_x10_44 (b_x11_204 ⟨rfl, k_x10_47 (b_x11_204_50 ⟨rfl, k_x10_50 (b_x11_204_53 ⟨rfl, k_x10_53 (b_x11_204_56 ⟨rfl, k_x10_56 (b_x11_204_59 ⟨rfl, k_x10_59 (b_x11_204_62 ⟨rfl, rfl, k_x7_62 (b_x11_225 ⟨rfl, H⟩)⟩)⟩)⟩)⟩)⟩)⟩)⟩)⟩)⟩)⟩)⟩)⟩)⟩)⟩)⟩)⟩)⟩))))))
def bIm : List (Nat × Option (Nat × Int)) := [(80, none), (79, none), (78, none), (77, none), (67, some (36, (-1))), (76, none), (75, none), (74, none), (73, none), (72, none), (71, none), (70, none), (69, none), (68, none), (67, none)]
def bRm : List (Nat × Option (Nat × Option Nat)) := [(67, some (44, (some 80))), (80, none), (67, some (43, (some 79))), (79, none), (67, some (42, (some 78))), (78, none), (67, some (41, (some 77))), (77, none), (67, some (35, (some 76))), (76, none), (67, some (34, (some 75))), (75, none), (67, some (30, (some 74))), (74, none), (67, some (29, (some 73))), (73, none), (67, some (10, (some 72))), (72, none), (67, some (8, (some 71))), (71, none), (67, some (5, (some 70))), (70, none), (67, some (2, (some 69))), (69, none), (67, some (1, (some 68))), (68, none), (67, none)]
def bIz : List (Nat × Option (Nat × Int)) := [(67, some (3, 1)), (69, some (0, 40)), (68, some (39, 32)), (68, some (38, 32)), (68, some (37, 32)), (68, some (36, 32)), (68, some (35, 32)), (68, some (34, 59)), (68, some (33, 32)), (68, some (32, 48)), (68, some (31, 32)), (68, some (30, 115)), (68, some (29, 110)), (68, some (28, 114)), (68, some (27, 97)), (68, some (26, 101)), (68, some (25, 108)), (68, some (24, 32)), (68, some (23, 59)), (68, some (22, 32)), (68, some (21, 48)), (68, some (20, 32)), (68, some (19, 115)), (68, some (18, 101)), (68, some (17, 114)), (68, some (16, 105)), (68, some (15, 116)), (68, some (14, 32)), (68, some (13, 59)), (68, some (12, 32)), (68, some (11, 121)), (68, some (10, 114)), (68, some (9, 111)), (68, some (8, 109)), (68, some (7, 101)), (68, some (6, 109)), (68, some (5, 32)), (68, some (4, 115)), (68, some (3, 112)), (68, some (2, 101)), (68, some (1, 101)), (68, some (0, 107)), (80, none), (79, none), (78, none), (77, none), (67, some (36, (-1))), (76, none), (75, none), (74, none), (73, none), (72, none), (71, none), (70, none), (69, none), (68, none), (67, none)]
end
