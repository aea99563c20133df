section
/-! what is read of a crossing of tellers: to and fro, what is to be learnt, by a row, told back -/
theorem n_fro {F : Int → Int} {C x what : Int} (hx : mR x) (hC : mR C) (hF : ∀ y, mR y → F y = zand y C) : mfs (mit F x) what 60 1 = if zand x C = x then (if what = 0 then 1 else x) else (if what = 0 then 2 else zand x C) := by
  have t0 : mit F x 0 = x := rfl
  have t1 : mit F x 1 = zand x C := hF x hx
  have t2 : mit F x 2 = zand x C := by
    show F (mit F x 1) = _
    rw [t1, hF _ (m_andR hx), n_assoc, n_aa hC]
  have e1 : mfs (mit F x) what 60 1 = if (List.range 1).any (fun k => decide (mit F x k = mit F x 1)) = true then (if what = 0 then ((1 : Nat) : Int) else mit F x 1) else mfs (mit F x) what 59 2 := rfl
  have e2 : mfs (mit F x) what 59 2 = if (List.range 2).any (fun k => decide (mit F x k = mit F x 2)) = true then (if what = 0 then ((2 : Nat) : Int) else mit F x 2) else mfs (mit F x) what 58 3 := rfl
  have a1 : (List.range 1).any (fun k => decide (mit F x k = mit F x 1)) = decide (x = zand x C) := by
    rw [show List.range 1 = [0] from rfl, List.any_cons, List.any_nil, Bool.or_false, t0, t1]
  have a2 : (List.range 2).any (fun k => decide (mit F x k = mit F x 2)) = true := by
    rw [show List.range 2 = [0, 1] from rfl, List.any_cons, List.any_cons, t1, t2, decide_eq_true (rfl : zand x C = zand x C), Bool.true_or, Bool.or_true]
  rw [e1, a1]
  by_cases q : zand x C = x
  · rw [if_pos q, if_pos (decide_eq_true q.symm), t1, q]
    rfl
  · rw [if_neg q, if_neg (fun w => q (of_decide_eq_true w).symm), e2, if_pos a2, t2]
    rfl
theorem ncf_more {K : zI} {s : Int} (hs : mR s) : ∀ n p, ncf (mmore K s) p n = zor (ncf K p n) s
  | 0, p => (m_all (P := fun s => 1023 = zor 1023 s) (by decide +kernel) hs)
  | n + 1, p => by
    have e : mmore K s (3 + p) 2 = zor (K (3 + p) 2) s := if_pos ⟨by omega, rfl⟩
    show zand (mmore K s (3 + p) 2) (ncf (mmore K s) (p + 1) n) = zor (zand (K (3 + p) 2) (ncf K (p + 1) n)) s
    rw [e, ncf_more hs n (p + 1), n_dist]
theorem n_more {T : Nat → Nat → List Int} (hT : nTx T) {K : zI} (hr : K 0 6 = 0) {n : Nat} (h : ∀ p, p < n → nP K p ∧ 10 ≤ K (3 + p) 3) {x s : Int} (hx : mR x) (hs : mR s) : mall T (mmore K s) n 0 x = zand x (zor (ncf K 0 n) s) := by
  have e : ∀ y j, j ≠ 2 → mmore K s y j = K y j := fun y j hj => if_neg (fun q => hj q.2)
  rw [n_all hT (by rw [e 0 6 (by omega)]; exact hr) n 0 x (fun q _ q2 => ?_) hx, ncf_more hs]
  obtain ⟨⟨g1, g2, g3⟩, g4⟩ := h q (by omega)
  refine ⟨⟨by rw [e _ 0 (by omega)]; exact g1, ?_, by rw [e _ 3 (by omega)]; exact g3⟩, by rw [e _ 3 (by omega)]; exact g4⟩
  rw [show mmore K s (3 + q) 2 = zor (K (3 + q) 2) s from if_pos ⟨by omega, rfl⟩]
  exact m_orR g2 hs
/-- the fewest that are to be learnt -/
theorem n_mlb {I : zI} {C x : Int} (hx : mR x) (h : ∀ s, mR s → mLn I s x = zand x (zor C s)) : ∀ i : Nat, i ≤ 1024 → mlb I x i = if i ≤ (nD x C).toNat then (-1, 11) else (nD x C, mbc (nD x C))
  | 0, _ => by rw [if_pos (Nat.zero_le _)]; rfl
  | i + 1, hi => by
    have hD := nD_R C hx
    have hb := mbc_r (nD x C)
    have hiR : mR ((i : Nat) : Int) := by omega
    have e : mlb I x (i + 1) = if mbc (i : Int) < (mlb I x i).2 ∧ mLn I (i : Int) x = x then ((i : Int), mbc (i : Int)) else mlb I x i := rfl
    have w : mLn I (i : Int) x = x ↔ zand (nD x C) (i : Int) = nD x C := by rw [h _ hiR]; exact n_sub C _ hx
    rw [e, n_mlb hx h i (by omega)]
    by_cases q : i ≤ (nD x C).toNat
    · rw [if_pos q]
      by_cases q1 : i = (nD x C).toNat
      · have e2 : ((i : Nat) : Int) = nD x C := by omega
        rw [if_pos ⟨by rw [e2]; show mbc (nD x C) < 11; omega, w.mpr (by rw [e2]; exact n_aa hD)⟩, if_neg (by omega), e2]
      · rw [if_neg (fun z => ?_), if_pos (by omega)]
        have := (n_mbc hD hiR (w.mp z.2)).1
        omega
    · rw [if_neg q, if_neg (fun z => ?_), if_neg (by omega)]
      have := (n_mbc hD hiR (w.mp z.2)).2
      have z1 : mbc (i : Int) < mbc (nD x C) := z.1
      omega
/-- by a row that runs from the last to the first -/
theorem n_mrt {F : Nat → Int → Int} {cl : Nat → Int} {K : zI} {n : Nat} (hF : ∀ p, p < n → ∀ y, mR y → F p y = zand y (K (3 + p) 2)) (hc : ∀ i, i < n → cl i = ((n - 1 - i : Nat) : Int)) : ∀ (m i : Nat) (x : Int), i + m = n → mR x → mrt F cl m i x = zand x (ncf K 0 m)
  | 0, _, _, _, hx => (n_aR hx).symm
  | m + 1, i, x, hi, hx => by
    show mrt F cl m (i + 1) (F (cl i).toNat x) = _
    have e : (cl i).toNat = m := by rw [hc i (by omega)]; omega
    rw [e, hF m (by omega) x hx, n_mrt hF hc m (i + 1) _ (by omega) (m_andR hx), ncf_snoc, n_assoc, m_andC (ncf K 0 m), Nat.zero_add]
-- told back
theorem mfo_iff {T : Nat → Nat → List Int} {K : zI} {p : Nat} {cl : Nat → Int} : ∀ n i, mfo T K p cl n i = -1 ↔ ∀ j, i ≤ j → j < i + n → mtell T K p (zshl 1 (j : Int)) = cl j
  | 0, i => ⟨fun _ j a b => absurd b (by omega), fun _ => rfl⟩
  | n + 1, i => by
    have e : mfo T K p cl (n + 1) i = if mtell T K p (zshl 1 (i : Int)) = cl i then mfo T K p cl n (i + 1) else (i : Int) := rfl
    rw [e]
    by_cases q : mtell T K p (zshl 1 (i : Int)) = cl i
    · rw [if_pos q, mfo_iff n (i + 1)]
      exact ⟨fun h j a b => by
        by_cases w : j = i
        · rw [w]; exact q
        · exact h j (by omega) (by omega), fun h j a b => h j (by omega) (by omega)⟩
    · rw [if_neg q]
      exact ⟨fun h => absurd h (by omega), fun h => absurd (h i (by omega) (by omega)) q⟩
/-- one PART, kept as one of so many -/
theorem n_one {w : Int} (hw : mR w) (j : Nat) (hj : j < 10) (k : Nat) : mfst k (zand (zshl 1 (j : Int)) w) 0 = if k = 0 then 0 else zand (zshl 1 (j : Int)) w := by
  cases k with
  | zero => rfl
  | succ k =>
    rw [if_neg (by omega)]
    have hs : mR (zshl 1 (j : Int)) := m_shl (by omega) (by omega)
    have a : zand (zshl 1 (j : Int)) w = 0 ∨ zand (zshl 1 (j : Int)) w = zshl 1 (j : Int) := by
      have := m_all (P := fun w => (List.range 10).all (fun j => decide (zand (zshl 1 (j : Int)) w = 0 ∨ zand (zshl 1 (j : Int)) w = zshl 1 (j : Int))) = true) (by decide +kernel) hw
      exact of_decide_eq_true (List.all_eq_true.mp this j (List.mem_range.mpr hj))
    have b : zand (zshl 1 (j : Int)) (zwr (zshl 1 (j : Int) - 1)) = 0 ∧ zor 0 (zand (zshl 1 (j : Int)) (zwr (-(zshl 1 (j : Int))))) = zshl 1 (j : Int) := m_fin (P := fun j => zand (zshl 1 j) (zwr (zshl 1 j - 1)) = 0 ∧ zor 0 (zand (zshl 1 j) (zwr (-(zshl 1 j)))) = zshl 1 j) 10 (by decide +kernel) (x := (j : Int)) (by omega) (by omega)
    rcases a with a | a
    · rw [a]; exact mfst_0 _ mR0
    · rw [a]
      show mfst k (zand (zshl 1 (j : Int)) (zwr (zshl 1 (j : Int) - 1))) (zor 0 (zand (zshl 1 (j : Int)) (zwr (-(zshl 1 (j : Int)))))) = _
      rw [b.1, b.2]
      exact mfst_0 _ hs
theorem n_some {w : Int} (hw : mR w) : w = 0 ∨ ∃ j : Nat, j < 10 ∧ zand (zshl 1 (j : Int)) w ≠ 0 := by
  have := m_all (P := fun w => w = 0 ∨ (List.range 10).any (fun j => decide (zand (zshl 1 ((j : Nat) : Int)) w ≠ 0)) = true) (by decide +kernel) hw
  rcases this with h | h
  · exact Or.inl h
  · obtain ⟨j, hj, hd⟩ := List.any_eq_true.mp h
    exact Or.inr ⟨j, List.mem_range.mp hj, of_decide_eq_true hd⟩
theorem n_tellw {T : Nat → Nat → List Int} (hT : nTx T) {K : zI} (hr : K 0 6 = 0) (h : nP K 0) (j : Nat) (hj : j < 10) : mtell T K 0 (zshl 1 (j : Int)) = if K 3 3 = 0 then 0 else zand (zshl 1 (j : Int)) (K 3 2) := by
  rw [n_tells hT hr h]
  show mfst (mcl (K 3 3) 0 10).toNat (zand (zshl 1 (j : Int)) (K 3 2)) 0 = _
  have hm : 0 ≤ K 3 3 ∧ K 3 3 ≤ 99 := h.2.2
  have hw : mR (K 3 2) := h.2.1
  rw [n_one hw j hj]
  by_cases q : K 3 3 = 0
  · rw [if_pos q, if_pos (by unfold mcl; rw [q]; rfl)]
  · rw [if_neg q, if_neg]
    unfold mcl
    rw [if_neg (by omega)]
    split <;> omega
theorem n_film {T : Nat → Nat → List Int} (hT : nTx T) {K K1 : zI} (hr : K 0 6 = 0) (h : nP K 0) (hr1 : K1 0 6 = 0) (h1 : nP K1 0) (hw : K1 3 2 = K 3 2) {cl : Nat → Int} (hc : ∀ i, i < 10 → cl i = mtell T K 0 (zshl 1 (i : Int))) : mfo T K1 0 cl 10 0 = -1 ↔ (K 3 2 = 0 ∨ (K1 3 3 = 0 ↔ K 3 3 = 0)) := by
  rw [mfo_iff]
  have hwR : mR (K 3 2) := h.2.1
  constructor
  · intro q
    rcases n_some hwR with w | ⟨j, hj, w⟩
    · exact Or.inl w
    · have := q j (by omega) (by omega)
      rw [hc j hj, n_tellw hT hr1 h1 j hj, n_tellw hT hr h j hj, hw] at this
      refine Or.inr ⟨fun z => ?_, fun z => ?_⟩
      · rw [if_pos z] at this
        by_cases y : K 3 3 = 0
        · exact y
        · rw [if_neg y] at this; exact absurd this.symm w
      · rw [if_pos z] at this
        by_cases y : K1 3 3 = 0
        · exact y
        · rw [if_neg y] at this; exact absurd this w
  · intro q j _ hj
    have hj : j < 10 := by omega
    rw [hc j hj, n_tellw hT hr1 h1 j hj, n_tellw hT hr h j hj, hw]
    rcases q with q | q
    · rw [q, m_andC, m_and0]
      split <;> split <;> rfl
    · by_cases y : K 3 3 = 0
      · rw [if_pos y, if_pos (q.mpr y)]
      · rw [if_neg y, if_neg (fun z => y (q.mp z))]
theorem msb_cg {P R : Nat → Bool} : ∀ n, (∀ i, i < n → P i = R i) → msb P n = msb R n
  | 0, _ => rfl
  | n + 1, h => by
    unfold msb
    rw [h n (by omega), msb_cg n (fun i hi => h i (by omega))]
theorem msb_all {P : Nat → Bool} (h : ∀ i, i < 10 → P i = true) : msb P 10 = 1023 := by
  rw [msb_cg (R := fun _ => true) 10 h]
  decide
theorem msb_0 {P : Nat → Bool} (h : P 0 = true) : ∀ n, n < 10 → zand (msb P (n + 1)) 1 = 1
  | 0, _ => by
    show zand (if P 0 = true ∧ 0 < 31 then zor 0 (zshl 1 ((0 : Nat) : Int)) else 0) 1 = 1
    rw [if_pos ⟨h, by decide⟩]
    decide
  | n + 1, hn => by
    have ih := msb_0 h n (by omega)
    show zand (if P (n + 1) = true ∧ n + 1 < 31 then zor (msb P (n + 1)) (zshl 1 ((n + 1 : Nat) : Int)) else msb P (n + 1)) 1 = 1
    split
    · rw [n_dist2, ih]
      exact m_fin (P := fun x => x = 0 ∨ zor 1 (zand (zshl 1 x) 1) = 1) 11 (by decide +kernel) (x := ((n + 1 : Nat) : Int)) (by omega) (by omega) |>.resolve_left (by omega)
    · exact ih
end
